/-! The model's own words. -/
def c_in (a b c : Int32) : Int32 := cond (decide (a < b)) 0 (cond (decide (c < a)) 0 1)
theorem c_in_z (a b c : Int32) : pu_z (c_in a b c) := by
  unfold c_in
  repeat' first | exact pu_z0 | exact pu_z1 | apply pu_zc
theorem M_in_s (a b c : Int32) (σ : pd_H) : M_in a b c σ = some (σ, some (pd_i (c_in a b c))) := by
  rw [M_in_eq]; simp only [pu_cs, pu_csj, pu_c01]; rfl
theorem M_no_s (a : Int32) (σ : pd_H) : M_no a σ = some (σ, some (pd_j (-9223372036854775808 - a.toInt64))) := M_no_eq a σ
theorem M_refused_s (a : Int32) (σ : pd_H) : M_refused a σ = some (σ, some (pd_i (-10 - a))) := M_refused_eq a σ
/-- kinds: none, or 0 to 14; sizes: 0 to 12 -/
def c_kok (kd : Nat → Int32) : Prop := ∀ s, s < 6 → kd s = -1 ∨ ∃ k : Nat, k < 15 ∧ kd s = nI k
def c_zok (sz : Nat → Int32) : Prop := ∀ s, s < 6 → ∃ n : Nat, n ≤ 12 ∧ sz s = nI n
theorem c_zok.sz {sz : Nat → Int32} (h : c_zok sz) : c_szok sz := fun s hs => by
  obtain ⟨n, h1, h2⟩ := h s hs
  rw [h2]
  exact nI_le h1 (by decide)
theorem M_isSlot_s (a : Int32) (σ : pd_H) : M_isSlot a σ = some (σ, some (pd_i (cond (decide (a < 0)) 0 (cond (decide (6 ≤ a)) 0 1)))) := by
  rw [M_isSlot_eq, M_in_s]
  simp only [pd_bI_of, pd_bJ_of, pd_bV_of, pd_bR_of, cond_true, cond_false, pu_c01 (c_in_z _ _ _)]
  unfold c_in
  have e : decide (5 < a) = decide (6 ≤ a) := by
    rcases pk_ix a (n := 6) (by decide) with h | h | ⟨j, h, rfl⟩
    · rw [decide_eq_false (fun q => ?_), decide_eq_false (fun q => ?_)]
      · exact absurd (Int32.lt_of_lt_of_le h (by decide : (0 : Int32) ≤ 6)) (Int32.not_lt.mpr q)
      · exact absurd (Int32.lt_trans q h) (by decide)
    · have h : (6 : Int32) ≤ a := h
      rw [decide_eq_true h, decide_eq_true (Int32.lt_of_lt_of_le (by decide : (5 : Int32) < 6) h)]
    · rw [show (5 : Int32) = nI 5 from rfl, show (6 : Int32) = nI 6 from rfl]
      simp only [nI_ltI (show 5 < 2 ^ 31 by decide) (show j < 2 ^ 31 by omega), nI_leI (show 6 < 2 ^ 31 by decide) (show j < 2 ^ 31 by omega)]
      congr 1
  rw [e]
theorem M_isRow_s {a : Int32} (h : pu_sl a) (σ : pd_H) : M_isRow a σ = some (σ, some (pd_i (c_in (σ.1 231 a.toNatClampNeg) 0 12))) := by
  rw [M_isRow_eq]
  have h1 : pd_ob a (pd_len 231) = false := pu_sl_ob h
  simp only [h1, M_in_s, pd_bI_of, pd_bJ_of, pd_bV_of, pd_bR_of, cond_true, cond_false, pu_c01 (c_in_z _ _ _)]
theorem M_lacksRow_s {a : Int32} (h : pu_sl a) {σ : pd_H} (hk : c_kok (σ.1 231)) : M_lacksRow a σ = some (σ, some (pd_i (c_arrF (σ.1 231) a))) := by
  rw [M_lacksRow_eq]
  have h1 : pd_ob a (pd_len 231) = false := pu_sl_ob h
  simp only [h1, M_isRow_s h, pd_bI_of, pd_bJ_of, pd_bV_of, pd_bR_of, cond_true, cond_false, pu_cs, pu_csj, pu_c01]
  unfold c_arrF
  rcases hk _ (pu_sl_cl h) with e | ⟨k, h2, e⟩
  · rw [e]; rfl
  · rw [e]
    have : ∀ k, k < 15 → cond (decide (nI k = (-1 : Int32))) 1 (cond (decide (c_in (nI k) 0 12 = 0)) (2 : Int32) 0) = cond (decide (nI k = (-1 : Int32))) 1 (cond (decide (nI k ≤ 12)) 0 2) := by decide +kernel
    rw [this k h2]
theorem c_idxF_in {sz : Nat → Int32} {s : Int32} (hz : c_zok sz) (hs : pu_sl s) (i : Int32) : cond (decide (c_in i 0 (sz s.toNatClampNeg - 1) = 0)) 5 0 = c_idxF sz s i := by
  obtain ⟨n, h1, h2⟩ := hz _ (pu_sl_cl hs)
  unfold c_in c_idxF
  rw [h2]
  by_cases h0 : i < 0
  · rw [decide_eq_true h0]; rfl
  · rw [decide_eq_false h0, cond_false, cond_false]
    obtain ⟨j, h3, rfl⟩ := nI_of h0
    by_cases h4 : j < n
    · have e1 : ¬ nI n - 1 < nI j := by
        cases n with
        | zero => omega
        | succ n => rw [nI_pred]; exact nI_nlt (by omega) (by omega)
      rw [decide_eq_false e1, decide_eq_true (nI_lt h4 (by omega))]; rfl
    · have e1 : nI n - 1 < nI j := by
        cases n with
        | zero =>
          rw [Int32.lt_iff_toInt_lt, nI_toInt h3]
          show (-1 : Int) < _
          omega
        | succ n => rw [nI_pred]; exact nI_lt (by omega) h3
      rw [decide_eq_true e1, decide_eq_false (nI_nlt (by omega) h3)]; rfl
theorem M_lacksCell_s {a : Int32} (h : pu_sl a) (b : Int32) {σ : pd_H} (hk : c_kok (σ.1 231)) (hz : c_zok (σ.1 232)) : M_lacksCell a b σ = some (σ, some (pd_i (c_eltF (σ.1 231) (σ.1 232) a b))) := by
  rw [M_lacksCell_eq, M_lacksRow_s h hk]
  have h1 : pd_ob a (pd_len 232) = false := pu_sl_ob h
  simp only [h1, M_in_s, pd_bI_of, pd_bJ_of, pd_bV_of, pd_bR_of, cond_true, cond_false, pu_cs, c_idxF_in hz h]
  unfold c_eltF
  have : c_arrF (σ.1 231) a = 0 ∨ c_arrF (σ.1 231) a = 1 ∨ c_arrF (σ.1 231) a = 2 := by
    unfold c_arrF
    cases decide (σ.1 231 a.toNatClampNeg = (-1 : Int32)) with
    | true => exact Or.inr (Or.inl rfl)
    | false => cases decide (σ.1 231 a.toNatClampNeg ≤ (12 : Int32)) with
      | true => exact Or.inl rfl
      | false => exact Or.inr (Or.inr rfl)
  rcases this with e | e | e <;> rw [e] <;> rfl
theorem c_arrF_cases (kd : Nat → Int32) (a : Int32) : c_arrF kd a = 0 ∨ c_arrF kd a = 1 ∨ c_arrF kd a = 2 := by
  unfold c_arrF
  cases decide (kd a.toNatClampNeg = (-1 : Int32)) with
  | true => exact Or.inr (Or.inl rfl)
  | false => cases decide (kd a.toNatClampNeg ≤ (12 : Int32)) with
    | true => exact Or.inl rfl
    | false => exact Or.inr (Or.inr rfl)
/-- of an array, the kind is 0 to 12 -/
theorem c_arrF_0 {kd : Nat → Int32} (hk : c_kok kd) {a : Int32} (h : pu_sl a) (h0 : c_arrF kd a = 0) : ∃ k : Nat, k < 13 ∧ kd a.toNatClampNeg = nI k := by
  rcases hk _ (pu_sl_cl h) with e | ⟨k, h2, e⟩
  · unfold c_arrF at h0; rw [e] at h0; exact absurd h0 (by decide)
  · refine ⟨k, ?_, e⟩
    unfold c_arrF at h0
    rw [e] at h0
    have : ∀ k, k < 15 → cond (decide (nI k = (-1 : Int32))) 1 (cond (decide (nI k ≤ 12)) 0 2) = (0 : Int32) → k < 13 := by decide +kernel
    exact this k h2 h0
def m_wid (a b : Int32) : Int32 := cond (decide (a = 1)) (cond (decide (c_in b 3 7 = 0)) (cond (decide (b = 1)) 1 0) 1) (cond (decide (a = 2)) (cond (decide (c_in b 4 7 = 0)) (cond (decide (b = 2)) 1 0) 1) (cond (decide (a = 3)) (c_in b a 7) (cond (decide (a = 4)) (c_in b a 7) (cond (decide (a = 5)) (c_in b a 7) (cond (decide (a = 6)) (c_in b a 7) (cond (decide (a = b)) 1 0))))))
theorem M_widens_s (a b : Int32) (σ : pd_H) : M_widens a b σ = some (σ, some (pd_i (m_wid a b))) := by
  rw [M_widens_eq]
  simp only [M_in_s, pd_bI_of, pd_bJ_of, pd_bV_of, pd_bR_of, cond_true, cond_false, pu_c01 (c_in_z _ _ _), pu_cs]
  rfl
theorem m_wid_eq : ∀ a, a < 8 → ∀ b, b < 8 → m_wid (nI a) (nI b) = c_wid (nI a) (nI b) := by decide +kernel
theorem m_wid_z : ∀ a, a < 13 → ∀ b, b < 13 → pu_z (m_wid (nI a) (nI b)) := by
  intro a ha b hb
  unfold m_wid
  repeat' first | exact pu_z0 | exact pu_z1 | exact c_in_z _ _ _ | apply pu_zc
theorem m_wid_z' (a b : Int32) : pu_z (m_wid a b) := by
  unfold m_wid
  repeat' first | exact pu_z0 | exact pu_z1 | exact c_in_z _ _ _ | apply pu_zc
/-- a wider type's number -/
theorem M_wider_s {a b : Nat} (ha : a < 8) (hb : b < 8) {v : Int64} (hv : c_okv (nI a) v) (hw : c_wid (nI a) (nI b) ≠ 0) (σ : pd_H) : M_wider v (nI a) (nI b) σ = some (σ, some (pd_j (c_wd (nI a) v (nI b)))) := by
  have k58 : (a ≤ 5) → c_btw v (2 ^ 58) := fun h => by
    rcases Nat.lt_or_ge a 5 with q | q
    · obtain ⟨h1, h2⟩ := hv.2.1 (nI_le (by omega) (by decide) : nI a ≤ nI 4)
      exact ⟨by omega, by omega⟩
    · exact hv.2.2.1 (by rw [show a = 5 by omega]; rfl)
  have k31 : (a ≤ 4) → c_btw v 2147483648 := fun h => hv.2.1 (nI_le (by omega) (by decide) : nI a ≤ nI 4)
  rw [M_wider_eq]
  simp only [M_wider_L37_eq]
  have mul8 : ∀ x : Int64, (8 : Int64) * x = 8 * x := fun _ => rfl
  match b, hb with
  | 0, _ | 1, _ | 2, _ | 3, _ | 4, _ | 5, _ =>
    cases decide (nI a = _) <;> rfl
  | 6, _ =>
    match a, ha with
    | 0, _ | 1, _ | 2, _ | 3, _ | 4, _ | 5, _ =>
      show pd_bJ (M_rounded v 24 σ) (fun s3 v4 => some (s3, some (pd_j (8 * v4)))) = _
      rw [M_rounded_f (k58 (by omega)) σ]
      rfl
    | 6, _ => rfl
    | 7, _ => exact absurd rfl hw
  | 7, _ =>
    match a, ha with
    | 0, _ | 1, _ | 2, _ | 3, _ | 4, _ =>
      show some (σ, some (pd_j (8 * v))) = some (σ, some (pd_j (8 * FP.d2l (FP.l2d v))))
      rw [fp_d_small (k31 (by omega))]
    | 5, _ =>
      show pd_bJ (M_rounded v 53 σ) (fun s3 v4 => some (s3, some (pd_j (8 * v4)))) = _
      rw [M_rounded_d (k58 (by omega)) σ]
      rfl
    | 6, _ => rfl
    | 7, _ => rfl
theorem M_made_s {t : Nat} (ht : t < 12) (v : Int32) (σ : pd_H) : M_made v (nI t) σ = some (σ, some (pd_j (c_mk (nI t) v))) := by
  have h58 : c_btw v.toInt64 (2 ^ 58) := by
    have h1 := Int32.toInt_lt v
    have h2 := Int32.le_toInt v
    have h3 := Int32.toInt_toInt64 v
    exact ⟨by omega, by omega⟩
  rw [M_made_eq]
  match t, ht with
  | 6, _ =>
    show pd_bJ (M_rounded v.toInt64 24 σ) (fun s1 v2 => some (s1, some (pd_j v2))) = _
    rw [M_rounded_f h58 σ]
    show some (σ, some (pd_j (FP.f2l (FP.l2f v.toInt64)))) = some (σ, some (pd_j (FP.f2l (FP.i2f v))))
    rw [fp_i2f]
  | 0, _ | 1, _ | 2, _ | 3, _ | 4, _ | 5, _ | 7, _ | 8, _ | 9, _ | 10, _ | 11, _ => rfl
theorem M_typeBy_s (a : Int32) (σ : pd_H) : M_typeBy a σ = some (σ, some (pd_i (c_tyW a))) := by
  rw [M_typeBy_eq]; simp only [pu_cs, pu_csj, pu_c01]; rfl
def m_tak (a b : Int32) : Int32 := cond (decide (16 ≤ b)) (cond (decide (b = 16)) (cond (decide (a = 8)) 1 (cond (decide (a = 12)) 1 0)) (cond (decide (b = 17)) (cond (decide (a = 9)) 1 0) (cond (decide (b = 18)) (cond (decide (a = 9)) 1 (cond (decide (a = 10)) 1 0)) (cond (decide (a ≤ 7)) 0 1)))) (cond (decide (8 ≤ a)) (cond (decide (a = 12)) 1 (cond (decide (a = 11)) (cond (decide (b = 12)) 1 0) 0)) (m_wid (b - 8) a))
theorem M_takes_s (a b : Int32) (σ : pd_H) : M_takes a b σ = some (σ, some (pd_i (m_tak a b))) := by
  rw [M_takes_eq]
  simp only [M_widens_s, pd_bI_of, pd_bJ_of, pd_bV_of, pd_bR_of, cond_true, cond_false, pu_c01 (m_wid_z' _ _), pu_cs]
  rfl
/-- the ways from 8 to 19 by the type that is laid -/
theorem m_tak_eq : ∀ a, a < 13 → ∀ b, b < 12 → m_tak (nI a) (nI (8 + b)) = c_tak (nI a) (c_tyW (nI (8 + b))) := by decide +kernel
theorem m_tak_20 : ∀ a, a < 13 → ∀ b, b < 22 → 8 ≤ b → m_tak (nI a) (cond (decide ((20 : Int32) ≤ nI b)) (nI b - 3) (nI b)) = c_tak (nI a) (c_tyW (nI b)) := by decide +kernel
