/-! The model's step of a change. -/
/-- the values of the cells that there are -/
def c_cells (kd sz : Nat → Int32) (t : Nat → Int32) (n : Nat → Int64) : Prop := ∀ j, j < 6 → c_arrF kd (nI j) = 0 → ∀ i, i < 12 → nI i < sz j → c_okv (t (12 * j + i)) (n (12 * j + i)) ∧ (kd j ≤ 7 → t (12 * j + i) = kd j)
def m_R (σ : pd_H) : cR := (σ.1 233, σ.2.1 234, σ.1 237, σ.1 247, σ.2.1 248, σ.1 245, σ.2.1 246, σ.1 249)
/-- a change as the model holds it -/
def m_wr (σ : pd_H) (a : Nat) (c : cC) : Prop := c.1 = -1 ∧ σ.1 238 a = 0 ∧ σ.1 241 a = c.2.2.1 ∧ σ.1 239 a = c.2.2.2.1 ∧ σ.1 240 a = c.2.2.2.2.1 ∧ σ.1 242 a = c.2.2.2.2.2 ∧ c.2.1 = 0
def m_co (σ : pd_H) (a : Nat) (c : cC) : Prop := c.1 ≠ -1 ∧ σ.1 238 a = 1 ∧ σ.1 239 a = c.1 ∧ σ.1 240 a = c.2.1 ∧ σ.1 241 a = c.2.2.1 ∧ σ.1 243 a = c.2.2.2.1 ∧ σ.1 242 a = c.2.2.2.2.1 ∧ c.2.2.2.2.2 = 0
def m_is (σ : pd_H) (a : Nat) (c : cC) : Prop := m_wr σ a c ∨ m_co σ a c
/-- a change as it may be: slots, ways -/
def c_chok (c : cC) : Prop := c_ok c ∧ ∃ w : Nat, c.2.2.1 = nI w ∧ (c.1 = -1 → w < 22) ∧ (c.1 ≠ -1 → w < 9)
theorem c_cells_at {kd sz : Nat → Int32} {t : Nat → Int32} {n : Nat → Int64} (h : c_cells kd sz t n) (hz : c_zok sz) {s i : Int32} (hs : pu_sl s) (ha : c_arrF kd s = 0) (hi : c_idxF sz s i = 0) : c_okv (t (c_cell s i)) (n (c_cell s i)) ∧ (kd s.toNatClampNeg ≤ 7 → t (c_cell s i) = kd s.toNatClampNeg) := by
  obtain ⟨k, h1, rfl, h2⟩ := c_idxF_0 hz.sz hs hi
  obtain ⟨j, h3, rfl⟩ := pu_sl_nI hs
  rw [nI_clamp (by omega)] at h2 ⊢
  rw [c_cell_eq h3 h1]
  exact h j h3 ha k h1 h2
theorem c_rdF_arr {kd sz : Nat → Int32} {s w i : Int32} (h : c_rdF kd sz s w i = 0) : c_arrF kd s = 0 := by
  unfold c_rdF at h
  cases h1 : decide (c_arrF kd s = 0) with
  | false => rw [h1, cond_false] at h; exact h
  | true => exact of_decide_eq_true h1
theorem c_wrF_arr {kd sz : Nat → Int32} {s w i : Int32} (h : c_wrF kd sz s w i = 0) : c_arrF kd s = 0 := by
  unfold c_wrF at h
  cases h1 : decide (c_arrF kd s = 0) with
  | false => rw [h1, cond_false] at h; exact h
  | true => exact of_decide_eq_true h1
section MODEL2
variable {σ : pd_H}
theorem m_cell_comm (a b : Int32) : (12 : Int32) * a + b = a * 12 + b := by rw [Int32.mul_comm]
set_option maxHeartbeats 4000000 in
theorem M_asks_s {s i : Int32} {w : Nat} (hs : pu_sl s) (hw : w < 9) (hk : c_kok (σ.1 231)) (hz : c_zok (σ.1 232)) (hc : c_cells (σ.1 231) (σ.1 232) (σ.1 233) (σ.2.1 234)) {f : Int32} (hf : c_rdF (σ.1 231) (σ.1 232) s (nI w) i = f) :
    M_asks s (nI w) i σ = cond (decide (f = 0)) (some (pd_upJ (pd_upI σ 230 31 (cond (decide (nI w = 8)) (σ.1 233 (c_cell s i)) (nI w))) 230 32 (cond (decide (nI w = 8)) (σ.2.1 234 (c_cell s i)) (c_wd (σ.1 233 (c_cell s i)) (σ.2.1 234 (c_cell s i)) (nI w))), some (pd_i 0))) (some (σ, some (pd_i f))) := by
  have o1 : pd_ob s (pd_len 231) = false := pu_sl_ob hs
  have o2 : pd_ob s (pd_len 232) = false := pu_sl_ob hs
  have e8 : decide ((8 : Int32) ≤ nI w) = decide (nI w = 8) := by
    have : ∀ w, w < 9 → decide ((8 : Int32) ≤ nI w) = decide (nI w = 8) := by decide +kernel
    exact this w hw
  -- behind the index
  have tail : ∀ (d4 d5 : Option pd_V), (c_arrF (σ.1 231) s = 0) → (nI w ≠ 8 → σ.1 231 s.toNatClampNeg ≤ 7 ∧ c_wid (σ.1 231 s.toNatClampNeg) (nI w) ≠ 0) → M_asks_L55 s (nI w) i d4 d5 σ = cond (decide (c_idxF (σ.1 232) s i = 0)) (some (pd_upJ (pd_upI σ 230 31 (cond (decide (nI w = 8)) (σ.1 233 (c_cell s i)) (nI w))) 230 32 (cond (decide (nI w = 8)) (σ.2.1 234 (c_cell s i)) (c_wd (σ.1 233 (c_cell s i)) (σ.2.1 234 (c_cell s i)) (nI w))), some (pd_i 0))) (some (σ, some (pd_i 5))) := by
    intro d4 d5 harr hwd
    have hin := c_idxF_in hz hs i
    rw [M_asks_L55_eq]
    simp only [o2, M_in_s, pd_bI_of, pd_bJ_of, pd_bV_of, pd_bR_of, cond_true, cond_false, m_cell_comm, e8, M_asks_L99_eq]
    by_cases h0 : c_in i 0 (σ.1 232 s.toNatClampNeg - 1) = 0
    · rw [h0] at hin
      have hin : (5 : Int32) = c_idxF (σ.1 232) s i := hin
      rw [decide_eq_true h0, ← hin]; rfl
    · rw [decide_eq_false h0] at hin
      have hin : (0 : Int32) = c_idxF (σ.1 232) s i := hin
      obtain ⟨q1, q2⟩ := c_cell_ok hz.sz hs hin.symm
      obtain ⟨v1, v2⟩ := c_cells_at hc hz hs harr hin.symm
      rw [decide_eq_false h0, ← hin, q1]
      simp only [pd_bI_of, pd_bJ_of, pd_bV_of, pd_bR_of, cond_true, cond_false, decide_true, show pd_len 233 = 72 from rfl, show pd_len 234 = 72 from rfl, pu_obN q2 (show 72 < 2 ^ 31 by decide), nI_clamp (show c_cell s i < 2 ^ 31 by omega), pu_u2, pu_u1n (show 233 ≠ 230 by decide)]
      by_cases h8 : nI w = 8
      · simp only [decide_eq_true h8, pd_bI_of, pd_bJ_of, pd_bV_of, pd_bR_of, cond_true, cond_false]
      · simp only [decide_eq_false h8, pd_bI_of, pd_bJ_of, pd_bV_of, pd_bR_of, cond_true, cond_false]
        obtain ⟨g1, g2⟩ := hwd h8
        have hw8 : w < 8 := by
          rcases Nat.lt_or_ge w 8 with q | q
          · exact q
          · exact absurd (by rw [show w = 8 by omega]; rfl) h8
        obtain ⟨k, k1, k2⟩ := c_arrF_0 hk hs harr
        have hk8 : k < 8 := by
          rw [k2, show (7 : Int32) = nI 7 from rfl, nI_leI (by omega) (by decide)] at g1
          omega
        have ht : σ.1 233 (c_cell s i) = nI k := by rw [v2 g1, k2]
        rw [ht] at v1 ⊢
        rw [k2] at g2
        rw [M_wider_s hk8 hw8 v1 g2]
        rfl
  rw [M_asks_eq, M_lacksRow_s hs hk]
  simp only [pd_bI_of, pd_bJ_of, pd_bV_of, pd_bR_of, cond_true, cond_false, o1, e8, M_asks_L34_eq, M_widens_s]
  rcases c_arrF_cases (σ.1 231) s with ha | ha | ha
  · obtain ⟨k, k1, k2⟩ := c_arrF_0 hk hs ha
    have hff : cond (decide (nI w = 8)) (c_idxF (σ.1 232) s i) (cond (decide (σ.1 231 s.toNatClampNeg ≤ 7)) (cond (decide (c_wid (σ.1 231 s.toNatClampNeg) (nI w) = 0)) 4 (c_idxF (σ.1 232) s i)) 3) = f := by
      rw [← hf]; unfold c_rdF; rw [ha]; rfl
    rw [ha]
    simp only [show decide ((0 : Int32) ≤ 0) = true from rfl, pd_bI_of, pd_bJ_of, pd_bV_of, pd_bR_of, cond_true, cond_false]
    have fin : ∀ x : Int32, (x = 0 ∨ x = 5) → cond (decide (x = 0)) (some (pd_upJ (pd_upI σ 230 31 (cond (decide (nI w = 8)) (σ.1 233 (c_cell s i)) (nI w))) 230 32 (cond (decide (nI w = 8)) (σ.2.1 234 (c_cell s i)) (c_wd (σ.1 233 (c_cell s i)) (σ.2.1 234 (c_cell s i)) (nI w))), some (pd_i 0))) (some (σ, some (pd_i 5))) = cond (decide (x = 0)) (some (pd_upJ (pd_upI σ 230 31 (cond (decide (nI w = 8)) (σ.1 233 (c_cell s i)) (nI w))) 230 32 (cond (decide (nI w = 8)) (σ.2.1 234 (c_cell s i)) (c_wd (σ.1 233 (c_cell s i)) (σ.2.1 234 (c_cell s i)) (nI w))), some (pd_i 0))) (some (σ, some (pd_i x))) := by
      rintro x (rfl | rfl) <;> rfl
    have h05 : c_idxF (σ.1 232) s i = 0 ∨ c_idxF (σ.1 232) s i = 5 := by
      unfold c_idxF
      cases decide (i < 0) with
      | true => exact Or.inr rfl
      | false => cases decide (i < σ.1 232 s.toNatClampNeg) with
        | true => exact Or.inl rfl
        | false => exact Or.inr rfl
    by_cases h8 : nI w = 8
    · rw [decide_eq_true h8, cond_true] at hff
      rw [tail _ _ ha (fun h => absurd h8 h), fin _ h05, hff]
      simp only [decide_eq_true h8, pd_bI_of, pd_bJ_of, pd_bV_of, pd_bR_of, cond_true, cond_false]
    · rw [decide_eq_false h8, cond_false] at hff
      have hw8 : w < 8 := by
        rcases Nat.lt_or_ge w 8 with q | q
        · exact q
        · exact absurd (by rw [show w = 8 by omega]; rfl) h8
      by_cases h7 : σ.1 231 s.toNatClampNeg ≤ 7
      · have hk8 : k < 8 := by
          rw [k2, show (7 : Int32) = nI 7 from rfl, nI_leI (by omega) (by decide)] at h7
          omega
        rw [decide_eq_true h7, cond_true] at hff
        have hm : m_wid (σ.1 231 s.toNatClampNeg) (nI w) = c_wid (σ.1 231 s.toNatClampNeg) (nI w) := by rw [k2]; exact m_wid_eq k hk8 w hw8
        by_cases h4 : c_wid (σ.1 231 s.toNatClampNeg) (nI w) = 0
        · rw [decide_eq_true h4, cond_true] at hff
          simp only [decide_eq_false h8, decide_eq_true h7, hm, decide_eq_true h4, pd_bI_of, pd_bJ_of, pd_bV_of, pd_bR_of, cond_true, cond_false]
          rw [← hff]; rfl
        · rw [decide_eq_false h4, cond_false] at hff
          simp only [decide_eq_true h7, hm, decide_eq_false h4, pd_bI_of, pd_bJ_of, pd_bV_of, pd_bR_of, cond_true, cond_false]
          rw [tail _ _ ha (fun _ => ⟨h7, h4⟩), fin _ h05, hff]
          simp only [decide_eq_false h8, pd_bI_of, pd_bJ_of, pd_bV_of, pd_bR_of, cond_true, cond_false]
      · rw [decide_eq_false h7, cond_false] at hff
        simp only [decide_eq_false h8, decide_eq_false h7, pd_bI_of, pd_bJ_of, pd_bV_of, pd_bR_of, cond_true, cond_false]
        rw [← hff]; rfl
  · have hff : f = 1 := by rw [← hf]; unfold c_rdF; rw [ha]; rfl
    rw [ha, hff]; rfl
  · have hff : f = 2 := by rw [← hf]; unfold c_rdF; rw [ha]; rfl
    rw [ha, hff]; rfl
/-- how the model's way to lay stands to the canonical one -/
def m_way (wm ww : Int32) : Prop := (wm = ww ∧ ∃ w : Nat, w < 8 ∧ ww = nI w) ∨ (8 ≤ wm ∧ 8 ≤ ww ∧ ∀ k, k < 13 → m_tak (nI k) wm = c_tak (nI k) (c_tyW ww))
theorem m_tak_low : ∀ k, k < 8 → ∀ w, w < 8 → c_tak (nI k) (c_tyW (nI w)) = m_wid (nI w) (nI k) := by decide +kernel
theorem c_tak_wid : ∀ k, k < 8 → ∀ t, t < 12 → c_tak (nI k) (nI t) ≠ 0 → t < 8 ∧ c_wid (nI t) (nI k) ≠ 0 := by decide +kernel
set_option maxHeartbeats 4000000 in
theorem M_lays_s {s i wm ww : Int32} {t : Nat} {nu : Int64} (hs : pu_sl s) (hk : c_kok (σ.1 231)) (hz : c_zok (σ.1 232)) (hw : m_way wm ww) (ht : t < 12) (hty : c_tyW ww = nI t) (hv : c_okv (nI t) nu) {f : Int32} (hf : c_wrF (σ.1 231) (σ.1 232) s ww i = f) :
    M_lays s wm i (nI t) nu σ = cond (decide (f = 0)) (some (pd_upJ (pd_upI σ 233 (c_cell s i) (cond (decide (7 < σ.1 231 s.toNatClampNeg)) (nI t) (σ.1 231 s.toNatClampNeg))) 234 (c_cell s i) (cond (decide (7 < σ.1 231 s.toNatClampNeg)) nu (c_wd (nI t) nu (σ.1 231 s.toNatClampNeg))), some (pd_i 0))) (some (σ, some (pd_i f))) := by
  have o1 : pd_ob s (pd_len 231) = false := pu_sl_ob hs
  have o2 : pd_ob s (pd_len 232) = false := pu_sl_ob hs
  rw [M_lays_eq, M_lacksRow_s hs hk]
  simp only [pd_bI_of, pd_bJ_of, pd_bV_of, pd_bR_of, cond_true, cond_false, o1, M_lays_L38_eq, M_takes_s, M_widens_s]
  rcases c_arrF_cases (σ.1 231) s with ha | ha | ha
  · obtain ⟨k, k1, k2⟩ := c_arrF_0 hk hs ha
    have hff : cond (decide (σ.1 231 s.toNatClampNeg ≤ 7)) (cond (decide (c_tak (σ.1 231 s.toNatClampNeg) (c_tyW ww) = 0)) 4 (c_idxF (σ.1 232) s i)) (cond (decide (8 ≤ ww)) (cond (decide (c_tak (σ.1 231 s.toNatClampNeg) (c_tyW ww) = 0)) 4 (c_idxF (σ.1 232) s i)) 3) = f := by
      rw [← hf]; unfold c_wrF; rw [ha]; rfl
    rw [ha]
    simp only [show decide ((0 : Int32) ≤ 0) = true from rfl, pd_bI_of, pd_bJ_of, pd_bV_of, pd_bR_of, cond_true, cond_false]
    rw [k2] at hff ⊢
    have h87 : decide ((8 : Int32) ≤ nI k) = decide (7 < nI k) := by
      have : ∀ k, k < 13 → decide ((8 : Int32) ≤ nI k) = decide (7 < nI k) := by decide +kernel
      exact this k k1
    have h05 : c_idxF (σ.1 232) s i = 0 ∨ c_idxF (σ.1 232) s i = 5 := by
      unfold c_idxF
      cases decide (i < 0) with
      | true => exact Or.inr rfl
      | false => cases decide (i < σ.1 232 s.toNatClampNeg) with
        | true => exact Or.inl rfl
        | false => exact Or.inr rfl
    -- behind the way
    have tail : ∀ (d2 d7 d9 : Option pd_V), c_tak (nI k) (nI t) ≠ 0 → c_idxF (σ.1 232) s i = f → M_lays_L67 s d2 i (nI t) nu d7 (nI k) d9 σ = cond (decide (f = 0)) (some (pd_upJ (pd_upI σ 233 (c_cell s i) (cond (decide (7 < nI k)) (nI t) (nI k))) 234 (c_cell s i) (cond (decide (7 < nI k)) nu (c_wd (nI t) nu (nI k))), some (pd_i 0))) (some (σ, some (pd_i f))) := by
      intro d2 d7 d9 htk hif
      have hin := c_idxF_in hz hs i
      rw [M_lays_L67_eq]
      simp only [o2, M_in_s, pd_bI_of, pd_bJ_of, pd_bV_of, pd_bR_of, cond_true, cond_false, m_cell_comm, h87, M_lays_L113_eq]
      by_cases h0 : c_in i 0 (σ.1 232 s.toNatClampNeg - 1) = 0
      · rw [decide_eq_true h0] at hin
        have hin : (5 : Int32) = c_idxF (σ.1 232) s i := hin
        rw [← hif, ← hin, decide_eq_true h0]; rfl
      · rw [decide_eq_false h0] at hin
        have hin : (0 : Int32) = c_idxF (σ.1 232) s i := hin
        obtain ⟨q1, q2⟩ := c_cell_ok hz.sz hs hin.symm
        rw [← hif, ← hin, decide_eq_false h0, q1]
        simp only [pd_bI_of, pd_bJ_of, pd_bV_of, pd_bR_of, cond_true, cond_false, decide_true, show pd_len 233 = 72 from rfl, show pd_len 234 = 72 from rfl, pu_obN q2 (show 72 < 2 ^ 31 by decide), nI_clamp (show c_cell s i < 2 ^ 31 by omega)]
        by_cases h7 : 7 < nI k
        · simp only [decide_eq_true h7, pd_bI_of, pd_bJ_of, pd_bV_of, pd_bR_of, cond_true, cond_false]
        · simp only [decide_eq_false h7, pd_bI_of, pd_bJ_of, pd_bV_of, pd_bR_of, cond_true, cond_false]
          have hk8 : k < 8 := by
            rw [show (7 : Int32) = nI 7 from rfl, nI_ltI (by decide) (by omega)] at h7
            omega
          obtain ⟨e1, e2⟩ := c_tak_wid k hk8 t ht htk
          rw [M_wider_s e1 hk8 hv e2]
          rfl
    rw [hty] at hff
    have h7le : decide (nI k ≤ (7 : Int32)) = !decide ((7 : Int32) < nI k) := by
      have : ∀ k, k < 13 → decide (nI k ≤ (7 : Int32)) = !decide ((7 : Int32) < nI k) := by decide +kernel
      exact this k k1
    have e4 : cond (decide (c_tak (nI k) (nI t) = 0)) 4 (c_idxF (σ.1 232) s i) = f → ∀ (d2 d7 d9 : Option pd_V), cond (decide (c_tak (nI k) (nI t) = 0)) (some (σ, some (pd_i 4))) (M_lays_L67 s d2 i (nI t) nu d7 (nI k) d9 σ) = cond (decide (f = 0)) (some (pd_upJ (pd_upI σ 233 (c_cell s i) (cond (decide (7 < nI k)) (nI t) (nI k))) 234 (c_cell s i) (cond (decide (7 < nI k)) nu (c_wd (nI t) nu (nI k))), some (pd_i 0))) (some (σ, some (pd_i f))) := by
      intro h d2 d7 d9
      by_cases h4 : c_tak (nI k) (nI t) = 0
      · rw [decide_eq_true h4, cond_true] at h
        rw [decide_eq_true h4, ← h]; rfl
      · rw [decide_eq_false h4, cond_false] at h
        rw [decide_eq_false h4, cond_false, tail d2 d7 d9 h4 h]
    rcases hw with ⟨rfl, w, hw8, rfl⟩ | ⟨hw1, hw2, hw3⟩
    · have hn8 : decide ((8 : Int32) ≤ nI w) = false := by
        have : ∀ w, w < 8 → decide ((8 : Int32) ≤ nI w) = false := by decide +kernel
        exact this w hw8
      rw [hn8] at hff
      simp only [hn8, pd_bI_of, pd_bJ_of, pd_bV_of, pd_bR_of, cond_true, cond_false]
      by_cases h7 : (7 : Int32) < nI k
      · rw [h7le, decide_eq_true h7] at hff
        have hff : (3 : Int32) = f := hff
        rw [h7le, decide_eq_true h7, ← hff]; rfl
      · have hk8 : k < 8 := by
          rw [show (7 : Int32) = nI 7 from rfl, nI_ltI (by decide) (by omega)] at h7
          omega
        rw [h7le, decide_eq_false h7] at hff
        have hff : cond (decide (c_tak (nI k) (nI t) = 0)) 4 (c_idxF (σ.1 232) s i) = f := hff
        have hm : m_wid (nI w) (nI k) = c_tak (nI k) (nI t) := by rw [← m_tak_low k hk8 w hw8, hty]
        have e5 := e4 hff
        rw [h7le, decide_eq_false h7]
        rw [decide_eq_false h7] at e5
        simp only [Bool.not_false, pd_bI_of, pd_bJ_of, pd_bV_of, pd_bR_of, cond_true, cond_false, hm]
        exact e5 _ _ _
    · have hm : m_tak (nI k) wm = c_tak (nI k) (nI t) := by rw [hw3 k k1, hty]
      have hff : cond (decide (c_tak (nI k) (nI t) = 0)) 4 (c_idxF (σ.1 232) s i) = f := by
        rw [decide_eq_true hw2, cond_true, Bool.cond_self] at hff
        exact hff
      have e5 := e4 hff
      simp only [decide_eq_true hw1, pd_bI_of, pd_bJ_of, pd_bV_of, pd_bR_of, cond_true, cond_false, hm]
      exact e5 _ _ _
  · have hff : f = 1 := by rw [← hf]; unfold c_wrF; rw [ha]; rfl
    rw [ha, hff]; rfl
  · have hff : f = 2 := by rw [← hf]; unfold c_wrF; rw [ha]; rfl
    rw [ha, hff]; rfl
end MODEL2
