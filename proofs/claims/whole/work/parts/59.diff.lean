/-! What differs. -/
def c_cels (j i : Nat) : Nat → List Nat
  | 0 => []
  | d + 1 => (12 * j + i) :: c_cels j (i + 1) d
theorem c_cels_mem {j : Nat} : ∀ {d i c : Nat}, c ∈ c_cels j i d → ∃ k, i ≤ k ∧ k < i + d ∧ c = 12 * j + k := by
  intro d
  induction d with
  | zero => intro i c h; cases h
  | succ d ih =>
    intro i c h
    rcases List.mem_cons.mp h with h | h
    · exact ⟨i, Nat.le_refl _, by omega, h⟩
    · obtain ⟨k, h1, h2, h3⟩ := ih h
      exact ⟨k, by omega, by omega, h3⟩
section DIFF
variable {σ : pd_H} {S : cS}
theorem X_differences_s {j n o q : Nat} (hj : j < 6) (hn : n ≤ 12) (hsz : σ.1 3 j = nI n) (h1 : pd_len (o + 1) = 72) (h2 : pd_len (o + 2) = 72) (g1 : pd_len (q + 1) = 72) (g2 : pd_len (q + 2) = 72) : X_differences (nI j) o q σ = some (σ, some (pd_i (c_mvb (σ.1 (o + 1)) (σ.1 (q + 1)) (σ.2.1 (o + 2)) (σ.2.1 (q + 2)) (c_cels j 0 n) 0))) := by
  have loop : ∀ (d i : Nat) (s : Int32), i + d = n → X_differences_L6 (nI j) o q s (nI i) σ = some (σ, some (pd_i (c_mvb (σ.1 (o + 1)) (σ.1 (q + 1)) (σ.2.1 (o + 2)) (σ.2.1 (q + 2)) (c_cels j i d) s))) := by
    intro d
    induction d with
    | zero =>
      intro i s hi
      have hi : i = n := hi
      rw [X_differences_L6_eq, show pd_len 3 = 6 from rfl, pu_obN hj (by decide), cond_false, nI_clamp (by omega), hsz, hi, decide_eq_true (nI_le (Nat.le_refl _) (by omega)), cond_true]
      rfl
    | succ d ih =>
      intro i s hi
      rw [X_differences_L6_eq, show pd_len 3 = 6 from rfl, pu_obN hj (by decide), cond_false, nI_clamp (by omega), hsz, decide_eq_false (nI_ge (show i < n by omega) (by omega)), cond_false, X_cellOf_s, pd_bI_of, c_cell_nI hj (by omega), Values_equalAt_s σ h1 h2 g1 g2 (show 12 * j + i < 72 by omega) (by decide), pd_bI_of, nI_1, ih (i + 1) _ (by omega), ih (i + 1) _ (by omega)]
      show _ = some (σ, some (pd_i (c_mvb _ _ _ _ (c_cels j (i + 1) d) (cond (decide (σ.1 (o + 1) (12 * j + i) = σ.1 (q + 1) (12 * j + i)) && decide (σ.2.1 (o + 2) (12 * j + i) = σ.2.1 (q + 2) (12 * j + i))) s (s + 1)))))
      cases decide (σ.1 (o + 1) (12 * j + i) = σ.1 (q + 1) (12 * j + i)) with
      | false => rfl
      | true => cases decide (σ.2.1 (o + 2) (12 * j + i) = σ.2.1 (q + 2) (12 * j + i)) <;> rfl
  rw [X_differences_eq]
  exact loop n 0 0 (Nat.zero_add _)
theorem M_isOther_s {c : Nat} (hc : c < 72) : M_isOther (nI c) σ = some (σ, some (pd_i (cond (decide (σ.1 233 c = σ.1 235 c) && decide (σ.2.1 234 c = σ.2.1 236 c)) 0 1))) := by
  have o := pu_obN hc (show 72 < 2 ^ 31 by decide)
  rw [M_isOther_eq, show pd_len 233 = 72 from rfl, show pd_len 235 = 72 from rfl, show pd_len 234 = 72 from rfl, show pd_len 236 = 72 from rfl, o, cond_false, cond_false, cond_false, cond_false, nI_clamp (by omega), pu_cmp0]
  cases decide (σ.1 233 c = σ.1 235 c) with
  | false => rfl
  | true => cases decide (σ.2.1 234 c = σ.2.1 236 c) <;> rfl
theorem M_changedOf_s {j n : Nat} (hj : j < 6) (hn : n ≤ 12) (hsz : σ.1 232 j = nI n) : M_changedOf (nI j) σ = some (σ, some (pd_i (c_mvb (σ.1 233) (σ.1 235) (σ.2.1 234) (σ.2.1 236) (c_cels j 0 n) 0))) := by
  have loop : ∀ (d i : Nat) (s : Int32), i + d = n → M_changedOf_L4 (nI j) s (nI i) σ = some (σ, some (pd_i (c_mvb (σ.1 233) (σ.1 235) (σ.2.1 234) (σ.2.1 236) (c_cels j i d) s))) := by
    intro d
    induction d with
    | zero =>
      intro i s hi
      have hi : i = n := hi
      rw [M_changedOf_L4_eq, show pd_len 232 = 6 from rfl, pu_obN hj (by decide), cond_false, nI_clamp (by omega), hsz, hi, decide_eq_true (nI_le (Nat.le_refl _) (by omega)), cond_true]
      rfl
    | succ d ih =>
      intro i s hi
      have ix : (12 : Int32) * nI j + nI i = nI (12 * j + i) := by rw [Int32.mul_comm]; exact c_cell_nI hj (by omega)
      rw [M_changedOf_L4_eq, show pd_len 232 = 6 from rfl, pu_obN hj (by decide), cond_false, nI_clamp (by omega), hsz, decide_eq_false (nI_ge (show i < n by omega) (by omega)), cond_false, ix, M_isOther_s (show 12 * j + i < 72 by omega), pd_bI_of, nI_1, ih (i + 1) _ (by omega), ih (i + 1) _ (by omega), Int32.add_zero]
      show _ = some (σ, some (pd_i (c_mvb _ _ _ _ (c_cels j (i + 1) d) (cond (decide (σ.1 233 (12 * j + i) = σ.1 235 (12 * j + i)) && decide (σ.2.1 234 (12 * j + i) = σ.2.1 236 (12 * j + i))) s (s + 1)))))
      cases decide (σ.1 233 (12 * j + i) = σ.1 235 (12 * j + i)) with
      | false => rfl
      | true => cases decide (σ.2.1 234 (12 * j + i) = σ.2.1 236 (12 * j + i)) <;> rfl
  rw [M_changedOf_eq]
  exact loop n 0 0 (Nat.zero_add _)
/-- how many places of a slot are other than its base -/
def s_df (S : cS) (j n : Nat) : Int32 := c_mvb (s_play S (s_or S)).2.1 (s_bt S) (s_play S (s_or S)).2.2.1 (s_bn S) (c_cels j 0 n) 0
theorem X_df_s (h : RX σ S) {j n : Nat} (hj : j < 6) (hn : n ≤ 12) (hsz : s_sz S j = nI n) : X_differences (nI j) (σ.2.2 0 + 3) 4 σ = some (σ, some (pd_i (s_df S j n))) := by
  have hrun := x_run h
  rw [X_differences_s hj hn (by rw [h.1.2.1]; exact hsz) (by rcases hrun with q | q <;> rw [q.1] <;> rfl) (by rcases hrun with q | q <;> rw [q.1] <;> rfl) rfl rfl]
  unfold s_df
  rw [c_mvb_congr (u := (s_play S (s_or S)).2.1) (u' := s_bt S) (v := (s_play S (s_or S)).2.2.1) (v' := s_bn S) (fun c hc => ?_)]
  obtain ⟨k, k1, k2, rfl⟩ := c_cels_mem hc
  obtain ⟨g1, g2, g3⟩ := x_cell h (c := 12 * j + k) (by omega)
  exact ⟨g1, by rw [show (4 : Nat) + 1 = 5 from rfl, h.1.2.2.1], g2, by rw [show (4 : Nat) + 2 = 6 from rfl, h.1.2.2.2]⟩
theorem M_df_s (h : RM σ S) {j n : Nat} (hj : j < 6) (hn : n ≤ 12) (ha : c_arrF (s_kd S) (nI j) = 0) (hsz : s_sz S j = nI n) : M_changedOf (nI j) σ = some (σ, some (pd_i (s_df S j n))) := by
  have hz : σ.1 232 j = nI n := by
    have sl : pu_sl (nI j) := ⟨nI_pos (by omega), nI_ge hj (by decide)⟩
    have := c_kz_sz h.1.1 sl ha
    rw [nI_clamp (by omega)] at this
    rw [← this]; exact hsz
  rw [M_changedOf_s hj hn hz]
  unfold s_df
  rw [c_mvb_congr (u := (s_play S (s_or S)).2.1) (u' := s_bt S) (v := (s_play S (s_or S)).2.2.1) (v' := s_bn S) (fun c hc => ?_)]
  obtain ⟨k, k1, k2, rfl⟩ := c_cels_mem hc
  have hvc : c_vc (s_kd S) (s_sz S) (12 * j + k) := ⟨j, k, hj, by omega, ha, by rw [hsz]; exact nI_lt (by omega) (by omega), rfl⟩
  obtain ⟨g1, g2, g3⟩ := m_cell h hvc
  obtain ⟨f1, f2⟩ := h.1.2.2 _ hvc
  exact ⟨g1, f1, g2, f2⟩
theorem pu_sl_j {j : Nat} (hj : j < 6) : pu_sl (nI j) := ⟨nI_pos (by omega), nI_ge hj (by decide)⟩
def s_n (S : cS) (j : Nat) : Nat := (s_sz S j).toNatClampNeg
theorem s_n_ok (hw : s_wf S) {j : Nat} (hj : j < 6) : s_sz S j = nI (s_n S j) ∧ s_n S j ≤ 12 := by
  obtain ⟨n, h1, h2⟩ := hw.1.2.1 j hj
  unfold s_n
  rw [h2, nI_clamp (by omega)]
  exact ⟨rfl, h1⟩
theorem J_changed (h : JR σ S) (a : Int32) : JI (X_changed a) (M_changed a) σ := by
  have hw := h.1
  rcases c_slv_cases a with ⟨ha, e⟩ | ⟨e, -⟩
  · obtain ⟨j, hj, rfl⟩ : ∃ j, j < 6 ∧ a = nI j := by
      obtain ⟨j, h2, rfl⟩ := nI_of ha.1
      refine ⟨j, ?_, rfl⟩
      have := ha.2
      rw [show (6 : Int32) = nI 6 from rfl, nI_leI (by decide) h2] at this
      omega
    obtain ⟨n1, n2⟩ := s_n_ok hw hj
    by_cases h0 : c_arrF (s_kd S) (nI j) = 0
    · refine JI.same (v := s_df S j (s_n S j)) h ?_ (fun g => ?_)
      · rw [X_changed_eq, X_slot, e, pd_bI_of, decide_eq_false (by decide : ¬ (1 : Int32) = 0), cond_false, x_arrF h.2.1 ha, pd_bI_of, h0, decide_eq_true (rfl : (0 : Int32) = 0), cond_true, X_df_s h.2.1 hj n2 n1, pd_bI_of]
      · rw [M_changed_eq, M_slot, e, pd_bI_of, decide_eq_false (by decide : ¬ (1 : Int32) = 0), cond_false, m_arrF hw g ha, pd_bI_of, h0, decide_eq_true (by decide : (0 : Int32) ≤ 0), cond_true, M_df_s g hj n2 h0 n1, pd_bI_of]
    · refine JI.same (v := -10 - c_arrF (s_kd S) (nI j)) h ?_ (fun g => ?_)
      · rw [X_changed_eq, X_slot, e, pd_bI_of, decide_eq_false (by decide : ¬ (1 : Int32) = 0), cond_false, x_arrF h.2.1 ha, pd_bI_of, decide_eq_false h0, cond_false, X_findingCode_s, pd_bI_of]
      · rw [M_changed_eq, M_slot, e, pd_bI_of, decide_eq_false (by decide : ¬ (1 : Int32) = 0), cond_false, m_arrF hw g ha, pd_bI_of, c_arr_le, decide_eq_false h0, cond_false, m_arrF hw g ha, pd_bI_of, M_refused_s, pd_bI_of]
  · exact JI.same (v := -2) h (by rw [X_changed_eq, X_slot, e]; rfl) (fun g => by rw [M_changed_eq, M_slot, e]; rfl)
/-- over all slots -/
def s_all (S : cS) : Nat → Nat → Int32 → Int32
  | 0, _, s => s
  | d + 1, j, s => s_all S d (j + 1) (cond (decide (c_arrF (s_kd S) (nI j) = 0)) (s + s_df S j (s_n S j)) s)
theorem X_all_s (hw : s_wf S) (h : RX σ S) : X_allDifferences (σ.2.2 0 + 3) 4 σ = some (σ, some (pd_i (s_all S 6 0 0))) := by
  have loop : ∀ (d j : Nat) (s : Int32), j + d = 6 → X_allDifferences_L5 (σ.2.2 0 + 3) 4 s (nI j) σ = some (σ, some (pd_i (s_all S d j s))) := by
    intro d
    induction d with
    | zero =>
      intro j s hj
      have hj : j = 6 := hj
      rw [X_allDifferences_L5_eq, hj]; rfl
    | succ d ih =>
      intro j s hj
      have hj6 : j < 6 := by omega
      obtain ⟨n1, n2⟩ := s_n_ok hw hj6
      rw [X_allDifferences_L5_eq, show (6 : Int32) = nI 6 from rfl, decide_eq_false (nI_ge hj6 (by decide)), cond_false, x_arrF h (pu_sl_j hj6), pd_bI_of, X_df_s h hj6 n2 n1, pd_bI_of, nI_1, ih (j + 1) _ (by omega), ih (j + 1) _ (by omega)]
      show _ = some (σ, some (pd_i (s_all S d (j + 1) (cond (decide (c_arrF (s_kd S) (nI j) = 0)) (s + s_df S j (s_n S j)) s))))
      cases decide (c_arrF (s_kd S) (nI j) = 0) <;> rfl
  rw [X_allDifferences_eq]
  exact loop 6 0 0 rfl
theorem c_in_arr {kd : Nat → Int32} (hk : c_kok kd) {a : Int32} (ha : pu_sl a) : c_in (kd a.toNatClampNeg) 0 12 = cond (decide (c_arrF kd a = 0)) 1 0 := by
  unfold c_arrF
  rcases hk _ (pu_sl_cl ha) with e | ⟨k, h2, e⟩
  · rw [e]; decide
  · rw [e]
    have : ∀ k, k < 15 → c_in (nI k) 0 12 = cond (decide (cond (decide (nI k = (-1 : Int32))) (1 : Int32) (cond (decide (nI k ≤ (12 : Int32))) 0 2) = 0)) 1 0 := by decide +kernel
    exact this k h2
theorem M_all_s (hw : s_wf S) (h : RM σ S) : M_changedNow σ = some (σ, some (pd_i (s_all S 6 0 0))) := by
  have loop : ∀ (d j : Nat) (s : Int32), j + d = 6 → M_changedNow_L4 s (nI j) σ = some (σ, some (pd_i (s_all S d j s))) := by
    intro d
    induction d with
    | zero =>
      intro j s hj
      have hj : j = 6 := hj
      rw [M_changedNow_L4_eq, hj]; rfl
    | succ d ih =>
      intro j s hj
      have hj6 : j < 6 := by omega
      obtain ⟨n1, n2⟩ := s_n_ok hw hj6
      have hsl := pu_sl_j hj6
      have e : ∀ (A B : Option pd_R), cond (decide ((cond (decide (c_arrF (s_kd S) (nI j) = 0)) (1 : Int32) 0) = 0)) A B = cond (decide (c_arrF (s_kd S) (nI j) = 0)) B A := fun A B => by
        cases decide (c_arrF (s_kd S) (nI j) = 0) <;> rfl
      rw [M_changedNow_L4_eq, show (6 : Int32) = nI 6 from rfl, decide_eq_false (nI_ge hj6 (by decide)), cond_false, M_isRow_s hsl, pd_bI_of, s_kdM h hsl, c_in_arr hw.1.1 hsl, e, nI_1, Int32.add_zero, ih (j + 1) _ (by omega)]
      show _ = some (σ, some (pd_i (s_all S d (j + 1) (cond (decide (c_arrF (s_kd S) (nI j) = 0)) (s + s_df S j (s_n S j)) s))))
      by_cases h0 : c_arrF (s_kd S) (nI j) = 0
      · rw [decide_eq_true h0, cond_true, cond_true, M_df_s h hj6 n2 h0 n1, pd_bI_of, ih (j + 1) _ (by omega)]
      · rw [decide_eq_false h0, cond_false, cond_false]
  rw [M_changedNow_eq]
  exact loop 6 0 0 rfl
end DIFF
