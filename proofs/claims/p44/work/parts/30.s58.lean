/-! (whole, 58.settle) -/
/-! Settle. -/
theorem c_ply_cells {kd sz : Nat → Int32} {chg : Nat → cC} (hk : c_kok kd) (hz : c_zok sz) : ∀ {t : List Nat} {R : cR}, c_cells kd sz R.1 R.2.1 → (∀ a ∈ t, c_chok (chg a)) → (c_ply kd sz chg t R).1 = none → c_cells kd sz (c_ply kd sz chg t R).2.1 (c_ply kd sz chg t R).2.2.1 := by
  intro t
  induction t with
  | nil => intro R h _ _; exact h
  | cons a t ih =>
    intro R h hc hn
    by_cases h0 : c_fd kd sz R (chg a) = 0
    · rw [c_ply_ok h0] at hn ⊢
      exact ih (c_one_cells hk hz h (hc a List.mem_cons_self) h0) (fun b hb => hc b (List.mem_cons_of_mem _ hb)) hn
    · rw [c_ply_bad h0] at hn; cases hn
theorem c_cells_congr {kd sz t t' : Nat → Int32} {n n' : Nat → Int64} (h : c_cells kd sz t n) (e : ∀ c, c < 72 → t' c = t c ∧ n' c = n c) : c_cells kd sz t' n' := fun j hj ha i hi hs => by
  obtain ⟨e1, e2⟩ := e (12 * j + i) (by omega)
  rw [e1, e2]
  exact h j hj ha i hi hs
section SETTLE
variable {σ : pd_H} {S : cS}
theorem s_chk (hw : s_wf S) {l : List Nat} (hl : s_ord S l) : ∀ a ∈ c_line (s_ln S) l, c_chok (s_ch S a) := fun a ha => by
  obtain ⟨p, h1, k, h2, rfl⟩ := c_line_mem ha
  exact (hw.2.1.2.2 p k (Or.inl (hl.2 p h1)) h2).1
theorem s_cells (hw : s_wf S) {l : List Nat} (hl : s_ord S l) (hp : (s_play S l).1 = none) : c_cells (s_kd S) (s_sz S) (s_play S l).2.1 (s_play S l).2.2.1 := c_ply_cells hw.1.1 hw.1.2.1 (R := c_r0 (s_bt S) (s_bn S)) hw.1.2.2 (s_chk hw hl) hp
def s_set (S : cS) : cS := (s_kd S, s_sz S, pu_cp (s_play S (s_or S)).2.1 (s_bt S) 72, pu_cpL (s_play S (s_or S)).2.2.1 (s_bn S) 72, s_ch S, s_ln S, 0, [], [], [], s_tp S, s_fl S, s_mt S)
theorem pu_cp_in {f g : Nat → Int32} {n i : Nat} (h : i < n) : pu_cp f g n i = f i := if_pos h
theorem pu_cpL_in {f g : Nat → Int64} {n i : Nat} (h : i < n) : pu_cpL f g n i = f i := if_pos h
theorem s_set_wf (hw : s_wf S) : s_wf (s_set S) := by
  refine ⟨⟨hw.1.1, hw.1.2.1, c_cells_congr (s_cells hw hw.2.2.1.1 hw.2.2.2.1) (fun c hc => ⟨pu_cp_in hc, pu_cpL_in hc⟩)⟩, ⟨Nat.zero_le _, hw.2.1.2.1, fun p k hp hk => ?_⟩, ⟨s_ord0, s_ord0, (fun p hp => by cases hp), Nat.zero_le _, (fun l hl => by cases hl)⟩, rfl, hw.2.2.2.2⟩
  rcases hp with q | q
  · exact absurd q (Nat.not_lt_zero p)
  · exact hw.2.1.2.2 p k (Or.inr q) hk
theorem pu_cp_ext {f f' g g' : Nat → Int32} {n : Nat} (h : ∀ i, i < n → f i = f' i) (hg : g = g') : pu_cp f g n = pu_cp f' g' n := by
  subst hg
  funext i
  unfold pu_cp
  by_cases hi : i < n
  · rw [if_pos hi, if_pos hi]; exact h i hi
  · rw [if_neg hi, if_neg hi]
theorem pu_cpL_ext {f f' g g' : Nat → Int64} {n : Nat} (h : ∀ i, i < n → f i = f' i) (hg : g = g') : pu_cpL f g n = pu_cpL f' g' n := by
  subst hg
  funext i
  unfold pu_cpL
  by_cases hi : i < n
  · rw [if_pos hi, if_pos hi]; exact h i hi
  · rw [if_neg hi, if_neg hi]
theorem X_settle_s (hw : s_wf S) (h : RX σ S) : ∃ τ, X_settle σ = some (τ, some (pd_i (nI (s_or S).length))) ∧ RX τ (s_set S) ∧ XF σ τ := by
  have hrun := x_run h
  have hw' := s_set_wf hw
  obtain ⟨⟨a1, a2, a3, a4⟩, ⟨b1, b2, b3⟩, hrt, ⟨c1, c2, c3⟩, ⟨d1, d2, d3⟩, d4, d5, d6⟩ := h
  have L4 : pd_len (σ.2.2 0 + 3 + 1) = 72 := by rcases hrun with q | q <;> rw [q.1] <;> rfl
  have L5 : pd_len (σ.2.2 0 + 3 + 2) = 72 := by rcases hrun with q | q <;> rw [q.1] <;> rfl
  have hb := Values_becomeLike_s (o := 4) (q := σ.2.2 0 + 3) (N := 72) rfl rfl L4 L5 (by decide) (by omega) σ
  generalize hτ0 : pu_rwJ (pu_rwI σ (4 + 1) (pu_cp (σ.1 (σ.2.2 0 + 3 + 1)) (σ.1 (4 + 1)) 72)) (4 + 2) (pu_cpL (σ.2.1 (σ.2.2 0 + 3 + 2)) (σ.2.1 (4 + 2)) 72) = τ0 at hb
  have t5 : τ0.1 5 = s_bt (s_set S) := by
    rw [← hτ0, pu_x1, pu_w1s]
    exact pu_cp_ext (fun i hi => (c2.1 i hi).1) a3
  have t6 : τ0.2.1 6 = s_bn (s_set S) := by
    rw [← hτ0, pu_x2s]
    exact pu_cpL_ext (fun i hi => (c2.1 i hi).2.1) a4
  have f0 : pu_fr (fun k => k = 5 ∨ k = 6) σ τ0 := by
    rw [← hτ0]
    exact (pu_fr.rwI (K := fun k => k = 5 ∨ k = 6) (Or.inl rfl)).tr (pu_fr.rwJ (K := fun k => k = 5 ∨ k = 6) (Or.inr rfl))
  generalize hτ1 : pd_upI (pd_upI (pd_upI (pd_upI τ0 7 2 0) 0 7 0) 17 1 0) (σ.2.2 0 + 1) 1 0 = τ1
  have f1 : pu_fr (fun k => k = 7 ∨ k = 0 ∨ k = 17 ∨ k = σ.2.2 0 + 1) τ0 τ1 := by
    rw [← hτ1]
    exact (((pu_fr.upI (K := fun k => k = 7 ∨ k = 0 ∨ k = 17 ∨ k = σ.2.2 0 + 1) (by omega)).tr (pu_fr.upI (K := fun k => k = 7 ∨ k = 0 ∨ k = 17 ∨ k = σ.2.2 0 + 1) (by omega))).tr (pu_fr.upI (K := fun k => k = 7 ∨ k = 0 ∨ k = 17 ∨ k = σ.2.2 0 + 1) (by omega))).tr (pu_fr.upI (K := fun k => k = 7 ∨ k = 0 ∨ k = 17 ∨ k = σ.2.2 0 + 1) (by omega))
  have e1 : ∀ k, k ≠ 5 → k ≠ 6 → k ≠ 7 → k ≠ 0 → k ≠ 17 → k ≠ σ.2.2 0 + 1 → τ1.1 k = σ.1 k := fun k h1 h2 h3 h4 h5 h6 => by rw [f1.1 k (by omega), f0.1 k (by omega)]
  have hs1 : pu_seq τ1 (σ.2.2 0 + 1) [] := ⟨by rw [← hτ1, pu_u1s, pk_us]; rfl, Nat.zero_le _, fun i x hx => by cases hx⟩
  have hsh : x_sh τ1 (s_set S) := ⟨by rw [e1 2 (by decide) (by decide) (by decide) (by decide) (by decide) (by omega)]; exact a1, by rw [e1 3 (by decide) (by decide) (by decide) (by decide) (by decide) (by omega)]; exact a2, by rw [f1.1 5 (by omega)]; exact t5, by rw [f1.2.1 6 (by omega)]; exact t6⟩
  have k7 : τ1.1 7 2 = 0 := by rw [← hτ1, pu_u1n (by omega), pu_u1n (by decide), pu_u1n (by decide), pu_u1s, pk_us]
  have k0 : ∀ j, j ≠ 7 → τ1.1 0 j = σ.1 0 j := fun j hj => by rw [← hτ1, pu_u1n (by omega), pu_u1n (by decide), pu_u1s, pk_un hj, pu_u1n (by decide), f0.1 0 (by decide)]
  have k07 : τ1.1 0 7 = 0 := by rw [← hτ1, pu_u1n (by omega), pu_u1n (by decide), pu_u1s, pk_us]
  have k17 : τ1.1 17 1 = 0 := by rw [← hτ1, pu_u1n (by omega), pu_u1s, pk_us]
  have hbk : x_bk τ1 (s_set S) := by
    refine ⟨fun p k hp hk => ?_, fun p hp => ?_, k7⟩
    · have hx : x_chg τ1 (6 * p + k) = x_chg σ (6 * p + k) := by unfold x_chg; rw [e1 _ (by omega) (by omega) (by omega) (by omega) (by omega) (by
        rcases hp with q | q
        · exact absurd q (Nat.not_lt_zero p)
        · omega)]
      rw [hx]
      rcases hp with q | q
      · exact absurd q (Nat.not_lt_zero p)
      · exact b1 p k (Or.inr q) hk
    · rw [e1 9 (by decide) (by decide) (by decide) (by decide) (by decide) (by omega)]; exact b2 p hp
  obtain ⟨τ, u1, u2, -, u4, -⟩ := x_play hw' hsh hbk (show σ.2.2 0 = 32 ∨ σ.2.2 0 = 48 ∨ σ.2.2 0 = 64 by omega) hs1 s_ord0
  obtain ⟨w1, -, -⟩ := u4 s_play0
  have e2 : ∀ k, ¬ (σ.2.2 0 ≤ k ∧ k < σ.2.2 0 + 16) → τ.1 k = τ1.1 k := fun k hk => u2.1 k (fun q => hk (x_plK_in k q))
  have e3 : ∀ k, ¬ (σ.2.2 0 ≤ k ∧ k < σ.2.2 0 + 16) → τ.2.1 k = τ1.2.1 k := fun k hk => u2.2.1 k (fun q => hk (x_plK_in k q))
  have e22 : τ.2.2 = σ.2.2 := by rw [u2.2.2, f1.2.2, f0.2.2]
  refine ⟨τ, ?_, ⟨⟨?_, ?_, ?_, ?_⟩, ⟨?_, ?_, ?_⟩, ?_, ⟨?_, ?_, fun p hp => by cases hp⟩, ⟨⟨?_, Nat.zero_le _, (fun i x hx => by cases hx)⟩, ?_, (fun v l hv => by cases hv)⟩, ?_, ?_, ?_⟩, ?_⟩
  · rw [X_settle_eq, hb, pd_bV_of]
    have e0 : (pd_upI (pd_upI (pd_upI τ0 7 2 0) 0 7 0) 17 1 0).2.2 0 = σ.2.2 0 := by
      show τ0.2.2 0 = _
      rw [f0.2.2]
    rw [e0, hτ1]
    have e00 : τ1.2.2 0 = σ.2.2 0 := by rw [f1.2.2, f0.2.2]
    rw [e00, u1, pd_bV_of, c1.1]
  · rw [e2 2 (by omega)]; exact hsh.1
  · rw [e2 3 (by omega)]; exact hsh.2.1
  · rw [e2 5 (by omega)]; exact hsh.2.2.1
  · rw [e3 6 (by omega)]; exact hsh.2.2.2
  · intro p k hp hk
    have hp24 : p = 24 := by
      rcases hp with q | q
      · exact absurd q (Nat.not_lt_zero p)
      · exact q
    have hx : x_chg τ (6 * p + k) = x_chg τ1 (6 * p + k) := by unfold x_chg; rw [e2 _ (by omega)]
    rw [hx]; exact hbk.1 p k hp hk
  · intro p hp; rw [e2 9 (by omega)]; exact hbk.2.1 p hp
  · rw [e2 7 (by omega)]; exact hbk.2.2
  · rw [e22]; exact hrt
  · rw [e22]; exact hs1.of (by rw [u2.1 _ (by unfold x_plK x_stK x_ddK; omega)]) (by rw [u2.1 _ (by unfold x_plK x_stK x_ddK; omega)])
  · rw [e22]; exact x_rw_of (S := s_set S) w1
  · rw [e2 17 (by omega), k17]; rfl
  · rw [e2 0 (by omega), k07]; rfl
  · rw [e2 10 (by omega), e2 11 (by omega), e1 10 (by decide) (by decide) (by decide) (by decide) (by decide) (by omega), e1 11 (by decide) (by decide) (by decide) (by decide) (by decide) (by omega)]; exact d4
  · rw [e2 0 (by omega), k0 11 (by decide), k0 12 (by decide), k0 13 (by decide)]; exact d5
  · rw [e2 16 (by omega), e1 16 (by decide) (by decide) (by decide) (by decide) (by decide) (by omega)]; exact d6
  · exact (XF.of f0 (fun k hk => by omega)).tr ((XF.of f1 (fun k hk => by omega)).tr (XF.of u2 (fun k hk => by have := x_plK_in k hk; omega)))
end SETTLE
/-! (whole, 59.diff) -/
/-! What differs. -/
def c_cels (j i : Nat) : Nat → List Nat
  | 0 => []
  | d + 1 => (12 * j + i) :: c_cels j (i + 1) d
theorem c_cels_mem {j : Nat} : ∀ {d i c : Nat}, c ∈ c_cels j i d → ∃ k, i ≤ k ∧ k < i + d ∧ c = 12 * j + k := by
  intro d
  induction d with
  | zero => intro i c h; cases h
  | succ d ih =>
    intro i c h
    rcases List.mem_cons.mp h with h | h
    · exact ⟨i, Nat.le_refl _, by omega, h⟩
    · obtain ⟨k, h1, h2, h3⟩ := ih h
      exact ⟨k, by omega, by omega, h3⟩
section DIFF
variable {σ : pd_H} {S : cS}
theorem X_differences_s {j n o q : Nat} (hj : j < 6) (hn : n ≤ 12) (hsz : σ.1 3 j = nI n) (h1 : pd_len (o + 1) = 72) (h2 : pd_len (o + 2) = 72) (g1 : pd_len (q + 1) = 72) (g2 : pd_len (q + 2) = 72) : X_differences (nI j) o q σ = some (σ, some (pd_i (c_mvb (σ.1 (o + 1)) (σ.1 (q + 1)) (σ.2.1 (o + 2)) (σ.2.1 (q + 2)) (c_cels j 0 n) 0))) := by
  have loop : ∀ (d i : Nat) (s : Int32), i + d = n → X_differences_L6 (nI j) o q s (nI i) σ = some (σ, some (pd_i (c_mvb (σ.1 (o + 1)) (σ.1 (q + 1)) (σ.2.1 (o + 2)) (σ.2.1 (q + 2)) (c_cels j i d) s))) := by
    intro d
    induction d with
    | zero =>
      intro i s hi
      have hi : i = n := hi
      rw [X_differences_L6_eq, show pd_len 3 = 6 from rfl, pu_obN hj (by decide), cond_false, nI_clamp (by omega), hsz, hi, decide_eq_true (nI_le (Nat.le_refl _) (by omega)), cond_true]
      rfl
    | succ d ih =>
      intro i s hi
      rw [X_differences_L6_eq, show pd_len 3 = 6 from rfl, pu_obN hj (by decide), cond_false, nI_clamp (by omega), hsz, decide_eq_false (nI_ge (show i < n by omega) (by omega)), cond_false, X_cellOf_s, pd_bI_of, c_cell_nI hj (by omega), Values_equalAt_s σ h1 h2 g1 g2 (show 12 * j + i < 72 by omega) (by decide), pd_bI_of, nI_1, ih (i + 1) _ (by omega), ih (i + 1) _ (by omega)]
      show _ = some (σ, some (pd_i (c_mvb _ _ _ _ (c_cels j (i + 1) d) (cond (decide (σ.1 (o + 1) (12 * j + i) = σ.1 (q + 1) (12 * j + i)) && decide (σ.2.1 (o + 2) (12 * j + i) = σ.2.1 (q + 2) (12 * j + i))) s (s + 1)))))
      cases decide (σ.1 (o + 1) (12 * j + i) = σ.1 (q + 1) (12 * j + i)) with
      | false => rfl
      | true => cases decide (σ.2.1 (o + 2) (12 * j + i) = σ.2.1 (q + 2) (12 * j + i)) <;> rfl
  rw [X_differences_eq]
  exact loop n 0 0 (Nat.zero_add _)
/-- how many places of a slot are other than its base -/
def s_df (S : cS) (j n : Nat) : Int32 := c_mvb (s_play S (s_or S)).2.1 (s_bt S) (s_play S (s_or S)).2.2.1 (s_bn S) (c_cels j 0 n) 0
theorem X_df_s (h : RX σ S) {j n : Nat} (hj : j < 6) (hn : n ≤ 12) (hsz : s_sz S j = nI n) : X_differences (nI j) (σ.2.2 0 + 3) 4 σ = some (σ, some (pd_i (s_df S j n))) := by
  have hrun := x_run h
  rw [X_differences_s hj hn (by rw [h.1.2.1]; exact hsz) (by rcases hrun with q | q <;> rw [q.1] <;> rfl) (by rcases hrun with q | q <;> rw [q.1] <;> rfl) rfl rfl]
  unfold s_df
  rw [c_mvb_congr (u := (s_play S (s_or S)).2.1) (u' := s_bt S) (v := (s_play S (s_or S)).2.2.1) (v' := s_bn S) (fun c hc => ?_)]
  obtain ⟨k, k1, k2, rfl⟩ := c_cels_mem hc
  obtain ⟨g1, g2, g3⟩ := x_cell h (c := 12 * j + k) (by omega)
  exact ⟨g1, by rw [show (4 : Nat) + 1 = 5 from rfl, h.1.2.2.1], g2, by rw [show (4 : Nat) + 2 = 6 from rfl, h.1.2.2.2]⟩
theorem pu_sl_j {j : Nat} (hj : j < 6) : pu_sl (nI j) := ⟨nI_pos (by omega), nI_ge hj (by decide)⟩
def s_n (S : cS) (j : Nat) : Nat := (s_sz S j).toNatClampNeg
theorem s_n_ok (hw : s_wf S) {j : Nat} (hj : j < 6) : s_sz S j = nI (s_n S j) ∧ s_n S j ≤ 12 := by
  obtain ⟨n, h1, h2⟩ := hw.1.2.1 j hj
  unfold s_n
  rw [h2, nI_clamp (by omega)]
  exact ⟨rfl, h1⟩
/-- over all slots -/
def s_all (S : cS) : Nat → Nat → Int32 → Int32
  | 0, _, s => s
  | d + 1, j, s => s_all S d (j + 1) (cond (decide (c_arrF (s_kd S) (nI j) = 0)) (s + s_df S j (s_n S j)) s)
theorem X_all_s (hw : s_wf S) (h : RX σ S) : X_allDifferences (σ.2.2 0 + 3) 4 σ = some (σ, some (pd_i (s_all S 6 0 0))) := by
  have loop : ∀ (d j : Nat) (s : Int32), j + d = 6 → X_allDifferences_L5 (σ.2.2 0 + 3) 4 s (nI j) σ = some (σ, some (pd_i (s_all S d j s))) := by
    intro d
    induction d with
    | zero =>
      intro j s hj
      have hj : j = 6 := hj
      rw [X_allDifferences_L5_eq, hj]; rfl
    | succ d ih =>
      intro j s hj
      have hj6 : j < 6 := by omega
      obtain ⟨n1, n2⟩ := s_n_ok hw hj6
      rw [X_allDifferences_L5_eq, show (6 : Int32) = nI 6 from rfl, decide_eq_false (nI_ge hj6 (by decide)), cond_false, x_arrF h (pu_sl_j hj6), pd_bI_of, X_df_s h hj6 n2 n1, pd_bI_of, nI_1, ih (j + 1) _ (by omega), ih (j + 1) _ (by omega)]
      show _ = some (σ, some (pd_i (s_all S d (j + 1) (cond (decide (c_arrF (s_kd S) (nI j) = 0)) (s + s_df S j (s_n S j)) s))))
      cases decide (c_arrF (s_kd S) (nI j) = 0) <;> rfl
  rw [X_allDifferences_eq]
  exact loop 6 0 0 rfl
end DIFF
/-! (whole, 60.count) -/
/-! Counts. -/
def c_pc (M : Nat) : Nat := M % 2 + M / 2 % 2 + M / 4 % 2 + M / 8 % 2 + M / 16 % 2 + M / 32 % 2
theorem J_bitCount_s {M : Nat} (hM : M < 64) (σ : pd_H) : J_bitCount (nI M) σ = some (σ, some (pd_i (nI (c_pc M)))) := by
  rw [J_bitCount_eq]
  refine congrArg (fun v => some (σ, some (pd_i v))) ?_
  clear σ
  revert hM
  revert M
  decide +kernel
theorem c_pc_or {M k : Nat} (hM : M < 64) (hk : k < 6) (h : M.testBit k = false) : c_pc (M ||| 2 ^ k) = c_pc M + 1 ∧ M ||| 2 ^ k < 64 ∧ nI M ||| ((1 : Int32) <<< (nI k &&& 31)) = nI (M ||| 2 ^ k) := by
  have : ∀ M, M < 64 → ∀ k, k < 6 → M.testBit k = false → c_pc (M ||| 2 ^ k) = c_pc M + 1 ∧ M ||| 2 ^ k < 64 ∧ nI M ||| ((1 : Int32) <<< (nI k &&& 31)) = nI (M ||| 2 ^ k) := by decide +kernel
  exact this M hM k hk h
/-- dead ones in a line; in a patch -/
def c_dd (chg : Nat → cC) (a : Nat) (t : List Nat) : Nat := cond (decide (c_need chg t (c_tc (chg a)) = 0)) 1 0
def c_dn (chg : Nat → cC) : List Nat → Nat
  | [] => 0
  | a :: t => c_dd chg a t + c_dn chg t
def c_dp (chg : Nat → cC) (p : Nat) : List Nat → Nat
  | [] => 0
  | a :: t => cond (Nat.beq (a / 6) p) (c_dd chg a t) 0 + c_dp chg p t
theorem c_mask_bc {chg : Nat → cC} {p : Nat} : ∀ {t : List Nat}, t.Nodup → ∃ M, M < 64 ∧ c_mask chg t p = nI M ∧ (∀ k, M.testBit k = true → 6 * p + k ∈ t) ∧ c_pc M = c_dp chg p t := by
  intro t
  induction t with
  | nil => intro _; exact ⟨0, by decide, rfl, (fun k hk => by rw [Nat.zero_testBit] at hk; cases hk), rfl⟩
  | cons a t ih =>
    intro hnd
    obtain ⟨ha, ht⟩ := List.nodup_cons.mp hnd
    obtain ⟨M, h1, h2, h3, h4⟩ := ih ht
    show ∃ M, M < 64 ∧ cond (decide (c_need chg t (c_tc (chg a)) = 0) && Nat.beq (a / 6) p) (c_mask chg t p ||| c_bit a) (c_mask chg t p) = nI M ∧ (∀ k, M.testBit k = true → 6 * p + k ∈ a :: t) ∧ c_pc M = cond (Nat.beq (a / 6) p) (cond (decide (c_need chg t (c_tc (chg a)) = 0)) 1 0) 0 + c_dp chg p t
    by_cases e : a / 6 = p
    · rw [e, Nat.beq_refl, Bool.and_true]
      cases decide (c_need chg t (c_tc (chg a)) = 0) with
      | false => exact ⟨M, h1, h2, fun k hk => List.mem_cons_of_mem _ (h3 k hk), by rw [h4]; exact (Nat.zero_add _).symm⟩
      | true =>
        have ea : 6 * p + a % 6 = a := by rw [← e]; exact Nat.div_add_mod a 6
        have hb : M.testBit (a % 6) = false := by
          cases hb : M.testBit (a % 6) with
          | false => rfl
          | true => exact absurd (ea ▸ h3 _ hb) ha
        obtain ⟨g1, g2, g3⟩ := c_pc_or h1 (Nat.mod_lt a (by decide)) hb
        refine ⟨M ||| 2 ^ (a % 6), g2, ?_, fun k hk => ?_, ?_⟩
        · rw [cond_true, h2]; exact g3
        · rw [Nat.testBit_or, Bool.or_eq_true] at hk
          rcases hk with hk | hk
          · exact List.mem_cons_of_mem _ (h3 k hk)
          · rw [Nat.testBit_two_pow] at hk
            rw [← of_decide_eq_true hk, ea]; exact List.mem_cons_self
        · rw [g1, h4, Nat.add_comm]; rfl
    · rw [c_beq_f e, Bool.and_false]
      exact ⟨M, h1, h2, fun k hk => List.mem_cons_of_mem _ (h3 k hk), by rw [h4]; exact (Nat.zero_add _).symm⟩
def c_sum (f : Nat → Nat) : List Nat → Nat
  | [] => 0
  | p :: l => f p + c_sum f l
theorem c_sum_none {f : Nat → Nat} {q d : Nat} : ∀ {l : List Nat}, q ∉ l → c_sum (fun p => cond (Nat.beq q p) d 0 + f p) l = c_sum f l := by
  intro l
  induction l with
  | nil => intro _; rfl
  | cons p l ih =>
    intro h
    show (cond (Nat.beq q p) d 0 + f p) + c_sum _ l = f p + c_sum f l
    rw [ih (fun g => h (List.mem_cons_of_mem _ g)), c_beq_f (fun e => h (by rw [e]; exact List.mem_cons_self)), cond_false, Nat.zero_add]
theorem c_sum_one {f : Nat → Nat} {q d : Nat} : ∀ {l : List Nat}, l.Nodup → q ∈ l → c_sum (fun p => cond (Nat.beq q p) d 0 + f p) l = d + c_sum f l := by
  intro l
  induction l with
  | nil => intro _ h; cases h
  | cons p l ih =>
    intro hnd h
    obtain ⟨h1, h2⟩ := List.nodup_cons.mp hnd
    show (cond (Nat.beq q p) d 0 + f p) + c_sum _ l = d + (f p + c_sum f l)
    by_cases e : q = p
    · subst e
      rw [Nat.beq_refl, cond_true, c_sum_none h1]; omega
    · have hq : q ∈ l := by
        rcases List.mem_cons.mp h with g | g
        · exact absurd g e
        · exact g
      rw [c_beq_f e, cond_false, ih h2 hq]; omega
theorem c_sum_dn {chg : Nat → cC} {l : List Nat} (hnd : l.Nodup) : ∀ {t : List Nat}, (∀ a ∈ t, a / 6 ∈ l) → c_sum (fun p => c_dp chg p t) l = c_dn chg t := by
  intro t
  induction t with
  | nil =>
    intro _
    show c_sum (fun _ => 0) l = 0
    induction l with
    | nil => rfl
    | cons p l ih => show 0 + c_sum (fun _ => 0) l = 0; rw [ih (List.nodup_cons.mp hnd).2 (fun a ha => by cases ha)]
  | cons a t ih =>
    intro h
    show c_sum (fun p => cond (Nat.beq (a / 6) p) (c_dd chg a t) 0 + c_dp chg p t) l = c_dd chg a t + c_dn chg t
    rw [c_sum_one hnd (h a List.mem_cons_self), ih (fun b hb => h b (List.mem_cons_of_mem _ hb))]
section COUNT
variable {σ : pd_H} {S : cS}
theorem s_lnd (hw : s_wf S) : (c_line (s_ln S) (s_or S)).Nodup := c_line_nodup hw.2.2.1.1.1 (fun p hp => hw.2.1.2.1 p (s_or25 hw p hp))
theorem X_dead_n (hw : s_wf S) (h : RX σ S) : X_deadChanges σ = some (σ, some (pd_i (nI (c_dn (s_ch S) (c_line (s_ln S) (s_or S)))))) := by
  have h24 := s_or24 hw
  obtain ⟨L2, L4, L5, L6, L7, L9, L10, L12, L13, L14, L15⟩ := pu_len_run (x_run3 h)
  have loop : ∀ (m : List Nat) (i s : Nat), i + m.length = (s_or S).length → (∀ t x, m[t]? = some x → (s_or S)[i + t]? = some x) → X_deadChanges_L4 (nI s) (nI i) σ = some (σ, some (pd_i (nI (s + c_sum (fun p => c_dp (s_ch S) p (c_line (s_ln S) (s_or S))) m)))) := by
    intro m
    induction m with
    | nil =>
      intro i s hi _
      have hi : i = (s_or S).length := hi
      rw [X_deadChanges_L4_eq, h.2.2.2.1.1.1, hi, decide_eq_true (nI_le (Nat.le_refl _) (by omega)), cond_true]
      rfl
    | cons y m ih =>
      intro i s hi hm
      have hi : i + (m.length + 1) = (s_or S).length := hi
      have hy : (s_or S)[i]? = some y := by have := hm 0 y rfl; rwa [Nat.add_zero] at this
      have hmt : ∀ t x, m[t]? = some x → (s_or S)[i + 1 + t]? = some x := fun t x h => by
        rw [show i + 1 + t = i + (t + 1) by omega]; exact hm (t + 1) x h
      have ey : σ.1 (σ.2.2 0 + 1 + 1) i = nI y := h.2.2.2.1.1.2.2 i y hy
      have hyo := List.mem_of_getElem? hy
      have y25 := s_or25 hw y hyo
      obtain ⟨M, m1, m2, -, m4⟩ := c_mask_bc (chg := s_ch S) (p := y) (s_lnd hw)
      rw [X_deadChanges_L4_eq, h.2.2.2.1.1.1, decide_eq_false (nI_ge (show i < (s_or S).length by omega) (by omega)), cond_false, (x_trl h).2.1, pu_obN (show i < 24 by omega) (by decide), cond_false, nI_clamp (by omega), ey, L15, pu_obN y25 (by decide), cond_false, nI_clamp (by omega), h.2.2.2.1.2.2 y hyo, m2, J_bitCount_s m1, pd_bI_of, m4, nI_add, nI_1, ih (i + 1) _ (by omega) hmt]
      show _ = some (σ, some (pd_i (nI (s + (c_dp (s_ch S) y (c_line (s_ln S) (s_or S)) + c_sum (fun p => c_dp (s_ch S) p (c_line (s_ln S) (s_or S))) m)))))
      rw [Nat.add_assoc]
  have l0 : X_deadChanges_L4 0 0 σ = _ := loop (s_or S) 0 0 (Nat.zero_add _) (fun t x hx => by rw [Nat.zero_add]; exact hx)
  rw [X_deadChanges_eq, l0, Nat.zero_add, c_sum_dn hw.2.2.1.1.1 (fun a ha => ?_)]
  obtain ⟨p, h1, k, h2, rfl⟩ := c_line_mem ha
  have := hw.2.1.2.1 p (s_or25 hw p h1)
  rw [show (6 * p + k) / 6 = p by omega]; exact h1
theorem X_applied_n (hw : s_wf S) (h : RX σ S) : X_appliedChanges σ = some (σ, some (pd_i (nI (c_line (s_ln S) (s_or S)).length))) := by
  have h24 := s_or24 hw
  have hbl : ∀ (q d k : Nat), (c_blk q k d).length = d := by
    intro q d
    induction d with
    | zero => intro k; rfl
    | succ d ih => intro k; show (c_blk q (k + 1) d).length + 1 = d + 1; rw [ih]
  have loop : ∀ (m : List Nat) (i s : Nat), i + m.length = (s_or S).length → (∀ t x, m[t]? = some x → (s_or S)[i + t]? = some x) → X_appliedChanges_L4 (nI s) (nI i) σ = some (σ, some (pd_i (nI (s + (c_line (s_ln S) m).length)))) := by
    intro m
    induction m with
    | nil =>
      intro i s hi _
      have hi : i = (s_or S).length := hi
      rw [X_appliedChanges_L4_eq, h.2.2.2.1.1.1, hi, decide_eq_true (nI_le (Nat.le_refl _) (by omega)), cond_true]
      rfl
    | cons y m ih =>
      intro i s hi hm
      have hi : i + (m.length + 1) = (s_or S).length := hi
      have hy : (s_or S)[i]? = some y := by have := hm 0 y rfl; rwa [Nat.add_zero] at this
      have hmt : ∀ t x, m[t]? = some x → (s_or S)[i + 1 + t]? = some x := fun t x h => by
        rw [show i + 1 + t = i + (t + 1) by omega]; exact hm (t + 1) x h
      have ey : σ.1 (σ.2.2 0 + 1 + 1) i = nI y := h.2.2.2.1.1.2.2 i y hy
      have y25 := s_or25 hw y (List.mem_of_getElem? hy)
      rw [X_appliedChanges_L4_eq, h.2.2.2.1.1.1, decide_eq_false (nI_ge (show i < (s_or S).length by omega) (by omega)), cond_false, (x_trl h).2.1, pu_obN (show i < 24 by omega) (by decide), cond_false, nI_clamp (by omega), ey, show pd_len 9 = 25 from rfl, pu_obN y25 (by decide), cond_false, nI_clamp (by omega), (h.2.1.2.1 y y25).1, nI_add, nI_1, ih (i + 1) _ (by omega) hmt]
      show _ = some (σ, some (pd_i (nI (s + (c_blk y 0 (s_ln S y) ++ c_line (s_ln S) m).length))))
      rw [List.length_append, hbl, Nat.add_assoc]
  have l0 : X_appliedChanges_L4 0 0 σ = _ := loop (s_or S) 0 0 (Nat.zero_add _) (fun t x hx => by rw [Nat.zero_add]; exact hx)
  rw [X_appliedChanges_eq, l0, Nat.zero_add]
end COUNT
/-! (whole, 61.get) -/
section GET
variable {σ : pd_H} {S : cS}
/-- a long's error -/
def c_lerr (a : Int32) : Int64 := ((-9223372036854775808) : Int64) - a.toInt64
def s_rdF (S : cS) (a w i : Int32) : Int32 := c_rdF (s_kd S) (s_sz S) a w i
def s_rd (S : cS) (a w i : Int32) : Int64 := cond (decide (s_rdF S a w i = 0)) (cond (decide (w = 8)) (cond (decide ((s_play S (s_or S)).2.1 (c_cell a i) = 11)) (c_lerr (-10 - 6)) ((s_play S (s_or S)).2.2.1 (c_cell a i))) (c_wd ((s_play S (s_or S)).2.1 (c_cell a i)) ((s_play S (s_or S)).2.2.1 (c_cell a i)) w)) (c_lerr (-10 - s_rdF S a w i))
theorem X_lerr (a : Int32) (σ : pd_H) : X_longError a σ = some (σ, some (pd_j (c_lerr a))) := X_longError_eq a σ
theorem X_numberRead_s (hw : s_wf S) (h : RX σ S) {a : Int32} (ha : pu_sl a) (w i : Int32) : X_numberRead a w i σ = some (σ, some (pd_j (s_rd S a w i))) := by
  obtain ⟨L2, L4, L5, L6, L7, L9, L10, L12, L13, L14, L15⟩ := pu_len_run (x_run3 h)
  rw [X_numberRead_eq, x_rdF h ha, pd_bI_of]
  unfold s_rd s_rdF
  by_cases h0 : c_rdF (s_kd S) (s_sz S) a w i = 0
  · obtain ⟨e1, e2⟩ := c_cell_ok hw.1.2.1.sz ha (c_rdF_idx h0)
    obtain ⟨g1, g2, g3⟩ := x_cell h e2
    rw [h0, decide_eq_true (rfl : (0 : Int32) = 0), cond_true, cond_true, X_cellOf_s, pd_bI_of, e1]
    rw [X_numberAt_eq, show σ.2.2 0 + 3 + 1 = σ.2.2 0 + 4 from rfl, show σ.2.2 0 + 3 + 2 = σ.2.2 0 + 5 from rfl, L4, L5, pu_obN e2 (by decide), cond_false, cond_false, cond_false, cond_false, nI_clamp (by omega), g1, g2, X_findingCode_s, pd_bI_of, X_lerr, pd_bJ_of, X_widened_s]
    cases decide (w = 8) with
    | false => rfl
    | true => cases decide ((s_play S (s_or S)).2.1 (c_cell a i) = 11) <;> rfl
  · rw [decide_eq_false h0, cond_false, cond_false, X_findingCode_s, pd_bI_of, X_lerr, pd_bJ_of]
def s_bm (S : cS) (b f : Int32) : cS := s_ot S (s_un S) (s_vr S) (s_tp S) (s_fl S) (c_bmp (s_mt S) b f)
theorem s_bm_wf (hw : s_wf S) (b f : Int32) : s_wf (s_bm S b f) := s_ot_wf hw hw.2.2.1.2.1 hw.2.2.1.2.2.1 hw.2.2.1.2.2.2.1 hw.2.2.1.2.2.2.2 hw.2.2.2.2.1 hw.2.2.2.2.2
theorem RX_bm (h : RX σ S) (b f : Int32) : RX (pu_rwI σ 16 (c_bmp (σ.1 16) b f)) (s_bm S b f) := by
  have hf : pu_fr (fun k => k = 16) σ (pu_rwI σ 16 (c_bmp (σ.1 16) b f)) := pu_fr.rwI rfl
  refine RX_ot h (hf.mono fun k hk => by omega) ?_
  obtain ⟨d1, d2, d3, d4⟩ := h.2.2.2.2
  refine ⟨⟨d1.1.of (by rw [hf.1 17 (by decide)]) (hf.1 18 (by decide)), by rw [hf.1 0 (by decide)]; exact d1.2.1, fun v l hv => (d1.2.2 v l hv).of (by rw [hf.1 _ (by omega)]) (hf.1 _ (by omega))⟩, by rw [hf.1 10 (by decide), hf.1 11 (by decide)]; exact d2, by rw [hf.1 0 (by decide)]; exact d3, ?_⟩
  rw [pu_w1s, d4]; rfl
theorem Tally_add_m {w : Nat} {f : Int32} (hw : w < 18) (hf : c_rng f) (σ : pd_H) : Tally_add (nI w) f σ = some (pu_rwI σ 16 (c_bmp (σ.1 16) (nI w) f), none) := by
  obtain ⟨j, h1, h2⟩ := c_row_ok hw hf
  rw [Tally_add_eq]
  unfold c_bmp
  rw [h2]
  simp only [show pd_len 16 = 108 from rfl, pu_obN h1 (show 108 < 2 ^ 31 by decide), pd_bI_of, pd_bJ_of, pd_bV_of, pd_bR_of, cond_true, cond_false]
  rfl
end GET
/-! (whole, 62.trace) -/
section TRACE
variable {σ : pd_H} {S : cS}
/-- what a log tells -/
def c_num (t : Int32) (n : Int64) : Int64 := cond (decide (t = 11)) (c_lerr (-10 - 6)) n
theorem X_numberAt_s {o n N : Nat} (h1 : pd_len (o + 1) = N) (h2 : pd_len (o + 2) = N) (hn : n < N) (hN : N < 2 ^ 31) : X_numberAt o (nI n) σ = some (σ, some (pd_j (c_num (σ.1 (o + 1) n) (σ.2.1 (o + 2) n)))) := by
  rw [X_numberAt_eq, h1, h2, pu_obN hn hN, cond_false, cond_false, nI_clamp (by omega), X_findingCode_s, pd_bI_of, X_lerr, pd_bJ_of]
  unfold c_num
  cases decide (σ.1 (o + 1) n = 11) <;> rfl
def s_tr (S : cS) (n : Nat) (c : Bool) : Int64 := cond c (c_num ((s_play S (s_or S)).2.2.2.2.1 n) ((s_play S (s_or S)).2.2.2.2.2.1 n)) (c_num ((s_play S (s_or S)).2.2.2.2.2.2.1 n) ((s_play S (s_or S)).2.2.2.2.2.2.2.1 n))
end TRACE
