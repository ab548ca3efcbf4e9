/-! Settle. -/
theorem c_ply_cells {kd sz : Nat → Int32} {chg : Nat → cC} (hk : c_kok kd) (hz : c_zok sz) : ∀ {t : List Nat} {R : cR}, c_cells kd sz R.1 R.2.1 → (∀ a ∈ t, c_chok (chg a)) → (c_ply kd sz chg t R).1 = none → c_cells kd sz (c_ply kd sz chg t R).2.1 (c_ply kd sz chg t R).2.2.1 := by
  intro t
  induction t with
  | nil => intro R h _ _; exact h
  | cons a t ih =>
    intro R h hc hn
    by_cases h0 : c_fd kd sz R (chg a) = 0
    · rw [c_ply_ok h0] at hn ⊢
      exact ih (c_one_cells hk hz h (hc a List.mem_cons_self) h0) (fun b hb => hc b (List.mem_cons_of_mem _ hb)) hn
    · rw [c_ply_bad h0] at hn; cases hn
theorem c_cells_congr {kd sz t t' : Nat → Int32} {n n' : Nat → Int64} (h : c_cells kd sz t n) (e : ∀ c, c < 72 → t' c = t c ∧ n' c = n c) : c_cells kd sz t' n' := fun j hj ha i hi hs => by
  obtain ⟨e1, e2⟩ := e (12 * j + i) (by omega)
  rw [e1, e2]
  exact h j hj ha i hi hs
section SETTLE
variable {σ : pd_H} {S : cS}
theorem s_chk (hw : s_wf S) {l : List Nat} (hl : s_ord S l) : ∀ a ∈ c_line (s_ln S) l, c_chok (s_ch S a) := fun a ha => by
  obtain ⟨p, h1, k, h2, rfl⟩ := c_line_mem ha
  exact (hw.2.1.2.2 p k (Or.inl (hl.2 p h1)) h2).1
theorem s_cells (hw : s_wf S) {l : List Nat} (hl : s_ord S l) (hp : (s_play S l).1 = none) : c_cells (s_kd S) (s_sz S) (s_play S l).2.1 (s_play S l).2.2.1 := c_ply_cells hw.1.1 hw.1.2.1 (R := c_r0 (s_bt S) (s_bn S)) hw.1.2.2 (s_chk hw hl) hp
def s_set (S : cS) : cS := (s_kd S, s_sz S, pu_cp (s_play S (s_or S)).2.1 (s_bt S) 72, pu_cpL (s_play S (s_or S)).2.2.1 (s_bn S) 72, s_ch S, s_ln S, 0, [], [], [], s_tp S, s_fl S, s_mt S)
theorem pu_cp_in {f g : Nat → Int32} {n i : Nat} (h : i < n) : pu_cp f g n i = f i := if_pos h
theorem pu_cpL_in {f g : Nat → Int64} {n i : Nat} (h : i < n) : pu_cpL f g n i = f i := if_pos h
theorem s_set_wf (hw : s_wf S) : s_wf (s_set S) := by
  refine ⟨⟨hw.1.1, hw.1.2.1, c_cells_congr (s_cells hw hw.2.2.1.1 hw.2.2.2.1) (fun c hc => ⟨pu_cp_in hc, pu_cpL_in hc⟩)⟩, ⟨Nat.zero_le _, hw.2.1.2.1, fun p k hp hk => ?_⟩, ⟨s_ord0, s_ord0, (fun p hp => by cases hp), Nat.zero_le _, (fun l hl => by cases hl)⟩, rfl, hw.2.2.2.2⟩
  rcases hp with q | q
  · exact absurd q (Nat.not_lt_zero p)
  · exact hw.2.1.2.2 p k (Or.inr q) hk
theorem pu_cp_ext {f f' g g' : Nat → Int32} {n : Nat} (h : ∀ i, i < n → f i = f' i) (hg : g = g') : pu_cp f g n = pu_cp f' g' n := by
  subst hg
  funext i
  unfold pu_cp
  by_cases hi : i < n
  · rw [if_pos hi, if_pos hi]; exact h i hi
  · rw [if_neg hi, if_neg hi]
theorem pu_cpL_ext {f f' g g' : Nat → Int64} {n : Nat} (h : ∀ i, i < n → f i = f' i) (hg : g = g') : pu_cpL f g n = pu_cpL f' g' n := by
  subst hg
  funext i
  unfold pu_cpL
  by_cases hi : i < n
  · rw [if_pos hi, if_pos hi]; exact h i hi
  · rw [if_neg hi, if_neg hi]
theorem X_settle_s (hw : s_wf S) (h : RX σ S) : ∃ τ, X_settle σ = some (τ, some (pd_i (nI (s_or S).length))) ∧ RX τ (s_set S) ∧ XF σ τ := by
  have hrun := x_run h
  have hw' := s_set_wf hw
  obtain ⟨⟨a1, a2, a3, a4⟩, ⟨b1, b2, b3⟩, hrt, ⟨c1, c2, c3⟩, ⟨d1, d2, d3⟩, d4, d5, d6⟩ := h
  have L4 : pd_len (σ.2.2 0 + 3 + 1) = 72 := by rcases hrun with q | q <;> rw [q.1] <;> rfl
  have L5 : pd_len (σ.2.2 0 + 3 + 2) = 72 := by rcases hrun with q | q <;> rw [q.1] <;> rfl
  have hb := Values_becomeLike_s (o := 4) (q := σ.2.2 0 + 3) (N := 72) rfl rfl L4 L5 (by decide) (by omega) σ
  generalize hτ0 : pu_rwJ (pu_rwI σ (4 + 1) (pu_cp (σ.1 (σ.2.2 0 + 3 + 1)) (σ.1 (4 + 1)) 72)) (4 + 2) (pu_cpL (σ.2.1 (σ.2.2 0 + 3 + 2)) (σ.2.1 (4 + 2)) 72) = τ0 at hb
  have t5 : τ0.1 5 = s_bt (s_set S) := by
    rw [← hτ0, pu_x1, pu_w1s]
    exact pu_cp_ext (fun i hi => (c2.1 i hi).1) a3
  have t6 : τ0.2.1 6 = s_bn (s_set S) := by
    rw [← hτ0, pu_x2s]
    exact pu_cpL_ext (fun i hi => (c2.1 i hi).2.1) a4
  have f0 : pu_fr (fun k => k = 5 ∨ k = 6) σ τ0 := by
    rw [← hτ0]
    exact (pu_fr.rwI (K := fun k => k = 5 ∨ k = 6) (Or.inl rfl)).tr (pu_fr.rwJ (K := fun k => k = 5 ∨ k = 6) (Or.inr rfl))
  generalize hτ1 : pd_upI (pd_upI (pd_upI (pd_upI τ0 7 2 0) 0 7 0) 17 1 0) (σ.2.2 0 + 1) 1 0 = τ1
  have f1 : pu_fr (fun k => k = 7 ∨ k = 0 ∨ k = 17 ∨ k = σ.2.2 0 + 1) τ0 τ1 := by
    rw [← hτ1]
    exact (((pu_fr.upI (K := fun k => k = 7 ∨ k = 0 ∨ k = 17 ∨ k = σ.2.2 0 + 1) (by omega)).tr (pu_fr.upI (K := fun k => k = 7 ∨ k = 0 ∨ k = 17 ∨ k = σ.2.2 0 + 1) (by omega))).tr (pu_fr.upI (K := fun k => k = 7 ∨ k = 0 ∨ k = 17 ∨ k = σ.2.2 0 + 1) (by omega))).tr (pu_fr.upI (K := fun k => k = 7 ∨ k = 0 ∨ k = 17 ∨ k = σ.2.2 0 + 1) (by omega))
  have e1 : ∀ k, k ≠ 5 → k ≠ 6 → k ≠ 7 → k ≠ 0 → k ≠ 17 → k ≠ σ.2.2 0 + 1 → τ1.1 k = σ.1 k := fun k h1 h2 h3 h4 h5 h6 => by rw [f1.1 k (by omega), f0.1 k (by omega)]
  have hs1 : pu_seq τ1 (σ.2.2 0 + 1) [] := ⟨by rw [← hτ1, pu_u1s, pk_us]; rfl, Nat.zero_le _, fun i x hx => by cases hx⟩
  have hsh : x_sh τ1 (s_set S) := ⟨by rw [e1 2 (by decide) (by decide) (by decide) (by decide) (by decide) (by omega)]; exact a1, by rw [e1 3 (by decide) (by decide) (by decide) (by decide) (by decide) (by omega)]; exact a2, by rw [f1.1 5 (by omega)]; exact t5, by rw [f1.2.1 6 (by omega)]; exact t6⟩
  have k7 : τ1.1 7 2 = 0 := by rw [← hτ1, pu_u1n (by omega), pu_u1n (by decide), pu_u1n (by decide), pu_u1s, pk_us]
  have k0 : ∀ j, j ≠ 7 → τ1.1 0 j = σ.1 0 j := fun j hj => by rw [← hτ1, pu_u1n (by omega), pu_u1n (by decide), pu_u1s, pk_un hj, pu_u1n (by decide), f0.1 0 (by decide)]
  have k07 : τ1.1 0 7 = 0 := by rw [← hτ1, pu_u1n (by omega), pu_u1n (by decide), pu_u1s, pk_us]
  have k17 : τ1.1 17 1 = 0 := by rw [← hτ1, pu_u1n (by omega), pu_u1s, pk_us]
  have hbk : x_bk τ1 (s_set S) := by
    refine ⟨fun p k hp hk => ?_, fun p hp => ?_, k7⟩
    · have hx : x_chg τ1 (6 * p + k) = x_chg σ (6 * p + k) := by unfold x_chg; rw [e1 _ (by omega) (by omega) (by omega) (by omega) (by omega) (by
        rcases hp with q | q
        · exact absurd q (Nat.not_lt_zero p)
        · omega)]
      rw [hx]
      rcases hp with q | q
      · exact absurd q (Nat.not_lt_zero p)
      · exact b1 p k (Or.inr q) hk
    · rw [e1 9 (by decide) (by decide) (by decide) (by decide) (by decide) (by omega)]; exact b2 p hp
  obtain ⟨τ, u1, u2, -, u4, -⟩ := x_play hw' hsh hbk (show σ.2.2 0 = 32 ∨ σ.2.2 0 = 48 ∨ σ.2.2 0 = 64 by omega) hs1 s_ord0
  obtain ⟨w1, -, -⟩ := u4 s_play0
  have e2 : ∀ k, ¬ (σ.2.2 0 ≤ k ∧ k < σ.2.2 0 + 16) → τ.1 k = τ1.1 k := fun k hk => u2.1 k (fun q => hk (x_plK_in k q))
  have e3 : ∀ k, ¬ (σ.2.2 0 ≤ k ∧ k < σ.2.2 0 + 16) → τ.2.1 k = τ1.2.1 k := fun k hk => u2.2.1 k (fun q => hk (x_plK_in k q))
  have e22 : τ.2.2 = σ.2.2 := by rw [u2.2.2, f1.2.2, f0.2.2]
  refine ⟨τ, ?_, ⟨⟨?_, ?_, ?_, ?_⟩, ⟨?_, ?_, ?_⟩, ?_, ⟨?_, ?_, fun p hp => by cases hp⟩, ⟨⟨?_, Nat.zero_le _, (fun i x hx => by cases hx)⟩, ?_, (fun v l hv => by cases hv)⟩, ?_, ?_, ?_⟩, ?_⟩
  · rw [X_settle_eq, hb, pd_bV_of]
    have e0 : (pd_upI (pd_upI (pd_upI τ0 7 2 0) 0 7 0) 17 1 0).2.2 0 = σ.2.2 0 := by
      show τ0.2.2 0 = _
      rw [f0.2.2]
    rw [e0, hτ1]
    have e00 : τ1.2.2 0 = σ.2.2 0 := by rw [f1.2.2, f0.2.2]
    rw [e00, u1, pd_bV_of, c1.1]
  · rw [e2 2 (by omega)]; exact hsh.1
  · rw [e2 3 (by omega)]; exact hsh.2.1
  · rw [e2 5 (by omega)]; exact hsh.2.2.1
  · rw [e3 6 (by omega)]; exact hsh.2.2.2
  · intro p k hp hk
    have hp24 : p = 24 := by
      rcases hp with q | q
      · exact absurd q (Nat.not_lt_zero p)
      · exact q
    have hx : x_chg τ (6 * p + k) = x_chg τ1 (6 * p + k) := by unfold x_chg; rw [e2 _ (by omega)]
    rw [hx]; exact hbk.1 p k hp hk
  · intro p hp; rw [e2 9 (by omega)]; exact hbk.2.1 p hp
  · rw [e2 7 (by omega)]; exact hbk.2.2
  · rw [e22]; exact hrt
  · rw [e22]; exact hs1.of (by rw [u2.1 _ (by unfold x_plK x_stK x_ddK; omega)]) (by rw [u2.1 _ (by unfold x_plK x_stK x_ddK; omega)])
  · rw [e22]; exact x_rw_of (S := s_set S) w1
  · rw [e2 17 (by omega), k17]; rfl
  · rw [e2 0 (by omega), k07]; rfl
  · rw [e2 10 (by omega), e2 11 (by omega), e1 10 (by decide) (by decide) (by decide) (by decide) (by decide) (by omega), e1 11 (by decide) (by decide) (by decide) (by decide) (by decide) (by omega)]; exact d4
  · rw [e2 0 (by omega), k0 11 (by decide), k0 12 (by decide), k0 13 (by decide)]; exact d5
  · rw [e2 16 (by omega), e1 16 (by decide) (by decide) (by decide) (by decide) (by decide) (by omega)]; exact d6
  · exact (XF.of f0 (fun k hk => by omega)).tr ((XF.of f1 (fun k hk => by omega)).tr (XF.of u2 (fun k hk => by have := x_plK_in k hk; omega)))
theorem M_settle_s (hw : s_wf S) (h : RM σ S) : ∃ τ, M_settle σ = some (τ, some (pd_i (nI (s_or S).length))) ∧ RM τ (s_set S) ∧ MF σ τ := by
  obtain ⟨⟨a1, a2, a3⟩, ⟨b1, b2, b3⟩, ⟨⟨c1, c2, c2'⟩, c3⟩, d1, d2, d3, d4⟩ := h
  have loop : ∀ d i, i + d = 72 → M_settle_L7 (nI (s_or S).length) (nI i) (pu_rwI (pu_rwJ (pu_rwI σ 235 (pu_cp (σ.1 233) (σ.1 235) i)) 236 (pu_cpL (σ.2.1 234) (σ.2.1 236) i)) 237 (pu_cp (fun _ => -1) (σ.1 237) i)) = M_settle_L7 (nI (s_or S).length) (nI 72) (pu_rwI (pu_rwJ (pu_rwI σ 235 (pu_cp (σ.1 233) (σ.1 235) 72)) 236 (pu_cpL (σ.2.1 234) (σ.2.1 236) 72)) 237 (pu_cp (fun _ => -1) (σ.1 237) 72)) := by
    intro d
    induction d with
    | zero =>
      intro i hi
      have hi : i = 72 := hi
      rw [hi]
    | succ d ih =>
      intro i hi
      have o := pu_obN (show i < 72 by omega) (show 72 < 2 ^ 31 by decide)
      rw [← ih (i + 1) (by omega)]
      conv => lhs; rw [M_settle_L7_eq, show (72 : Int32) = nI 72 from rfl]
      simp only [nI_leI (show 72 < 2 ^ 31 by decide) (show i < 2 ^ 31 by omega), show ¬ 72 ≤ i by omega, decide_false, pd_bI_of, pd_bJ_of, pd_bV_of, pd_bR_of, cond_true, cond_false, show pd_len 233 = 72 from rfl, show pd_len 234 = 72 from rfl, show pd_len 235 = 72 from rfl, show pd_len 236 = 72 from rfl, show pd_len 237 = 72 from rfl, o, nI_clamp (show i < 2 ^ 31 by omega), nI_1]
      congr 1
      refine pu_H_ext (fun k => ?_) (fun k => ?_) rfl
      · by_cases h1 : k = 237
        · subst h1
          rw [pu_u1s, pu_j1, pu_u1n (by decide), pu_w1s, pu_w1s]
          exact pu_cp_up
        · rw [pu_u1n h1, pu_j1]
          by_cases h2 : k = 235
          · subst h2
            simp only [pu_u1s, pu_w1n (show 235 ≠ 237 by decide), pu_w1n (show 233 ≠ 237 by decide), pu_x1, pu_w1s, pu_w1n (show 233 ≠ 235 by decide)]
            exact pu_cp_up
          · simp only [pu_u1n h2, pu_w1n h1, pu_x1, pu_w1n h2]
      · rw [pu_u2]
        by_cases h1 : k = 236
        · subst h1
          rw [pu_j2s, pu_u2, pu_w2, pu_x2s, pu_x2n (by decide), pu_w2, pu_w2, pu_x2s]
          exact pu_cpL_up
        · rw [pu_j2n h1, pu_u2, pu_w2, pu_x2n h1, pu_w2, pu_w2, pu_x2n h1, pu_w2]
  have l0 := loop 72 0 (Nat.zero_add _)
  rw [pu_cp0, pu_cpL0, pu_cp0] at l0
  have e0 : pu_rwI (pu_rwJ (pu_rwI σ 235 (σ.1 235)) 236 (σ.2.1 236)) 237 (σ.1 237) = σ := by
    refine pu_H_ext (fun k => ?_) (fun k => ?_) rfl
    · by_cases h1 : k = 237
      · subst h1; rw [pu_w1s]
      · rw [pu_w1n h1, pu_x1]
        by_cases h2 : k = 235
        · subst h2; rw [pu_w1s]
        · rw [pu_w1n h2]
    · rw [pu_w2]
      by_cases h1 : k = 236
      · subst h1; rw [pu_x2s]
      · rw [pu_x2n h1, pu_w2]
  rw [e0] at l0
  generalize hτ0 : pu_rwI (pu_rwJ (pu_rwI σ 235 (pu_cp (σ.1 233) (σ.1 235) 72)) 236 (pu_cpL (σ.2.1 234) (σ.2.1 236) 72)) 237 (pu_cp (fun _ => -1) (σ.1 237) 72) = τ0 at l0
  have f0 : pu_fr (fun k => k = 235 ∨ k = 236 ∨ k = 237) σ τ0 := by
    rw [← hτ0]
    exact ((pu_fr.rwI (K := fun k => k = 235 ∨ k = 236 ∨ k = 237) (Or.inl rfl)).tr (pu_fr.rwJ (K := fun k => k = 235 ∨ k = 236 ∨ k = 237) (Or.inr (Or.inl rfl)))).tr (pu_fr.rwI (K := fun k => k = 235 ∨ k = 236 ∨ k = 237) (Or.inr (Or.inr rfl)))
  have t235 : τ0.1 235 = pu_cp (σ.1 233) (σ.1 235) 72 := by rw [← hτ0, pu_w1n (by decide), pu_x1, pu_w1s]
  have t236 : τ0.2.1 236 = pu_cpL (σ.2.1 234) (σ.2.1 236) 72 := by rw [← hτ0, pu_w2, pu_x2s]
  have t237 : τ0.1 237 = pu_cp (fun _ => -1) (σ.1 237) 72 := by rw [← hτ0, pu_w1s]
  generalize hτ1 : pd_upI (pd_upI (pd_upI (pd_upI τ0 230 19 0) 230 21 0) 230 25 0) 230 28 0 = τ1
  have f1 : pu_fr (fun k => k = 230) τ0 τ1 := by
    rw [← hτ1]
    exact (((pu_fr.upI (K := fun k => k = 230) rfl).tr (pu_fr.upI (K := fun k => k = 230) rfl)).tr (pu_fr.upI (K := fun k => k = 230) rfl)).tr (pu_fr.upI (K := fun k => k = 230) rfl)
  have k19 : τ1.1 230 19 = 0 := by rw [← hτ1, pu_u1s, pk_un (by decide), pu_u1s, pk_un (by decide), pu_u1s, pk_un (by decide), pu_u1s, pk_us]
  have k21 : τ1.1 230 21 = 0 := by rw [← hτ1, pu_u1s, pk_un (by decide), pu_u1s, pk_un (by decide), pu_u1s, pk_us]
  have k25 : τ1.1 230 25 = 0 := by rw [← hτ1, pu_u1s, pk_un (by decide), pu_u1s, pk_us]
  have k28 : τ1.1 230 28 = 0 := by rw [← hτ1, pu_u1s, pk_us]
  have k39 : τ1.1 230 39 = σ.1 230 39 := by rw [← hτ1, pu_u1s, pk_un (by decide), pu_u1s, pk_un (by decide), pu_u1s, pk_un (by decide), pu_u1s, pk_un (by decide), f0.1 230 (by decide)]
  have e1 : ∀ k, k ≠ 230 → k ≠ 235 → k ≠ 236 → k ≠ 237 → τ1.1 k = σ.1 k := fun k h1 h2 h3 h4 => by rw [f1.1 k h1, f0.1 k (by omega)]
  have e2 : ∀ k, k ≠ 230 → k ≠ 235 → k ≠ 236 → k ≠ 237 → τ1.2.1 k = σ.2.1 k := fun k h1 h2 h3 h4 => by rw [f1.2.1 k h1, f0.2.1 k (by omega)]
  have q235 : τ1.1 235 = pu_cp (σ.1 233) (σ.1 235) 72 := by rw [f1.1 235 (by decide), t235]
  have q236 : τ1.2.1 236 = pu_cpL (σ.2.1 234) (σ.2.1 236) 72 := by rw [f1.2.1 236 (by decide), t236]
  have q237 : τ1.1 237 = pu_cp (fun _ => -1) (σ.1 237) 72 := by rw [f1.1 237 (by decide), t237]
  refine ⟨τ1, ?_, ⟨⟨?_, ?_, ?_⟩, ⟨?_, ?_, ?_⟩, ⟨⟨?_, ?_, ?_⟩, ?_⟩, ⟨?_, ?_, ?_, ?_⟩, ?_, ?_, ?_⟩, ?_⟩
  · rw [M_settle_eq, c1]
    rw [show M_settle_L7 (nI (s_or S).length) 0 σ = M_settle_L7 (nI (s_or S).length) (nI 72) τ0 from l0, M_settle_L7_eq, show (72 : Int32) = nI 72 from rfl, decide_eq_true (nI_le (Nat.le_refl 72) (by decide)), cond_true, hτ1]
  · rw [e1 231 (by decide) (by decide) (by decide) (by decide), e1 232 (by decide) (by decide) (by decide) (by decide)]; exact a1
  · rw [e1 232 (by decide) (by decide) (by decide) (by decide)]; exact a2
  · intro c hc
    have hc72 := c_vc_72 hc
    obtain ⟨g1, g2, g3⟩ := c3.1 c hc
    rw [q235, q236]
    show _ = pu_cp _ _ 72 c ∧ _ = pu_cpL _ _ 72 c
    rw [pu_cp_in hc72, pu_cpL_in hc72, pu_cp_in hc72, pu_cpL_in hc72]
    exact ⟨g1, g2⟩
  · intro p k hp hk
    have hp24 : p = 24 := by
      rcases hp with q | q
      · exact absurd q (Nat.not_lt_zero p)
      · exact q
    have := b1 p k (Or.inr hp24) hk
    unfold m_is m_wr m_co at this ⊢
    rw [e1 238 (by decide) (by decide) (by decide) (by decide), e1 239 (by decide) (by decide) (by decide) (by decide), e1 240 (by decide) (by decide) (by decide) (by decide), e1 241 (by decide) (by decide) (by decide) (by decide), e1 242 (by decide) (by decide) (by decide) (by decide), e1 243 (by decide) (by decide) (by decide) (by decide)]
    exact this
  · intro p hp; rw [e1 244 (by decide) (by decide) (by decide) (by decide)]; exact b2 p hp
  · rw [k19]; rfl
  · rw [k21]; rfl
  · intro i x hx; cases hx
  · intro c hc
    rw [q237, pu_cp_in hc]; rfl
  · refine ⟨fun c hc => ?_, fun a ha => by cases ha⟩
    have hc72 := c_vc_72 hc
    obtain ⟨g1, g2, g3⟩ := c3.1 c hc
    show τ1.1 233 c = pu_cp _ _ 72 c ∧ τ1.2.1 234 c = pu_cpL _ _ 72 c ∧ τ1.1 237 c = -1
    rw [e1 233 (by decide) (by decide) (by decide) (by decide), e2 234 (by decide) (by decide) (by decide) (by decide), q237, pu_cp_in hc72, pu_cpL_in hc72, pu_cp_in hc72]
    exact ⟨g1, g2, rfl⟩
  · rw [k25]; rfl
  · intro i x hx; cases hx
  · rw [k28]; rfl
  · intro v l hv; cases hv
  · rw [k39, e1 259 (by decide) (by decide) (by decide) (by decide)]; exact d2
  · rw [e1 255 (by decide) (by decide) (by decide) (by decide)]; exact d3
  · rw [e1 256 (by decide) (by decide) (by decide) (by decide)]; exact d4
  · exact (MF.of f0 (fun k hk => by omega)).tr (MF.of f1 (fun k hk => by omega))
theorem J_settle (h : JR σ S) : JI X_settle M_settle σ := by
  obtain ⟨τ, t1, t2, t3⟩ := X_settle_s h.1 h.2.1
  exact JI.of h (s_set_wf h.1) t1 t2 t3 (fun g => M_settle_s h.1 g)
end SETTLE
