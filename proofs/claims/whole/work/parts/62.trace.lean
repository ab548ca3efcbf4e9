/-! Trace, without. -/
section TRACE
variable {σ : pd_H} {S : cS}
/-- what a log tells -/
def c_num (t : Int32) (n : Int64) : Int64 := cond (decide (t = 11)) (c_lerr (-10 - 6)) n
theorem X_numberAt_s {o n N : Nat} (h1 : pd_len (o + 1) = N) (h2 : pd_len (o + 2) = N) (hn : n < N) (hN : N < 2 ^ 31) : X_numberAt o (nI n) σ = some (σ, some (pd_j (c_num (σ.1 (o + 1) n) (σ.2.1 (o + 2) n)))) := by
  rw [X_numberAt_eq, h1, h2, pu_obN hn hN, cond_false, cond_false, nI_clamp (by omega), X_findingCode_s, pd_bI_of, X_lerr, pd_bJ_of]
  unfold c_num
  cases decide (σ.1 (o + 1) n = 11) <;> rfl
def s_tr (S : cS) (n : Nat) (c : Bool) : Int64 := cond c (c_num ((s_play S (s_or S)).2.2.2.2.1 n) ((s_play S (s_or S)).2.2.2.2.2.1 n)) (c_num ((s_play S (s_or S)).2.2.2.2.2.2.1 n) ((s_play S (s_or S)).2.2.2.2.2.2.2.1 n))
theorem M_traceOf_s (h : RM σ S) {n : Nat} (hn : n < 150) (hL : n ∈ c_line (s_ln S) (s_or S)) (c : Bool) : M_traceOf (nI n) (cond c 1 0) σ = some (σ, some (pd_j (s_tr S n c))) := by
  obtain ⟨g1, g2, g3, g4, -⟩ := h.2.2.1.2.2 n hL
  have g1 : σ.1 247 n = (s_play S (s_or S)).2.2.2.2.1 n := g1
  have g2 : σ.2.1 248 n = (s_play S (s_or S)).2.2.2.2.2.1 n := g2
  have g3 : σ.1 245 n = (s_play S (s_or S)).2.2.2.2.2.2.1 n := g3
  have g4 : σ.2.1 246 n = (s_play S (s_or S)).2.2.2.2.2.2.2.1 n := g4
  have o := pu_obN hn (show 150 < 2 ^ 31 by decide)
  unfold s_tr c_num
  cases c with
  | false =>
    rw [cond_false, cond_false, M_traceOf_eq, decide_eq_true (rfl : (0 : Int32) = 0), cond_true, show pd_len 245 = 150 from rfl, o, cond_false, nI_clamp (by omega), g3, M_traceOf_L19_eq, M_refused_s, pd_bI_of, M_lerr, pd_bJ_of, decide_eq_true (rfl : (0 : Int32) = 0), cond_true, show pd_len 246 = 150 from rfl, o, cond_false, nI_clamp (by omega), g4]
    cases decide ((s_play S (s_or S)).2.2.2.2.2.2.1 n = 11) <;> rfl
  | true =>
    rw [cond_true, cond_true, M_traceOf_eq, decide_eq_false (by decide : ¬ (1 : Int32) = 0), cond_false, show pd_len 247 = 150 from rfl, o, cond_false, nI_clamp (by omega), g1, M_traceOf_L19_eq, M_refused_s, pd_bI_of, M_lerr, pd_bJ_of, decide_eq_false (by decide : ¬ (1 : Int32) = 0), cond_false, show pd_len 248 = 150 from rfl, o, cond_false, nI_clamp (by omega), g2]
    cases decide ((s_play S (s_or S)).2.2.2.2.1 n = 11) <;> rfl
theorem J_trace (h : JR σ S) (a b c : Int32) : JL (X_trace a b c) (M_trace a b c) σ := by
  have hw := h.1
  have hX := h.2.1
  rcases c_pcase a (s_pc31 hw) with ⟨p, hp, rfl⟩ | ha
  · have hpc := hw.2.1.1
    have hp25 : p < 25 := by omega
    have hl6 := hw.2.1.2.1 p hp25
    have eX : σ.1 9 p = nI (s_ln S p) := (hX.2.1.2.1 p hp25).1
    have e9 := pu_obN hp25 (show 25 < 2 ^ 31 by decide)
    have X0 : X_trace (nI p) b c σ = _ := X_trace_eq (nI p) b c σ
    rw [X_patch_1 hw hX hp, pd_bI_of, decide_eq_false (by decide : ¬ (1 : Int32) = 0), cond_false, show pd_len 9 = 25 from rfl, e9, cond_false, nI_clamp (by omega), eX] at X0
    have M0 : RM σ S → M_trace (nI p) b c σ = _ := fun _ => M_trace_eq (nI p) b c σ
    have M1 : ∀ g : RM σ S, M_trace (nI p) b c σ = (pd_bI (M_in b 0 (nI (s_ln S p) - 1) σ) fun s5 v6 => cond (decide (v6 = 0)) (pd_bJ (M_no (-2) s5) fun s7 v8 => some (s7, some (pd_j v8))) (pd_bI (M_in c 0 1 s5) fun s9 v10 => cond (decide (v10 = 0)) (pd_bJ (M_no (-2) s9) fun s17 v18 => some (s17, some (pd_j v18))) (pd_bI (M_isLaid (nI p) s9) fun s11 v12 => cond (decide (v12 = 0)) (pd_bJ (M_no (-3) s11) fun s13 v14 => some (s13, some (pd_j v14))) (pd_bJ (M_traceOf (((6 : Int32) * nI p) + b) c s11) fun s15 v16 => some (s15, some (pd_j v16)))))) := fun g => by
      rw [M_trace_eq, M_patch_1 hw g hp, pd_bI_of, decide_eq_false (by decide : ¬ (1 : Int32) = 0), cond_false, show pd_len 244 = 25 from rfl, e9, cond_false, nI_clamp (by omega), (g.2.1.2.1 p hp25).1]
    rcases c_pcase b (show s_ln S p < 2 ^ 31 by omega) with ⟨k, hk, rfl⟩ | hb
    · rcases c_pcase c (show 2 < 2 ^ 31 by decide) with ⟨d, hd, rfl⟩ | hc
      · have c1 : decide (nI d < 0) = false := decide_eq_false (nI_pos (by omega))
        have c2 : decide ((1 : Int32) < nI d) = false := decide_eq_false (nI_nlt (show d ≤ 1 by omega) (show 1 < 2 ^ 31 by decide))
        have c3 : decide (nI k < 0) = false := decide_eq_false (nI_pos (by omega))
        have c4 : decide (nI k < nI (s_ln S p)) = true := decide_eq_true (nI_lt hk (by omega))
        have n150 : 6 * p + k < 150 := by omega
        rw [c1, c2, c3, c4, cond_false, cond_false, cond_false, cond_true, X_applied_s hw hX hp, pd_bI_of, X_lerr, pd_bJ_of, X_stepOf_s, c_step_nI, pd_bI_of, pd_bI_of] at X0
        have M2 : ∀ g : RM σ S, _ := fun g => (M1 g)
        by_cases hm : p ∈ s_or S
        · obtain ⟨L2, L4, L5, L6, L7, L9, L10, L12, L13, L14, L15⟩ := pu_len_run (x_run3 hX)
          have hL := c_line_in (len := s_ln S) hm hk
          obtain ⟨g1, g2, g3, g4, -⟩ := hX.2.2.2.1.2.1.2 _ hL
          have g1 : σ.1 (σ.2.2 0 + 8 + 1) (6 * p + k) = (s_play S (s_or S)).2.2.2.2.1 (6 * p + k) := g1
          have g2 : σ.2.1 (σ.2.2 0 + 8 + 2) (6 * p + k) = (s_play S (s_or S)).2.2.2.2.2.1 (6 * p + k) := g2
          have g3 : σ.1 (σ.2.2 0 + 11 + 1) (6 * p + k) = (s_play S (s_or S)).2.2.2.2.2.2.1 (6 * p + k) := g3
          have g4 : σ.2.1 (σ.2.2 0 + 11 + 2) (6 * p + k) = (s_play S (s_or S)).2.2.2.2.2.2.2.1 (6 * p + k) := g4
          rw [c_isn_1 hm, decide_eq_false (by decide : ¬ (1 : Int32) = 0), cond_false, X_numberAt_s L12 L13 n150 (by decide), pd_bJ_of, X_numberAt_s L9 L10 n150 (by decide), pd_bJ_of, g1, g2, g3, g4] at X0
          have ed : nI d = cond (Nat.beq d 1) 1 0 := by
            match d, hd with
            | 0, _ => rfl
            | 1, _ => rfl
          refine JL.same (v := s_tr S (6 * p + k) (Nat.beq d 1)) h ?_ (fun g => ?_)
          · rw [X0]
            match d, hd with
            | 0, _ => rfl
            | 1, _ => rfl
          · rw [M1 g, M_in_s, c_in_at hk (by omega), pd_bI_of, decide_eq_false (by decide : ¬ (1 : Int32) = 0), cond_false, c_in_k (n := 2) (by decide) hd (by decide), pd_bI_of, decide_eq_false (by decide : ¬ (1 : Int32) = 0), cond_false, M_laid_s hw g hp, c_isn_1 hm, pd_bI_of, decide_eq_false (by decide : ¬ (1 : Int32) = 0), cond_false, show (6 : Int32) * nI p + nI k = nI (6 * p + k) by rw [Int32.mul_comm]; exact c_step_nI p k, ed, M_traceOf_s g n150 hL, pd_bJ_of]
        · rw [c_isn_0 hm, decide_eq_true (rfl : (0 : Int32) = 0), cond_true] at X0
          exact JL.same (v := c_lerr (-3)) h X0 (fun g => by rw [M1 g, M_in_s, c_in_at hk (by omega), pd_bI_of, decide_eq_false (by decide : ¬ (1 : Int32) = 0), cond_false, c_in_k (n := 2) (by decide) hd (by decide), pd_bI_of, decide_eq_false (by decide : ¬ (1 : Int32) = 0), cond_false, M_laid_s hw g hp, c_isn_0 hm, pd_bI_of, decide_eq_true (rfl : (0 : Int32) = 0), cond_true, M_lerr, pd_bJ_of])
      · refine JL.same (v := c_lerr (-2)) h ?_ (fun g => by rw [M1 g, M_in_s, c_in_at hk (by omega), pd_bI_of, decide_eq_false (by decide : ¬ (1 : Int32) = 0), cond_false, c_in_ko (n := 2) (by decide) (by decide) hc, pd_bI_of, decide_eq_true (rfl : (0 : Int32) = 0), cond_true, M_lerr, pd_bJ_of])
        rw [X0, X_lerr, pd_bJ_of]
        rcases hc with hc | hc
        · rw [decide_eq_true hc]; rfl
        · have h1 : decide ((1 : Int32) < c) = true := decide_eq_true (by
            rw [Int32.lt_iff_toInt_lt]
            rw [Int32.le_iff_toInt_le] at hc
            have e1 : (nI 2).toInt = 2 := by decide
            have e2 : (1 : Int32).toInt = 1 := by decide
            omega)
          rw [h1, cond_true, Bool.cond_self]
    · refine JL.same (v := c_lerr (-2)) h ?_ (fun g => by rw [M1 g, M_in_s, c_in_out (by omega) hb, pd_bI_of, decide_eq_true (rfl : (0 : Int32) = 0), cond_true, M_lerr, pd_bJ_of])
      rw [X0, X_lerr, pd_bJ_of, pu_out2 hb, Bool.cond_self, Bool.cond_self]
  · exact JL.same (v := c_lerr (-2)) h (by rw [X_trace_eq, X_patch_0 hX ha, pd_bI_of, decide_eq_true (rfl : (0 : Int32) = 0), cond_true, X_lerr, pd_bJ_of]) (fun g => by rw [M_trace_eq, M_patch_0 hw g ha, pd_bI_of, decide_eq_true (rfl : (0 : Int32) = 0), cond_true, M_lerr, pd_bJ_of])
end TRACE
