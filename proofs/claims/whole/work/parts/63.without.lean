/-! Without. -/
section WITHOUT
variable {σ : pd_H} {S : cS}
/-- what a cell would be without a patch -/
def s_wo (S : cS) (l : List Nat) (n : Nat) : Int64 := match (s_play S l).1 with
  | none => c_num ((s_play S l).2.1 n) ((s_play S l).2.2.1 n)
  | some (_, f) => c_lerr (-10 - f)
theorem s_wo_ok {l : List Nat} {n : Nat} (h : (s_play S l).1 = none) : s_wo S l n = c_num ((s_play S l).2.1 n) ((s_play S l).2.2.1 n) := by unfold s_wo; rw [h]
theorem s_wo_no {l : List Nat} {n a : Nat} {f : Int32} (h : (s_play S l).1 = some (a, f)) : s_wo S l n = c_lerr (-10 - f) := by unfold s_wo; rw [h]
theorem M_numberAt_s {n : Nat} (hn : n < 72) : M_numberAt (nI n) σ = some (σ, some (pd_j (c_num (σ.1 233 n) (σ.2.1 234 n)))) := by
  have o := pu_obN hn (show 72 < 2 ^ 31 by decide)
  rw [M_numberAt_eq, show pd_len 233 = 72 from rfl, show pd_len 234 = 72 from rfl, o, cond_false, cond_false, nI_clamp (by omega), M_refused_s, pd_bI_of, M_lerr, pd_bJ_of]
  unfold c_num
  cases decide (σ.1 233 n = 11) <;> rfl
theorem M_withoutNow_s (hw : s_wf S) (h : RM σ S) {p : Nat} (hm : p ∈ s_or S) {b c : Int32} (hb : pu_sl b) (h0 : c_eltF (s_kd S) (s_sz S) b c = 0) : ∃ τ, M_withoutNow (nI p) b c σ = some (τ, some (pd_j (s_wo S (c_rm (s_or S) p) (c_cell b c)))) ∧ RM τ S ∧ MF σ τ := by
  have hp31 : p < 2 ^ 31 := by have := s_or25 hw p hm; omega
  have h31 : ∀ x ∈ s_or S, x < 2 ^ 31 := fun x hx => by have := s_or25 hw x hx; omega
  have ho := s_ord_rm hw.2.2.1.1 p
  have hl24 := s_len24 hw ho
  obtain ⟨q1, q2⟩ := c_elt_0 h0
  obtain ⟨e1, e2⟩ := c_cell_ok hw.1.2.1.sz hb q2
  have hvc := c_vc_at hw.1.2.1.sz hb q1 q2
  obtain ⟨ρ, r1, r2, r3⟩ := M_triesWithout_s h.2.2.1.1.1 h.2.2.1.1.2.1 (s_or24 hw) h31 hp31
  have hρ := h.td r3
  obtain ⟨υ, t1, t2, t3, t4, t5⟩ := m_play hw hρ.1 hρ.2.1 ho hl24 r2.2
  have fr1 : pu_fr m_trK ρ υ := t1.mono (fun k hk => Or.inl hk)
  have hυ : RM0 υ S := hρ.z.fr fr1 (fun j hj => t2 j (by omega) (by omega) (by omega)) t3
  obtain ⟨ω, w1, w2, w3, -⟩ := M_playsLaid_s hw hυ
  have mf : MF σ ω := (r3.mf.tr (MF.of fr1 m_trK_in)).tr (MF.of w3 m_trK_in)
  refine ⟨ω, ?_, w2, mf⟩
  have e0 : M_withoutNow (nI p) b c σ = (pd_bI (M_plays (nI (c_rm (s_or S) p).length) ρ) fun s4 v5 => cond (decide (v5 ≤ 0)) (pd_bJ (M_numberAt (nI (c_cell b c)) s4) fun s6 v7 => pd_bV (M_playsLaid s6) fun s8 => some (s8, some (pd_j v7))) (pd_bI (M_refused v5 s4) fun s9 v10 => pd_bJ (M_no v10 s9) fun s11 v12 => pd_bV (M_playsLaid s11) fun s13 => some (s13, some (pd_j v12)))) := by
    rw [M_withoutNow_eq, m_eltF hw h hb, pd_bI_of, h0, decide_eq_true (by decide : (0 : Int32) ≤ 0), cond_true, r1, pd_bV_of, r2.1, m_cell_comm, e1]
  cases hp : (s_play S (c_rm (s_or S) p)).1 with
  | none =>
    obtain ⟨u1, u2⟩ := t4 hp
    obtain ⟨g1, g2, g3⟩ := u2.1.1 _ hvc
    have g1 : υ.1 233 (c_cell b c) = _ := g1
    have g2 : υ.2.1 234 (c_cell b c) = _ := g2
    rw [s_wo_ok hp, e0, u1, pd_bI_of, decide_eq_true (by decide : (0 : Int32) ≤ 0), cond_true, M_numberAt_s e2, pd_bJ_of, w1, pd_bV_of, g1, g2]
  | some q =>
    obtain ⟨u1, -, -⟩ := t5 q.1 q.2 hp
    obtain ⟨hne, hrng, -⟩ := c_ply_ne (a := q.1) (f := q.2) hp
    rw [s_wo_no (a := q.1) (f := q.2) hp, e0, u1, pd_bI_of, c_rng_le hrng, decide_eq_false hne, cond_false, M_refused_s, pd_bI_of, M_lerr, pd_bJ_of, w1, pd_bV_of]
theorem X_wo_s (hw : s_wf S) (h : RX σ S) {p : Nat} (hm : p ∈ s_or S) {b c : Int32} (hb : pu_sl b) (h0 : c_eltF (s_kd S) (s_sz S) b c = 0) : ∃ τ, X_without (nI p) b c σ = some (τ, some (pd_j (s_wo S (c_rm (s_or S) p) (c_cell b c)))) ∧ RX τ S ∧ XF σ τ := by
  have hp := hw.2.2.1.1.2 p hm
  have hp31 : p < 2 ^ 31 := by have := s_or25 hw p hm; omega
  have h31 : ∀ x ∈ s_or S, x < 2 ^ 31 := fun x hx => by have := s_or25 hw x hx; omega
  have ho := s_ord_rm hw.2.2.1.1 p
  obtain ⟨q1, q2⟩ := c_elt_0 h0
  obtain ⟨e1, e2⟩ := c_cell_ok hw.1.2.1.sz hb q2
  obtain ⟨τ1, t1, t2, t3, t4, t5⟩ := X_tr_like hw h h.2.2.2.1.1 (x_trl h).2.1 (Or.inr rfl)
  obtain ⟨τ2, u1, u2, u3, u4, u5⟩ := X_tr_rm hw t3 t2 hp31 h31
  have hr := x_run u3
  obtain ⟨τ3, v1, v2, v3, v4, v5⟩ := x_play hw u3.1 u3.2.1 (x_tr3 u3) u2 ho
  have frK : pu_fr (x_frK (τ2.2.2 1)) τ2 τ3 := v2.mono (fun k hk => by have := x_plK_in k hk; unfold x_frK; omega)
  have hX := RX_frK hw u3 frK
  have e22 : τ3.2.2 = τ2.2.2 := v2.2.2
  have hlen4 : pd_len (τ2.2.2 1 + 3 + 1) = 72 := by rcases hr with q | q <;> rw [q.2] <;> rfl
  have hlen5 : pd_len (τ2.2.2 1 + 3 + 2) = 72 := by rcases hr with q | q <;> rw [q.2] <;> rfl
  refine ⟨τ3, ?_, hX, (t4.tr u4).tr (fun k hk => ⟨v2.1 k (fun q => by have := x_plK_in k q; omega), v2.2.1 k (fun q => by have := x_plK_in k q; omega)⟩)⟩
  have e0 : X_without (nI p) b c σ = (cond (decide ((τ3.1 (τ2.2.2 1) 10) = 0)) (pd_bI (X_cellOf b c τ3) fun s14 v15 => pd_bJ (X_numberAt (τ2.2.2 1 + 3) v15 s14) fun s16 v17 => some (s16, some (pd_j v17))) (pd_bI (X_findingCode (τ3.1 (τ2.2.2 1) 10) τ3) fun s18 v19 => pd_bJ (X_longError v19 s18) fun s20 v21 => some (s20, some (pd_j v21)))) := by
    rw [X_without_eq, X_patch_1 hw h hp, pd_bI_of, decide_eq_false (by decide : ¬ (1 : Int32) = 0), cond_false, X_slot]
    rcases c_slv_cases b with ⟨-, e⟩ | ⟨-, e⟩
    · rw [e, pd_bI_of, decide_eq_false (by decide : ¬ (1 : Int32) = 0), cond_false, X_applied_s hw h hp, c_isn_1 hm, pd_bI_of, decide_eq_false (by decide : ¬ (1 : Int32) = 0), cond_false, X_elementError_0 h hb h0, pd_bI_of, decide_eq_true (rfl : (0 : Int32) = 0), cond_true, t1, pd_bV_of, u1, pd_bV_of, v1, pd_bV_of, e22]
    · exact absurd hb e
  cases hp : (s_play S (c_rm (s_or S) p)).1 with
  | none =>
    obtain ⟨w1, w2, -⟩ := v4 hp
    obtain ⟨g1, g2, g3⟩ := w1.1 _ e2
    have g1 : τ3.1 (τ2.2.2 1 + 3 + 1) (c_cell b c) = _ := g1
    have g2 : τ3.2.1 (τ2.2.2 1 + 3 + 2) (c_cell b c) = _ := g2
    rw [s_wo_ok hp, e0, w2, decide_eq_true (rfl : (0 : Int32) = 0), cond_true, X_cellOf_s, pd_bI_of, e1, X_numberAt_s hlen4 hlen5 e2 (by decide), pd_bJ_of, g1, g2]
  | some q =>
    obtain ⟨w1, -, -⟩ := v5 q.1 q.2 hp
    obtain ⟨hne, -, -⟩ := c_ply_ne (a := q.1) (f := q.2) hp
    rw [s_wo_no (a := q.1) (f := q.2) hp, e0, w1, decide_eq_false hne, cond_false, X_findingCode_s, pd_bI_of, X_lerr, pd_bJ_of]
theorem J_without (h : JR σ S) (a b c : Int32) : JL (X_without a b c) (M_without a b c) σ := by
  have hw := h.1
  have hX := h.2.1
  rcases c_pcase a (s_pc31 hw) with ⟨p, hp, rfl⟩ | ha
  · rcases c_slv_cases b with ⟨hb, e⟩ | ⟨e, -⟩
    · by_cases hm : p ∈ s_or S
      · by_cases h0 : c_eltF (s_kd S) (s_sz S) b c = 0
        · obtain ⟨τ, t1, t2, t3⟩ := X_wo_s hw hX hm hb h0
          refine JL.of h hw t1 t2 t3 (fun g => ?_)
          obtain ⟨υ, u1, u2, u3⟩ := M_withoutNow_s hw g hm hb h0
          refine ⟨υ, ?_, u2, u3⟩
          rw [M_without_eq, M_patch_1 hw g hp, pd_bI_of, decide_eq_false (by decide : ¬ (1 : Int32) = 0), cond_false, M_slot, e, pd_bI_of, decide_eq_false (by decide : ¬ (1 : Int32) = 0), cond_false, M_laid_s hw g hp, c_isn_1 hm, pd_bI_of, decide_eq_false (by decide : ¬ (1 : Int32) = 0), cond_false, u1, pd_bJ_of]
        · refine JL.same (v := c_lerr (-10 - c_eltF (s_kd S) (s_sz S) b c)) h ?_ (fun g => ?_)
          · rw [X_without_eq, X_patch_1 hw hX hp, pd_bI_of, decide_eq_false (by decide : ¬ (1 : Int32) = 0), cond_false, X_slot, e, pd_bI_of, decide_eq_false (by decide : ¬ (1 : Int32) = 0), cond_false, X_applied_s hw hX hp, c_isn_1 hm, pd_bI_of, decide_eq_false (by decide : ¬ (1 : Int32) = 0), cond_false, X_elementError_1 hX hb h0, pd_bI_of, decide_eq_false (c_elt_ne h0), cond_false, X_lerr, pd_bJ_of]
          · rw [M_without_eq, M_patch_1 hw g hp, pd_bI_of, decide_eq_false (by decide : ¬ (1 : Int32) = 0), cond_false, M_slot, e, pd_bI_of, decide_eq_false (by decide : ¬ (1 : Int32) = 0), cond_false, M_laid_s hw g hp, c_isn_1 hm, pd_bI_of, decide_eq_false (by decide : ¬ (1 : Int32) = 0), cond_false, M_withoutNow_eq, m_eltF hw g hb, pd_bI_of, c_rng_le (c_eltF_rng _ _ _ _), decide_eq_false h0, cond_false, M_refused_s, pd_bI_of, M_lerr, pd_bJ_of, pd_bJ_of]
      · refine JL.same (v := c_lerr (-3)) h ?_ (fun g => ?_)
        · rw [X_without_eq, X_patch_1 hw hX hp, pd_bI_of, decide_eq_false (by decide : ¬ (1 : Int32) = 0), cond_false, X_slot, e, pd_bI_of, decide_eq_false (by decide : ¬ (1 : Int32) = 0), cond_false, X_applied_s hw hX hp, c_isn_0 hm, pd_bI_of, decide_eq_true (rfl : (0 : Int32) = 0), cond_true, X_lerr, pd_bJ_of]
        · rw [M_without_eq, M_patch_1 hw g hp, pd_bI_of, decide_eq_false (by decide : ¬ (1 : Int32) = 0), cond_false, M_slot, e, pd_bI_of, decide_eq_false (by decide : ¬ (1 : Int32) = 0), cond_false, M_laid_s hw g hp, c_isn_0 hm, pd_bI_of, decide_eq_true (rfl : (0 : Int32) = 0), cond_true, M_lerr, pd_bJ_of]
    · exact JL.same (v := c_lerr (-2)) h (by rw [X_without_eq, X_patch_1 hw hX hp, pd_bI_of, decide_eq_false (by decide : ¬ (1 : Int32) = 0), cond_false, X_slot, e, pd_bI_of, decide_eq_true (rfl : (0 : Int32) = 0), cond_true, X_lerr, pd_bJ_of]) (fun g => by rw [M_without_eq, M_patch_1 hw g hp, pd_bI_of, decide_eq_false (by decide : ¬ (1 : Int32) = 0), cond_false, M_slot, e, pd_bI_of, decide_eq_true (rfl : (0 : Int32) = 0), cond_true, M_lerr, pd_bJ_of])
  · exact JL.same (v := c_lerr (-2)) h (by rw [X_without_eq, X_patch_0 hX ha, pd_bI_of, decide_eq_true (rfl : (0 : Int32) = 0), cond_true, X_lerr, pd_bJ_of]) (fun g => by rw [M_without_eq, M_patch_0 hw g ha, pd_bI_of, decide_eq_true (rfl : (0 : Int32) = 0), cond_true, M_lerr, pd_bJ_of])
end WITHOUT
