/-! Out, lift, swap, again, redo. -/
section CALLS4
variable {σ : pd_H} {S : cS}
/-- the error of a patch that should be applied -/
theorem c_three (hw : s_wf S) (a : Int32) : (a < 0 ∨ nI (s_pc S) ≤ a) ∨ (∃ p, p < s_pc S ∧ p ∉ s_or S ∧ a = nI p) ∨ (∃ p, p ∈ s_or S ∧ a = nI p) := by
  rcases c_pcase a (s_pc31 hw) with ⟨p, hp, rfl⟩ | ha
  · by_cases hm : p ∈ s_or S
    · exact Or.inr (Or.inr ⟨p, hm, rfl⟩)
    · exact Or.inr (Or.inl ⟨p, hp, hm, rfl⟩)
  · exact Or.inl ha
theorem J_out (h : JR σ S) (a : Int32) : JI (X_out a) (M_out a) σ := by
  have hw := h.1
  rcases c_three hw a with ha | ⟨p, hp, hm, rfl⟩ | ⟨p, hm, rfl⟩
  · exact JI.same (v := -2) h (by rw [X_out_eq, X_apErr_out h.2.1 ha]; rfl) (fun g => by rw [M_out_eq, M_patch_0 hw g ha]; rfl)
  · exact JI.same (v := -3) h (by rw [X_out_eq, X_apErr_no hw h.2.1 hp hm]; rfl) (fun g => by rw [M_out_eq, M_patch_1 hw g hp, pd_bI_of, M_laid_s hw g hp, c_isn_0 hm]; rfl)
  · have hp := hw.2.2.1.1.2 p hm
    have hp31 : p < 2 ^ 31 := by have := s_pc31 hw; omega
    have ho := s_ord_rm hw.2.2.1.1 p
    have h31 : ∀ x ∈ s_or S, x < 2 ^ 31 := fun x hx => by have := s_or25 hw x hx; omega
    obtain ⟨τ1, t1, t2, t3, t4, t5⟩ := X_tr_like hw h.2.1 h.2.1.2.2.2.1.1 (x_trl h.2.1).2.1 (Or.inr rfl)
    obtain ⟨τ2, u1, u2, u3, u4, u5⟩ := X_tr_rm hw t3 t2 hp31 h31
    obtain ⟨τ3, v1, v2, v3⟩ := X_re hw u3 u2 ho
    refine JI.of (v := (s_go S (c_rm (s_or S) p) [] (c_moved S (c_rm (s_or S) p))).2) h (s_go_wf hw ho s_ord0 (fun q hq => by cases hq)) ?_ v2 ((t4.tr u4).tr v3) (fun g => ?_)
    · rw [X_out_eq, X_apErr_ok hw h.2.1 hm, pd_bI_of]
      show pd_bV (Seq_becomeLike (σ.2.2 1 + 1) (σ.2.2 0 + 1) σ) _ = _
      rw [t1, pd_bV_of, u1, pd_bV_of]
      exact v1
    · obtain ⟨ρ, r1, r2, r3⟩ := M_triesWithout_s g.2.2.1.1.1 g.2.2.1.1.2.1 (s_len24 hw hw.2.2.1.1) h31 hp31
      obtain ⟨υ, w1, w2, w3⟩ := M_re hw (g.td r3) r2.1 r2.2 ho
      refine ⟨υ, ?_, w2, r3.mf.tr w3⟩
      rw [M_out_eq, M_patch_1 hw g hp, pd_bI_of, M_laid_s hw g hp, c_isn_1 hm, decide_eq_false (by decide : ¬ (1 : Int32) = 0), cond_false, pd_bI_of, decide_eq_false (by decide : ¬ (1 : Int32) = 0), cond_false, r1, pd_bV_of, w1]
      rfl
theorem J_lift (h : JR σ S) (a : Int32) : JI (X_lift a) (M_lift a) σ := by
  have hw := h.1
  rcases c_three hw a with ha | ⟨p, hp, hm, rfl⟩ | ⟨p, hm, rfl⟩
  · exact JI.same (v := -2) h (by rw [X_lift_eq, X_apErr_out h.2.1 ha]; rfl) (fun g => by rw [M_lift_eq, M_patch_0 hw g ha]; rfl)
  · exact JI.same (v := -3) h (by rw [X_lift_eq, X_apErr_no hw h.2.1 hp hm]; rfl) (fun g => by rw [M_lift_eq, M_patch_1 hw g hp, pd_bI_of, M_laid_s hw g hp, c_isn_0 hm]; rfl)
  · have hp := hw.2.2.1.1.2 p hm
    have hp31 : p < 2 ^ 31 := by have := s_pc31 hw; omega
    have ho1 := s_ord_rm hw.2.2.1.1 p
    have hn1 : p ∉ c_rm (s_or S) p := fun q => (c_rm_mem.mp q).2 rfl
    have ho := s_ord_add ho1 hp hn1
    have h24 := s_add24 hw ho1 hp hn1
    have h31 : ∀ x ∈ s_or S, x < 2 ^ 31 := fun x hx => by have := s_or25 hw x hx; omega
    obtain ⟨τ1, t1, t2, t3, t4, t5⟩ := X_tr_like hw h.2.1 h.2.1.2.2.2.1.1 (x_trl h.2.1).2.1 (Or.inr rfl)
    obtain ⟨τ2, u1, u2, u3, u4, u5⟩ := X_tr_rm hw t3 t2 hp31 h31
    obtain ⟨τ3, q1, q2, q3, q4, q5⟩ := X_tr_add hw u3 u2 h24 p
    obtain ⟨τ4, v1, v2, v3⟩ := X_re hw q3 q2 ho
    refine JI.of (v := (s_go S (c_rm (s_or S) p ++ [p]) [] (c_moved S (c_rm (s_or S) p ++ [p]))).2) h (s_go_wf hw ho s_ord0 (fun q hq => by cases hq)) ?_ v2 (((t4.tr u4).tr q4).tr v3) (fun g => ?_)
    · rw [X_lift_eq, X_apErr_ok hw h.2.1 hm, pd_bI_of]
      show pd_bV (Seq_becomeLike (σ.2.2 1 + 1) (σ.2.2 0 + 1) σ) _ = _
      rw [t1, pd_bV_of, u1, pd_bV_of, q1, pd_bV_of]
      exact v1
    · obtain ⟨ρ, r1, r2, r3⟩ := M_triesWithout_s g.2.2.1.1.1 g.2.2.1.1.2.1 (s_len24 hw hw.2.2.1.1) h31 hp31
      have r4 := r2.push h24 p
      have r5 := r3.tr ((m_tdK.u1 (σ := ρ) (i := (c_rm (s_or S) p).length) (x := nI p)).tr (m_tdK.u2 (x := nI ((c_rm (s_or S) p).length + 1))))
      obtain ⟨υ, w1, w2, w3⟩ := M_re hw (g.td r5) r4.1 r4.2 ho
      refine ⟨υ, ?_, w2, r5.mf.tr w3⟩
      rw [M_lift_eq, M_patch_1 hw g hp, pd_bI_of, M_laid_s hw g hp, c_isn_1 hm, decide_eq_false (by decide : ¬ (1 : Int32) = 0), cond_false, pd_bI_of, decide_eq_false (by decide : ¬ (1 : Int32) = 0), cond_false, r1, pd_bV_of, r2.1, show pd_len 251 = 24 from rfl, pu_obN h24 (by decide), cond_false, nI_clamp (by omega), pu_u1n (show 230 ≠ 251 by decide), r2.1, nI_1, w1]
      rfl
/-! two neighbours -/
def c_sw (l : List Nat) (a : Nat) : List Nat := l.take a ++ ((l.drop (a + 1)).take 1 ++ ((l.drop a).take 1 ++ l.drop (a + 2)))
theorem c_sw_split {l : List Nat} {a : Nat} (h : a + 1 < l.length) : ∃ x y, l[a]? = some x ∧ l[a + 1]? = some y ∧ l = l.take a ++ x :: y :: l.drop (a + 2) ∧ c_sw l a = l.take a ++ y :: x :: l.drop (a + 2) := by
  have e1 : l.drop a = l[a]'(by omega) :: l.drop (a + 1) := List.drop_eq_getElem_cons (by omega)
  have e2 : l.drop (a + 1) = l[a + 1]'h :: l.drop (a + 2) := List.drop_eq_getElem_cons h
  refine ⟨_, _, List.getElem?_eq_getElem (by omega), List.getElem?_eq_getElem h, ?_, ?_⟩
  · conv => lhs; rw [← List.take_append_drop a l, e1, e2]
  · unfold c_sw
    rw [e1, e2]
    rfl
theorem c_sw_perm {l : List Nat} {a : Nat} (h : a + 1 < l.length) : (c_sw l a).Perm l := by
  obtain ⟨x, y, h1, h2, h3, h4⟩ := c_sw_split h
  rw [h4]
  conv => rhs; rw [h3]
  exact (List.Perm.swap x y _).append_left _
theorem c_sw_at {l : List Nat} {a x y : Nat} (h : a + 1 < l.length) (hx : l[a]? = some x) (hy : l[a + 1]? = some y) (i : Nat) : (c_sw l a)[i]? = if i = a then some y else if i = a + 1 then some x else l[i]? := by
  obtain ⟨x', y', h1, h2, h3, h4⟩ := c_sw_split h
  rw [hx] at h1
  rw [hy] at h2
  cases h1; cases h2
  have hl : (l.take a).length = a := by rw [List.length_take]; omega
  rw [h4]
  by_cases e1 : i = a
  · subst e1
    rw [if_pos rfl, List.getElem?_append_right (by omega), hl, Nat.sub_self]; rfl
  · rw [if_neg e1]
    by_cases e2 : i = a + 1
    · subst e2
      rw [if_pos rfl, List.getElem?_append_right (by omega), hl, show a + 1 - a = 1 by omega]; rfl
    · rw [if_neg e2]
      conv => rhs; rw [h3]
      rcases Nat.lt_or_ge i a with g | g
      · rw [List.getElem?_append_left (by omega), List.getElem?_append_left (by omega)]
      · rw [List.getElem?_append_right (by omega), List.getElem?_append_right (by omega), hl]
        obtain ⟨k, hk⟩ : ∃ k, i - a = k + 2 := ⟨i - a - 2, by omega⟩
        rw [hk]; rfl
theorem s_ord_sw {l : List Nat} (h : s_ord S l) {a : Nat} (ha : a + 1 < l.length) : s_ord S (c_sw l a) := ⟨(c_sw_perm ha).nodup_iff.mpr h.1, fun x hx => h.2 x ((c_sw_perm ha).mem_iff.mp hx)⟩
theorem c_sw_up {f : Nat → Int32} {l : List Nat} {a x y : Nat} (h : a + 1 < l.length) (hx : l[a]? = some x) (hy : l[a + 1]? = some y) (hf : ∀ i x, l[i]? = some x → f i = nI x) : ∀ i z, (c_sw l a)[i]? = some z → upd (upd f a (nI y)) (a + 1) (nI x) i = nI z := by
  intro i z hz
  rw [c_sw_at h hx hy] at hz
  by_cases e1 : i = a
  · rw [if_pos e1] at hz; cases hz
    subst e1
    rw [pk_un (by omega), pk_us]
  · rw [if_neg e1] at hz
    by_cases e2 : i = a + 1
    · rw [if_pos e2] at hz; cases hz
      subst e2
      rw [pk_us]
    · rw [if_neg e2] at hz
      rw [pk_un e2, pk_un e1]; exact hf i z hz
theorem J_swap (h : JR σ S) (a : Int32) : JI (X_swap a) (M_swap a) σ := by
  have hw := h.1
  have hle := s_len24 hw hw.2.2.1.1
  have eX : σ.1 (σ.2.2 0 + 1) 1 = nI (s_or S).length := h.2.1.2.2.2.1.1.1
  rcases c_pcase a (show (s_or S).length - 1 < 2 ^ 31 by omega) with ⟨p, hp, rfl⟩ | ha
  · have hp1 : p + 1 < (s_or S).length := by omega
    obtain ⟨x, y, hx, hy, -, -⟩ := c_sw_split hp1
    have ho := s_ord_sw hw.2.2.1.1 hp1
    have hlen : (c_sw (s_or S) p).length = (s_or S).length := (c_sw_perm hp1).length_eq
    obtain ⟨τ1, t1, t2, t3, t4, t5⟩ := X_tr_like hw h.2.1 h.2.1.2.2.2.1.1 (x_trl h.2.1).2.1 (Or.inr rfl)
    obtain ⟨L1, L2, n1, n2⟩ := x_trl h.2.1
    have hrun := x_run h.2.1
    have oX : ∀ i z, (s_or S)[i]? = some z → τ1.1 (σ.2.2 0 + 1 + 1) i = nI z := fun i z hz => by
      have := t3.2.2.2.1.1.2.2 i z hz
      rw [t5] at this; exact this
    generalize hτ2 : pd_upI (pd_upI τ1 (σ.2.2 1 + 1 + 1) p (nI y)) (σ.2.2 1 + 1 + 1) (p + 1) (nI x) = τ2
    have fr : pu_fr (fun k => k = τ1.2.2 1 + 1 ∨ k = τ1.2.2 1 + 1 + 1) τ1 τ2 := by
      rw [← hτ2, t5]
      exact (pu_fr.upI (K := fun k => k = σ.2.2 1 + 1 ∨ k = σ.2.2 1 + 1 + 1) (Or.inr rfl)).tr (pu_fr.upI (K := fun k => k = σ.2.2 1 + 1 ∨ k = σ.2.2 1 + 1 + 1) (Or.inr rfl))
    obtain ⟨g1, g2⟩ := RX_td hw t3 fr
    have g3 : x_td τ2 (c_sw (s_or S) p) := by
      unfold x_td
      rw [fr.2.2, t5]
      unfold x_td at t2
      rw [t5] at t2
      refine ⟨?_, by rw [hlen]; exact hle, ?_⟩
      · rw [← hτ2, pu_u1n (by omega), pu_u1n (by omega), hlen]; exact t2.1
      · intro i z hz
        rw [← hτ2, pu_u1s, pu_u1s]
        exact c_sw_up hp1 hx hy t2.2.2 i z hz
    obtain ⟨τ3, v1, v2, v3⟩ := X_re hw g1 g3 ho
    refine JI.of (v := (s_go S (c_sw (s_or S) p) [] (c_moved S (c_sw (s_or S) p))).2) h (s_go_wf hw ho s_ord0 (fun q hq => by cases hq)) ?_ v2 ((t4.tr g2).tr v3) (fun g => ?_)
    · rw [X_swap_eq, eX, show (nI (s_or S).length - 1 : Int32) = nI ((s_or S).length - 1) by
        obtain ⟨k, hk⟩ : ∃ k, (s_or S).length = k + 1 := ⟨(s_or S).length - 1, by omega⟩
        rw [hk, nI_pred]; rfl, pu_at2 hp (by omega), t1, pd_bV_of]
      simp only [t5, nI_1, L1, L2, pu_obN (show p + 1 < 24 by omega) (show 24 < 2 ^ 31 by decide), pu_obN (show p < 24 by omega) (show 24 < 2 ^ 31 by decide), cond_false, nI_clamp (show p + 1 < 2 ^ 31 by omega), nI_clamp (show p < 2 ^ 31 by omega), oX _ _ hy, show ∀ (τ : pd_H) k i (z : Int32), (pd_upI τ k i z).2.2 = τ.2.2 from fun _ _ _ _ => rfl, pu_u1n (show σ.2.2 0 + 1 + 1 ≠ σ.2.2 1 + 1 + 1 by omega), oX _ _ hx, hτ2]
      exact v1
    · obtain ⟨ρ, r1, r2, r3, r4, r5⟩ := M_triesLaid_s g.2.2.1.1.1 g.2.2.1.1.2.1 hle
      have k250 : ρ.1 250 = σ.1 250 → True := fun _ => trivial
      have k1 : m_tdK τ3 ρ := ⟨r4, r5⟩
      have k2 := k1.tr ((m_tdK.u1 (σ := ρ) (i := p) (x := nI y)).tr (m_tdK.u1 (i := p + 1) (x := nI x)))
      have o250 : ∀ i z, (s_or S)[i]? = some z → ρ.1 250 i = nI z := fun i z hz => by rw [r4.1 250 (by decide)]; exact g.2.2.1.1.2.1 i z hz
      obtain ⟨υ, w1, w2, w3⟩ := M_re hw (g.td k2) (l := c_sw (s_or S) p) (by rw [pu_u1n (by decide), pu_u1n (by decide), hlen]; exact r2) (fun i z hz => by
        rw [pu_u1s, pu_u1s]
        exact c_sw_up hp1 hx hy r3 i z hz) ho
      refine ⟨υ, ?_, w2, k2.mf.tr w3⟩
      have e21 : τ3.1 230 21 - 2 = nI ((s_or S).length - 1) - 1 := by
        rw [g.2.2.1.1.1]
        obtain ⟨k, hk⟩ : ∃ k, (s_or S).length = k + 2 := ⟨(s_or S).length - 2, by omega⟩
        rw [hk, show k + 2 - 1 = k + 1 by omega, nI_pred]
        rw [show (2 : Int32) = 1 + 1 from rfl, ← Int32.sub_sub, nI_pred, nI_pred]
      rw [M_swap_eq, e21, M_in_s, pd_bI_of, c_in_at hp (by omega), decide_eq_false (by decide : ¬ (1 : Int32) = 0), cond_false, r1, pd_bV_of]
      simp only [nI_1, show pd_len 250 = 24 from rfl, show pd_len 251 = 24 from rfl, pu_obN (show p + 1 < 24 by omega) (show 24 < 2 ^ 31 by decide), pu_obN (show p < 24 by omega) (show 24 < 2 ^ 31 by decide), cond_false, nI_clamp (show p + 1 < 2 ^ 31 by omega), nI_clamp (show p < 2 ^ 31 by omega), o250 _ _ hy, pu_u1n (show 250 ≠ 251 by decide), o250 _ _ hx, w1]
      rfl
  · refine JI.same (v := -2) h ?_ (fun g => ?_)
    · rw [X_swap_eq, eX]
      by_cases hz : (s_or S).length = 0
      · rw [hz] at ha ⊢
        rcases ha with ha | ha
        · rw [decide_eq_true ha]; rfl
        · by_cases h0 : a < 0
          · rw [decide_eq_true h0]; rfl
          · have : ¬ a < nI 0 - 1 := fun q => by
              rw [Int32.lt_iff_toInt_lt] at q h0
              have e : (nI 0 - 1 : Int32).toInt = -1 := by decide
              have e0 : (0 : Int32).toInt = 0 := by decide
              omega
            rw [decide_eq_false h0, cond_false, decide_eq_false this]; rfl
      · obtain ⟨k, hk⟩ : ∃ k, (s_or S).length = k + 1 := ⟨(s_or S).length - 1, by omega⟩
        rw [hk, nI_pred]
        rw [hk, show k + 1 - 1 = k by omega] at ha
        exact pu_out2 ha _ _
    · rw [M_swap_eq, g.2.2.1.1.1, M_in_s, pd_bI_of]
      have : c_in a 0 (nI (s_or S).length - 2) = 0 := by
        by_cases hz : (s_or S).length = 0
        · rw [hz]
          unfold c_in
          by_cases h0 : a < 0
          · rw [decide_eq_true h0]; rfl
          · have : nI 0 - 2 < a := by
              rw [Int32.lt_iff_toInt_lt]
              rw [Int32.lt_iff_toInt_lt] at h0
              have e : (nI 0 - 2 : Int32).toInt = -2 := by decide
              have e0 : (0 : Int32).toInt = 0 := by decide
              omega
            rw [decide_eq_false h0, cond_false, decide_eq_true this]; rfl
        · have := c_in_out (show (s_or S).length - 1 < 2 ^ 31 by omega) ha
          obtain ⟨k, hk⟩ : ∃ k, (s_or S).length = k + 1 := ⟨(s_or S).length - 1, by omega⟩
          rw [hk, show k + 1 - 1 = k by omega] at this
          rw [hk, show (2 : Int32) = 1 + 1 from rfl, ← Int32.sub_sub, nI_pred]
          exact this
      rw [this]; rfl
end CALLS4
