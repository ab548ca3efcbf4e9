/-! A patch taken out with all that hangs on it. -/
section WITH
variable {σ : pd_H} {S : cS}
theorem s_ord_wo {l : List Nat} (h : s_ord S l) (m : Int32) : s_ord S (c_wo m l) := ⟨h.1.filter _, fun x hx => h.2 x (List.mem_filter.mp hx).1⟩
theorem c_nothas (m s : Int32) : decide (((m >>> (s &&& 31)) &&& 1) = 0) = !c_has m s := by unfold c_has; rw [Bool.not_not]
theorem X_with_loop (hw : s_wf S) {M : Int32} (d1 d2 : Option pd_V) : ∀ (m : List Nat) (i : Nat) (acc : List Nat) (τ : pd_H) (d6 : Option pd_V), i + m.length = (s_or S).length → acc.length ≤ i → x_td τ acc → RX τ S → (∀ t x, m[t]? = some x → (s_or S)[i + t]? = some x) → ∃ τ' d6', X_with_L51 d1 d2 (nI (s_or S).length) M (nI i) d6 τ = X_with_L51 d1 d2 (nI (s_or S).length) M (nI (s_or S).length) d6' τ' ∧ x_td τ' (acc ++ c_wo M m) ∧ RX τ' S ∧ XF τ τ' := by
  intro m
  induction m with
  | nil =>
    intro i acc τ d6 hi ha ht hX _
    have hi : i = (s_or S).length := hi
    exact ⟨τ, d6, by rw [hi], by show x_td τ (acc ++ []); rw [List.append_nil]; exact ht, hX, XF.rf⟩
  | cons y m ih =>
    intro i acc τ d6 hi ha ht hX hm
    have hi : i + (m.length + 1) = (s_or S).length := hi
    have h24 := s_or24 hw
    have hy : (s_or S)[i]? = some y := by have := hm 0 y rfl; rwa [Nat.add_zero] at this
    have hmt : ∀ t x, m[t]? = some x → (s_or S)[i + 1 + t]? = some x := fun t x h => by
      rw [show i + 1 + t = i + (t + 1) by omega]; exact hm (t + 1) x h
    have ey : τ.1 (τ.2.2 0 + 1 + 1) i = nI y := hX.2.2.2.1.1.2.2 i y hy
    have e0 : ∀ B : Option pd_R, cond (decide (nI (s_or S).length ≤ nI i)) B (cond (pd_ob (nI i) (pd_len (τ.2.2 0 + 1 + 1))) none
        (cond (decide (((M >>> ((τ.1 (τ.2.2 0 + 1 + 1) (Int32.toNatClampNeg (nI i))) &&& 31)) &&& 1) = 0))
        (pd_bV (Seq_append (τ.2.2 1 + 1) (τ.1 (τ.2.2 0 + 1 + 1) (Int32.toNatClampNeg (nI i))) τ) fun s3 =>
         X_with_L51 d1 d2 (nI (s_or S).length) M (nI i + 1) (some (pd_i (τ.1 (τ.2.2 0 + 1 + 1) (Int32.toNatClampNeg (nI i))))) s3)
        (X_with_L51 d1 d2 (nI (s_or S).length) M (nI i + 1) (some (pd_i (τ.1 (τ.2.2 0 + 1 + 1) (Int32.toNatClampNeg (nI i))))) τ))) =
        cond (c_has M (nI y)) (X_with_L51 d1 d2 (nI (s_or S).length) M (nI (i + 1)) (some (pd_i (nI y))) τ) (pd_bV (Seq_append (τ.2.2 1 + 1) (nI y) τ) fun s3 => X_with_L51 d1 d2 (nI (s_or S).length) M (nI (i + 1)) (some (pd_i (nI y))) s3) := fun B => by
      rw [decide_eq_false (nI_ge (show i < (s_or S).length by omega) (by omega)), cond_false, (x_trl hX).2.1, pu_obN (show i < 24 by omega) (by decide), cond_false, nI_clamp (by omega), ey, c_nothas, nI_1]
      cases c_has M (nI y) <;> rfl
    rw [c_wo_c, X_with_L51_eq, e0]
    cases c_has M (nI y) with
    | true =>
      rw [cond_true, cond_true]
      exact ih (i + 1) acc τ _ (by omega) (by omega) ht hX hmt
    | false =>
      obtain ⟨τ1, t1, t2, t3, t4, -⟩ := X_tr_add hw hX ht (show acc.length < 24 by omega) y
      rw [cond_false, cond_false, t1, pd_bV_of]
      obtain ⟨τ2, d6', u1, u2, u3, u4⟩ := ih (i + 1) (acc ++ [y]) τ1 (some (pd_i (nI y))) (by omega) (by rw [List.length_append, List.length_singleton]; omega) t2 t3 hmt
      rw [List.append_assoc] at u2
      exact ⟨τ2, d6', u1, u2, u3, t4.tr u4⟩
theorem M_with_loop (hw : s_wf S) {M : Int32} (d1 : Option pd_V) : ∀ (m : List Nat) (i c : Nat) (acc : List Nat) (τ : pd_H), i + m.length = (s_or S).length → acc.length + c = i → m_td τ acc → RM τ S → (∀ t x, m[t]? = some x → (s_or S)[i + t]? = some x) → ∃ τ' c', M_withNow_L20 d1 M (nI c) (nI i) τ = M_withNow_L20 d1 M (nI c') (nI (s_or S).length) τ' ∧ (acc ++ c_wo M m).length + c' = (s_or S).length ∧ m_td τ' (acc ++ c_wo M m) ∧ RM τ' S ∧ MF τ τ' := by
  intro m
  induction m with
  | nil =>
    intro i c acc τ hi ha ht hX _
    have hi : i = (s_or S).length := hi
    refine ⟨τ, c, by rw [hi], ?_, by show m_td τ (acc ++ []); rw [List.append_nil]; exact ht, hX, MF.rf⟩
    show (acc ++ []).length + c = _
    rw [List.append_nil]; omega
  | cons y m ih =>
    intro i c acc τ hi ha ht hX hm
    have hi : i + (m.length + 1) = (s_or S).length := hi
    have h24 := s_or24 hw
    have hy : (s_or S)[i]? = some y := by have := hm 0 y rfl; rwa [Nat.add_zero] at this
    have hmt : ∀ t x, m[t]? = some x → (s_or S)[i + 1 + t]? = some x := fun t x h => by
      rw [show i + 1 + t = i + (t + 1) by omega]; exact hm (t + 1) x h
    have ey : τ.1 250 i = nI y := hX.2.2.1.1.2.1 i y hy
    rw [c_wo_c, M_withNow_L20_eq, hX.2.2.1.1.1]
    rw [decide_eq_false (nI_ge (show i < (s_or S).length by omega) (by omega)), cond_false, show pd_len 250 = 24 from rfl, pu_obN (show i < 24 by omega) (by decide), cond_false, nI_clamp (by omega), ey, c_has_1, nI_1, nI_1]
    cases c_has M (nI y) with
    | true =>
      rw [cond_true, cond_true]
      exact ih (i + 1) (c + 1) acc τ (by omega) (by omega) ht hX hmt
    | false =>
      rw [cond_false, cond_false, cond_false, ht.1, show pd_len 251 = 24 from rfl, pu_obN (show acc.length < 24 by omega) (by decide), cond_false, nI_clamp (by omega), pu_u1n (show 230 ≠ 251 by decide), ht.1, nI_1]
      have k5 : m_tdK τ (pd_upI (pd_upI τ 251 acc.length (nI y)) 230 23 (nI (acc.length + 1))) := m_tdK.u1.tr m_tdK.u2
      obtain ⟨τ2, c', u1, u2, u3, u4, u5⟩ := ih (i + 1) c (acc ++ [y]) _ (by omega) (by rw [List.length_append, List.length_singleton]; omega) (ht.push (by omega) y) (hX.td k5) hmt
      rw [List.append_assoc] at u2 u3
      exact ⟨τ2, c', u1, u2, u3, u4, k5.mf.tr u5⟩
theorem nI_subI {a b c : Nat} (h : a + b = c) : nI c - nI a = nI b := by
  rw [← h, ← nI_add, Int32.add_comm, Int32.add_sub_cancel]
theorem J_with (h : JR σ S) (a : Int32) : JI (X_with a) (M_with a) σ := by
  have hw := h.1
  rcases c_three hw a with ha | ⟨p, hp, hm, rfl⟩ | ⟨p, hm, rfl⟩
  · exact JI.same (v := -2) h (by rw [X_with_eq, X_apErr_out h.2.1 ha]; rfl) (fun g => by rw [M_with_eq, M_patch_0 hw g ha]; rfl)
  · exact JI.same (v := -3) h (by rw [X_with_eq, X_apErr_no hw h.2.1 hp hm]; rfl) (fun g => by rw [M_with_eq, M_patch_1 hw g hp, pd_bI_of, M_laid_s hw g hp, c_isn_0 hm]; rfl)
  · have hp := hw.2.2.1.1.2 p hm
    have h24 := s_or24 hw
    have hX := h.2.1
    have hrun := x_run hX
    generalize hM : s_hg S p ||| ((1 : Int32) <<< (nI p &&& 31)) = M
    have ho := s_ord_wo hw.2.2.1.1 M
    have frA : pu_fr (fun k => k = σ.2.2 1 + 1 ∨ k = σ.2.2 1 + 1 + 1) σ (pd_upI σ (σ.2.2 1 + 1) 1 0) := pu_fr.upI (Or.inl rfl)
    obtain ⟨g1, g2⟩ := RX_td hw hX frA
    have g3 : x_td (pd_upI σ (σ.2.2 1 + 1) 1 0) [] := ⟨by
      show (pd_upI σ (σ.2.2 1 + 1) 1 0).1 (σ.2.2 1 + 1) 1 = _
      rw [pu_u1s, pk_us]; rfl, Nat.zero_le _, fun i x hx => by cases hx⟩
    obtain ⟨τ1, d6', t1, t2, t3, t4⟩ := X_with_loop hw (M := M) (some (pd_i (nI p))) (some (pd_i 0)) (s_or S) 0 [] _ none (Nat.zero_add _) (Nat.le_refl 0) g3 g1 (fun t x hx => by rw [Nat.zero_add]; exact hx)
    have t2 : x_td τ1 (c_wo M (s_or S)) := t2
    have hok : (s_play S (c_wo M (s_or S))).1 = none := by
      have h1 := s_with_ok hw hm
      rw [show s_hg S p ||| c_one1 p = M from hM] at h1
      exact h1
    obtain ⟨τ2, v1, v2, v3, -⟩ := X_carryOut_ok hw t3 t2 ho hok
    have v4 : RX (pd_upI τ2 17 1 (nI 0)) (s_to S (c_wo M (s_or S)) []) := v2.un 0 (Nat.zero_le _)
    have hwf : s_wf (s_to S (c_wo M (s_or S)) []) := by
      have q := s_go_wf hw ho s_ord0 (fun q hq => by cases hq) (v := 0)
      rw [s_go_ok hok] at q
      exact q
    have e17 : (pd_upI τ2 17 1 0).1 (((pd_upI τ2 17 1 0).2.2 0) + 1) 1 = nI (c_wo M (s_or S)).length := v4.2.2.2.1.1.1
    refine JI.of (v := nI (s_or S).length - nI (c_wo M (s_or S)).length) h hwf ?_ v4 (((g2.tr t4).tr v3).tr (XF.of (pu_fr.upI (K := fun k => k = 17) rfl) (fun k hk => by omega))) (fun g => ?_)
    · rw [X_with_eq, X_apErr_ok hw hX hm, pd_bI_of, decide_eq_true (rfl : (0 : Int32) = 0), cond_true, X_dep_s hw hX hm, pd_bI_of, hM, show σ.1 (σ.2.2 0 + 1) 1 = nI (s_or S).length from hX.2.2.2.1.1.1]
      refine t1.trans ?_
      rw [X_with_L51_eq, decide_eq_true (nI_le (Nat.le_refl _) (by omega)), cond_true, v1, pd_bI_of, e17]
      rfl
    · generalize pd_upI τ2 17 1 (nI 0) = τ3 at g
      have k2 : m_tdK τ3 (pd_upI τ3 230 23 0) := m_tdK.u2
      obtain ⟨ρ, c', r1, r2, r3, r4, r5⟩ := M_with_loop hw (M := M) (some (pd_i (nI p))) (s_or S) 0 0 [] (pd_upI τ3 230 23 0) (Nat.zero_add _) rfl ⟨by rw [pu_u1s, pk_us]; rfl, fun i x hx => by cases hx⟩ (g.td k2) (fun t x hx => by rw [Nat.zero_add]; exact hx)
      have r2 : (c_wo M (s_or S)).length + c' = (s_or S).length := r2
      have r3 : m_td ρ (c_wo M (s_or S)) := r3
      have e0 : M_with (nI p) τ3 = pd_bI (M_withNow_L20 (some (pd_i (nI p))) M (nI c') (nI (s_or S).length) ρ) fun s5 v6 => some (s5, some (pd_i v6)) := by
        rw [M_with_eq, M_patch_1 hw g hp, pd_bI_of, M_laid_s hw g hp, c_isn_1 hm, decide_eq_false (by decide : ¬ (1 : Int32) = 0), cond_false, pd_bI_of, decide_eq_false (by decide : ¬ (1 : Int32) = 0), cond_false, M_withNow_eq, M_dep_s hw g hm, pd_bI_of, hM]
        exact congrArg (fun z => pd_bI z fun s5 v6 => some (s5, some (pd_i v6))) r1
      have e1 : nI (s_or S).length - nI (c_wo M (s_or S)).length = nI c' := nI_subI r2
      have mf : MF τ3 ρ := k2.mf.tr r5
      rcases M_takes_g hw r4 r3 ho with ⟨υ, w0, w1, w2, w3⟩ | ⟨υ, b, f, w0, w4, w1, w2, w3⟩
      · refine ⟨pd_upI υ 230 25 0, ?_, w2.un 0 (Nat.zero_le _), (mf.tr w3).tr (MF.rf.up (by omega))⟩
        rw [e0, M_withNow_L20_eq, r4.2.2.1.1.1, decide_eq_true (nI_le (Nat.le_refl _) (by omega)), cond_true, w1, pd_bI_of, decide_eq_true (by decide : (0 : Int32) ≤ 0), cond_true, cond_true, pd_bI_of, e1]
      · rw [hok] at w0; cases w0
end WITH
