/-! Keep. -/
section KEEP
variable {σ : pd_H} {S : cS}
theorem s_or24 (hw : s_wf S) : (s_or S).length ≤ 24 := s_len24 hw hw.2.2.1.1
theorem M_keep_s (hw : s_wf S) (h : RM σ S) (h6 : (s_vr S).length < 6) : ∃ τ, M_keep σ = some (τ, some (pd_i (nI (s_vr S).length))) ∧ RM τ (s_ot S (s_un S) (s_vr S ++ [s_or S]) (s_tp S) (s_fl S) (s_mt S)) ∧ MF σ τ := by
  have h24 := s_or24 hw
  have h28 := h.2.2.2.1.2.2.1
  have loop : ∀ d i (ρ : pd_H), i + d = (s_or S).length → ρ.1 230 = σ.1 230 → ρ.1 250 = σ.1 250 → pu_fr (fun k => k = 253) σ ρ → (∀ j, (∀ t, j ≠ 24 * (s_vr S).length + t) → ρ.1 253 j = σ.1 253 j) → (∀ j, j < 24 * (s_vr S).length → ρ.1 253 j = σ.1 253 j) → (∀ t x, t < i → (s_or S)[t]? = some x → ρ.1 253 (24 * (s_vr S).length + t) = nI x) → ∃ τ, M_keep_L14 (nI i) ρ = some (pd_upI (pd_upI τ 254 (s_vr S).length (nI (s_or S).length)) 230 28 (nI ((s_vr S).length + 1)), some (pd_i (nI (s_vr S).length))) ∧ τ.1 230 = σ.1 230 ∧ pu_fr (fun k => k = 253) σ τ ∧ (∀ j, j < 24 * (s_vr S).length → τ.1 253 j = σ.1 253 j) ∧ (∀ t x, (s_or S)[t]? = some x → τ.1 253 (24 * (s_vr S).length + t) = nI x) := by
    intro d
    induction d with
    | zero =>
      intro i ρ hi e1 e2 fr e3 e4 e5
      have hi : i = (s_or S).length := hi
      refine ⟨ρ, ?_, e1, fr, e4, fun t x hx => e5 t x (by rw [hi]; exact (List.getElem?_eq_some_iff.mp hx).1) hx⟩
      rw [M_keep_L14_eq, e1, h.2.2.1.1.1, hi]
      simp only [nI_leI (show (s_or S).length < 2 ^ 31 by omega) (show (s_or S).length < 2 ^ 31 by omega), Nat.le_refl, decide_true, cond_true, h28, show pd_len 254 = 6 from rfl, pu_obN h6 (show 6 < 2 ^ 31 by decide), cond_false, nI_clamp (show (s_vr S).length < 2 ^ 31 by omega), pu_u1n (show 230 ≠ 254 by decide), e1, nI_1, pu_u1s, pk_us, nI_pred]
    | succ d ih =>
      intro i ρ hi e1 e2 fr e3 e4 e5
      obtain ⟨x, hx⟩ : ∃ x, (s_or S)[i]? = some x := ⟨_, List.getElem?_eq_getElem (show i < (s_or S).length by omega)⟩
      have e250 : ρ.1 250 i = nI x := by rw [e2]; exact h.2.2.1.1.2.1 i x hx
      have ix : (24 : Int32) * nI (s_vr S).length + nI i = nI (24 * (s_vr S).length + i) := by
        rw [show (24 : Int32) = nI 24 from rfl, pk_mul, nI_add]
      obtain ⟨τ, t1, t2⟩ := ih (i + 1) (pd_upI ρ 253 (24 * (s_vr S).length + i) (nI x)) (by omega) (by rw [pu_u1n (by decide)]; exact e1) (by rw [pu_u1n (by decide)]; exact e2) (fr.tr (pu_fr.upI rfl)) (fun j hj => by
        rw [pu_u1s, pk_un (hj i)]; exact e3 j hj) (fun j hj => by
        rw [pu_u1s, pk_un (by omega)]; exact e4 j hj) (fun t y ht hy => by
        rw [pu_u1s]
        by_cases e : t = i
        · rw [e, pk_us]; rw [e, hx] at hy; cases hy; rfl
        · rw [pk_un (by omega)]; exact e5 t y (by omega) hy)
      refine ⟨τ, ?_, t2⟩
      rw [M_keep_L14_eq, e1, h.2.2.1.1.1]
      simp only [nI_leI (show (s_or S).length < 2 ^ 31 by omega) (show i < 2 ^ 31 by omega), show ¬ (s_or S).length ≤ i by omega, decide_false, cond_false, h28, ix, show pd_len 250 = 24 from rfl, show pd_len 253 = 144 from rfl, pu_obN (show i < 24 by omega) (show 24 < 2 ^ 31 by decide), pu_obN (show 24 * (s_vr S).length + i < 144 by omega) (show 144 < 2 ^ 31 by decide), nI_clamp (show i < 2 ^ 31 by omega), nI_clamp (show 24 * (s_vr S).length + i < 2 ^ 31 by omega), e250, nI_1]
      exact t1
  obtain ⟨τ, t1, t2, t3, t4, t5⟩ := loop (s_or S).length 0 σ (Nat.zero_add _) rfl rfl pu_fr.rf (fun _ _ => rfl) (fun _ _ => rfl) (fun t x ht _ => absurd ht (Nat.not_lt_zero t))
  have hne : ¬ nI (s_vr S).length = (6 : Int32) := by
    rw [show (6 : Int32) = nI 6 from rfl, nI_eq (by omega) (by decide)]; omega
  generalize hρ : pd_upI (pd_upI τ 254 (s_vr S).length (nI (s_or S).length)) 230 28 (nI ((s_vr S).length + 1)) = ρ at t1
  have k1 : ∀ j, j ≠ 28 → ρ.1 230 j = σ.1 230 j := fun j hj => by rw [← hρ, pu_u1s, pk_un hj, pu_u1n (by decide), t2]
  have k2 : pu_fr (fun k => k = 253 ∨ k = 254 ∨ k = 230) σ ρ := by
    rw [← hρ]
    exact ((t3.mono (L := fun k => k = 253 ∨ k = 254 ∨ k = 230) fun k hk => Or.inl hk).tr (pu_fr.upI (K := fun k => k = 253 ∨ k = 254 ∨ k = 230) (Or.inr (Or.inl rfl)))).tr (pu_fr.upI (K := fun k => k = 253 ∨ k = 254 ∨ k = 230) (Or.inr (Or.inr rfl)))
  obtain ⟨f1, f2, f3, f4⟩ := h.2.2.2
  refine ⟨ρ, ?_, RM_ot h (k2.mono fun k hk => by omega) (fun j hj => k1 j (by omega)) ⟨⟨?_, ?_, ?_, ?_⟩, ⟨?_, ?_⟩, ?_, ?_⟩, MF.of k2 (fun k hk => by omega)⟩
  · rw [M_keep_eq, h28, decide_eq_false hne, cond_false]; exact t1
  · rw [k1 25 (by decide)]; exact f1.1
  · rw [k2.1 252 (by decide)]; exact f1.2.1
  · rw [← hρ, pu_u1s, pk_us]
    show nI ((s_vr S).length + 1) = nI (s_vr S ++ [s_or S]).length
    rw [List.length_append, List.length_singleton]
  · intro v l hv
    have hv : (s_vr S ++ [s_or S])[v]? = some l := hv
    have e254 : ρ.1 254 = upd (σ.1 254) (s_vr S).length (nI (s_or S).length) := by rw [← hρ, pu_u1n (by decide), pu_u1s, t3.1 254 (by decide)]
    have e253 : ρ.1 253 = τ.1 253 := by rw [← hρ, pu_u1n (by decide), pu_u1n (by decide)]
    rw [List.getElem?_append] at hv
    rw [e254, e253]
    by_cases hi : v < (s_vr S).length
    · rw [if_pos hi] at hv
      obtain ⟨q1, q2⟩ := f1.2.2.2 v l hv
      have l24 := s_len24 hw (hw.2.2.1.2.2.2.2 l (List.mem_of_getElem? hv))
      refine ⟨by rw [pk_un (by omega)]; exact q1, fun i x hx => ?_⟩
      have : i < l.length := (List.getElem?_eq_some_iff.mp hx).1
      show τ.1 253 (24 * v + i) = nI x
      rw [t4 _ (by omega)]
      exact q2 i x hx
    · rw [if_neg hi] at hv
      rcases Nat.eq_or_lt_of_le (Nat.not_lt.mp hi) with e | e
      · rw [← e, Nat.sub_self] at hv
        cases hv
        rw [← e]
        exact ⟨pk_us, fun i x hx => t5 i x hx⟩
      · rw [List.getElem?_eq_none (by simp only [List.length_singleton]; omega)] at hv
        cases hv
  · rw [k1 39 (by decide)]; exact f2.1
  · rw [k2.1 259 (by decide)]; exact f2.2
  · rw [k2.1 255 (by decide)]; exact f3
  · rw [k2.1 256 (by decide)]; exact f4
theorem J_keep (h : JR σ S) : JI X_keep M_keep σ := by
  have hw := h.1
  have hX := h.2.1
  have hrun := x_run hX
  obtain ⟨d1, d2, d3, d4⟩ := h.2.1.2.2.2.2
  by_cases h6 : (s_vr S).length < 6
  · have hL : pd_len (20 + 2 * (s_vr S).length + 1) = 24 := by
      have : ∀ v, v < 6 → pd_len (20 + 2 * v + 1) = 24 := by decide +kernel
      exact this _ h6
    obtain ⟨τ, t1, t2, t3⟩ := Seq_becomeLike_s (o := 20 + 2 * (s_vr S).length) (a := σ.2.2 0 + 1) hX.2.2.2.1.1 hL (x_trl hX).2.1 (by omega) (by omega)
    have hS : s_wf (s_ot S (s_un S) (s_vr S ++ [s_or S]) (s_tp S) (s_fl S) (s_mt S)) := s_ot_wf hw hw.2.2.1.2.1 hw.2.2.1.2.2.1 (by rw [List.length_append, List.length_singleton]; omega) (fun l hl => by
      rw [List.mem_append, List.mem_singleton] at hl
      rcases hl with q | q
      · exact hw.2.2.1.2.2.2.2 l q
      · rw [q]; exact hw.2.2.1.1) hw.2.2.2.2.1 hw.2.2.2.2.2
    have e0 : τ.1 0 = σ.1 0 := t3.1 0 (by omega)
    have fr : pu_fr (fun k => k = 0 ∨ (20 ≤ k ∧ k < 32)) σ (pd_upI τ 0 7 (nI ((s_vr S).length + 1))) := (t3.mono fun k hk => by omega).tr (pu_fr.upI (Or.inl rfl))
    have e1 : ∀ k, k ≠ 0 → (pd_upI τ 0 7 (nI ((s_vr S).length + 1))).1 k = τ.1 k := fun k hk => pu_u1n hk
    refine JI.of (v := nI (s_vr S).length) (τ := pd_upI τ 0 7 (nI ((s_vr S).length + 1))) h hS ?_ (RX_ot hX (fr.mono fun k hk => by omega) ?_) (XF.of fr (fun k hk => by omega)) (fun g => M_keep_s hw g h6)
    · have hlt : decide (nI (s_vr S).length < (6 : Int32)) = true := decide_eq_true (nI_lt h6 (by decide))
      rw [X_keep_eq, d1.2.1, hlt, cond_true, show pd_len 19 = 6 from rfl, pu_obN h6 (by decide), cond_false, nI_clamp (by omega), t1, pd_bV_of, e0, d1.2.1, nI_1, pu_u1s, pk_us, nI_pred]
    · refine ⟨⟨d1.1.of (by rw [fr.1 17 (by decide)]) (fr.1 18 (by decide)), ?_, fun v l hv => ?_⟩, by rw [fr.1 10 (by decide), fr.1 11 (by decide)]; exact d2, ?_, by rw [fr.1 16 (by decide)]; exact d4⟩
      · rw [pu_u1s, pk_us]
        show nI ((s_vr S).length + 1) = nI (s_vr S ++ [s_or S]).length
        rw [List.length_append, List.length_singleton]
      · have hv : (s_vr S ++ [s_or S])[v]? = some l := hv
        rw [List.getElem?_append] at hv
        by_cases hi : v < (s_vr S).length
        · rw [if_pos hi] at hv
          exact (d1.2.2 v l hv).of (by rw [e1 _ (by omega), t3.1 _ (by omega)]) (by rw [e1 _ (by omega), t3.1 _ (by omega)])
        · rw [if_neg hi] at hv
          rcases Nat.eq_or_lt_of_le (Nat.not_lt.mp hi) with e | e
          · rw [← e, Nat.sub_self] at hv
            cases hv
            rw [← e]
            exact t2.of (by rw [e1 _ (by omega)]) (e1 _ (by omega))
          · rw [List.getElem?_eq_none (by simp only [List.length_singleton]; omega)] at hv
            cases hv
      · rw [pu_u1s, pk_un (by decide), pk_un (by decide), pk_un (by decide), e0]; exact d3
  · have h6 : (s_vr S).length = 6 := by have := hw.2.2.1.2.2.2.1; omega
    refine JI.same (v := -4) h ?_ (fun g => ?_)
    · rw [X_keep_eq, d1.2.1, h6]; rfl
    · rw [M_keep_eq, g.2.2.2.1.2.2.1, h6]; rfl
end KEEP
