/-! Undo, keep. -/
section UNDO
variable {σ : pd_H} {S : cS}
/-- another order in the now run itself -/
theorem RX_now {τ : pd_H} (hw : s_wf S) (h : RX σ S) (hf : pu_fr (fun k => σ.2.2 0 ≤ k ∧ k < σ.2.2 0 + 16) σ τ) {l : List Nat} (h1 : x_rn τ (s_to S l (s_un S)) (σ.2.2 0)) : RX τ (s_to S l (s_un S)) := by
  obtain ⟨⟨a1, a2, a3, a4⟩, ⟨b1, b2, b3⟩, hrt, -, ⟨d1, d2, d3⟩, d4, d5, d6⟩ := h
  have hr : σ.2.2 0 = 32 ∨ σ.2.2 0 = 48 := by rcases hrt with q | q <;> omega
  have e1 : ∀ k, ¬ (σ.2.2 0 ≤ k ∧ k < σ.2.2 0 + 16) → τ.1 k = σ.1 k := hf.1
  have e2 : ∀ k, ¬ (σ.2.2 0 ≤ k ∧ k < σ.2.2 0 + 16) → τ.2.1 k = σ.2.1 k := hf.2.1
  have hseq : ∀ o l, o + 1 < 32 → pu_seq σ o l → pu_seq τ o l := fun o l h1 q => q.of (by rw [e1 o (by omega)]) (e1 (o + 1) (by omega))
  refine ⟨⟨?_, ?_, ?_, ?_⟩, ⟨?_, ?_, ?_⟩, ?_, ?_, ⟨hseq 17 _ (by omega) d1, ?_, ?_⟩, ?_, ?_, ?_⟩
  · rw [e1 2 (by omega)]; exact a1
  · rw [e1 3 (by omega)]; exact a2
  · rw [e1 5 (by omega)]; exact a3
  · rw [e2 6 (by omega)]; exact a4
  · intro p k hp hk
    have hx : x_chg τ (6 * p + k) = x_chg σ (6 * p + k) := by unfold x_chg; rw [e1 _ (by omega)]
    rw [hx]; exact b1 p k hp hk
  · intro p hp; rw [e1 9 (by omega)]; exact b2 p hp
  · rw [e1 7 (by omega)]; exact b3
  · rw [hf.2.2]; exact hrt
  · rw [hf.2.2]; exact h1
  · rw [e1 0 (by omega)]; exact d2
  · intro v l hv
    have hv1 : v < (s_vr S).length := (List.getElem?_eq_some_iff.mp hv).1
    have hv6 := hw.2.2.1.2.2.2.1
    exact hseq _ _ (by omega) (d3 v l hv)
  · rw [e1 10 (by omega), e1 11 (by omega)]; exact d4
  · rw [e1 0 (by omega)]; exact d5
  · rw [e1 16 (by omega)]; exact d6
theorem J_undo (h : JR σ S) : JI X_undo M_undo σ := by
  have hw := h.1
  have hX := h.2.1
  obtain ⟨a1, b1, hrt, c1, d1⟩ := h.2.1
  have hor := c1.1
  have hrun := x_run hX
  have hun : pu_seq σ 17 (s_un S) := d1.1.1
  cases hk : (s_or S).length with
  | zero =>
    refine JI.same (v := -3) h ?_ (fun g => ?_)
    · rw [X_undo_eq, hor.1, hk]; rfl
    · rw [M_undo_eq, g.2.2.1.1.1, hk]; rfl
  | succ k =>
    have hk24 : k < 24 := by have := hor.2.1; omega
    obtain ⟨m, p, e1, e2, e3, e4⟩ := c_snoc hk
    have hpo : p ∈ s_or S := List.mem_of_getElem? e3
    have hp := hw.2.2.1.1.2 p hpo
    have hpu : p ∉ s_un S := fun q => hw.2.2.1.2.2.1 p q hpo
    have hnd : (m ++ [p]).Nodup := e1 ▸ hw.2.2.1.1.1
    have hmo : ∀ x ∈ m, x ∈ s_or S := fun x hx => by rw [e1]; exact List.mem_append_left _ hx
    have hm' : s_ord S m := ⟨(List.nodup_append.mp hnd).1, fun x hx => hw.2.2.1.1.2 x (hmo x hx)⟩
    have hpm : p ∉ m := fun q => (List.nodup_append.mp hnd).2.2 p q p (List.mem_singleton.mpr rfl) rfl
    have hu' := s_ord_add hw.2.2.1.2.1 hp hpu
    have hu24 := s_add24 hw hw.2.2.1.2.1 hp hpu
    have hpl : (s_play S m).1 = none := s_play_pre (m := [p]) (by rw [← e1]; exact hw.2.2.2.1)
    have hmat : ∀ i x, m[i]? = some x → (s_or S)[i]? = some x := fun i x hx => by
      have : i < m.length := (List.getElem?_eq_some_iff.mp hx).1
      rw [e1, List.getElem?_append_left this]; exact hx
    have hwf : s_wf (s_to S m (s_un S ++ [p])) := s_to_wf hw hm' hpl hu' (fun q hq hq2 => by
      rw [List.mem_append, List.mem_singleton] at hq
      rcases hq with q1 | q1
      · exact hw.2.2.1.2.2.1 q q1 (hmo q hq2)
      · rw [q1] at hq2; exact hpm hq2)
    have hne : ¬ nI (k + 1) = 0 := by
      rw [show (0 : Int32) = nI 0 from rfl, nI_eq (by omega) (by omega)]; omega
    have fr1 : pu_fr (fun j => j = σ.2.2 0 + 1) σ (pd_upI σ (σ.2.2 0 + 1) 1 (nI k)) := pu_fr.upI rfl
    have hs1 : pu_seq (pd_upI σ (σ.2.2 0 + 1) 1 (nI k)) (σ.2.2 0 + 1) m := ⟨by rw [pu_u1s, pk_us, e2], by omega, fun i x hx => by
      rw [fr1.1 _ (by omega)]; exact hor.2.2 i x (hmat i x hx)⟩
    have hsh1 : x_sh (pd_upI σ (σ.2.2 0 + 1) 1 (nI k)) S := ⟨by rw [fr1.1 2 (by omega)]; exact a1.1, by rw [fr1.1 3 (by omega)]; exact a1.2.1, by rw [fr1.1 5 (by omega)]; exact a1.2.2.1, a1.2.2.2⟩
    have hbk1 : x_bk (pd_upI σ (σ.2.2 0 + 1) 1 (nI k)) S := ⟨fun q j hq hj => by
      have hx : x_chg (pd_upI σ (σ.2.2 0 + 1) 1 (nI k)) (6 * q + j) = x_chg σ (6 * q + j) := by unfold x_chg; rw [fr1.1 _ (by omega)]
      rw [hx]; exact b1.1 q j hq hj, fun q hq => by rw [fr1.1 9 (by omega)]; exact b1.2.1 q hq, by rw [fr1.1 7 (by omega)]; exact b1.2.2⟩
    obtain ⟨τ, t1, t2, -, t4, -⟩ := x_play hw hsh1 hbk1 (x_run3 hX) hs1 hm'
    obtain ⟨u1, -, u3⟩ := t4 hpl
    have fr2 : pu_fr (fun j => σ.2.2 0 ≤ j ∧ j < σ.2.2 0 + 16) σ τ := (fr1.mono fun j hj => by omega).tr (t2.mono fun j hj => x_plK_in j hj)
    have g1 : RX τ (s_to S m (s_un S)) := RX_now hw hX fr2 ⟨hs1.of (by rw [t2.1 _ (by unfold x_plK x_stK x_ddK; omega)]) (by rw [t2.1 _ (by unfold x_plK x_stK x_ddK; omega)]), x_rw_of (S := s_to S m (s_un S)) u1, u3⟩
    have hun2 : pu_seq τ 17 (s_un S) := g1.2.2.2.2.1.1
    obtain ⟨υ, v1, v2, v3⟩ := Seq_append_s hun2 (show pd_len 18 = 24 from rfl) p hu24
    have hot := g1.2.2.2.2
    have g2 : RX υ (s_to S m (s_un S ++ [p])) := RX_ot (un := s_un S ++ [p]) (vr := s_vr S) (tp := s_tp S) (fl := s_fl S) (mt := s_mt S) g1 (v3.mono fun j hj => by omega) ⟨⟨v2, by rw [v3.1 0 (by decide)]; exact hot.1.2.1, fun v l hv => (hot.1.2.2 v l hv).of (by rw [v3.1 _ (by omega)]) (v3.1 _ (by omega))⟩, by rw [v3.1 10 (by decide), v3.1 11 (by decide)]; exact hot.2.1, by rw [v3.1 0 (by decide)]; exact hot.2.2.1, by rw [v3.1 16 (by decide)]; exact hot.2.2.2⟩
    refine JI.of (v := nI p) h hwf ?_ g2 ((XF.of fr2 (fun j hj => by omega)).tr (XF.of v3 (fun j hj => by omega))) (fun g => ?_)
    · have ep : σ.1 (σ.2.2 0 + 1 + 1) k = nI p := hor.2.2 k p e3
      rw [X_undo_eq, hor.1, hk, decide_eq_false hne, cond_false, nI_pred, (x_trl hX).2.1, pu_obN hk24 (by decide), cond_false, nI_clamp (by omega), ep]
      show pd_bV (Run_play (σ.2.2 0) (pd_upI σ (σ.2.2 0 + 1) 1 (nI k))) _ = _
      rw [t1, pd_bV_of, v1, pd_bV_of]
    · obtain ⟨⟨m1, m2, m3⟩, ⟨n1, n2, n3⟩, ⟨⟨o1, o2, o3⟩, o4⟩, ⟨f1, f2, f3, f5⟩, f6, f7, f8⟩ := g
      have hk250 : υ.1 250 k = nI p := o2 k p e3
      generalize hρ : pd_upI (pd_upI (pd_upI υ 230 21 (nI k)) 252 (s_un S).length (nI p)) 230 25 (nI ((s_un S).length + 1)) = ρ
      have k1 : ∀ j, j ≠ 230 → j ≠ 252 → ρ.1 j = υ.1 j := fun j j1 j2 => by rw [← hρ, pu_u1n j1, pu_u1n j2, pu_u1n j1]
      have k2 : ρ.2 = υ.2 := by rw [← hρ]; rfl
      have k3 : ∀ j, j ≠ 21 → j ≠ 25 → ρ.1 230 j = υ.1 230 j := fun j j1 j2 => by rw [← hρ, pu_u1s, pk_un j2, pu_u1n (by decide), pu_u1s, pk_un j1]
      have h0 : RM0 ρ (s_to S m (s_un S ++ [p])) := by
        refine ⟨⟨?_, ?_, ?_⟩, ⟨?_, ?_, ?_⟩, ⟨?_, ?_⟩, ⟨?_, ?_, ?_, ?_⟩, ?_, ?_, ?_⟩
        · rw [k1 231 (by decide) (by decide), k1 232 (by decide) (by decide)]; exact m1
        · rw [k1 232 (by decide) (by decide)]; exact m2
        · rw [k1 235 (by decide) (by decide), k2]; exact m3
        · intro q j hq hj
          have := n1 q j hq hj
          unfold m_is m_wr m_co at this ⊢
          rw [k1 238 (by decide) (by decide), k1 239 (by decide) (by decide), k1 240 (by decide) (by decide), k1 241 (by decide) (by decide), k1 242 (by decide) (by decide), k1 243 (by decide) (by decide)]
          exact this
        · intro q hq; rw [k1 244 (by decide) (by decide)]; exact n2 q hq
        · rw [k3 19 (by decide) (by decide)]; exact n3
        · rw [← hρ, pu_u1s, pk_un (by decide), pu_u1n (by decide), pu_u1s, pk_us]
          show nI k = nI m.length
          rw [e2]
        · intro i x hx
          rw [k1 250 (by decide) (by decide)]
          exact o2 i x (hmat i x hx)
        · rw [← hρ, pu_u1s, pk_us]
          show nI ((s_un S).length + 1) = nI (s_un S ++ [p]).length
          rw [List.length_append, List.length_singleton]
        · intro i x hx
          rw [← hρ, pu_u1n (by decide), pu_u1s, pu_u1n (by decide)]
          exact c_push f2 i x hx
        · rw [k3 28 (by decide) (by decide)]; exact f3
        · rw [k1 254 (by decide) (by decide), k1 253 (by decide) (by decide)]; exact f5
        · rw [k3 39 (by decide) (by decide), k1 259 (by decide) (by decide)]; exact f6
        · rw [k1 255 (by decide) (by decide)]; exact f7
        · rw [k1 256 (by decide) (by decide)]; exact f8
      obtain ⟨ω, w1, w2, w3, -⟩ := M_playsLaid_s hwf h0
      have mf : MF υ ρ := by rw [← hρ]; exact ((MF.rf.up (by omega)).up (by omega)).up (by omega)
      refine ⟨ω, ?_, w2, mf.tr (MF.of w3 m_trK_in)⟩
      rw [M_undo_eq, o1, hk, decide_eq_false hne, cond_false, nI_pred]
      simp only [pu_u1s, pk_us, show pd_len 250 = 24 from rfl, show pd_len 252 = 24 from rfl, pu_obN hk24 (show 24 < 2 ^ 31 by decide), cond_false, nI_clamp (show k < 2 ^ 31 by omega), pu_u1n (show 250 ≠ 230 by decide), hk250, pk_un (show 25 ≠ 21 by decide), f1, pu_obN hu24 (show 24 < 2 ^ 31 by decide), nI_clamp (show (s_un S).length < 2 ^ 31 by omega), pu_u1n (show 230 ≠ 252 by decide), nI_1, hρ, w1, pd_bV_of]
end UNDO
