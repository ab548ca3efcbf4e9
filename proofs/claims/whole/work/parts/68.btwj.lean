/-! Between, both. -/
section BTWJ
variable {σ : pd_H} {S : cS}
theorem RM0.td {τ : pd_H} (h : RM0 σ S) (g : m_tdK σ τ) : RM0 τ S := h.fr (g.1.mono fun k hk => by unfold m_trK m_doK m_mvK; omega) (fun j hj => g.2 j (by omega)) (g.1.1 256 (by decide))
theorem M_btw_s (hw : s_wf S) (h : RM σ S) {v w : Nat} {l m : List Nat} (hl : (s_vr S)[v]? = some l) (hm : (s_vr S)[w]? = some m) : ∃ τ, M_betweenNow (nI v) (nI w) σ = some (τ, some (pd_i (s_bw S l m))) ∧ RM τ S ∧ MF σ τ := by
  have ho := hw.2.2.1.2.2.2.2 l (List.mem_of_getElem? hl)
  have hom := hw.2.2.1.2.2.2.2 m (List.mem_of_getElem? hm)
  have done : ∀ (ρ : pd_H) (v : Int32), RM0 ρ S → MF σ ρ → ∃ τ, (pd_bV (M_playsLaid ρ) fun s1 => some (s1, some (pd_i v))) = some (τ, some (pd_i v)) ∧ RM τ S ∧ MF σ τ := fun ρ v hρ mf => by
    obtain ⟨ω, w1, w2, w3, -⟩ := M_playsLaid_s hw hρ
    exact ⟨ω, by rw [w1, pd_bV_of], w2, mf.tr (MF.of w3 m_trK_in)⟩
  obtain ⟨ρ, r1, r2, r3⟩ := M_triesVersion_o hw h.2.2.2 hl
  have hρ : RM0 ρ S := h.z.td r3
  obtain ⟨υ, t1, t2, t3, t4, t5⟩ := m_play hw hρ.1 hρ.2.1 ho (s_len24 hw ho) r2.2
  have fu : pu_fr m_trK ρ υ := t1.mono (fun j hj => Or.inl hj)
  have hυ : RM0 υ S := hρ.fr fu (fun j hj => t2 j (by omega) (by omega) (by omega)) t3
  have mfυ : MF σ υ := r3.mf.tr (MF.of fu m_trK_in)
  generalize hα : pu_rwJ (pu_rwI υ 263 (pu_cp (υ.1 233) (υ.1 263) 72)) 264 (pu_cpL (υ.2.1 234) (υ.2.1 264) 72) = α
  have fα : pu_fr (fun k => k = 263 ∨ k = 264) υ α := by
    rw [← hα]
    exact (pu_fr.rwI (K := fun k => k = 263 ∨ k = 264) (Or.inl rfl)).tr (pu_fr.rwJ (K := fun k => k = 263 ∨ k = 264) (Or.inr rfl))
  have hαM : RM0 α S := hυ.b fα
  have mfα : MF σ α := mfυ.tr (MF.of fα (fun k hk => by omega))
  have cp : ∀ d1 l3, M_betweenNow_L17 d1 (nI w) l3 0 υ = cond (decide (l3 = 0)) (pd_bV (M_triesVersion (nI w) α) fun s1 => pd_bI (M_plays (s1.1 230 23) s1) fun s2 v3 => M_betweenNow_L76 d1 (some (pd_i (nI w))) v3 (some (pd_i (nI 72))) s2) (M_betweenNow_L76 d1 (some (pd_i (nI w))) l3 (some (pd_i (nI 72))) α) := fun d1 l3 => by
    have e := M_btw_L17_s (σ := υ) d1 (nI w) l3 72 0 (Nat.zero_add _)
    rw [pu_cp0, pu_cpL0, hα] at e
    have e0 : pu_rwJ (pu_rwI υ 263 (υ.1 263)) 264 (υ.2.1 264) = υ := by
      refine pu_H_ext (fun k => ?_) (fun k => ?_) rfl
      · by_cases h1 : k = 263
        · subst h1; rw [pu_x1, pu_w1s]
        · rw [pu_x1, pu_w1n h1]
      · by_cases h1 : k = 264
        · subst h1; rw [pu_x2s]
        · rw [pu_x2n h1, pu_w2]
    rw [e0] at e
    have e : M_betweenNow_L17 d1 (nI w) l3 0 υ = _ := e
    rw [e, M_betweenNow_L17_eq, show (72 : Int32) = nI 72 from rfl, decide_eq_true (nI_le (Nat.le_refl 72) (by decide)), cond_true]
  have bad : ∀ (d1 d2 d4 : Option pd_V) (f : Int32) (β : pd_H), c_rng f → f ≠ 0 → RM0 β S → MF σ β → ∃ τ, M_betweenNow_L76 d1 d2 f d4 β = some (τ, some (pd_i (-10 - f))) ∧ RM τ S ∧ MF σ τ := fun d1 d2 d4 f β hf hne hβ mf => by
    obtain ⟨τ, y1, y2⟩ := done β (-10 - f) hβ mf
    exact ⟨τ, by rw [M_betweenNow_L76_eq, c_rng_le hf, decide_eq_false hne, cond_false, M_refused_s, pd_bI_of]; exact y1, y2⟩
  cases hp : (s_play S l).1 with
  | some q =>
    obtain ⟨u1, -, -⟩ := t5 q.1 q.2 hp
    obtain ⟨hne, hrng, -⟩ := c_ply_ne (a := q.1) (f := q.2) hp
    obtain ⟨τ, y1, y2⟩ := bad (some (pd_i (nI v))) (some (pd_i (nI w))) (some (pd_i (nI 72))) q.2 α hrng hne hαM mfα
    refine ⟨τ, ?_, y2⟩
    rw [s_bw_1 (a := q.1) (f := q.2) hp, M_betweenNow_eq, r1, pd_bV_of, r2.1, u1, pd_bI_of, cp, decide_eq_false hne, cond_false, y1]
  | none =>
    obtain ⟨u1, u2⟩ := t4 hp
    obtain ⟨ρ2, a1, a2, a3⟩ := M_triesVersion_o hw hαM.2.2.2 hm
    have hρ2 : RM0 ρ2 S := hαM.td a3
    obtain ⟨υ2, b1, b2, b3, b4, b5⟩ := m_play hw hρ2.1 hρ2.2.1 hom (s_len24 hw hom) a2.2
    have fu2 : pu_fr m_trK ρ2 υ2 := b1.mono (fun j hj => Or.inl hj)
    have hυ2 : RM0 υ2 S := hρ2.fr fu2 (fun j hj => b2 j (by omega) (by omega) (by omega)) b3
    have mf2 : MF σ υ2 := (mfα.tr a3.mf).tr (MF.of fu2 m_trK_in)
    have e0 : ∀ f, M_plays (nI m.length) ρ2 = some (υ2, some (pd_i f)) → M_betweenNow (nI v) (nI w) σ = M_betweenNow_L76 (some (pd_i (nI v))) (some (pd_i (nI w))) f (some (pd_i (nI 72))) υ2 := fun f hf => by
      rw [M_betweenNow_eq, r1, pd_bV_of, r2.1, u1, pd_bI_of, cp, decide_eq_true (rfl : (0 : Int32) = 0), cond_true, a1, pd_bV_of, a2.1, hf, pd_bI_of]
    cases hq : (s_play S m).1 with
    | some q =>
      obtain ⟨c1, -, -⟩ := b5 q.1 q.2 hq
      obtain ⟨hne, hrng, -⟩ := c_ply_ne (a := q.1) (f := q.2) hq
      obtain ⟨τ, y1, y2⟩ := bad (some (pd_i (nI v))) (some (pd_i (nI w))) (some (pd_i (nI 72))) q.2 υ2 hrng hne hυ2 mf2
      exact ⟨τ, by rw [s_bw_2 (a := q.1) (f := q.2) hp hq, e0 _ c1, y1], y2⟩
    | none =>
      obtain ⟨c1, c2⟩ := b4 hq
      obtain ⟨τ, y1, y2⟩ := done υ2 (s_bw S l m) hυ2 mf2
      refine ⟨τ, ?_, y2⟩
      rw [e0 _ c1, M_betweenNow_L76_eq, decide_eq_true (by decide : (0 : Int32) ≤ 0), cond_true, M_others_s hw hυ2.1, pd_bI_of]
      have ev : s_al S (υ2.1 233) (υ2.1 263) (υ2.2.1 234) (υ2.2.1 264) 6 0 0 = s_bw S l m := by
        rw [s_bw_3 hp hq, s_al_sym]
        refine s_al_congrV hw (fun c hc => ?_) 6 0 0 rfl
        have hc72 := c_vc_72 hc
        obtain ⟨x1, x2, -⟩ := c2.1.1 c hc
        obtain ⟨z1, z2, -⟩ := u2.1.1 c hc
        have k263 : υ2.1 263 = pu_cp (υ.1 233) (υ.1 263) 72 := by
          rw [b1.1 263 (by unfold m_doK m_mvK; omega), a3.1.1 263 (by decide), ← hα, pu_x1, pu_w1s]
        have k264 : υ2.2.1 264 = pu_cpL (υ.2.1 234) (υ.2.1 264) 72 := by
          rw [b1.2.1 264 (by unfold m_doK m_mvK; omega), a3.1.2.1 264 (by decide), ← hα, pu_x2s]
        rw [k263, k264, pu_cp_in hc72, pu_cpL_in hc72]
        exact ⟨z1, x1, z2, x2⟩
      rw [ev]
      exact y1
theorem J_between (h : JR σ S) (a b : Int32) : JI (X_between a b) (M_between a b) σ := by
  have hw := h.1
  have hX := h.2.1
  rcases c_pcase a (s_vr31 hw) with ⟨v, hv, rfl⟩ | ha
  · rcases c_pcase b (s_vr31 hw) with ⟨w, hwl, rfl⟩ | hb
    · obtain ⟨l, hl⟩ : ∃ l, (s_vr S)[v]? = some l := ⟨_, List.getElem?_eq_getElem hv⟩
      obtain ⟨m, hm⟩ : ∃ m, (s_vr S)[w]? = some m := ⟨_, List.getElem?_eq_getElem hwl⟩
      obtain ⟨τ, t1, t2, t3⟩ := X_btw_s hw hX hl hm
      refine JI.of h hw t1 t2 t3 (fun g => ?_)
      obtain ⟨υ, u1, u2, u3⟩ := M_btw_s hw g hl hm
      refine ⟨υ, ?_, u2, u3⟩
      rw [M_between_eq, M_ver_1 hw g hv, pd_bI_of, decide_eq_false (by decide : ¬ (1 : Int32) = 0), cond_false, M_ver_1 hw g hwl, pd_bI_of, decide_eq_false (by decide : ¬ (1 : Int32) = 0), cond_false, u1, pd_bI_of]
    · exact JI.same (v := -2) h (by rw [X_between_eq, X_ver_1 hw hX hv, pd_bI_of, decide_eq_false (by decide : ¬ (1 : Int32) = 0), cond_false, X_ver_0 hX hb]; rfl) (fun g => by rw [M_between_eq, M_ver_1 hw g hv, pd_bI_of, decide_eq_false (by decide : ¬ (1 : Int32) = 0), cond_false, M_ver_0 hw g hb]; rfl)
  · exact JI.same (v := -2) h (by rw [X_between_eq, X_ver_0 hX ha]; rfl) (fun g => by rw [M_between_eq, M_ver_0 hw g ha]; rfl)
end BTWJ
