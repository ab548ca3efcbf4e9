/-! Lay. -/
section LAYF
variable {σ τ : pd_H} {S : cS}
theorem X_stand_s (hw : s_wf S) (h : RX σ S) : ∃ τ, Run_standLike (σ.2.2 1) (σ.2.2 0) σ = some (τ, none) ∧ RX τ S ∧ XF σ τ ∧ c_vag (fun c => c < 72) (τ.1 (τ.2.2 1 + 4)) (s_play S (s_or S)).2.1 (τ.2.1 (τ.2.2 1 + 5)) (s_play S (s_or S)).2.2.1 := by
  have hr := x_run h
  have hs := Run_standLike_s (r := σ.2.2 1) (q := σ.2.2 0) (x_tr3 h) (x_run3 h) (by omega) σ
  generalize hτ : pu_rwJ (pu_rwI σ (σ.2.2 1 + 4) (pu_cp (σ.1 (σ.2.2 0 + 4)) (σ.1 (σ.2.2 1 + 4)) 72)) (σ.2.2 1 + 5) (pu_cpL (σ.2.1 (σ.2.2 0 + 5)) (σ.2.1 (σ.2.2 1 + 5)) 72) = τ at hs
  have fr : pu_fr (fun k => k = σ.2.2 1 + 4 ∨ k = σ.2.2 1 + 5) σ τ := by
    rw [← hτ]
    exact (pu_fr.rwI (K := fun k => k = σ.2.2 1 + 4 ∨ k = σ.2.2 1 + 5) (Or.inl rfl)).tr (pu_fr.rwJ (K := fun k => k = σ.2.2 1 + 4 ∨ k = σ.2.2 1 + 5) (Or.inr rfl))
  refine ⟨τ, hs, RX_frK hw h (fr.mono fun k hk => by unfold x_frK; omega), XF.of fr (fun k hk => by omega), fun c hc => ?_⟩
  obtain ⟨g1, g2, g3⟩ := x_cell h hc
  rw [fr.2.2]
  refine ⟨?_, ?_⟩
  · rw [← hτ, pu_x1, pu_w1s, pu_cp_in hc]; exact g1
  · rw [← hτ, pu_x2s, pu_cpL_in hc]; exact g2
def s_ly (S : cS) : Option (Nat × Int32) × (Nat → Int32) := c_ly (s_kd S) (s_sz S) (s_ch S) (s_ln S 24) 0 (s_play S (s_or S)).2.1 (s_play S (s_or S)).2.2.1 (s_mt S)
/-- the desk behind a draft that is laid -/
def s_lay (S : cS) (mt : Nat → Int32) : cS := s_to (s_np (s_md S mt)) (s_or S ++ [s_pc S]) []
theorem s_lay_play (hw : s_wf S) (h24 : s_pc S < 24) (h : (s_ly S).1 = none) (mt : Nat → Int32) : (s_play (s_np (s_md S mt)) (s_or S ++ [s_pc S])).1 = none := by
  have h1 := s_np_line (S := s_md S mt) h24 hw.2.2.1.1.2
  have h2 := s_np_ch (S := s_md S mt) (s_md_wf hw mt) h24 hw.2.2.1.1.2
  have e1 : c_ply (s_kd S) (s_sz S) (s_npc (s_md S mt)) (c_line (s_npl (s_md S mt)) (s_or S)) (c_r0 (s_bt S) (s_bn S)) = s_play S (s_or S) := by
    rw [h1]
    exact c_ply_congr h2
  have e2 : c_line (s_npl (s_md S mt)) [s_pc S] = c_blk (s_pc S) 0 (s_ln S 24) := by
    show c_blk (s_pc S) 0 (s_npl (s_md S mt) (s_pc (s_md S mt))) ++ [] = _
    rw [s_npl_pc (S := s_md S mt) h24, List.append_nil]
    rfl
  show (c_ply (s_kd S) (s_sz S) (s_npc (s_md S mt)) (c_line (s_npl (s_md S mt)) (s_or S ++ [s_pc S])) (c_r0 (s_bt S) (s_bn S))).1 = none
  rw [c_line_app, c_ply_app (by rw [e1]; exact hw.2.2.2.1), e1, e2]
  exact c_ly_ply (s_ln S 24) 0 _ _ _ _ h rfl rfl (fun j hj => s_npc_in (S := s_md S mt) (by rw [Nat.zero_add] at hj; exact hj))
theorem s_lay_ord (hw : s_wf S) (mt : Nat → Int32) : s_ord (s_np (s_md S mt)) (s_or S ++ [s_pc S]) := s_ord_add (S := s_np (s_md S mt)) (s_np_ord (S := s_md S mt) hw.2.2.1.1) (Nat.lt_succ_self _) (fun q => Nat.lt_irrefl _ (hw.2.2.1.1.2 _ q))
theorem s_lay_24 (hw : s_wf S) (h24 : s_pc S < 24) : (s_or S).length < 24 := s_add24 (S := s_np S) (s_np_wf hw h24) (s_np_ord hw.2.2.1.1) (Nat.lt_succ_self (s_pc S)) (fun q => Nat.lt_irrefl _ (hw.2.2.1.1.2 _ q))
theorem s_lay_wf (hw : s_wf S) (h24 : s_pc S < 24) (h : (s_ly S).1 = none) (mt : Nat → Int32) : s_wf (s_lay S mt) := s_to_wf (s_np_wf (s_md_wf hw _) h24) (s_lay_ord hw _) (s_lay_play hw h24 h _) ⟨List.nodup_nil, fun p hp => by cases hp⟩ (fun p hp => by cases hp)
/-- the desk lays -/
theorem X_lay_end {mt : Nat → Int32} (hw : s_wf S) (h24 : s_pc S < 24) (h : (s_ly S).1 = none) (hX : RX σ (s_md S mt)) (d3 : Option pd_V) : ∃ τ, X_lay_L46 (nI (s_ln S 24)) (nI (s_ln S 24)) d3 σ = some (τ, some (pd_i (nI (s_pc S)))) ∧ RX τ (s_lay S mt) ∧ XF σ τ := by
  have h6 := hw.2.1.2.1 24 (by decide)
  have hw1 := s_md_wf hw mt
  obtain ⟨υ, u1, u2, u3⟩ := Book_make_s hw1 h24 hX
  have u1 : Book_makePatchOfDraft σ = some (υ, some (pd_i (nI (s_pc S)))) := u1
  have u2' := u2
  have hw2 := s_np_wf hw1 h24
  have hrt := u2.2.2.1
  have hor : pu_seq υ (υ.2.2 0 + 1) (s_or S) := u2.2.2.2.1.1
  obtain ⟨ρ, r1, r2, r3⟩ := Seq_append_s hor (x_trl u2).2.1 (s_pc S) (s_lay_24 hw h24)
  have e22 : ρ.2.2 = υ.2.2 := r3.2.2
  obtain ⟨⟨a1, a2, a3, a4⟩, ⟨b1, b2, b3⟩, -, -, -⟩ := u2
  have hr32 : υ.2.2 0 = 32 ∨ υ.2.2 0 = 48 := by rcases hrt with q | q <;> omega
  have hsh1 : x_sh ρ (s_np (s_md S mt)) := ⟨by rw [r3.1 2 (by omega)]; exact a1, by rw [r3.1 3 (by omega)]; exact a2, by rw [r3.1 5 (by omega)]; exact a3, by rw [r3.2.1 6 (by omega)]; exact a4⟩
  have hbk1 : x_bk ρ (s_np (s_md S mt)) := ⟨fun q j hq hj => by
    have hx : x_chg ρ (6 * q + j) = x_chg υ (6 * q + j) := by unfold x_chg; rw [r3.1 _ (by omega)]
    rw [hx]; exact b1 q j hq hj, fun q hq => by rw [r3.1 9 (by omega)]; exact b2 q hq, by rw [r3.1 7 (by omega)]; exact b3⟩
  obtain ⟨ω, t1, t2, -, t4, -⟩ := x_play (r := υ.2.2 0) hw2 hsh1 hbk1 (by omega) r2 (s_lay_ord hw _)
  obtain ⟨v1, -, v3⟩ := t4 (s_lay_play hw h24 h _)
  have fr2 : pu_fr (fun j => υ.2.2 0 ≤ j ∧ j < υ.2.2 0 + 16) υ ω := (r3.mono fun j hj => by omega).tr (t2.mono fun j hj => x_plK_in j hj)
  have g1 : RX ω (s_to (s_np (s_md S mt)) (s_or S ++ [s_pc S]) (s_un S)) := RX_now hw2 u2' fr2 ⟨r2.of (by rw [t2.1 _ (by unfold x_plK x_stK x_ddK; omega)]) (by rw [t2.1 _ (by unfold x_plK x_stK x_ddK; omega)]), x_rw_of (S := s_to (s_np (s_md S mt)) (s_or S ++ [s_pc S]) (s_un S)) v1, v3⟩
  have hot := g1.2.2.2.2
  have f17 : pu_fr (fun k => k = 17) ω (pd_upI ω 17 1 0) := pu_fr.upI rfl
  have g2 : RX (pd_upI ω 17 1 0) (s_lay S mt) := RX_ot (un := []) (vr := s_vr S) (tp := s_tp S) (fl := s_fl S) (mt := mt) g1 (f17.mono fun j hj => by omega) ⟨⟨⟨by rw [pu_u1s, pk_us]; rfl, Nat.zero_le _, (fun i x q => by cases q)⟩, by rw [f17.1 0 (by decide)]; exact hot.1.2.1, fun v l hv => (hot.1.2.2 v l hv).of (by rw [f17.1 _ (by omega)]) (f17.1 _ (by omega))⟩, by rw [f17.1 10 (by decide), f17.1 11 (by decide)]; exact hot.2.1, by rw [f17.1 0 (by decide)]; exact hot.2.2.1, by rw [f17.1 16 (by decide)]; exact hot.2.2.2⟩
  refine ⟨pd_upI ω 17 1 0, ?_, g2, (XF.of u3 (fun k hk => by unfold x_npK at hk; omega)).tr ((XF.of fr2 (fun j hj => by omega)).tr (XF.of f17 (fun j hj => by omega)))⟩
  rw [X_lay_L46_eq, decide_eq_true (nI_le (Nat.le_refl _) (by omega)), cond_true, u1, pd_bI_of, r1, pd_bV_of, e22, t1, pd_bV_of]
theorem M_lay_loop (hw : s_wf S) (h24 : s_pc S < 24) {ρ0 : pd_H} (h : RM0 ρ0 S) : ∀ (m k : Nat) (ρ : pd_H) (d3 : Option pd_V), k + m = s_ln S 24 → pu_fr (fun q => 238 ≤ q ∧ q ≤ 243) ρ0 ρ → (∀ q a, 238 ≤ q → q ≤ 243 → (a < 6 * s_pc S ∨ 144 ≤ a) → ρ.1 q a = ρ0.1 q a) → (∀ j, j < k → m_is ρ (6 * s_pc S + j) (s_ch S (144 + j))) → ∃ υ, M_layNow_L53 (nI (s_ln S 24)) (nI k) d3 ρ = M_layNow_L53 (nI (s_ln S 24)) (nI (s_ln S 24)) d3 υ ∧ pu_fr (fun q => 238 ≤ q ∧ q ≤ 243) ρ0 υ ∧ (∀ q a, 238 ≤ q → q ≤ 243 → (a < 6 * s_pc S ∨ 144 ≤ a) → υ.1 q a = ρ0.1 q a) ∧ ∀ j, j < s_ln S 24 → m_is υ (6 * s_pc S + j) (s_ch S (144 + j)) := by
  have h6 := hw.2.1.2.1 24 (by decide)
  intro m
  induction m with
  | zero =>
    intro k ρ d3 hk hf hr hc
    exact ⟨ρ, by rw [show k = s_ln S 24 by omega], hf, hr, fun j hj => hc j (by omega)⟩
  | succ m ih =>
    intro k ρ d3 hk hf hr hc
    have his : m_is ρ (144 + k) (s_ch S (144 + k)) := m_is_fr2 (h.2.1.1 24 k (Or.inr rfl) (by omega)) (fun q h1 h2 => hr q (144 + k) h1 h2 (Or.inr (by omega)))
    obtain ⟨υ, u1, u2, u3, u4⟩ := M_copies_s (a := 144 + k) (b := 6 * s_pc S + k) (by omega) (by omega) his
    obtain ⟨ω, w1, w2, w3, w4⟩ := ih (k + 1) υ d3 (by omega) (hf.tr u2) (fun q a h1 h2 ha => (u3 q a h1 h2 (by omega)).trans (hr q a h1 h2 ha)) (fun j hj => by
      by_cases e : j = k
      · rw [e]; exact u4
      · exact m_is_fr2 (hc j (by omega)) (fun q h1 h2 => u3 q _ h1 h2 (by omega)))
    refine ⟨ω, ?_, w2, w3, w4⟩
    have e19 : ρ.1 230 19 = nI (s_pc S) := by rw [hf.1 230 (by omega)]; exact h.2.1.2.2
    rw [M_layNow_L53_eq, decide_eq_false (nI_ge (show k < s_ln S 24 by omega) (by omega)), cond_false, m_144, e19, show (6 : Int32) * nI (s_pc S) + nI k = nI (6 * s_pc S + k) by rw [show (6 : Int32) = nI 6 from rfl, pk_mul, nI_add], u1, pd_bV_of, ← nI_succ, w1]
/-- the model lays -/
theorem M_lay_end {mt : Nat → Int32} (hw : s_wf S) (h24 : s_pc S < 24) (h : (s_ly S).1 = none) (hM : RM0 σ (s_md S mt)) (d3 : Option pd_V) : ∃ τ, M_layNow_L10 (nI (s_ln S 24)) (nI (s_ln S 24)) d3 σ = some (τ, some (pd_i (nI (s_pc S)))) ∧ RM τ (s_lay S mt) ∧ MF σ τ := by
  have h6 := hw.2.1.2.1 24 (by decide)
  have hw1 := s_md_wf hw mt
  have hlo := s_lay_24 hw h24
  obtain ⟨υ, u1, u2, u3, u4⟩ := M_lay_loop hw1 h24 hM (s_ln S 24) 0 σ d3 (Nat.zero_add _) pu_fr.rf (fun _ _ _ _ _ => rfl) (fun j hj => absurd hj (Nat.not_lt_zero _))
  obtain ⟨⟨m1, m2, m3⟩, ⟨n1, n2, n3⟩, ⟨o1, o2⟩, ⟨f1, f2, f3, f5⟩, f6, f7, f8⟩ := hM
  have e19 : υ.1 230 19 = nI (s_pc S) := by rw [u2.1 230 (by omega)]; exact n3
  have e21 : υ.1 230 21 = nI (s_or S).length := by rw [u2.1 230 (by omega)]; exact o1
  have o250 : ∀ (i x : Nat), (s_or S)[i]? = some x → υ.1 250 i = nI x := fun i x hx => by rw [u2.1 250 (by omega)]; exact o2 i x hx
  generalize hρ : pd_upI (pd_upI (pd_upI (pd_upI (pd_upI (pd_upI υ 244 (s_pc S) (nI (s_ln S 24))) 244 24 0) 250 (s_or S).length (nI (s_pc S))) 230 21 (nI ((s_or S).length + 1))) 230 19 (nI (s_pc S + 1))) 230 25 0 = ρ
  have k1 : ∀ j, j ≠ 230 → j ≠ 244 → j ≠ 250 → ρ.1 j = υ.1 j := fun j j1 j2 j3 => by rw [← hρ, pu_u1n j1, pu_u1n j1, pu_u1n j1, pu_u1n j3, pu_u1n j2, pu_u1n j2]
  have k2 : ρ.2 = υ.2 := by rw [← hρ]; rfl
  have k3 : ∀ j, j ≠ 21 → j ≠ 19 → j ≠ 25 → ρ.1 230 j = υ.1 230 j := fun j j1 j2 j3 => by rw [← hρ, pu_u1s, pk_un j3, pu_u1s, pk_un j2, pu_u1s, pk_un j1, pu_u1n (by decide), pu_u1n (by decide), pu_u1n (by decide)]
  have k19 : ρ.1 230 19 = nI (s_pc S + 1) := by rw [← hρ, pu_u1s, pk_un (by decide), pu_u1s, pk_us]
  have h0 : RM0 ρ (s_lay S mt) := by
    refine ⟨⟨?_, ?_, ?_⟩, ⟨?_, ?_, ?_⟩, ⟨?_, ?_⟩, ⟨?_, ?_, ?_, ?_⟩, ?_, ?_, ?_⟩
    · rw [k1 231 (by decide) (by decide) (by decide), k1 232 (by decide) (by decide) (by decide), u2.1 231 (by omega), u2.1 232 (by omega)]; exact m1
    · rw [k1 232 (by decide) (by decide) (by decide), u2.1 232 (by omega)]; exact m2
    · rw [k1 235 (by decide) (by decide) (by decide), k2, u2.1 235 (by omega), u2.2.1 236 (by omega)]; exact m3
    · intro p k hp hk
      have hk : k < s_npl (s_md S mt) p := hk
      show m_is ρ (6 * p + k) (s_npc (s_md S mt) (6 * p + k))
      refine m_is_fr2 (σ := υ) ?_ (fun q h1 h2 => by rw [k1 q (by omega) (by omega) (by omega)])
      have hp : p < s_pc S + 1 ∨ p = 24 := hp
      by_cases e : p = s_pc S
      · subst e
        have npl : s_npl (s_md S mt) (s_pc S) = s_ln S 24 := s_npl_pc (S := s_md S mt) h24
        rw [npl] at hk
        rw [show s_npc (s_md S mt) (6 * s_pc S + k) = s_ch S (144 + k) from s_npc_in (S := s_md S mt) hk]
        exact u4 k hk
      · by_cases e2 : p = 24
        · rw [e2, s_npl_24] at hk; omega
        · rw [s_npl_n (S := s_md S mt) e e2] at hk
          have hp6 := hw.2.1.2.1 p (by omega)
          have hk : k < s_ln S p := hk
          rw [show s_npc (s_md S mt) (6 * p + k) = s_ch S (6 * p + k) from s_npc_lo (S := s_md S mt) (show 6 * p + k < 6 * s_pc S by omega)]
          exact m_is_fr2 (n1 p k (Or.inl (show p < s_pc S by omega)) hk) (fun q h1 h2 => u3 q _ h1 h2 (Or.inl (show 6 * p + k < 6 * s_pc S by omega)))
    · intro p hp
      show ρ.1 244 p = nI (s_npl (s_md S mt) p) ∧ s_npl (s_md S mt) p ≤ 6
      have e244 : ρ.1 244 = upd (upd (υ.1 244) (s_pc S) (nI (s_ln S 24))) 24 0 := by rw [← hρ, pu_u1n (by decide), pu_u1n (by decide), pu_u1n (by decide), pu_u1n (by decide), pu_u1s, pu_u1s]
      rw [e244]
      by_cases e2 : p = 24
      · rw [e2, pk_us, s_npl_24]; exact ⟨rfl, Nat.zero_le _⟩
      · rw [pk_un e2]
        by_cases e : p = s_pc S
        · subst e
          rw [pk_us]
          have npl : s_npl (s_md S mt) (s_pc S) = s_ln S 24 := s_npl_pc (S := s_md S mt) h24
          rw [npl]
          exact ⟨rfl, h6⟩
        · rw [pk_un e, s_npl_n (S := s_md S mt) e e2, u2.1 244 (by omega)]; exact n2 p hp
    · exact k19
    · show ρ.1 230 21 = nI (s_or S ++ [s_pc S]).length
      rw [← hρ, pu_u1s, pk_un (by decide), pu_u1s, pk_un (by decide), pu_u1s, pk_us, List.length_append]; rfl
    · show m_ls (ρ.1 250) (s_or S ++ [s_pc S])
      rw [← hρ, pu_u1n (by decide), pu_u1n (by decide), pu_u1n (by decide), pu_u1s, pu_u1n (by decide), pu_u1n (by decide)]
      exact c_push o250
    · rw [← hρ, pu_u1s, pk_us]; rfl
    · intro i x q; cases q
    · rw [k3 28 (by decide) (by decide) (by decide), u2.1 230 (by omega)]; exact f3
    · rw [k1 254 (by decide) (by decide) (by decide), k1 253 (by decide) (by decide) (by decide), u2.1 254 (by omega), u2.1 253 (by omega)]; exact f5
    · rw [k3 39 (by decide) (by decide) (by decide), k1 259 (by decide) (by decide) (by decide), u2.1 230 (by omega), u2.1 259 (by omega)]; exact f6
    · rw [k1 255 (by decide) (by decide) (by decide), u2.1 255 (by omega)]; exact f7
    · rw [k1 256 (by decide) (by decide) (by decide), u2.1 256 (by omega)]; exact f8
  obtain ⟨ω, w1, w2, w3, w4⟩ := M_playsLaid_s (s_lay_wf hw h24 h mt) h0
  have mf : MF υ ρ := by rw [← hρ]; exact (((((MF.rf.up (by omega)).up (by omega)).up (by omega)).up (by omega)).up (by omega)).up (by omega)
  refine ⟨ω, ?_, w2, ((MF.of u2 (fun k hk => by omega)).tr mf).tr (MF.of w3 m_trK_in)⟩
  have e10 : M_layNow_L10 (nI (s_ln S 24)) (nI (s_ln S 24)) d3 σ = M_layNow_L53 (nI (s_ln S 24)) (nI 0) d3 σ := by
    rw [M_layNow_L10_eq, decide_eq_true (nI_le (Nat.le_refl _) (by omega)), cond_true]
    rfl
  rw [e10]
  refine u1.trans ?_
  rw [show s_ln (s_md S mt) 24 = s_ln S 24 from rfl, M_layNow_L53_eq, decide_eq_true (nI_le (Nat.le_refl _) (by omega)), cond_true]
  simp only [e19, e21, pu_u1n (show 230 ≠ 244 by decide), pu_u1n (show 230 ≠ 250 by decide), pu_u1s, pk_us, pk_un (show 19 ≠ 21 by decide), show pd_len 244 = 25 from rfl, show pd_len 250 = 24 from rfl, pu_obN (show s_pc S < 25 by omega) (show 25 < 2 ^ 31 by decide), pu_obN hlo (show 24 < 2 ^ 31 by decide), cond_false, nI_clamp (show s_pc S < 2 ^ 31 by omega), nI_clamp (show (s_or S).length < 2 ^ 31 by omega), nI_1, hρ, w1, pd_bV_of]
  rw [w4 19 (by decide) (by decide) (by decide) (by decide), k19, nI_pred]
/-! the calls -/
section
theorem J_lay (h : JR σ S) : JI X_lay M_lay σ := by
  have hw := h.1
  have h6 := hw.2.1.2.1 24 (by decide)
  have hpc := hw.2.1.1
  have e72 : σ.1 7 2 = nI (s_pc S) := h.2.1.2.1.2.2
  by_cases hn : s_ln S 24 = 0
  · refine JI.same (v := -3) h ?_ (fun g => ?_)
    · rw [X_lay_eq, x_len24 h.2.1, hn]; rfl
    · rw [M_lay_eq, m_len24 g, hn]; rfl
  have hne : decide (nI (s_ln S 24) = 0) = false := decide_eq_false (nI_ne0 (by omega) (by omega))
  by_cases h24 : s_pc S < 24
  · obtain ⟨τ, t1, t2, t3, t4⟩ := X_stand_s hw h.2.1
    obtain ⟨υ, v1, v2, v3, v4⟩ := X_ly_s (s_ln S 24) 0 S τ _ _ none hw (Nat.zero_add _) (s_cells hw hw.2.2.1.1 hw.2.2.2.1) t2 t4
    have eX : X_lay σ = X_lay_L46 (nI (s_ln S 24)) (nI 0) none τ := by
      rw [X_lay_eq, x_len24 h.2.1, hne, cond_false, e72, show (24 : Int32) = nI 24 from rfl, decide_eq_true (nI_lt h24 (by decide)), cond_true, t1, pd_bV_of]
      rfl
    have eM : ∀ ρ, RM ρ S → M_lay ρ = M_layNow_L10 (nI (s_ln S 24)) (nI 0) none ρ := fun ρ g => by
      have e19 : ρ.1 230 19 = nI (s_pc S) := g.2.1.2.2
      have bI : ∀ p : Option pd_R, (∃ σ' v, p = some (σ', some (pd_i v))) → (pd_bI p fun s1 v2 => some (s1, some (pd_i v2))) = p := fun p ⟨σ', v, e⟩ => by rw [e, pd_bI_of]
      obtain ⟨ω, w1, w2, w3, w4⟩ := M_ly_s (s_ln S 24) 0 S ρ _ _ none hw (Nat.zero_add _) g.z (m_cellsN hw g) (fun c hc => by
        obtain ⟨g1, g2, -⟩ := m_cell g hc
        exact ⟨g1.symm, g2.symm⟩)
      rw [M_lay_eq, m_len24 g, hne, cond_false, e19, show (24 : Int32) = nI 24 from rfl, decide_eq_false (fun q => by rw [nI_eq (by omega) (by decide)] at q; omega), cond_false, M_layNow_eq, m_len24 g]
      refine bI _ ?_
      cases hr : (s_ly S).1 with
      | none =>
        obtain ⟨d3', k1⟩ := w3 hr
        obtain ⟨θ, z1, -, -⟩ := M_lay_end hw h24 hr w1 d3'
        exact ⟨θ, _, k1.trans z1⟩
      | some x =>
        obtain ⟨k', f⟩ := x
        obtain ⟨θ, z1, z2, -, -⟩ := M_playsLaid_s (s_md_wf hw _) w1
        obtain ⟨θ2, y1, -, -⟩ := M_fails_s z2 24 (nI k') f
        exact ⟨θ2, _, (w4 k' f hr).trans (by rw [z1, pd_bV_of, y1, pd_bI_of])⟩
    cases hr : (s_ly S).1 with
    | none =>
      obtain ⟨d3', k1⟩ := v3 hr
      obtain ⟨θ, z1, z2, z3⟩ := X_lay_end hw h24 hr v1 d3'
      refine JI.of h (s_lay_wf hw h24 hr (s_ly S).2) ((eX.trans k1).trans z1) z2 ((t3.tr v2).tr z3) (fun g => ?_)
      obtain ⟨ω, w1, w2, w3, w4⟩ := M_ly_s (s_ln S 24) 0 S θ _ _ none hw (Nat.zero_add _) g.z (m_cellsN hw g) (fun c hc => by
        obtain ⟨g1, g2, -⟩ := m_cell g hc
        exact ⟨g1.symm, g2.symm⟩)
      obtain ⟨d3'', k2⟩ := w3 hr
      obtain ⟨θ2, y1, y2, y3⟩ := M_lay_end hw h24 hr w1 d3''
      exact ⟨θ2, ((eM θ g).trans k2).trans y1, y2, w2.tr y3⟩
    | some x =>
      obtain ⟨k', f⟩ := x
      obtain ⟨θ, z1, z2, z3⟩ := X_refuse_s v1 24 (nI k') f
      refine JI.of (v := -10 - f) (S' := s_ft (s_md S (s_ly S).2) (24, nI k', f)) h (s_ft_wf (s_md_wf hw _) _) ((eX.trans (v4 k' f hr)).trans (by rw [z1, pd_bI_of])) z2 ((t3.tr v2).tr z3) (fun g => ?_)
      obtain ⟨ω, w1, w2, w3, w4⟩ := M_ly_s (s_ln S 24) 0 S θ _ _ none hw (Nat.zero_add _) g.z (m_cellsN hw g) (fun c hc => by
        obtain ⟨g1, g2, -⟩ := m_cell g hc
        exact ⟨g1.symm, g2.symm⟩)
      obtain ⟨θ2, y1, y2, y3, -⟩ := M_playsLaid_s (s_md_wf hw _) w1
      obtain ⟨θ3, x1, x2, x3⟩ := M_fails_s y2 24 (nI k') f
      exact ⟨θ3, ((eM θ g).trans (w4 k' f hr)).trans (by rw [y1, pd_bV_of, x1, pd_bI_of]), x2, (w2.tr (MF.of y3 m_trK_in)).tr x3⟩
  · have e24 : s_pc S = 24 := by omega
    refine JI.same (v := -4) h ?_ (fun g => ?_)
    · rw [X_lay_eq, x_len24 h.2.1, hne, cond_false, e72, e24]; rfl
    · have e19 : σ.1 230 19 = nI (s_pc S) := g.2.1.2.2
      rw [M_lay_eq, m_len24 g, hne, cond_false, e19, e24]; rfl
end
end LAYF
