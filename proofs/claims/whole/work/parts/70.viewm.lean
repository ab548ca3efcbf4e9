/-! Preview, both. -/
section VIEWM
variable {σ : pd_H} {S : cS}
theorem M_pv_s (hw : s_wf S) {a : Nat} (ha : a < s_ln S 24) : ∀ (d k : Nat) (ρ : pd_H) (t : Nat → Int32) (n : Nat → Int64) (f : Int32), k + d = a + 1 → RM0 ρ S → c_cells (ρ.1 231) (ρ.1 232) (ρ.1 233) (ρ.2.1 234) → c_vag (c_vc (s_kd S) (s_sz S)) t (ρ.1 233) n (ρ.2.1 234) → ∃ υ, M_previewOf_L4 (nI a) f (nI k) ρ = some (υ, some (pd_i (c_pv (s_kd S) (s_sz S) (s_ch S) d k t n f))) ∧ RM υ S ∧ MF ρ υ := by
  have hl6 := hw.2.1.2.1 24 (by decide)
  intro d
  induction d with
  | zero =>
    intro k ρ t n f hk hρ _ _
    have hk : k = a + 1 := hk
    obtain ⟨ω, w1, w2, w3, -⟩ := M_playsLaid_s hw hρ
    refine ⟨ω, ?_, w2, MF.of w3 m_trK_in⟩
    rw [M_previewOf_L4_eq, decide_eq_true (nI_lt (show a < k by omega) (by omega)), cond_true, w1, pd_bV_of]
    rfl
  | succ d ih =>
    intro k ρ t n f hk hρ hcl hv
    have hka : k ≤ a := by omega
    have hkM : c_kok (ρ.1 231) := fun s q => by rw [← (hρ.1.1 s q).1]; exact hw.1.1 s q
    have his : m_is ρ (144 + k) (s_ch S (144 + k)) := hρ.2.1.1 24 k (Or.inr rfl) (by omega)
    have hchk : c_chok (s_ch S (144 + k)) := (hw.2.1.2.2 24 k (Or.inr rfl) (by omega)).1
    have hok : c_ok (s_ch S (144 + k)) := hchk.1
    obtain ⟨υ, u1, u2, u3, u4, u5, u6⟩ := M_does_s (σ := ρ) (a := 144 + k) (by omega) his hkM hρ.1.2.1 hcl hchk 24 0
    have hvA : c_agr (c_vc (s_kd S) (s_sz S)) (fun _ => False) (c_r0 t n) (c_r0 (m_R ρ).1 (m_R ρ).2.1) := c_vag.agr hv
    have hfd : c_fd (ρ.1 231) (ρ.1 232) (m_R ρ) (s_ch S (144 + k)) = c_fd (s_kd S) (s_sz S) (c_r0 t n) (s_ch S (144 + k)) := by
      rw [c_fd_v]
      exact (c_fd_agr hρ.1.1 (fun c hc => hc) hw.1.2.1.sz hvA hok).symm
    have fu : pu_fr m_trK ρ υ := u4.mono (fun j hj => Or.inl hj)
    have hυ : RM0 υ S := hρ.fr fu (fun j hj => u5 j (by omega)) (by rw [u6]; rfl)
    have mf : MF ρ υ := MF.of fu m_trK_in
    have k231 : υ.1 231 = ρ.1 231 := u4.1 231 (by unfold m_doK m_mvK; omega)
    have k232 : υ.1 232 = ρ.1 232 := u4.1 232 (by unfold m_doK m_mvK; omega)
    have e0 : M_previewOf_L4 (nI a) f (nI k) ρ = M_previewOf_L4 (nI a) (c_fd (s_kd S) (s_sz S) (c_r0 t n) (s_ch S (144 + k))) (nI (k + 1)) υ := by
      rw [M_previewOf_L4_eq, decide_eq_false (nI_nlt hka (by omega)), cond_false, show (144 : Int32) + nI k = nI (144 + k) by rw [show (144 : Int32) = nI 144 from rfl, nI_add], u1, pd_bI_of, hfd, nI_1]
    rw [e0]
    show ∃ υ', _ = some (υ', some (pd_i (cond (decide (c_fd (s_kd S) (s_sz S) (c_r0 t n) (s_ch S (144 + k)) = 0)) (c_pv (s_kd S) (s_sz S) (s_ch S) d (k + 1) _ _ _) (c_pv (s_kd S) (s_sz S) (s_ch S) d (k + 1) t n _)))) ∧ _
    by_cases h0 : c_fd (s_kd S) (s_sz S) (c_r0 t n) (s_ch S (144 + k)) = 0
    · rw [decide_eq_true h0, cond_true]
      have e1 := u2 (hfd.trans h0)
      have hA := c_one_agr hρ.1.1 (fun c hc => hc) hw.1.2.1.sz hvA hok h0 24 (144 + k)
      have r1 : υ.1 233 = (c_one (ρ.1 231) 24 (144 + k) (s_ch S (144 + k)) (m_R ρ)).1 := congrArg (fun R : cR => R.1) e1
      have r2 : υ.2.1 234 = (c_one (ρ.1 231) 24 (144 + k) (s_ch S (144 + k)) (m_R ρ)).2.1 := congrArg (fun R : cR => R.2.1) e1
      have hcl2 : c_cells (υ.1 231) (υ.1 232) (υ.1 233) (υ.2.1 234) := by
        rw [k231, k232, r1, r2]
        exact c_one_cells hkM hρ.1.2.1 (R := m_R ρ) hcl hchk (hfd.trans h0)
      obtain ⟨υ', w1, w2, w3⟩ := ih (k + 1) υ (c_one (s_kd S) 24 (144 + k) (s_ch S (144 + k)) (c_r0 t n)).1 (c_one (s_kd S) 24 (144 + k) (s_ch S (144 + k)) (c_r0 t n)).2.1 _ (by omega) hυ hcl2 (fun c hc => by
        obtain ⟨q1, q2, -⟩ := hA.1 c hc
        rw [r1, r2]
        exact ⟨q1, q2⟩)
      exact ⟨υ', w1, w2, mf.tr w3⟩
    · rw [decide_eq_false h0, cond_false]
      have e1 := u3 (fun q => h0 (hfd.symm.trans q))
      have r1 : υ.1 233 = ρ.1 233 := congrArg (fun R : cR => R.1) e1
      have r2 : υ.2.1 234 = ρ.2.1 234 := congrArg (fun R : cR => R.2.1) e1
      obtain ⟨υ', w1, w2, w3⟩ := ih (k + 1) υ t n _ (by omega) hυ (by rw [k231, k232, r1, r2]; exact hcl) (by rw [r1, r2]; exact hv)
      exact ⟨υ', w1, w2, mf.tr w3⟩
def s_pv (S : cS) (a : Nat) : Int32 := c_pv (s_kd S) (s_sz S) (s_ch S) (a + 1) 0 (s_play S (s_or S)).2.1 (s_play S (s_or S)).2.2.1 0
theorem M_preview_s (hw : s_wf S) (h : RM σ S) {a : Nat} (ha : a < s_ln S 24) : ∃ τ, M_previewOf (nI a) σ = some (τ, some (pd_i (s_pv S a))) ∧ RM τ S ∧ MF σ τ := by
  rw [M_previewOf_eq]
  exact M_pv_s hw ha (a + 1) 0 σ _ _ 0 (Nat.zero_add _) h.z (m_cellsN hw h) (fun c hc => by
    obtain ⟨g1, g2, -⟩ := m_cell h hc
    exact ⟨g1.symm, g2.symm⟩)
theorem X_preview_s (hw : s_wf S) (h : RX σ S) {a : Nat} (ha : a < s_ln S 24) : ∃ τ, X_preview (nI a) σ = some (τ, some (pd_i (s_pv S a))) ∧ RX τ S ∧ XF σ τ := by
  have hl6 := hw.2.1.2.1 24 (by decide)
  have hr := x_run h
  have hs := Run_standLike_s (r := σ.2.2 1) (q := σ.2.2 0) (x_tr3 h) (x_run3 h) (by omega) σ
  generalize hτ : pu_rwJ (pu_rwI σ (σ.2.2 1 + 4) (pu_cp (σ.1 (σ.2.2 0 + 4)) (σ.1 (σ.2.2 1 + 4)) 72)) (σ.2.2 1 + 5) (pu_cpL (σ.2.1 (σ.2.2 0 + 5)) (σ.2.1 (σ.2.2 1 + 5)) 72) = τ at hs
  have fr : pu_fr (fun k => k = σ.2.2 1 + 4 ∨ k = σ.2.2 1 + 5) σ τ := by
    rw [← hτ]
    exact (pu_fr.rwI (K := fun k => k = σ.2.2 1 + 4 ∨ k = σ.2.2 1 + 5) (Or.inl rfl)).tr (pu_fr.rwJ (K := fun k => k = σ.2.2 1 + 4 ∨ k = σ.2.2 1 + 5) (Or.inr rfl))
  have hX := RX_frK hw h (fr.mono fun k hk => by unfold x_frK; omega)
  have xf : XF σ τ := XF.of fr (fun k hk => by omega)
  obtain ⟨υ, u1, u2, u3⟩ := X_pv_s hw ha (a + 1) 0 τ (s_play S (s_or S)).2.1 (s_play S (s_or S)).2.2.1 0 (Nat.zero_add _) hX (fun c hc => by
    obtain ⟨g1, g2, -⟩ := x_cell h hc
    rw [fr.2.2]
    refine ⟨?_, ?_⟩
    · rw [← hτ, pu_x1, pu_w1s, pu_cp_in hc]; exact g1
    · rw [← hτ, pu_x2s, pu_cpL_in hc]; exact g2)
  refine ⟨υ, ?_, u2, xf.tr u3⟩
  rw [X_preview_eq, x_len24 h, pu_at2 ha (by omega), hs, pd_bV_of]
  exact u1
theorem J_preview (h : JR σ S) (a : Int32) : JI (X_preview a) (M_preview a) σ := by
  have hw := h.1
  have hX := h.2.1
  have hl6 := hw.2.1.2.1 24 (by decide)
  rcases c_pcase a (show s_ln S 24 < 2 ^ 31 by omega) with ⟨k, hk, rfl⟩ | ha
  · obtain ⟨τ, t1, t2, t3⟩ := X_preview_s hw hX hk
    refine JI.of h hw t1 t2 t3 (fun g => ?_)
    obtain ⟨υ, u1, u2, u3⟩ := M_preview_s hw g hk
    refine ⟨υ, ?_, u2, u3⟩
    rw [M_preview_eq, m_len24 g, M_in_s, c_in_at hk (by omega), pd_bI_of, decide_eq_false (by decide : ¬ (1 : Int32) = 0), cond_false, u1, pd_bI_of]
  · exact JI.same (v := -2) h (by rw [X_preview_eq, x_len24 hX]; exact pu_out2 ha _ _) (fun g => by rw [M_preview_eq, m_len24 g, M_in_s, c_in_out (by omega) ha]; rfl)
end VIEWM
