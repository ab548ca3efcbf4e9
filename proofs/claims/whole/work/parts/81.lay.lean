/-! Lay: the draft is tried, all is met. -/
section LAY
variable {σ τ : pd_H} {S : cS}
def s_md (S : cS) (mt : Nat → Int32) : cS := s_ot S (s_un S) (s_vr S) (s_tp S) (s_fl S) mt
theorem s_md_wf (hw : s_wf S) (mt : Nat → Int32) : s_wf (s_md S mt) := s_ot_wf hw hw.2.2.1.2.1 hw.2.2.1.2.2.1 hw.2.2.1.2.2.2.1 hw.2.2.1.2.2.2.2 hw.2.2.2.2.1 hw.2.2.2.2.2
theorem RX_md (h : RX σ S) (hf : pu_fr (fun k => k = 16) σ τ) : RX τ (s_md S (τ.1 16)) := by
  refine RX_ot h (hf.mono fun k hk => by omega) ?_
  obtain ⟨d1, d2, d3, d4⟩ := h.2.2.2.2
  exact ⟨⟨d1.1.of (by rw [hf.1 17 (by decide)]) (hf.1 18 (by decide)), by rw [hf.1 0 (by decide)]; exact d1.2.1, fun v l hv => (d1.2.2 v l hv).of (by rw [hf.1 _ (by omega)]) (hf.1 _ (by omega))⟩, by rw [hf.1 10 (by decide), hf.1 11 (by decide)]; exact d2, by rw [hf.1 0 (by decide)]; exact d3, rfl⟩
theorem RM0_256 (h : RM0 σ S) (f : Nat → Int32) : RM0 (pu_rwI σ 256 f) (s_md S f) := by
  have e1 : ∀ k, k ≠ 256 → (pu_rwI σ 256 f).1 k = σ.1 k := fun k hk => pu_w1n hk
  obtain ⟨⟨a1, a2, a3⟩, ⟨b1, b2, b3⟩, ⟨c1, c2⟩, d1, d2, d3, d4⟩ := h
  refine ⟨⟨?_, ?_, ?_⟩, ⟨?_, ?_, ?_⟩, ⟨?_, ?_⟩, ?_, ?_, ?_, ?_⟩
  · rw [e1 231 (by decide), e1 232 (by decide)]; exact a1
  · rw [e1 232 (by decide)]; exact a2
  · rw [e1 235 (by decide)]; exact a3
  · intro p k hp hk
    have := b1 p k hp hk
    unfold m_is m_wr m_co at this ⊢
    rw [e1 238 (by decide), e1 239 (by decide), e1 240 (by decide), e1 241 (by decide), e1 242 (by decide), e1 243 (by decide)]
    exact this
  · intro p hp; rw [e1 244 (by decide)]; exact b2 p hp
  · rw [e1 230 (by decide)]; exact b3
  · rw [e1 230 (by decide)]; exact c1
  · rw [e1 250 (by decide)]; exact c2
  · rw [e1 230 (by decide), e1 252 (by decide), e1 254 (by decide), e1 253 (by decide)]; exact d1
  · rw [e1 230 (by decide), e1 259 (by decide)]; exact d2
  · rw [e1 255 (by decide)]; exact d3
  · rw [pu_w1s]; rfl
theorem RM0.md (h : RM0 σ S) (hf : pu_fr m_trK σ τ) (h230 : ∀ j, j = 19 ∨ j = 21 ∨ j = 25 ∨ j = 28 ∨ j = 39 → τ.1 230 j = σ.1 230 j) : RM0 τ (s_md S (τ.1 256)) := by
  have h1 := RM0_256 h (τ.1 256)
  have m : m_trK 256 := Or.inl (Or.inl (Or.inr (Or.inr (Or.inr rfl))))
  refine h1.fr ⟨fun k hk => ?_, fun k hk => hf.2.1 k hk, hf.2.2⟩ (fun j hj => ?_) ?_
  · rw [hf.1 k hk, pu_w1n (fun e => hk (by rw [e]; exact m))]
  · rw [h230 j hj, pu_w1n (by decide)]
  · rw [pu_w1s]
theorem Tally_addStep_s {r : Nat} {c : cC} {f1 ww f2 : Int32} (hr : r ≠ 16) (hx : x_told τ r c f1 ww f2) (hc : c.1 ≠ -1 → ∃ w : Nat, w < 9 ∧ c.2.2.1 = nI w) (h1 : c_rng f1) (hww : f1 = 0 → ∃ w : Nat, w < 22 ∧ ww = nI w) (h2 : c_rng f2) : ∃ υ, Tally_addStep r τ = some (υ, none) ∧ υ.1 16 = c_tal (τ.1 16) c f1 ww f2 ∧ pu_fr (fun k => k = 16) τ υ := by
  obtain ⟨x1, x2, x3, x4⟩ := hx
  have step2 : ∀ ρ : pd_H, ρ.1 r = τ.1 r → pu_fr (fun k => k = 16) τ ρ → ∃ υ, Tally_addStep_L20 r ρ = some (υ, none) ∧ υ.1 16 = cond (decide (f1 = 0)) (c_ta2 (ρ.1 16) ww f2) (ρ.1 16) ∧ pu_fr (fun k => k = 16) τ υ := fun ρ e hρ => by
    rw [Tally_addStep_L20_eq, e, x3]
    by_cases q : f1 = 0
    · rw [decide_eq_true q, cond_true, cond_true, x4 q]
      obtain ⟨w, w1, w2⟩ := hww q
      rw [w2]
      have n1 : ∀ w, w < 22 → decide (nI w = (-1 : Int32)) = false := by decide +kernel
      rw [n1 w w1, cond_false]
      unfold c_ta2
      by_cases q20 : (20 : Int32) ≤ nI w
      · rw [decide_eq_true q20]
        exact ⟨ρ, rfl, rfl, hρ⟩
      · rw [decide_eq_false q20, cond_false, cond_false]
        by_cases q8 : (8 : Int32) ≤ nI w
        · rw [decide_eq_true q8, cond_true, cond_true, show (17 : Int32) = nI 17 from rfl, Tally_add_m (by decide) h2, pd_bV_of]
          exact ⟨_, rfl, by rw [pu_w1s], hρ.tr (pu_fr.rwI rfl)⟩
        · have hw8 : w < 8 := by
            rcases Nat.lt_or_ge w 8 with k | k
            · exact k
            · exact absurd (nI_le k (by omega)) q8
          rw [decide_eq_false q8, cond_false, cond_false, show (9 : Int32) = nI 9 from rfl, nI_add, Tally_add_m (by omega) h2, pd_bV_of]
          exact ⟨_, rfl, by rw [pu_w1s], hρ.tr (pu_fr.rwI rfl)⟩
    · rw [decide_eq_false q, cond_false, decide_eq_true (rfl : (-1 : Int32) = -1), cond_true]
      exact ⟨ρ, rfl, rfl, hρ⟩
  have fin : ∀ m : Nat → Int32, m = c_ta1 (τ.1 16) c f1 → cond (decide (f1 = 0)) (c_ta2 m ww f2) m = c_tal (τ.1 16) c f1 ww f2 := fun m e => by rw [e]; rfl
  rw [Tally_addStep_eq, x1]
  by_cases q : c.1 = -1
  · rw [decide_eq_true q, cond_true, decide_eq_true (rfl : (-1 : Int32) = -1), cond_true]
    obtain ⟨υ, u1, u2, u3⟩ := step2 τ rfl pu_fr.rf
    exact ⟨υ, u1, u2.trans (fin _ (by unfold c_ta1; rw [decide_eq_true q, cond_true])), u3⟩
  · obtain ⟨w, w1, w2⟩ := hc q
    have n1 : ∀ w, w < 9 → decide (nI w = (-1 : Int32)) = false := by decide +kernel
    rw [decide_eq_false q, cond_false, w2, n1 w w1, cond_false, x2 q, Tally_add_m (by omega) h1, pd_bV_of]
    obtain ⟨υ, u1, u2, u3⟩ := step2 (pu_rwI τ 16 (c_bmp (τ.1 16) (nI w) f1)) (pu_w1n hr) (pu_fr.rwI rfl)
    refine ⟨υ, u1, u2.trans (fin _ ?_), u3⟩
    unfold c_ta1
    rw [pu_w1s, decide_eq_false q, cond_false, w2]
/-- the draft's changes in their order: the first finding, and what is met -/
def c_ly (kd sz : Nat → Int32) (chg : Nat → cC) : Nat → Nat → (Nat → Int32) → (Nat → Int64) → (Nat → Int32) → Option (Nat × Int32) × (Nat → Int32)
  | 0, _, _, _, mt => (none, mt)
  | d + 1, k, t, n, mt => cond (decide (c_fd kd sz (c_r0 t n) (chg (144 + k)) = 0)) (c_ly kd sz chg d (k + 1) (c_one kd 24 (144 + k) (chg (144 + k)) (c_r0 t n)).1 (c_one kd 24 (144 + k) (chg (144 + k)) (c_r0 t n)).2.1 (c_tal mt (chg (144 + k)) (c_f1 kd sz (chg (144 + k))) (c_ww (c_r0 t n) (chg (144 + k))) (c_f2 kd sz (c_r0 t n) (chg (144 + k))))) (some (k, c_fd kd sz (c_r0 t n) (chg (144 + k))), c_tal mt (chg (144 + k)) (c_f1 kd sz (chg (144 + k))) (c_ww (c_r0 t n) (chg (144 + k))) (c_f2 kd sz (c_r0 t n) (chg (144 + k))))
theorem c_tal_congr {m : Nat → Int32} {c : cC} {f1 ww ww' f2 f2' : Int32} (h : f1 = 0 → ww = ww' ∧ f2 = f2') : c_tal m c f1 ww f2 = c_tal m c f1 ww' f2' := by
  by_cases q : f1 = 0
  · rw [(h q).1, (h q).2]
  · unfold c_tal
    rw [decide_eq_false q, cond_false, cond_false]
theorem c_way9 {c : cC} (h : c_chok c) : c.1 ≠ -1 → ∃ w : Nat, w < 9 ∧ c.2.2.1 = nI w := fun q => by
  obtain ⟨-, w, w1, -, w3⟩ := h
  exact ⟨w, w3 q, w1⟩
/-- the desk's way through the draft -/
theorem X_ly_s : ∀ (d k : Nat) (S : cS) (τ : pd_H) (t : Nat → Int32) (n : Nat → Int64) (d3 : Option pd_V), s_wf S → k + d = s_ln S 24 → c_cells (s_kd S) (s_sz S) t n → RX τ S → c_vag (fun c => c < 72) (τ.1 (τ.2.2 1 + 4)) t (τ.2.1 (τ.2.2 1 + 5)) n → ∃ υ, RX υ (s_md S (c_ly (s_kd S) (s_sz S) (s_ch S) d k t n (s_mt S)).2) ∧ XF τ υ ∧ ((c_ly (s_kd S) (s_sz S) (s_ch S) d k t n (s_mt S)).1 = none → ∃ d3', X_lay_L46 (nI (s_ln S 24)) (nI k) d3 τ = X_lay_L46 (nI (s_ln S 24)) (nI (s_ln S 24)) d3' υ) ∧ ∀ k' f, (c_ly (s_kd S) (s_sz S) (s_ch S) d k t n (s_mt S)).1 = some (k', f) → X_lay_L46 (nI (s_ln S 24)) (nI k) d3 τ = pd_bI (X_refuse 24 (nI k') f υ) fun s8 v9 => some (s8, some (pd_i v9)) := by
  intro d
  induction d with
  | zero =>
    intro k S τ t n d3 hw hk hcl hX hv
    refine ⟨τ, RX_md hX pu_fr.rf |> fun g => by
      have e : τ.1 16 = s_mt S := hX.2.2.2.2.2.2.2
      rw [e] at g; exact g, XF.rf, fun _ => ⟨d3, by rw [show k = s_ln S 24 by omega]⟩, fun k' f q => by cases q⟩
  | succ d ih =>
    intro k S τ t n d3 hw hk hcl hX hv
    have hl6 := hw.2.1.2.1 24 (by decide)
    have hr := x_run hX
    have hrt := x_tr3 hX
    have eC : x_chg τ (6 * 24 + k) = s_ch S (144 + k) := hX.2.1.1 24 k (Or.inr rfl) (by omega)
    have hchk := (hw.2.1.2.2 24 k (Or.inr rfl) (by omega)).1
    have hchk : c_chok (s_ch S (144 + k)) := hchk
    have hok : c_ok (s_ch S (144 + k)) := hchk.1
    obtain ⟨υ, u1, u2, u3, u4, -, u6⟩ := Run_step_s (σ := τ) (r := τ.2.2 1) (p := 24) (k := k) (x_tr3 hX) (by decide) (by omega) (by rw [hX.1.2.1]; exact hw.1.2.1.sz) (by rw [eC]; exact hok)
    rw [eC, hX.1.1, hX.1.2.1] at u1 u2 u3 u6
    have hvA : c_agr (fun c => c < 72) (fun _ => False) (c_r0 (x_rows τ (τ.2.2 1)).1 (x_rows τ (τ.2.2 1)).2.1) (c_r0 t n) := c_vag.agr hv
    have hfd : c_fd (s_kd S) (s_sz S) (x_rows τ (τ.2.2 1)) (s_ch S (144 + k)) = c_fd (s_kd S) (s_sz S) (c_r0 t n) (s_ch S (144 + k)) := by
      rw [c_fd_v]
      exact c_fd_agr c_kz.rf (fun c hc => c_vc_72 hc) hw.1.2.1.sz hvA hok
    have hww : c_f1 (s_kd S) (s_sz S) (s_ch S (144 + k)) = 0 → c_ww (x_rows τ (τ.2.2 1)) (s_ch S (144 + k)) = c_ww (c_r0 t n) (s_ch S (144 + k)) := fun q => (c_held_agr (fun c hc => c_vc_72 hc) hw.1.2.1.sz hvA hok q).1
    have hf2 : c_f1 (s_kd S) (s_sz S) (s_ch S (144 + k)) = 0 → c_f2 (s_kd S) (s_sz S) (x_rows τ (τ.2.2 1)) (s_ch S (144 + k)) = c_f2 (s_kd S) (s_sz S) (c_r0 t n) (s_ch S (144 + k)) := fun q => by
      unfold c_f2
      rw [hww q]
    have frK : pu_fr (x_frK (τ.2.2 1)) τ υ := u4.mono (fun j hj => by have := x_stK_in j hj; unfold x_frK; omega)
    have hX2 := RX_frK hw hX frK
    have e22 : υ.2.2 = τ.2.2 := u4.2.2
    have xf : XF τ υ := XF.of u4 (fun j hj => by have := x_stK_in j hj; omega)
    obtain ⟨ρ, w1, w2, w3⟩ := Tally_addStep_s (τ := υ) (by omega) u6 (c_way9 hchk) (c_f1_rng _ _ _) (fun q => by
      rw [hww q]
      obtain ⟨-, -, -, -, -, w, w1, w2, -⟩ := c_held_ok (R := c_r0 t n) hw.1.1 hw.1.2.1 hcl hchk q
      exact ⟨w, w1, w2⟩) (c_wrF_rng _ _ _ _ _)
    have eT : ρ.1 16 = c_tal (s_mt S) (s_ch S (144 + k)) (c_f1 (s_kd S) (s_sz S) (s_ch S (144 + k))) (c_ww (c_r0 t n) (s_ch S (144 + k))) (c_f2 (s_kd S) (s_sz S) (c_r0 t n) (s_ch S (144 + k))) := by
      rw [w2, show υ.1 16 = s_mt S from hX2.2.2.2.2.2.2.2]
      exact c_tal_congr (fun q => ⟨hww q, hf2 q⟩)
    have hX3 : RX ρ (s_md S (ρ.1 16)) := RX_md hX2 w3
    rw [eT] at hX3
    have xf2 : XF τ ρ := xf.tr (XF.of w3 (fun k hk => by omega))
    have e0 : X_lay_L46 (nI (s_ln S 24)) (nI k) d3 τ = cond (decide (c_fd (s_kd S) (s_sz S) (c_r0 t n) (s_ch S (144 + k)) = 0)) (X_lay_L46 (nI (s_ln S 24)) (nI (k + 1)) (some (pd_i (c_fd (s_kd S) (s_sz S) (c_r0 t n) (s_ch S (144 + k))))) ρ) (pd_bI (X_refuse 24 (nI k) (c_fd (s_kd S) (s_sz S) (c_r0 t n) (s_ch S (144 + k))) ρ) fun s8 v9 => some (s8, some (pd_i v9))) := by
      rw [X_lay_L46_eq, decide_eq_false (nI_ge (show k < s_ln S 24 by omega) (by omega)), cond_false, show (24 : Int32) = nI 24 from rfl, u1, pd_bI_of, hfd, e22, w1, pd_bV_of, ← nI_succ]
    have e32 : ρ.2.2 = τ.2.2 := w3.2.2.trans e22
    have hrt2 := hrt
    have r4 : ρ.1 (τ.2.2 1 + 4) = υ.1 (τ.2.2 1 + 4) := w3.1 _ (by omega)
    have r5 : ρ.2.1 (τ.2.2 1 + 5) = υ.2.1 (τ.2.2 1 + 5) := w3.2.1 _ (by omega)
    show ∃ υ', RX υ' (s_md S (cond (decide (c_fd (s_kd S) (s_sz S) (c_r0 t n) (s_ch S (144 + k)) = 0)) (c_ly (s_kd S) (s_sz S) (s_ch S) d (k + 1) _ _ _) (some (k, _), _)).2) ∧ XF τ υ' ∧ ((cond (decide (c_fd (s_kd S) (s_sz S) (c_r0 t n) (s_ch S (144 + k)) = 0)) (c_ly (s_kd S) (s_sz S) (s_ch S) d (k + 1) _ _ _) (some (k, _), _)).1 = none → _) ∧ ∀ k' f, (cond (decide (c_fd (s_kd S) (s_sz S) (c_r0 t n) (s_ch S (144 + k)) = 0)) (c_ly (s_kd S) (s_sz S) (s_ch S) d (k + 1) _ _ _) (some (k, _), _)).1 = some (k', f) → _
    rw [e0]
    by_cases h0 : c_fd (s_kd S) (s_sz S) (c_r0 t n) (s_ch S (144 + k)) = 0
    · rw [decide_eq_true h0, cond_true, cond_true]
      have e1 := u2 (hfd.trans h0)
      have hA := c_one_agr c_kz.rf (fun c hc => c_vc_72 hc) hw.1.2.1.sz hvA hok (by rw [← c_fd_v]; exact hfd.trans h0) (nI 24) (6 * 24 + k)
      obtain ⟨υ', k1, k2, k3, k4⟩ := ih (k + 1) (s_md S (c_tal (s_mt S) (s_ch S (144 + k)) (c_f1 (s_kd S) (s_sz S) (s_ch S (144 + k))) (c_ww (c_r0 t n) (s_ch S (144 + k))) (c_f2 (s_kd S) (s_sz S) (c_r0 t n) (s_ch S (144 + k))))) ρ (c_one (s_kd S) 24 (144 + k) (s_ch S (144 + k)) (c_r0 t n)).1 (c_one (s_kd S) 24 (144 + k) (s_ch S (144 + k)) (c_r0 t n)).2.1 (some (pd_i (c_fd (s_kd S) (s_sz S) (c_r0 t n) (s_ch S (144 + k))))) (s_md_wf hw _) (show k + 1 + d = s_ln S 24 by omega) (c_one_cells hw.1.1 hw.1.2.1 (R := c_r0 t n) hcl hchk h0) hX3 (fun c hc => by
        obtain ⟨q1, q2, -⟩ := hA.1 c hc
        have r1 : υ.1 (τ.2.2 1 + 4) = (c_one (s_kd S) (nI 24) (6 * 24 + k) (s_ch S (144 + k)) (x_rows τ (τ.2.2 1))).1 := congrArg (fun R : cR => R.1) e1
        have r2 : υ.2.1 (τ.2.2 1 + 5) = (c_one (s_kd S) (nI 24) (6 * 24 + k) (s_ch S (144 + k)) (x_rows τ (τ.2.2 1))).2.1 := congrArg (fun R : cR => R.2.1) e1
        rw [e32, r4, r5, r1, r2]
        exact ⟨q1, q2⟩)
      exact ⟨υ', k1, xf2.tr k2, k3, k4⟩
    · rw [decide_eq_false h0, cond_false, cond_false]
      exact ⟨ρ, hX3, xf2, (fun q => by cases q), (fun k' f q => by cases q; rfl)⟩
/-- the model's way through the draft -/
theorem M_ly_s : ∀ (d k : Nat) (S : cS) (ρ : pd_H) (t : Nat → Int32) (n : Nat → Int64) (d3 : Option pd_V), s_wf S → k + d = s_ln S 24 → RM0 ρ S → c_cells (ρ.1 231) (ρ.1 232) (ρ.1 233) (ρ.2.1 234) → c_vag (c_vc (s_kd S) (s_sz S)) t (ρ.1 233) n (ρ.2.1 234) → ∃ υ, RM0 υ (s_md S (c_ly (s_kd S) (s_sz S) (s_ch S) d k t n (s_mt S)).2) ∧ MF ρ υ ∧ ((c_ly (s_kd S) (s_sz S) (s_ch S) d k t n (s_mt S)).1 = none → ∃ d3', M_layNow_L10 (nI (s_ln S 24)) (nI k) d3 ρ = M_layNow_L10 (nI (s_ln S 24)) (nI (s_ln S 24)) d3' υ) ∧ ∀ k' f, (c_ly (s_kd S) (s_sz S) (s_ch S) d k t n (s_mt S)).1 = some (k', f) → M_layNow_L10 (nI (s_ln S 24)) (nI k) d3 ρ = pd_bV (M_playsLaid υ) fun s3 => pd_bI (M_fails 24 (nI k') f s3) fun s4 v5 => some (s4, some (pd_i v5)) := by
  intro d
  induction d with
  | zero =>
    intro k S ρ t n d3 hw hk hρ hcl hv
    refine ⟨ρ, hρ.md pu_fr.rf (fun _ _ => rfl) |> fun g => by
      have e : ρ.1 256 = s_mt S := hρ.2.2.2.2.2.2
      rw [e] at g; exact g, MF.rf, fun _ => ⟨d3, by rw [show k = s_ln S 24 by omega]⟩, fun k' f q => by cases q⟩
  | succ d ih =>
    intro k S ρ t n d3 hw hk hρ hcl hv
    have hl6 := hw.2.1.2.1 24 (by decide)
    have hkM : c_kok (ρ.1 231) := fun s q => by rw [← (hρ.1.1 s q).1]; exact hw.1.1 s q
    have his : m_is ρ (144 + k) (s_ch S (144 + k)) := hρ.2.1.1 24 k (Or.inr rfl) (by omega)
    have hchk : c_chok (s_ch S (144 + k)) := (hw.2.1.2.2 24 k (Or.inr rfl) (by omega)).1
    have hok : c_ok (s_ch S (144 + k)) := hchk.1
    obtain ⟨υ, u1, u2, u3, u4, u5, u6⟩ := M_does_s (σ := ρ) (a := 144 + k) (by omega) his hkM hρ.1.2.1 hcl hchk 24 1
    have hvA : c_agr (c_vc (s_kd S) (s_sz S)) (fun _ => False) (c_r0 t n) (c_r0 (m_R ρ).1 (m_R ρ).2.1) := c_vag.agr hv
    have hfd : c_fd (ρ.1 231) (ρ.1 232) (m_R ρ) (s_ch S (144 + k)) = c_fd (s_kd S) (s_sz S) (c_r0 t n) (s_ch S (144 + k)) := by
      rw [c_fd_v]
      exact (c_fd_agr hρ.1.1 (fun c hc => hc) hw.1.2.1.sz hvA hok).symm
    have hf1 : c_f1 (ρ.1 231) (ρ.1 232) (s_ch S (144 + k)) = c_f1 (s_kd S) (s_sz S) (s_ch S (144 + k)) := (c_kz_f1 hρ.1.1 hok).symm
    have hww : c_f1 (s_kd S) (s_sz S) (s_ch S (144 + k)) = 0 → c_ww (m_R ρ) (s_ch S (144 + k)) = c_ww (c_r0 t n) (s_ch S (144 + k)) := fun q => (c_held_agr (fun c hc => hc) hw.1.2.1.sz hvA hok q).1.symm
    have hf2 : c_f1 (s_kd S) (s_sz S) (s_ch S (144 + k)) = 0 → c_f2 (ρ.1 231) (ρ.1 232) (m_R ρ) (s_ch S (144 + k)) = c_f2 (s_kd S) (s_sz S) (c_r0 t n) (s_ch S (144 + k)) := fun q => by
      unfold c_f2
      rw [hww q]
      exact (c_kz_wr hρ.1.1 hok.2 _ _).symm
    have fu : pu_fr m_trK ρ υ := u4.mono (fun j hj => Or.inl hj)
    have eT : υ.1 256 = c_tal (s_mt S) (s_ch S (144 + k)) (c_f1 (s_kd S) (s_sz S) (s_ch S (144 + k))) (c_ww (c_r0 t n) (s_ch S (144 + k))) (c_f2 (s_kd S) (s_sz S) (c_r0 t n) (s_ch S (144 + k))) := by
      rw [u6, decide_eq_false (by decide : ¬ (1 : Int32) = 0), cond_false, hf1, show ρ.1 256 = s_mt S from hρ.2.2.2.2.2.2]
      exact c_tal_congr (fun q => ⟨hww q, hf2 q⟩)
    have hυ : RM0 υ (s_md S (υ.1 256)) := hρ.md fu (fun j hj => u5 j (by omega))
    rw [eT] at hυ
    have mf : MF ρ υ := MF.of fu m_trK_in
    have k231 : υ.1 231 = ρ.1 231 := u4.1 231 (by unfold m_doK m_mvK; omega)
    have k232 : υ.1 232 = ρ.1 232 := u4.1 232 (by unfold m_doK m_mvK; omega)
    have e0 : M_layNow_L10 (nI (s_ln S 24)) (nI k) d3 ρ = cond (decide (c_fd (s_kd S) (s_sz S) (c_r0 t n) (s_ch S (144 + k)) = 0)) (M_layNow_L10 (nI (s_ln S 24)) (nI (k + 1)) (some (pd_i (c_fd (s_kd S) (s_sz S) (c_r0 t n) (s_ch S (144 + k))))) υ) (pd_bV (M_playsLaid υ) fun s3 => pd_bI (M_fails 24 (nI k) (c_fd (s_kd S) (s_sz S) (c_r0 t n) (s_ch S (144 + k))) s3) fun s4 v5 => some (s4, some (pd_i v5))) := by
      rw [M_layNow_L10_eq, decide_eq_false (nI_ge (show k < s_ln S 24 by omega) (by omega)), cond_false, m_144, u1, pd_bI_of, hfd, c_rng_le (c_fd_rng _ _ _ _), ← nI_succ]
    show ∃ υ', RM0 υ' (s_md S (cond (decide (c_fd (s_kd S) (s_sz S) (c_r0 t n) (s_ch S (144 + k)) = 0)) (c_ly (s_kd S) (s_sz S) (s_ch S) d (k + 1) _ _ _) (some (k, _), _)).2) ∧ MF ρ υ' ∧ ((cond (decide (c_fd (s_kd S) (s_sz S) (c_r0 t n) (s_ch S (144 + k)) = 0)) (c_ly (s_kd S) (s_sz S) (s_ch S) d (k + 1) _ _ _) (some (k, _), _)).1 = none → _) ∧ ∀ k' f, (cond (decide (c_fd (s_kd S) (s_sz S) (c_r0 t n) (s_ch S (144 + k)) = 0)) (c_ly (s_kd S) (s_sz S) (s_ch S) d (k + 1) _ _ _) (some (k, _), _)).1 = some (k', f) → _
    rw [e0]
    by_cases h0 : c_fd (s_kd S) (s_sz S) (c_r0 t n) (s_ch S (144 + k)) = 0
    · rw [decide_eq_true h0, cond_true, cond_true]
      have e1 := u2 (hfd.trans h0)
      have hA := c_one_agr hρ.1.1 (fun c hc => hc) hw.1.2.1.sz hvA hok h0 24 (144 + k)
      have r1 : υ.1 233 = (c_one (ρ.1 231) 24 (144 + k) (s_ch S (144 + k)) (m_R ρ)).1 := congrArg (fun R : cR => R.1) e1
      have r2 : υ.2.1 234 = (c_one (ρ.1 231) 24 (144 + k) (s_ch S (144 + k)) (m_R ρ)).2.1 := congrArg (fun R : cR => R.2.1) e1
      have hcl2 : c_cells (υ.1 231) (υ.1 232) (υ.1 233) (υ.2.1 234) := by
        rw [k231, k232, r1, r2]
        exact c_one_cells hkM hρ.1.2.1 (R := m_R ρ) hcl hchk (hfd.trans h0)
      obtain ⟨υ', k1, k2, k3, k4⟩ := ih (k + 1) (s_md S (c_tal (s_mt S) (s_ch S (144 + k)) (c_f1 (s_kd S) (s_sz S) (s_ch S (144 + k))) (c_ww (c_r0 t n) (s_ch S (144 + k))) (c_f2 (s_kd S) (s_sz S) (c_r0 t n) (s_ch S (144 + k))))) υ (c_one (s_kd S) 24 (144 + k) (s_ch S (144 + k)) (c_r0 t n)).1 (c_one (s_kd S) 24 (144 + k) (s_ch S (144 + k)) (c_r0 t n)).2.1 (some (pd_i (c_fd (s_kd S) (s_sz S) (c_r0 t n) (s_ch S (144 + k))))) (s_md_wf hw _) (show k + 1 + d = s_ln S 24 by omega) hυ hcl2 (fun c hc => by
        obtain ⟨q1, q2, -⟩ := hA.1 c hc
        rw [r1, r2]
        exact ⟨q1, q2⟩)
      exact ⟨υ', k1, mf.tr k2, k3, k4⟩
    · rw [decide_eq_false h0, cond_false, cond_false]
      exact ⟨υ, hυ, mf, (fun q => by cases q), (fun k' f q => by cases q; rfl)⟩
end LAY
