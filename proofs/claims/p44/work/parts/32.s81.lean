/-! (whole, 81.lay) -/
section LAY
variable {σ τ : pd_H} {S : cS}
def s_md (S : cS) (mt : Nat → Int32) : cS := s_ot S (s_un S) (s_vr S) (s_tp S) (s_fl S) mt
theorem s_md_wf (hw : s_wf S) (mt : Nat → Int32) : s_wf (s_md S mt) := s_ot_wf hw hw.2.2.1.2.1 hw.2.2.1.2.2.1 hw.2.2.1.2.2.2.1 hw.2.2.1.2.2.2.2 hw.2.2.2.2.1 hw.2.2.2.2.2
theorem RX_md (h : RX σ S) (hf : pu_fr (fun k => k = 16) σ τ) : RX τ (s_md S (τ.1 16)) := by
  refine RX_ot h (hf.mono fun k hk => by omega) ?_
  obtain ⟨d1, d2, d3, d4⟩ := h.2.2.2.2
  exact ⟨⟨d1.1.of (by rw [hf.1 17 (by decide)]) (hf.1 18 (by decide)), by rw [hf.1 0 (by decide)]; exact d1.2.1, fun v l hv => (d1.2.2 v l hv).of (by rw [hf.1 _ (by omega)]) (hf.1 _ (by omega))⟩, by rw [hf.1 10 (by decide), hf.1 11 (by decide)]; exact d2, by rw [hf.1 0 (by decide)]; exact d3, rfl⟩
theorem Tally_addStep_s {r : Nat} {c : cC} {f1 ww f2 : Int32} (hr : r ≠ 16) (hx : x_told τ r c f1 ww f2) (hc : c.1 ≠ -1 → ∃ w : Nat, w < 9 ∧ c.2.2.1 = nI w) (h1 : c_rng f1) (hww : f1 = 0 → ∃ w : Nat, w < 22 ∧ ww = nI w) (h2 : c_rng f2) : ∃ υ, Tally_addStep r τ = some (υ, none) ∧ υ.1 16 = c_tal (τ.1 16) c f1 ww f2 ∧ pu_fr (fun k => k = 16) τ υ := by
  obtain ⟨x1, x2, x3, x4⟩ := hx
  have step2 : ∀ ρ : pd_H, ρ.1 r = τ.1 r → pu_fr (fun k => k = 16) τ ρ → ∃ υ, Tally_addStep_L20 r ρ = some (υ, none) ∧ υ.1 16 = cond (decide (f1 = 0)) (c_ta2 (ρ.1 16) ww f2) (ρ.1 16) ∧ pu_fr (fun k => k = 16) τ υ := fun ρ e hρ => by
    rw [Tally_addStep_L20_eq, e, x3]
    by_cases q : f1 = 0
    · rw [decide_eq_true q, cond_true, cond_true, x4 q]
      obtain ⟨w, w1, w2⟩ := hww q
      rw [w2]
      have n1 : ∀ w, w < 22 → decide (nI w = (-1 : Int32)) = false := by decide +kernel
      rw [n1 w w1, cond_false]
      unfold c_ta2
      by_cases q20 : (20 : Int32) ≤ nI w
      · rw [decide_eq_true q20]
        exact ⟨ρ, rfl, rfl, hρ⟩
      · rw [decide_eq_false q20, cond_false, cond_false]
        by_cases q8 : (8 : Int32) ≤ nI w
        · rw [decide_eq_true q8, cond_true, cond_true, show (17 : Int32) = nI 17 from rfl, Tally_add_m (by decide) h2, pd_bV_of]
          exact ⟨_, rfl, by rw [pu_w1s], hρ.tr (pu_fr.rwI rfl)⟩
        · have hw8 : w < 8 := by
            rcases Nat.lt_or_ge w 8 with k | k
            · exact k
            · exact absurd (nI_le k (by omega)) q8
          rw [decide_eq_false q8, cond_false, cond_false, show (9 : Int32) = nI 9 from rfl, nI_add, Tally_add_m (by omega) h2, pd_bV_of]
          exact ⟨_, rfl, by rw [pu_w1s], hρ.tr (pu_fr.rwI rfl)⟩
    · rw [decide_eq_false q, cond_false, decide_eq_true (rfl : (-1 : Int32) = -1), cond_true]
      exact ⟨ρ, rfl, rfl, hρ⟩
  have fin : ∀ m : Nat → Int32, m = c_ta1 (τ.1 16) c f1 → cond (decide (f1 = 0)) (c_ta2 m ww f2) m = c_tal (τ.1 16) c f1 ww f2 := fun m e => by rw [e]; rfl
  rw [Tally_addStep_eq, x1]
  by_cases q : c.1 = -1
  · rw [decide_eq_true q, cond_true, decide_eq_true (rfl : (-1 : Int32) = -1), cond_true]
    obtain ⟨υ, u1, u2, u3⟩ := step2 τ rfl pu_fr.rf
    exact ⟨υ, u1, u2.trans (fin _ (by unfold c_ta1; rw [decide_eq_true q, cond_true])), u3⟩
  · obtain ⟨w, w1, w2⟩ := hc q
    have n1 : ∀ w, w < 9 → decide (nI w = (-1 : Int32)) = false := by decide +kernel
    rw [decide_eq_false q, cond_false, w2, n1 w w1, cond_false, x2 q, Tally_add_m (by omega) h1, pd_bV_of]
    obtain ⟨υ, u1, u2, u3⟩ := step2 (pu_rwI τ 16 (c_bmp (τ.1 16) (nI w) f1)) (pu_w1n hr) (pu_fr.rwI rfl)
    refine ⟨υ, u1, u2.trans (fin _ ?_), u3⟩
    unfold c_ta1
    rw [pu_w1s, decide_eq_false q, cond_false, w2]
/-- the draft's changes in their order: the first finding, and what is met -/
def c_ly (kd sz : Nat → Int32) (chg : Nat → cC) : Nat → Nat → (Nat → Int32) → (Nat → Int64) → (Nat → Int32) → Option (Nat × Int32) × (Nat → Int32)
  | 0, _, _, _, mt => (none, mt)
  | d + 1, k, t, n, mt => cond (decide (c_fd kd sz (c_r0 t n) (chg (144 + k)) = 0)) (c_ly kd sz chg d (k + 1) (c_one kd 24 (144 + k) (chg (144 + k)) (c_r0 t n)).1 (c_one kd 24 (144 + k) (chg (144 + k)) (c_r0 t n)).2.1 (c_tal mt (chg (144 + k)) (c_f1 kd sz (chg (144 + k))) (c_ww (c_r0 t n) (chg (144 + k))) (c_f2 kd sz (c_r0 t n) (chg (144 + k))))) (some (k, c_fd kd sz (c_r0 t n) (chg (144 + k))), c_tal mt (chg (144 + k)) (c_f1 kd sz (chg (144 + k))) (c_ww (c_r0 t n) (chg (144 + k))) (c_f2 kd sz (c_r0 t n) (chg (144 + k))))
theorem c_tal_congr {m : Nat → Int32} {c : cC} {f1 ww ww' f2 f2' : Int32} (h : f1 = 0 → ww = ww' ∧ f2 = f2') : c_tal m c f1 ww f2 = c_tal m c f1 ww' f2' := by
  by_cases q : f1 = 0
  · rw [(h q).1, (h q).2]
  · unfold c_tal
    rw [decide_eq_false q, cond_false, cond_false]
theorem c_way9 {c : cC} (h : c_chok c) : c.1 ≠ -1 → ∃ w : Nat, w < 9 ∧ c.2.2.1 = nI w := fun q => by
  obtain ⟨-, w, w1, -, w3⟩ := h
  exact ⟨w, w3 q, w1⟩
/-- the desk's way through the draft -/
theorem X_ly_s : ∀ (d k : Nat) (S : cS) (τ : pd_H) (t : Nat → Int32) (n : Nat → Int64) (d3 : Option pd_V), s_wf S → k + d = s_ln S 24 → c_cells (s_kd S) (s_sz S) t n → RX τ S → c_vag (fun c => c < 72) (τ.1 (τ.2.2 1 + 4)) t (τ.2.1 (τ.2.2 1 + 5)) n → ∃ υ, RX υ (s_md S (c_ly (s_kd S) (s_sz S) (s_ch S) d k t n (s_mt S)).2) ∧ XF τ υ ∧ ((c_ly (s_kd S) (s_sz S) (s_ch S) d k t n (s_mt S)).1 = none → ∃ d3', X_lay_L46 (nI (s_ln S 24)) (nI k) d3 τ = X_lay_L46 (nI (s_ln S 24)) (nI (s_ln S 24)) d3' υ) ∧ ∀ k' f, (c_ly (s_kd S) (s_sz S) (s_ch S) d k t n (s_mt S)).1 = some (k', f) → X_lay_L46 (nI (s_ln S 24)) (nI k) d3 τ = pd_bI (X_refuse 24 (nI k') f υ) fun s8 v9 => some (s8, some (pd_i v9)) := by
  intro d
  induction d with
  | zero =>
    intro k S τ t n d3 hw hk hcl hX hv
    refine ⟨τ, RX_md hX pu_fr.rf |> fun g => by
      have e : τ.1 16 = s_mt S := hX.2.2.2.2.2.2.2
      rw [e] at g; exact g, XF.rf, fun _ => ⟨d3, by rw [show k = s_ln S 24 by omega]⟩, fun k' f q => by cases q⟩
  | succ d ih =>
    intro k S τ t n d3 hw hk hcl hX hv
    have hl6 := hw.2.1.2.1 24 (by decide)
    have hr := x_run hX
    have hrt := x_tr3 hX
    have eC : x_chg τ (6 * 24 + k) = s_ch S (144 + k) := hX.2.1.1 24 k (Or.inr rfl) (by omega)
    have hchk := (hw.2.1.2.2 24 k (Or.inr rfl) (by omega)).1
    have hchk : c_chok (s_ch S (144 + k)) := hchk
    have hok : c_ok (s_ch S (144 + k)) := hchk.1
    obtain ⟨υ, u1, u2, u3, u4, -, u6⟩ := Run_step_s (σ := τ) (r := τ.2.2 1) (p := 24) (k := k) (x_tr3 hX) (by decide) (by omega) (by rw [hX.1.2.1]; exact hw.1.2.1.sz) (by rw [eC]; exact hok)
    rw [eC, hX.1.1, hX.1.2.1] at u1 u2 u3 u6
    have hvA : c_agr (fun c => c < 72) (fun _ => False) (c_r0 (x_rows τ (τ.2.2 1)).1 (x_rows τ (τ.2.2 1)).2.1) (c_r0 t n) := c_vag.agr hv
    have hfd : c_fd (s_kd S) (s_sz S) (x_rows τ (τ.2.2 1)) (s_ch S (144 + k)) = c_fd (s_kd S) (s_sz S) (c_r0 t n) (s_ch S (144 + k)) := by
      rw [c_fd_v]
      exact c_fd_agr c_kz.rf (fun c hc => c_vc_72 hc) hw.1.2.1.sz hvA hok
    have hww : c_f1 (s_kd S) (s_sz S) (s_ch S (144 + k)) = 0 → c_ww (x_rows τ (τ.2.2 1)) (s_ch S (144 + k)) = c_ww (c_r0 t n) (s_ch S (144 + k)) := fun q => (c_held_agr (fun c hc => c_vc_72 hc) hw.1.2.1.sz hvA hok q).1
    have hf2 : c_f1 (s_kd S) (s_sz S) (s_ch S (144 + k)) = 0 → c_f2 (s_kd S) (s_sz S) (x_rows τ (τ.2.2 1)) (s_ch S (144 + k)) = c_f2 (s_kd S) (s_sz S) (c_r0 t n) (s_ch S (144 + k)) := fun q => by
      unfold c_f2
      rw [hww q]
    have frK : pu_fr (x_frK (τ.2.2 1)) τ υ := u4.mono (fun j hj => by have := x_stK_in j hj; unfold x_frK; omega)
    have hX2 := RX_frK hw hX frK
    have e22 : υ.2.2 = τ.2.2 := u4.2.2
    have xf : XF τ υ := XF.of u4 (fun j hj => by have := x_stK_in j hj; omega)
    obtain ⟨ρ, w1, w2, w3⟩ := Tally_addStep_s (τ := υ) (by omega) u6 (c_way9 hchk) (c_f1_rng _ _ _) (fun q => by
      rw [hww q]
      obtain ⟨-, -, -, -, -, w, w1, w2, -⟩ := c_held_ok (R := c_r0 t n) hw.1.1 hw.1.2.1 hcl hchk q
      exact ⟨w, w1, w2⟩) (c_wrF_rng _ _ _ _ _)
    have eT : ρ.1 16 = c_tal (s_mt S) (s_ch S (144 + k)) (c_f1 (s_kd S) (s_sz S) (s_ch S (144 + k))) (c_ww (c_r0 t n) (s_ch S (144 + k))) (c_f2 (s_kd S) (s_sz S) (c_r0 t n) (s_ch S (144 + k))) := by
      rw [w2, show υ.1 16 = s_mt S from hX2.2.2.2.2.2.2.2]
      exact c_tal_congr (fun q => ⟨hww q, hf2 q⟩)
    have hX3 : RX ρ (s_md S (ρ.1 16)) := RX_md hX2 w3
    rw [eT] at hX3
    have xf2 : XF τ ρ := xf.tr (XF.of w3 (fun k hk => by omega))
    have e0 : X_lay_L46 (nI (s_ln S 24)) (nI k) d3 τ = cond (decide (c_fd (s_kd S) (s_sz S) (c_r0 t n) (s_ch S (144 + k)) = 0)) (X_lay_L46 (nI (s_ln S 24)) (nI (k + 1)) (some (pd_i (c_fd (s_kd S) (s_sz S) (c_r0 t n) (s_ch S (144 + k))))) ρ) (pd_bI (X_refuse 24 (nI k) (c_fd (s_kd S) (s_sz S) (c_r0 t n) (s_ch S (144 + k))) ρ) fun s8 v9 => some (s8, some (pd_i v9))) := by
      rw [X_lay_L46_eq, decide_eq_false (nI_ge (show k < s_ln S 24 by omega) (by omega)), cond_false, show (24 : Int32) = nI 24 from rfl, u1, pd_bI_of, hfd, e22, w1, pd_bV_of, ← nI_succ]
    have e32 : ρ.2.2 = τ.2.2 := w3.2.2.trans e22
    have hrt2 := hrt
    have r4 : ρ.1 (τ.2.2 1 + 4) = υ.1 (τ.2.2 1 + 4) := w3.1 _ (by omega)
    have r5 : ρ.2.1 (τ.2.2 1 + 5) = υ.2.1 (τ.2.2 1 + 5) := w3.2.1 _ (by omega)
    show ∃ υ', RX υ' (s_md S (cond (decide (c_fd (s_kd S) (s_sz S) (c_r0 t n) (s_ch S (144 + k)) = 0)) (c_ly (s_kd S) (s_sz S) (s_ch S) d (k + 1) _ _ _) (some (k, _), _)).2) ∧ XF τ υ' ∧ ((cond (decide (c_fd (s_kd S) (s_sz S) (c_r0 t n) (s_ch S (144 + k)) = 0)) (c_ly (s_kd S) (s_sz S) (s_ch S) d (k + 1) _ _ _) (some (k, _), _)).1 = none → _) ∧ ∀ k' f, (cond (decide (c_fd (s_kd S) (s_sz S) (c_r0 t n) (s_ch S (144 + k)) = 0)) (c_ly (s_kd S) (s_sz S) (s_ch S) d (k + 1) _ _ _) (some (k, _), _)).1 = some (k', f) → _
    rw [e0]
    by_cases h0 : c_fd (s_kd S) (s_sz S) (c_r0 t n) (s_ch S (144 + k)) = 0
    · rw [decide_eq_true h0, cond_true, cond_true]
      have e1 := u2 (hfd.trans h0)
      have hA := c_one_agr c_kz.rf (fun c hc => c_vc_72 hc) hw.1.2.1.sz hvA hok (by rw [← c_fd_v]; exact hfd.trans h0) (nI 24) (6 * 24 + k)
      obtain ⟨υ', k1, k2, k3, k4⟩ := ih (k + 1) (s_md S (c_tal (s_mt S) (s_ch S (144 + k)) (c_f1 (s_kd S) (s_sz S) (s_ch S (144 + k))) (c_ww (c_r0 t n) (s_ch S (144 + k))) (c_f2 (s_kd S) (s_sz S) (c_r0 t n) (s_ch S (144 + k))))) ρ (c_one (s_kd S) 24 (144 + k) (s_ch S (144 + k)) (c_r0 t n)).1 (c_one (s_kd S) 24 (144 + k) (s_ch S (144 + k)) (c_r0 t n)).2.1 (some (pd_i (c_fd (s_kd S) (s_sz S) (c_r0 t n) (s_ch S (144 + k))))) (s_md_wf hw _) (show k + 1 + d = s_ln S 24 by omega) (c_one_cells hw.1.1 hw.1.2.1 (R := c_r0 t n) hcl hchk h0) hX3 (fun c hc => by
        obtain ⟨q1, q2, -⟩ := hA.1 c hc
        have r1 : υ.1 (τ.2.2 1 + 4) = (c_one (s_kd S) (nI 24) (6 * 24 + k) (s_ch S (144 + k)) (x_rows τ (τ.2.2 1))).1 := congrArg (fun R : cR => R.1) e1
        have r2 : υ.2.1 (τ.2.2 1 + 5) = (c_one (s_kd S) (nI 24) (6 * 24 + k) (s_ch S (144 + k)) (x_rows τ (τ.2.2 1))).2.1 := congrArg (fun R : cR => R.2.1) e1
        rw [e32, r4, r5, r1, r2]
        exact ⟨q1, q2⟩)
      exact ⟨υ', k1, xf2.tr k2, k3, k4⟩
    · rw [decide_eq_false h0, cond_false, cond_false]
      exact ⟨ρ, hX3, xf2, (fun q => by cases q), (fun k' f q => by cases q; rfl)⟩
end LAY
/-! (whole, 82.layj) -/
section LAYJ
variable {σ τ : pd_H} {S : cS}
def s_npc (S : cS) : Nat → cC := fun a => if 6 * s_pc S ≤ a ∧ a < 6 * s_pc S + s_ln S 24 then s_ch S (144 + (a - 6 * s_pc S)) else s_ch S a
def s_npl (S : cS) : Nat → Nat := c_updN (c_updN (s_ln S) (s_pc S) (s_ln S 24)) 24 0
/-- the draft is a patch -/
def s_np (S : cS) : cS := (s_kd S, s_sz S, s_bt S, s_bn S, s_npc S, s_npl S, s_pc S + 1, s_or S, s_un S, s_vr S, s_tp S, s_fl S, s_mt S)
theorem s_npc_lo {a : Nat} (h : a < 6 * s_pc S) : s_npc S a = s_ch S a := if_neg (by omega)
theorem s_npc_in {k : Nat} (h : k < s_ln S 24) : s_npc S (6 * s_pc S + k) = s_ch S (144 + k) := by
  unfold s_npc
  rw [if_pos ⟨by omega, by omega⟩]
  congr 1; omega
theorem s_npl_n {p : Nat} (h : p ≠ s_pc S) (h24 : p ≠ 24) : s_npl S p = s_ln S p := by
  unfold s_npl
  rw [c_updN_n h24, c_updN_n h]
theorem s_npl_24 : s_npl S 24 = 0 := c_updN_s
theorem s_npl_pc (h : s_pc S < 24) : s_npl S (s_pc S) = s_ln S 24 := by
  unfold s_npl
  rw [c_updN_n (by omega), c_updN_s]
theorem s_np_line (h24 : s_pc S < 24) {l : List Nat} (hl : ∀ p ∈ l, p < s_pc S) : c_line (s_npl S) l = c_line (s_ln S) l := c_line_congr (fun p hp => s_npl_n (by have := hl p hp; omega) (by have := hl p hp; omega))
theorem s_np_ch (hw : s_wf S) (h24 : s_pc S < 24) {l : List Nat} (hl : ∀ p ∈ l, p < s_pc S) : ∀ a ∈ c_line (s_ln S) l, s_npc S a = s_ch S a := fun a ha => by
  obtain ⟨p, h1, k, h2, rfl⟩ := c_line_mem ha
  have h3 := hl p h1
  have := hw.2.1.2.1 p (by omega)
  exact s_npc_lo (by omega)
theorem s_np_play (hw : s_wf S) (h24 : s_pc S < 24) {l : List Nat} (hl : ∀ p ∈ l, p < s_pc S) : s_play (s_np S) l = s_play S l := by
  show c_ply (s_kd S) (s_sz S) (s_npc S) (c_line (s_npl S) l) (c_r0 (s_bt S) (s_bn S)) = c_ply (s_kd S) (s_sz S) (s_ch S) (c_line (s_ln S) l) (c_r0 (s_bt S) (s_bn S))
  rw [s_np_line h24 hl]
  exact c_ply_congr (s_np_ch hw h24 hl)
theorem s_np_ord {l : List Nat} (h : s_ord S l) : s_ord (s_np S) l := ⟨h.1, fun p hp => Nat.lt_succ_of_lt (h.2 p hp)⟩
theorem s_np_wf (hw : s_wf S) (h24 : s_pc S < 24) : s_wf (s_np S) := by
  have h6 := hw.2.1.2.1 24 (by decide)
  refine ⟨hw.1, ⟨h24, fun p hp => ?_, fun p k hp hk => ?_⟩, ⟨s_np_ord hw.2.2.1.1, s_np_ord hw.2.2.1.2.1, hw.2.2.1.2.2.1, hw.2.2.1.2.2.2.1, fun l hl => s_np_ord (hw.2.2.1.2.2.2.2 l hl)⟩, ?_, hw.2.2.2.2⟩
  · show s_npl S p ≤ 6
    by_cases e : p = s_pc S
    · rw [e, s_npl_pc h24]; exact h6
    · by_cases e2 : p = 24
      · rw [e2, s_npl_24]; exact Nat.zero_le _
      · rw [s_npl_n e e2]; exact hw.2.1.2.1 p hp
  · have hk : k < s_npl S p := hk
    show c_chok (s_npc S (6 * p + k)) ∧ c_nrm (s_npc S (6 * p + k))
    have hp : p < s_pc S + 1 ∨ p = 24 := hp
    by_cases e : p = s_pc S
    · subst e
      rw [s_npl_pc h24] at hk
      rw [s_npc_in hk]
      exact hw.2.1.2.2 24 k (Or.inr rfl) hk
    · by_cases e2 : p = 24
      · rw [e2, s_npl_24] at hk; omega
      · rw [s_npl_n e e2] at hk
        have := hw.2.1.2.1 p (by omega)
        rw [s_npc_lo (by omega)]
        exact hw.2.1.2.2 p k (Or.inl (by omega)) hk
  · show (s_play (s_np S) (s_or S)).1 = none
    rw [s_np_play hw h24 hw.2.2.1.1.2]
    exact hw.2.2.2.1
def x_npK (k : Nat) : Prop := k = 7 ∨ k = 9 ∨ (80 ≤ k ∧ k < 230)
theorem RX_np (hw : s_wf S) (h24 : s_pc S < 24) (h : RX σ S) (hf : pu_fr x_npK σ τ) (hb : x_bk τ (s_np S)) : RX τ (s_np S) := by
  have e1 : ∀ k, ¬ x_npK k → τ.1 k = σ.1 k := hf.1
  have e2 : ∀ k, ¬ x_npK k → τ.2.1 k = σ.2.1 k := hf.2.1
  have hrt := h.2.2.1
  have hr : σ.2.2 0 = 32 ∨ σ.2.2 0 = 48 := by rcases hrt with q | q <;> omega
  have hseq : ∀ o l, 10 < o → o + 1 < 80 → pu_seq σ o l → pu_seq τ o l := fun o l h1 ho q => q.of (by rw [e1 o (by unfold x_npK; omega)]) (e1 (o + 1) (by unfold x_npK; omega))
  have hpl := s_np_play hw h24 hw.2.2.1.1.2
  have hln := s_np_line h24 hw.2.2.1.1.2
  obtain ⟨⟨a1, a2, a3, a4⟩, -, -, ⟨c1, c2, c3⟩, ⟨d1, d2, d3⟩, d4, d5, d6⟩ := h
  refine ⟨⟨?_, ?_, ?_, ?_⟩, hb, ?_, ⟨?_, ?_, ?_⟩, ⟨?_, ?_, ?_⟩, ?_, ?_, ?_⟩
  · rw [e1 2 (by unfold x_npK; omega)]; exact a1
  · rw [e1 3 (by unfold x_npK; omega)]; exact a2
  · rw [e1 5 (by unfold x_npK; omega)]; exact a3
  · rw [e2 6 (by unfold x_npK; omega)]; exact a4
  · rw [hf.2.2]; exact hrt
  · rw [hf.2.2]; exact hseq _ _ (by omega) (by omega) c1
  · rw [hf.2.2]
    show c_agr (fun c => c < 72) (fun a => a ∈ c_line (s_npl S) (s_or S)) (x_rw S τ (σ.2.2 0)) (s_play (s_np S) (s_or S)).2
    rw [hpl, hln]
    have : x_rw S τ (σ.2.2 0) = x_rw S σ (σ.2.2 0) := by
      unfold x_rw
      rw [e1 (σ.2.2 0 + 4) (by unfold x_npK; omega), e2 (σ.2.2 0 + 5) (by unfold x_npK; omega), e1 (σ.2.2 0 + 6) (by unfold x_npK; omega), e1 (σ.2.2 0 + 9) (by unfold x_npK; omega), e2 (σ.2.2 0 + 10) (by unfold x_npK; omega), e1 (σ.2.2 0 + 12) (by unfold x_npK; omega), e2 (σ.2.2 0 + 13) (by unfold x_npK; omega), e1 (σ.2.2 0 + 14) (by unfold x_npK; omega)]
    rw [this]; exact c2
  · rw [hf.2.2, e1 _ (by unfold x_npK; omega : ¬ x_npK (σ.2.2 0 + 15))]
    intro p hp
    show _ = c_mask (s_npc S) (c_line (s_npl S) (s_or S)) p
    rw [c3 p hp, hln]
    exact c_mask_congr (fun a ha => (s_np_ch hw h24 hw.2.2.1.1.2 a ha).symm)
  · exact hseq _ _ (by omega) (by omega) d1
  · rw [e1 0 (by unfold x_npK; omega)]; exact d2
  · intro v l hv
    have hvlt : v < (s_vr S).length := (List.getElem?_eq_some_iff.mp hv).1
    have hvl := hw.2.2.1.2.2.2.1
    exact hseq _ _ (by omega) (by omega) (d3 v l hv)
  · rw [e1 10 (by unfold x_npK; omega), e1 11 (by unfold x_npK; omega)]; exact d4
  · rw [e1 0 (by unfold x_npK; omega)]; exact d5
  · rw [e1 16 (by unfold x_npK; omega)]; exact d6
theorem Book_make_loop (hw : s_wf S) (h24 : s_pc S < 24) (h : RX σ S) : ∀ (m k : Nat) (τ : pd_H), k + m = s_ln S 24 → pu_fr (fun q => 80 + 6 * s_pc S ≤ q ∧ q < 80 + 6 * s_pc S + s_ln S 24) σ τ → (∀ j, j < k → x_chg τ (6 * s_pc S + j) = s_ch S (144 + j)) → ∃ υ, Book_makePatchOfDraft_L7 (nI (s_pc S)) (nI k) τ = some (pd_upI (pd_upI (pd_upI υ 9 (s_pc S) (nI (s_ln S 24))) 9 24 0) 7 2 (nI (s_pc S + 1)), some (pd_i (nI (s_pc S)))) ∧ pu_fr (fun q => 80 + 6 * s_pc S ≤ q ∧ q < 80 + 6 * s_pc S + s_ln S 24) σ υ ∧ ∀ j, j < s_ln S 24 → x_chg υ (6 * s_pc S + j) = s_ch S (144 + j) := by
  have h6 := hw.2.1.2.1 24 (by decide)
  intro m
  induction m with
  | zero =>
    intro k τ hk hf hc
    have e9 : τ.1 9 24 = nI (s_ln S 24) := by rw [hf.1 9 (by omega)]; exact x_len24 h
    have e7 : τ.1 7 2 = nI (s_pc S) := by rw [hf.1 7 (by omega)]; exact h.2.1.2.2
    refine ⟨τ, ?_, hf, fun j hj => hc j (by omega)⟩
    rw [Book_makePatchOfDraft_L7_eq, e9, decide_eq_true (nI_le (show s_ln S 24 ≤ k by omega) (by omega)), cond_true, show pd_len 9 = 25 from rfl, pu_obN (show s_pc S < 25 by omega) (by decide), cond_false, nI_clamp (by omega), pu_u1n (show 7 ≠ 9 by decide), pu_u1n (show 7 ≠ 9 by decide), e7, ← nI_succ]
  | succ m ih =>
    intro k τ hk hf hc
    have e9 : τ.1 9 24 = nI (s_ln S 24) := by rw [hf.1 9 (by omega)]; exact x_len24 h
    have hsrc : x_chg τ (144 + k) = s_ch S (144 + k) := by
      have e : x_chg τ (144 + k) = x_chg σ (144 + k) := by unfold x_chg; rw [hf.1 _ (by omega)]
      rw [e]; exact h.2.1.1 24 k (Or.inr rfl) (by omega)
    obtain ⟨ρ, r1, r2, g0, g1, g2, g3, g4, g5⟩ := Change_become_s (80 + (6 * s_pc S + k)) (τ.1 (80 + (144 + k)) 0) (τ.1 (80 + (144 + k)) 1) (τ.1 (80 + (144 + k)) 2) (τ.1 (80 + (144 + k)) 3) (τ.1 (80 + (144 + k)) 4) (τ.1 (80 + (144 + k)) 5) τ
    have hρ : x_chg ρ (6 * s_pc S + k) = s_ch S (144 + k) := by
      rw [← hsrc]
      unfold x_chg
      rw [g0, g1, g2, g3, g4, g5]
    obtain ⟨υ, u1, u2, u3⟩ := ih (k + 1) ρ (by omega) (hf.tr (r2.mono fun q hq => by omega)) (fun j hj => by
      by_cases e : j = k
      · rw [e]; exact hρ
      · have : x_chg ρ (6 * s_pc S + j) = x_chg τ (6 * s_pc S + j) := by unfold x_chg; rw [r2.1 _ (by omega)]
        rw [this]; exact hc j (by omega))
    refine ⟨υ, ?_, u2, u3⟩
    have s1 : nI 24 * 6 + nI k = nI (144 + k) := c_step_nI 24 k
    rw [Book_makePatchOfDraft_L7_eq, e9, decide_eq_false (nI_ge (show k < s_ln S 24 by omega) (by omega)), cond_false, X_stepOf_s, c_step_nI, pd_bI_of, show pd_len 8 = 150 from rfl, pu_obN (show 6 * s_pc S + k < 150 by omega) (by decide), cond_false, X_stepOf_s, show (24 : Int32) = nI 24 from rfl, s1, pd_bI_of, pu_obN (show 144 + k < 150 by omega) (by decide), cond_false, nI_clamp (by omega), nI_clamp (by omega), Change_becomeLike_eq, r1, pd_bV_of, pd_bV_of, ← nI_succ, u1]
theorem Book_make_s (hw : s_wf S) (h24 : s_pc S < 24) (h : RX σ S) : ∃ υ, Book_makePatchOfDraft σ = some (υ, some (pd_i (nI (s_pc S)))) ∧ RX υ (s_np S) ∧ pu_fr x_npK σ υ := by
  have h6 := hw.2.1.2.1 24 (by decide)
  obtain ⟨υ, u1, u2, u3⟩ := Book_make_loop hw h24 h (s_ln S 24) 0 σ (Nat.zero_add _) pu_fr.rf (fun j hj => absurd hj (Nat.not_lt_zero _))
  have fr : pu_fr x_npK σ (pd_upI (pd_upI (pd_upI υ 9 (s_pc S) (nI (s_ln S 24))) 9 24 0) 7 2 (nI (s_pc S + 1))) := ((u2.mono fun q hq => by unfold x_npK; omega).tr (((pu_fr.upI (Or.inr (Or.inl rfl))).tr (pu_fr.upI (Or.inr (Or.inl rfl)))).tr (pu_fr.upI (Or.inl rfl))))
  refine ⟨_, ?_, RX_np hw h24 h fr ⟨fun p k hp hk => ?_, fun p hp => ?_, ?_⟩, fr⟩
  · rw [Book_makePatchOfDraft_eq, h.2.1.2.2]; exact u1
  · have hk : k < s_npl S p := hk
    show x_chg _ (6 * p + k) = s_npc S (6 * p + k)
    have hx : x_chg (pd_upI (pd_upI (pd_upI υ 9 (s_pc S) (nI (s_ln S 24))) 9 24 0) 7 2 (nI (s_pc S + 1))) (6 * p + k) = x_chg υ (6 * p + k) := by
      unfold x_chg
      rw [pu_u1n (by omega), pu_u1n (by omega), pu_u1n (by omega)]
    rw [hx]
    have hp : p < s_pc S + 1 ∨ p = 24 := hp
    by_cases e : p = s_pc S
    · subst e
      rw [s_npl_pc h24] at hk
      rw [s_npc_in hk]
      exact u3 k hk
    · by_cases e2 : p = 24
      · rw [e2, s_npl_24] at hk; omega
      · rw [s_npl_n e e2] at hk
        have := hw.2.1.2.1 p (by omega)
        have e3 : x_chg υ (6 * p + k) = x_chg σ (6 * p + k) := by unfold x_chg; rw [u2.1 _ (by omega)]
        rw [s_npc_lo (by omega), e3]
        exact h.2.1.1 p k (Or.inl (by omega)) hk
  · show (pd_upI (pd_upI (pd_upI υ 9 (s_pc S) (nI (s_ln S 24))) 9 24 0) 7 2 (nI (s_pc S + 1))).1 9 p = nI (s_npl S p) ∧ s_npl S p ≤ 6
    rw [pu_u1n (by decide), pu_u1s, pu_u1s]
    by_cases e2 : p = 24
    · rw [e2, pk_us, s_npl_24]; exact ⟨rfl, Nat.zero_le _⟩
    · rw [pk_un e2]
      by_cases e : p = s_pc S
      · rw [e, pk_us, s_npl_pc h24]; exact ⟨rfl, h6⟩
      · rw [pk_un e, s_npl_n e e2, u2.1 9 (by omega)]; exact h.2.1.2.1 p hp
  · show (pd_upI (pd_upI (pd_upI υ 9 (s_pc S) (nI (s_ln S 24))) 9 24 0) 7 2 (nI (s_pc S + 1))).1 7 2 = nI (s_pc S + 1)
    rw [pu_u1s, pk_us]
/-- behind a way without a finding the patch plays -/
theorem c_ly_ply {kd sz : Nat → Int32} {chg chg' : Nat → cC} {p : Nat} : ∀ (d k : Nat) (t : Nat → Int32) (n : Nat → Int64) (mt : Nat → Int32) (R : cR), (c_ly kd sz chg d k t n mt).1 = none → R.1 = t → R.2.1 = n → (∀ j, j < k + d → chg' (6 * p + j) = chg (144 + j)) → (c_ply kd sz chg' (c_blk p k d) R).1 = none := by
  intro d
  induction d with
  | zero => intro k t n mt R _ _ _ _; rfl
  | succ d ih =>
    intro k t n mt R h e1 e2 hc
    have ec := hc k (by omega)
    have h : (cond (decide (c_fd kd sz (c_r0 t n) (chg (144 + k)) = 0)) (c_ly kd sz chg d (k + 1) (c_one kd 24 (144 + k) (chg (144 + k)) (c_r0 t n)).1 (c_one kd 24 (144 + k) (chg (144 + k)) (c_r0 t n)).2.1 (c_tal mt (chg (144 + k)) (c_f1 kd sz (chg (144 + k))) (c_ww (c_r0 t n) (chg (144 + k))) (c_f2 kd sz (c_r0 t n) (chg (144 + k))))) (some (k, c_fd kd sz (c_r0 t n) (chg (144 + k))), c_tal mt (chg (144 + k)) (c_f1 kd sz (chg (144 + k))) (c_ww (c_r0 t n) (chg (144 + k))) (c_f2 kd sz (c_r0 t n) (chg (144 + k))))).1 = none := h
    by_cases h0 : c_fd kd sz (c_r0 t n) (chg (144 + k)) = 0
    · rw [decide_eq_true h0, cond_true] at h
      have hR : c_fd kd sz R (chg' (6 * p + k)) = 0 := by rw [ec, c_fd_v, e1, e2]; exact h0
      show (c_ply kd sz chg' ((6 * p + k) :: c_blk p (k + 1) d) R).1 = none
      rw [c_ply_ok hR]
      refine ih (k + 1) _ _ _ _ h ?_ ?_ (fun j hj => hc j (by omega))
      · rw [ec, ← e1, ← e2]; rfl
      · rw [ec, ← e1, ← e2]; rfl
    · rw [decide_eq_false h0, cond_false] at h; cases h
end LAYJ
/-! (whole, 83.layf) -/
section LAYF
variable {σ τ : pd_H} {S : cS}
theorem X_stand_s (hw : s_wf S) (h : RX σ S) : ∃ τ, Run_standLike (σ.2.2 1) (σ.2.2 0) σ = some (τ, none) ∧ RX τ S ∧ XF σ τ ∧ c_vag (fun c => c < 72) (τ.1 (τ.2.2 1 + 4)) (s_play S (s_or S)).2.1 (τ.2.1 (τ.2.2 1 + 5)) (s_play S (s_or S)).2.2.1 := by
  have hr := x_run h
  have hs := Run_standLike_s (r := σ.2.2 1) (q := σ.2.2 0) (x_tr3 h) (x_run3 h) (by omega) σ
  generalize hτ : pu_rwJ (pu_rwI σ (σ.2.2 1 + 4) (pu_cp (σ.1 (σ.2.2 0 + 4)) (σ.1 (σ.2.2 1 + 4)) 72)) (σ.2.2 1 + 5) (pu_cpL (σ.2.1 (σ.2.2 0 + 5)) (σ.2.1 (σ.2.2 1 + 5)) 72) = τ at hs
  have fr : pu_fr (fun k => k = σ.2.2 1 + 4 ∨ k = σ.2.2 1 + 5) σ τ := by
    rw [← hτ]
    exact (pu_fr.rwI (K := fun k => k = σ.2.2 1 + 4 ∨ k = σ.2.2 1 + 5) (Or.inl rfl)).tr (pu_fr.rwJ (K := fun k => k = σ.2.2 1 + 4 ∨ k = σ.2.2 1 + 5) (Or.inr rfl))
  refine ⟨τ, hs, RX_frK hw h (fr.mono fun k hk => by unfold x_frK; omega), XF.of fr (fun k hk => by omega), fun c hc => ?_⟩
  obtain ⟨g1, g2, g3⟩ := x_cell h hc
  rw [fr.2.2]
  refine ⟨?_, ?_⟩
  · rw [← hτ, pu_x1, pu_w1s, pu_cp_in hc]; exact g1
  · rw [← hτ, pu_x2s, pu_cpL_in hc]; exact g2
def s_ly (S : cS) : Option (Nat × Int32) × (Nat → Int32) := c_ly (s_kd S) (s_sz S) (s_ch S) (s_ln S 24) 0 (s_play S (s_or S)).2.1 (s_play S (s_or S)).2.2.1 (s_mt S)
/-- the desk behind a draft that is laid -/
def s_lay (S : cS) (mt : Nat → Int32) : cS := s_to (s_np (s_md S mt)) (s_or S ++ [s_pc S]) []
theorem s_lay_play (hw : s_wf S) (h24 : s_pc S < 24) (h : (s_ly S).1 = none) (mt : Nat → Int32) : (s_play (s_np (s_md S mt)) (s_or S ++ [s_pc S])).1 = none := by
  have h1 := s_np_line (S := s_md S mt) h24 hw.2.2.1.1.2
  have h2 := s_np_ch (S := s_md S mt) (s_md_wf hw mt) h24 hw.2.2.1.1.2
  have e1 : c_ply (s_kd S) (s_sz S) (s_npc (s_md S mt)) (c_line (s_npl (s_md S mt)) (s_or S)) (c_r0 (s_bt S) (s_bn S)) = s_play S (s_or S) := by
    rw [h1]
    exact c_ply_congr h2
  have e2 : c_line (s_npl (s_md S mt)) [s_pc S] = c_blk (s_pc S) 0 (s_ln S 24) := by
    show c_blk (s_pc S) 0 (s_npl (s_md S mt) (s_pc (s_md S mt))) ++ [] = _
    rw [s_npl_pc (S := s_md S mt) h24, List.append_nil]
    rfl
  show (c_ply (s_kd S) (s_sz S) (s_npc (s_md S mt)) (c_line (s_npl (s_md S mt)) (s_or S ++ [s_pc S])) (c_r0 (s_bt S) (s_bn S))).1 = none
  rw [c_line_app, c_ply_app (by rw [e1]; exact hw.2.2.2.1), e1, e2]
  exact c_ly_ply (s_ln S 24) 0 _ _ _ _ h rfl rfl (fun j hj => s_npc_in (S := s_md S mt) (by rw [Nat.zero_add] at hj; exact hj))
theorem s_lay_ord (hw : s_wf S) (mt : Nat → Int32) : s_ord (s_np (s_md S mt)) (s_or S ++ [s_pc S]) := s_ord_add (S := s_np (s_md S mt)) (s_np_ord (S := s_md S mt) hw.2.2.1.1) (Nat.lt_succ_self _) (fun q => Nat.lt_irrefl _ (hw.2.2.1.1.2 _ q))
theorem s_lay_24 (hw : s_wf S) (h24 : s_pc S < 24) : (s_or S).length < 24 := s_add24 (S := s_np S) (s_np_wf hw h24) (s_np_ord hw.2.2.1.1) (Nat.lt_succ_self (s_pc S)) (fun q => Nat.lt_irrefl _ (hw.2.2.1.1.2 _ q))
theorem s_lay_wf (hw : s_wf S) (h24 : s_pc S < 24) (h : (s_ly S).1 = none) (mt : Nat → Int32) : s_wf (s_lay S mt) := s_to_wf (s_np_wf (s_md_wf hw _) h24) (s_lay_ord hw _) (s_lay_play hw h24 h _) ⟨List.nodup_nil, fun p hp => by cases hp⟩ (fun p hp => by cases hp)
/-- the desk lays -/
theorem X_lay_end {mt : Nat → Int32} (hw : s_wf S) (h24 : s_pc S < 24) (h : (s_ly S).1 = none) (hX : RX σ (s_md S mt)) (d3 : Option pd_V) : ∃ τ, X_lay_L46 (nI (s_ln S 24)) (nI (s_ln S 24)) d3 σ = some (τ, some (pd_i (nI (s_pc S)))) ∧ RX τ (s_lay S mt) ∧ XF σ τ := by
  have h6 := hw.2.1.2.1 24 (by decide)
  have hw1 := s_md_wf hw mt
  obtain ⟨υ, u1, u2, u3⟩ := Book_make_s hw1 h24 hX
  have u1 : Book_makePatchOfDraft σ = some (υ, some (pd_i (nI (s_pc S)))) := u1
  have u2' := u2
  have hw2 := s_np_wf hw1 h24
  have hrt := u2.2.2.1
  have hor : pu_seq υ (υ.2.2 0 + 1) (s_or S) := u2.2.2.2.1.1
  obtain ⟨ρ, r1, r2, r3⟩ := Seq_append_s hor (x_trl u2).2.1 (s_pc S) (s_lay_24 hw h24)
  have e22 : ρ.2.2 = υ.2.2 := r3.2.2
  obtain ⟨⟨a1, a2, a3, a4⟩, ⟨b1, b2, b3⟩, -, -, -⟩ := u2
  have hr32 : υ.2.2 0 = 32 ∨ υ.2.2 0 = 48 := by rcases hrt with q | q <;> omega
  have hsh1 : x_sh ρ (s_np (s_md S mt)) := ⟨by rw [r3.1 2 (by omega)]; exact a1, by rw [r3.1 3 (by omega)]; exact a2, by rw [r3.1 5 (by omega)]; exact a3, by rw [r3.2.1 6 (by omega)]; exact a4⟩
  have hbk1 : x_bk ρ (s_np (s_md S mt)) := ⟨fun q j hq hj => by
    have hx : x_chg ρ (6 * q + j) = x_chg υ (6 * q + j) := by unfold x_chg; rw [r3.1 _ (by omega)]
    rw [hx]; exact b1 q j hq hj, fun q hq => by rw [r3.1 9 (by omega)]; exact b2 q hq, by rw [r3.1 7 (by omega)]; exact b3⟩
  obtain ⟨ω, t1, t2, -, t4, -⟩ := x_play (r := υ.2.2 0) hw2 hsh1 hbk1 (by omega) r2 (s_lay_ord hw _)
  obtain ⟨v1, -, v3⟩ := t4 (s_lay_play hw h24 h _)
  have fr2 : pu_fr (fun j => υ.2.2 0 ≤ j ∧ j < υ.2.2 0 + 16) υ ω := (r3.mono fun j hj => by omega).tr (t2.mono fun j hj => x_plK_in j hj)
  have g1 : RX ω (s_to (s_np (s_md S mt)) (s_or S ++ [s_pc S]) (s_un S)) := RX_now hw2 u2' fr2 ⟨r2.of (by rw [t2.1 _ (by unfold x_plK x_stK x_ddK; omega)]) (by rw [t2.1 _ (by unfold x_plK x_stK x_ddK; omega)]), x_rw_of (S := s_to (s_np (s_md S mt)) (s_or S ++ [s_pc S]) (s_un S)) v1, v3⟩
  have hot := g1.2.2.2.2
  have f17 : pu_fr (fun k => k = 17) ω (pd_upI ω 17 1 0) := pu_fr.upI rfl
  have g2 : RX (pd_upI ω 17 1 0) (s_lay S mt) := RX_ot (un := []) (vr := s_vr S) (tp := s_tp S) (fl := s_fl S) (mt := mt) g1 (f17.mono fun j hj => by omega) ⟨⟨⟨by rw [pu_u1s, pk_us]; rfl, Nat.zero_le _, (fun i x q => by cases q)⟩, by rw [f17.1 0 (by decide)]; exact hot.1.2.1, fun v l hv => (hot.1.2.2 v l hv).of (by rw [f17.1 _ (by omega)]) (f17.1 _ (by omega))⟩, by rw [f17.1 10 (by decide), f17.1 11 (by decide)]; exact hot.2.1, by rw [f17.1 0 (by decide)]; exact hot.2.2.1, by rw [f17.1 16 (by decide)]; exact hot.2.2.2⟩
  refine ⟨pd_upI ω 17 1 0, ?_, g2, (XF.of u3 (fun k hk => by unfold x_npK at hk; omega)).tr ((XF.of fr2 (fun j hj => by omega)).tr (XF.of f17 (fun j hj => by omega)))⟩
  rw [X_lay_L46_eq, decide_eq_true (nI_le (Nat.le_refl _) (by omega)), cond_true, u1, pd_bI_of, r1, pd_bV_of, e22, t1, pd_bV_of]
end LAYF
/-! (whole, 84.used) -/
section USED
variable {σ : pd_H} {S : cS}
def c_tch (ch : Nat → cC) (s : Int32) (a : Nat) : Bool := decide ((ch a).2.2.2.1 = s) || decide ((ch a).1 = s)
def s_us (S : cS) (s : Int32) : Bool := (c_line (s_ln S) (s_or S)).any (c_tch (s_ch S) s)
theorem X_touches_s (hw : s_wf S) (h : RX σ S) {p : Nat} (hp : p < s_pc S) (s : Int32) : ∀ (m k : Nat) (d4 : Option pd_V), k + m = s_ln S p → Book_touches_L2 (nI p) s (nI k) d4 σ = some (σ, some (pd_i (cond ((c_blk p k m).any (c_tch (s_ch S) s)) 1 0))) := by
  have hpc := hw.2.1.1
  have h6 := hw.2.1.2.1 p (by omega)
  have e9 : σ.1 9 p = nI (s_ln S p) := (h.2.1.2.1 p (by omega)).1
  intro m
  induction m with
  | zero =>
    intro k d4 hk
    rw [Book_touches_L2_eq, show pd_len 9 = 25 from rfl, pu_obN (show p < 25 by omega) (by decide), cond_false, nI_clamp (by omega), e9, decide_eq_true (nI_le (show s_ln S p ≤ k by omega) (by omega))]
    rfl
  | succ m ih =>
    intro k d4 hk
    have hc : x_chg σ (6 * p + k) = s_ch S (6 * p + k) := h.2.1.1 p k (Or.inl hp) (by omega)
    have e3 : σ.1 (80 + (6 * p + k)) 3 = (s_ch S (6 * p + k)).2.2.2.1 := by rw [← hc]; rfl
    have e0 : σ.1 (80 + (6 * p + k)) 0 = (s_ch S (6 * p + k)).1 := by rw [← hc]; rfl
    rw [Book_touches_L2_eq, show pd_len 9 = 25 from rfl, pu_obN (show p < 25 by omega) (by decide), cond_false, nI_clamp (by omega), e9, decide_eq_false (nI_ge (show k < s_ln S p by omega) (by omega)), cond_false, X_stepOf_s, c_step_nI, pd_bI_of, show pd_len 8 = 150 from rfl, pu_obN (show 6 * p + k < 150 by omega) (by decide), cond_false, nI_clamp (by omega), e3, e0, ← nI_succ, ih (k + 1) _ (by omega)]
    show _ = some (σ, some (pd_i (cond ((decide ((s_ch S (6 * p + k)).2.2.2.1 = s) || decide ((s_ch S (6 * p + k)).1 = s)) || (c_blk p (k + 1) m).any (c_tch (s_ch S) s)) 1 0)))
    cases decide ((s_ch S (6 * p + k)).2.2.2.1 = s) with
    | true => rfl
    | false => cases decide ((s_ch S (6 * p + k)).1 = s) <;> rfl
theorem X_used_loop (hw : s_wf S) (h : RX σ S) (s : Int32) : ∀ (m u : List Nat), s_or S = u ++ m → X_isInUse_L2 s (nI u.length) σ = some (σ, some (pd_i (cond ((c_line (s_ln S) m).any (c_tch (s_ch S) s)) 1 0))) := by
  have hor := h.2.2.2.1.1
  have ho24 := hor.2.1
  intro m
  induction m with
  | nil =>
    intro u e
    rw [List.append_nil] at e
    rw [X_isInUse_L2_eq, hor.1, e, decide_eq_true (nI_le (Nat.le_refl _) (by rw [e] at ho24; omega))]
    rfl
  | cons p m ih =>
    intro u e
    have hl : (s_or S).length = u.length + (m.length + 1) := by rw [e, List.length_append]; rfl
    have hp : p < s_pc S := hw.2.2.1.1.2 p (by rw [e]; exact List.mem_append_right _ List.mem_cons_self)
    have ep : σ.1 (σ.2.2 0 + 1 + 1) u.length = nI p := hor.2.2 _ _ (by rw [e, List.getElem?_append_right (Nat.le_refl _), Nat.sub_self]; rfl)
    have g := ih (u ++ [p]) (by rw [e, List.append_assoc]; rfl)
    rw [List.length_append] at g
    have g : X_isInUse_L2 s (nI (u.length + 1)) σ = _ := g
    rw [X_isInUse_L2_eq, hor.1, decide_eq_false (nI_ge (show u.length < (s_or S).length by omega) (by omega)), cond_false, (x_trl h).2.1, pu_obN (show u.length < 24 by omega) (by decide), cond_false, nI_clamp (by omega), ep, Book_touches_eq, show (0 : Int32) = nI 0 from rfl, X_touches_s hw h hp s (s_ln S p) 0 _ (Nat.zero_add _), pd_bI_of, ← nI_succ, g]
    show _ = some (σ, some (pd_i (cond ((c_blk p 0 (s_ln S p) ++ c_line (s_ln S) m).any (c_tch (s_ch S) s)) 1 0)))
    rw [List.any_append]
    cases (c_blk p 0 (s_ln S p)).any (c_tch (s_ch S) s) <;> rfl
theorem X_used_s (hw : s_wf S) (h : RX σ S) (s : Int32) : X_isInUse s σ = some (σ, some (pd_i (cond (s_us S s) 1 0))) := by
  rw [X_isInUse_eq]
  exact X_used_loop hw h s (s_or S) [] rfl
end USED
