/-! Preview: values only. -/
theorem c_fd_v {kd sz : Nat → Int32} {R : cR} {c : cC} : c_fd kd sz R c = c_fd kd sz (c_r0 R.1 R.2.1) c := rfl
theorem c_one_v1 {kd : Nat → Int32} {p : Int32} {a : Nat} {R : cR} {c : cC} : (c_one kd p a c R).1 = (c_one kd p a c (c_r0 R.1 R.2.1)).1 := rfl
theorem c_one_v2 {kd : Nat → Int32} {p : Int32} {a : Nat} {R : cR} {c : cC} : (c_one kd p a c R).2.1 = (c_one kd p a c (c_r0 R.1 R.2.1)).2.1 := rfl
def c_vag (V : Nat → Prop) (t u : Nat → Int32) (n v : Nat → Int64) : Prop := ∀ c, V c → t c = u c ∧ n c = v c
theorem c_vag.agr {V : Nat → Prop} {t u : Nat → Int32} {n v : Nat → Int64} (h : c_vag V t u n v) : c_agr V (fun _ => False) (c_r0 t n) (c_r0 u v) := ⟨fun c hc => ⟨(h c hc).1, (h c hc).2, rfl⟩, fun a ha => ha.elim⟩
def c_pv (kd sz : Nat → Int32) (chg : Nat → cC) : Nat → Nat → (Nat → Int32) → (Nat → Int64) → Int32 → Int32
  | 0, _, _, _, f => f
  | d + 1, k, t, n, _ => cond (decide (c_fd kd sz (c_r0 t n) (chg (144 + k)) = 0)) (c_pv kd sz chg d (k + 1) (c_one kd 24 (144 + k) (chg (144 + k)) (c_r0 t n)).1 (c_one kd 24 (144 + k) (chg (144 + k)) (c_r0 t n)).2.1 (c_fd kd sz (c_r0 t n) (chg (144 + k)))) (c_pv kd sz chg d (k + 1) t n (c_fd kd sz (c_r0 t n) (chg (144 + k))))
section VIEW
variable {σ : pd_H} {S : cS}
theorem X_pv_s (hw : s_wf S) {a : Nat} (ha : a < s_ln S 24) : ∀ (d k : Nat) (τ : pd_H) (t : Nat → Int32) (n : Nat → Int64) (f : Int32), k + d = a + 1 → RX τ S → c_vag (fun c => c < 72) (τ.1 (τ.2.2 1 + 4)) t (τ.2.1 (τ.2.2 1 + 5)) n → ∃ υ, X_preview_L36 (nI a) f (nI k) τ = some (υ, some (pd_i (c_pv (s_kd S) (s_sz S) (s_ch S) d k t n f))) ∧ RX υ S ∧ XF τ υ := by
  have hl6 := hw.2.1.2.1 24 (by decide)
  intro d
  induction d with
  | zero =>
    intro k τ t n f hk hX _
    have hk : k = a + 1 := hk
    refine ⟨τ, ?_, hX, XF.rf⟩
    rw [X_preview_L36_eq, decide_eq_true (nI_lt (show a < k by omega) (by omega)), cond_true]
    rfl
  | succ d ih =>
    intro k τ t n f hk hX hv
    have hka : k ≤ a := by omega
    have hr := x_run hX
    have eC : x_chg τ (6 * 24 + k) = s_ch S (144 + k) := hX.2.1.1 24 k (Or.inr rfl) (by omega)
    have hchk := (hw.2.1.2.2 24 k (Or.inr rfl) (by omega)).1
    have hok : c_ok (s_ch S (144 + k)) := hchk.1
    obtain ⟨υ, u1, u2, u3, u4, -, -⟩ := Run_step_s (σ := τ) (r := τ.2.2 1) (p := 24) (k := k) (x_tr3 hX) (by decide) (by omega) (by rw [hX.1.2.1]; exact hw.1.2.1.sz) (by rw [eC]; exact hok)
    rw [eC, hX.1.1, hX.1.2.1] at u1 u2 u3
    have hvA : c_agr (fun c => c < 72) (fun _ => False) (c_r0 (x_rows τ (τ.2.2 1)).1 (x_rows τ (τ.2.2 1)).2.1) (c_r0 t n) := c_vag.agr hv
    have hfd : c_fd (s_kd S) (s_sz S) (x_rows τ (τ.2.2 1)) (s_ch S (144 + k)) = c_fd (s_kd S) (s_sz S) (c_r0 t n) (s_ch S (144 + k)) := by
      rw [c_fd_v]
      exact c_fd_agr c_kz.rf (fun c hc => c_vc_72 hc) hw.1.2.1.sz hvA hok
    have frK : pu_fr (x_frK (τ.2.2 1)) τ υ := u4.mono (fun j hj => by have := x_stK_in j hj; unfold x_frK; omega)
    have hX2 := RX_frK hw hX frK
    have e22 : υ.2.2 = τ.2.2 := u4.2.2
    have xf : XF τ υ := XF.of u4 (fun j hj => by have := x_stK_in j hj; omega)
    have e0 : X_preview_L36 (nI a) f (nI k) τ = X_preview_L36 (nI a) (c_fd (s_kd S) (s_sz S) (c_r0 t n) (s_ch S (144 + k))) (nI (k + 1)) υ := by
      rw [X_preview_L36_eq, decide_eq_false (nI_nlt hka (by omega)), cond_false, show (24 : Int32) = nI 24 from rfl, u1, pd_bI_of, hfd, nI_1]
    rw [e0]
    show ∃ υ', _ = some (υ', some (pd_i (cond (decide (c_fd (s_kd S) (s_sz S) (c_r0 t n) (s_ch S (144 + k)) = 0)) (c_pv (s_kd S) (s_sz S) (s_ch S) d (k + 1) _ _ _) (c_pv (s_kd S) (s_sz S) (s_ch S) d (k + 1) t n _)))) ∧ _
    by_cases h0 : c_fd (s_kd S) (s_sz S) (c_r0 t n) (s_ch S (144 + k)) = 0
    · rw [decide_eq_true h0, cond_true]
      have e1 := u2 (hfd.trans h0)
      have hA := c_one_agr c_kz.rf (fun c hc => c_vc_72 hc) hw.1.2.1.sz hvA hok (by rw [← c_fd_v]; exact hfd.trans h0) (nI 24) (6 * 24 + k)
      obtain ⟨υ', w1, w2, w3⟩ := ih (k + 1) υ (c_one (s_kd S) 24 (144 + k) (s_ch S (144 + k)) (c_r0 t n)).1 (c_one (s_kd S) 24 (144 + k) (s_ch S (144 + k)) (c_r0 t n)).2.1 _ (by omega) hX2 (fun c hc => by
        obtain ⟨q1, q2, -⟩ := hA.1 c hc
        have r1 : υ.1 (τ.2.2 1 + 4) = (c_one (s_kd S) (nI 24) (6 * 24 + k) (s_ch S (144 + k)) (x_rows τ (τ.2.2 1))).1 := congrArg (fun R : cR => R.1) e1
        have r2 : υ.2.1 (τ.2.2 1 + 5) = (c_one (s_kd S) (nI 24) (6 * 24 + k) (s_ch S (144 + k)) (x_rows τ (τ.2.2 1))).2.1 := congrArg (fun R : cR => R.2.1) e1
        rw [e22, r1, r2]
        exact ⟨q1, q2⟩)
      exact ⟨υ', w1, w2, xf.tr w3⟩
    · rw [decide_eq_false h0, cond_false]
      have e1 := u3 (fun q => h0 (hfd.symm.trans q))
      obtain ⟨υ', w1, w2, w3⟩ := ih (k + 1) υ t n _ (by omega) hX2 (fun c hc => by
        obtain ⟨q1, q2⟩ := hv c hc
        rw [e22]
        rw [show υ.1 (τ.2.2 1 + 4) = τ.1 (τ.2.2 1 + 4) from e1.1, show υ.2.1 (τ.2.2 1 + 5) = τ.2.1 (τ.2.2 1 + 5) from e1.2.1]
        exact ⟨q1, q2⟩)
      exact ⟨υ', w1, w2, xf.tr w3⟩
end VIEW
