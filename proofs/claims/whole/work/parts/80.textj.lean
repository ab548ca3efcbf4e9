/-! Text: whole changes. -/
section TEXTJ
variable {σ₀ σ : pd_H} {W : List Int32} {S : cS}
theorem xW.at (h : xW σ₀ W σ) {q : Nat} (hq : 80 ≤ q) (j : Nat) : σ.1 q j = σ₀.1 q j := by rw [h.2.2.1 q (by omega)]
theorem X_cws (h : xW σ₀ W σ) {a : Nat} (hl : W.length + (c_cw (x_chg σ₀ a)).length ≤ 167) : ∃ τ, Script_putChange (80 + a) σ = some (τ, none) ∧ xW σ₀ (W ++ c_cw (x_chg σ₀ a)) τ := by
  have hq : 80 ≤ 80 + a := by omega
  have e0 : (x_chg σ₀ a).1 = σ₀.1 (80 + a) 0 := rfl
  have e1 : (x_chg σ₀ a).2.1 = σ₀.1 (80 + a) 1 := rfl
  have e2 : (x_chg σ₀ a).2.2.1 = σ₀.1 (80 + a) 2 := rfl
  have e3 : (x_chg σ₀ a).2.2.2.1 = σ₀.1 (80 + a) 3 := rfl
  have e4 : (x_chg σ₀ a).2.2.2.2.1 = σ₀.1 (80 + a) 4 := rfl
  have e5 : (x_chg σ₀ a).2.2.2.2.2 = σ₀.1 (80 + a) 5 := rfl
  unfold c_cw at hl ⊢
  rw [e0, e1, e2, e3, e4, e5] at hl ⊢
  rw [Script_putChange_eq, Change_isCopy_eq, h.at hq]
  cases hd : decide (σ₀.1 (80 + a) 0 = (-1 : Int32)) with
  | true =>
    rw [hd] at hl
    simp only [cond_true, List.length_append, List.length_cons, List.length_nil] at hl
    rw [cond_true, pd_bI_of, decide_eq_true (rfl : (0 : Int32) = 0), cond_true, cond_true, h.at hq]
    obtain ⟨τ1, a1, b1⟩ := X_put1 h (by omega) (48 + σ₀.1 (80 + a) 3)
    rw [a1, pd_bV_of, b1.at hq]
    obtain ⟨τ2, a2, b2⟩ := X_put1 b1 (by simp only [List.length_append, List.length_cons, List.length_nil]; omega) (97 + σ₀.1 (80 + a) 2)
    rw [a2, pd_bV_of, b2.at hq]
    obtain ⟨τ3, a3, b3⟩ := X_nws b2 (σ₀.1 (80 + a) 4) (by simp only [List.length_append, List.length_cons, List.length_nil]; omega)
    rw [a3, pd_bV_of]
    obtain ⟨τ4, a4, b4⟩ := X_put1 b3 (by simp only [List.length_append, List.length_cons, List.length_nil]; omega) 61
    rw [a4, pd_bV_of, b4.at hq]
    obtain ⟨τ5, a5, b5⟩ := X_nws b4 (σ₀.1 (80 + a) 5) (by simp only [List.length_append, List.length_cons, List.length_nil]; omega)
    rw [a5, pd_bV_of]
    refine ⟨τ5, rfl, ?_⟩
    simp only [List.append_assoc, List.cons_append, List.nil_append] at b5 ⊢
    exact b5
  | false =>
    rw [hd] at hl
    simp only [cond_false, List.length_append, List.length_cons, List.length_nil] at hl
    rw [cond_false, pd_bI_of, decide_eq_false (by decide : ¬ (1 : Int32) = 0), cond_false, cond_false, h.at hq]
    obtain ⟨τ1, a1, b1⟩ := X_put1 h (by omega) (48 + σ₀.1 (80 + a) 0)
    rw [a1, pd_bV_of]
    obtain ⟨τ2, a2, b2⟩ := X_put1 b1 (by simp only [List.length_append, List.length_cons, List.length_nil]; omega) 46
    rw [a2, pd_bV_of, b2.at hq]
    obtain ⟨τ3, a3, b3⟩ := X_nws b2 (σ₀.1 (80 + a) 1) (by simp only [List.length_append, List.length_cons, List.length_nil]; omega)
    rw [a3, pd_bV_of, b3.at hq]
    obtain ⟨τ4, a4, b4⟩ := X_put1 b3 (by simp only [List.length_append, List.length_cons, List.length_nil]; omega) (97 + σ₀.1 (80 + a) 2)
    rw [a4, pd_bV_of, b4.at hq]
    obtain ⟨τ5, a5, b5⟩ := X_put1 b4 (by simp only [List.length_append, List.length_cons, List.length_nil]; omega) (48 + σ₀.1 (80 + a) 3)
    rw [a5, pd_bV_of]
    obtain ⟨τ6, a6, b6⟩ := X_put1 b5 (by simp only [List.length_append, List.length_cons, List.length_nil]; omega) 46
    rw [a6, pd_bV_of, b6.at hq]
    obtain ⟨τ7, a7, b7⟩ := X_nws b6 (σ₀.1 (80 + a) 4) (by simp only [List.length_append, List.length_cons, List.length_nil]; omega)
    rw [a7, pd_bV_of]
    refine ⟨τ7, rfl, ?_⟩
    simp only [List.append_assoc, List.cons_append, List.nil_append] at b7 ⊢
    exact b7
/-- a patch's text -/
def s_tx (S : cS) (p : Nat) : List Int32 := c_tx (s_ch S) p (s_ln S p)
theorem X_write_loop (hw : s_wf S) (h : RX σ₀ S) {p : Nat} (hp : s_is S p) : ∀ (m k : Nat) (σ : pd_H), k + m = s_ln S p → xW σ₀ (c_tx (s_ch S) p k) σ → ∃ τ, Script_write_L7 7 (nI p) (nI k) σ = some (τ, none) ∧ xW σ₀ (s_tx S p) τ := by
  have hpc := hw.2.1.1
  have h25 : p < 25 := by rcases hp with q | q <;> omega
  have h6 := hw.2.1.2.1 p h25
  intro m
  induction m with
  | zero =>
    intro k σ hk hW
    have e9 : σ.1 9 p = nI (s_ln S p) := by rw [hW.2.2.1 9 (by omega)]; exact (h.2.1.2.1 p h25).1
    refine ⟨σ, ?_, ?_⟩
    · rw [Script_write_L7_eq, show pd_len (7 + 2) = 25 from rfl, pu_obN h25 (by decide), cond_false, nI_clamp (by omega), show σ.1 (7 + 2) p = σ.1 9 p from rfl, e9, decide_eq_true (nI_le (show s_ln S p ≤ k by omega) (by omega)), cond_true]
    · unfold s_tx
      rw [show s_ln S p = k by omega]; exact hW
  | succ m ih =>
    intro k σ hk hW
    have e9 : σ.1 9 p = nI (s_ln S p) := by rw [hW.2.2.1 9 (by omega)]; exact (h.2.1.2.1 p h25).1
    have hc : x_chg σ₀ (6 * p + k) = s_ch S (6 * p + k) := h.2.1.1 p k hp (by omega)
    have hlen : (c_tx (s_ch S) p k).length + (if k = 0 then 0 else 1) ≤ 140 := by
      cases k with
      | zero => exact Nat.zero_le _
      | succ k =>
        have := c_tx_len (ch := s_ch S) (p := p) (n := k)
        rw [if_neg (by omega)]; omega
    have hcl := c_cw_len (s_ch S (6 * p + k))
    have e27 : ∀ (σ1 : pd_H) (V : List Int32), V.length ≤ 140 → xW σ₀ V σ1 → V ++ c_cw (s_ch S (6 * p + k)) = c_tx (s_ch S) p (k + 1) → ∃ τ, Script_write_L27 7 (nI p) (nI k) σ1 = some (τ, none) ∧ xW σ₀ (s_tx S p) τ := fun σ1 V v1 v2 v3 => by
      obtain ⟨τ, t1, t2⟩ := X_cws v2 (a := 6 * p + k) (by rw [hc]; omega)
      rw [hc, v3] at t2
      obtain ⟨υ, u1, u2⟩ := ih (k + 1) τ (by omega) t2
      refine ⟨υ, ?_, u2⟩
      rw [Script_write_L27_eq, X_stepOf_s, c_step_nI, pd_bI_of, show pd_len (7 + 1) = 150 from rfl, pu_obN (show 6 * p + k < 150 by omega) (by decide), cond_false, nI_clamp (by omega), t1, pd_bV_of, ← nI_succ, u1]
    rw [Script_write_L7_eq, show pd_len (7 + 2) = 25 from rfl, pu_obN h25 (by decide), cond_false, nI_clamp (by omega), show σ.1 (7 + 2) p = σ.1 9 p from rfl, e9, decide_eq_false (nI_ge (show k < s_ln S p by omega) (by omega)), cond_false]
    cases k with
    | zero =>
      rw [show decide (nI 0 ≤ 0) = true from rfl, cond_true]
      exact e27 σ [] (Nat.zero_le _) hW rfl
    | succ k =>
      rw [if_neg (by omega)] at hlen
      obtain ⟨τ, t1, t2⟩ := X_put1 hW (by omega) 59
      rw [show (0 : Int32) = nI 0 from rfl, decide_eq_false (nI_ge (show 0 < k + 1 by omega) (by omega)), cond_false, t1, pd_bV_of]
      exact e27 τ _ (by rw [List.length_append, List.length_singleton]; omega) t2 rfl
theorem X_write_s (hw : s_wf S) (h : RX σ S) {p : Nat} (hp : s_is S p) : ∃ τ, Script_write 7 (nI p) σ = some (τ, none) ∧ xW σ (s_tx S p) τ := by
  obtain ⟨τ, t1, t2⟩ := X_write_loop hw h hp (s_ln S p) 0 (pd_upI σ 13 1 0) (Nat.zero_add _) ⟨by rw [pu_u1s, pk_us]; rfl, (fun i w q => by cases q), pu_fr.upI (Or.inl rfl)⟩
  exact ⟨τ, by rw [Script_write_eq]; exact t1, t2⟩
theorem mW.at (h : mW σ₀ W σ) {q : Nat} (hq : 238 ≤ q ∧ q ≤ 244) (j : Nat) : σ.1 q j = σ₀.1 q j := by rw [h.2.2.1.1 q (by omega)]
/-- what stands behind a change's text -/
theorem M_cws (h : mW σ₀ W σ) {a : Nat} (ha : a < 150) {c : cC} (hc : m_is σ₀ a c) (hl : W.length + (c_cw c).length ≤ 167) (l1 l2 : Int32) : ∃ τ, M_textOf_L34 l1 l2 (nI a) σ = M_textOf_L7 l1 (l2 + 1) (some (pd_i (nI a))) τ ∧ mW σ₀ (W ++ c_cw c) τ := by
  have o : pd_ob (nI a) 150 = false := pu_obN ha (by decide)
  have n : (nI a).toNatClampNeg = a := nI_clamp (by omega)
  have ob : ∀ k, 238 ≤ k → k ≤ 243 → pd_ob (nI a) (pd_len k) = false := fun k h1 h2 => by
    have : k = 238 ∨ k = 239 ∨ k = 240 ∨ k = 241 ∨ k = 242 ∨ k = 243 := by omega
    rcases this with rfl | rfl | rfl | rfl | rfl | rfl <;> exact o
  rw [M_textOf_L34_eq, ob 239 (by decide) (by decide), ob 238 (by decide) (by decide), ob 241 (by decide) (by decide), n, h.at (by decide)]
  unfold c_cw at hl ⊢
  rcases hc with ⟨w1, w2, w3, w4, w5, w6, w7⟩ | ⟨w1, w2, w3, w4, w5, w6, w7, w8⟩
  · rw [decide_eq_true w1, cond_true] at hl ⊢
    simp only [List.length_append, List.length_cons, List.length_nil] at hl
    obtain ⟨τ1, a1, b1⟩ := M_put1 h (by omega) (48 + c.2.2.2.1)
    rw [cond_false, w4, a1, pd_bV_of, cond_false, b1.at (by decide), w2, decide_eq_true (rfl : (0 : Int32) = 0), cond_true, cond_false, b1.at (by decide), w3]
    obtain ⟨τ2, a2, b2⟩ := M_put1 b1 (by simp only [List.length_append, List.length_cons, List.length_nil]; omega) (97 + c.2.2.1)
    rw [M_textOf_L71_eq, a2, pd_bV_of, ob 240 (by decide) (by decide), cond_false, ob 238 (by decide) (by decide), n, b2.at (by decide), w5]
    obtain ⟨τ3, a3, b3⟩ := M_nws b2 c.2.2.2.2.1 (by simp only [List.length_append, List.length_cons, List.length_nil]; omega)
    rw [a3, pd_bV_of, cond_false, b3.at (by decide), w2, decide_eq_true (rfl : (0 : Int32) = 0), cond_true]
    obtain ⟨τ4, a4, b4⟩ := M_put1 b3 (by simp only [List.length_append, List.length_cons, List.length_nil]; omega) 61
    rw [M_textOf_L108_eq, a4, pd_bV_of, ob 238 (by decide) (by decide), cond_false, n, b4.at (by decide), w2, decide_eq_true (rfl : (0 : Int32) = 0), cond_true, ob 242 (by decide) (by decide), cond_false, b4.at (by decide), w6]
    obtain ⟨τ5, a5, b5⟩ := M_nws b4 c.2.2.2.2.2 (by simp only [List.length_append, List.length_cons, List.length_nil]; omega)
    rw [a5, pd_bV_of]
    refine ⟨τ5, rfl, ?_⟩
    simp only [List.append_assoc, List.cons_append, List.nil_append] at b5 ⊢
    exact b5
  · rw [decide_eq_false w1, cond_false] at hl ⊢
    simp only [List.length_append, List.length_cons, List.length_nil] at hl
    obtain ⟨τ1, a1, b1⟩ := M_put1 h (by omega) (48 + c.1)
    rw [cond_false, w3, a1, pd_bV_of, cond_false, b1.at (by decide), w2, decide_eq_false (by decide : ¬ (1 : Int32) = 0), cond_false]
    obtain ⟨τ2, a2, b2⟩ := M_put1 b1 (by simp only [List.length_append, List.length_cons, List.length_nil]; omega) 46
    rw [M_textOf_L71_eq, a2, pd_bV_of, ob 240 (by decide) (by decide), cond_false, ob 238 (by decide) (by decide), ob 241 (by decide) (by decide), n, b2.at (by decide), w4]
    obtain ⟨τ3, a3, b3⟩ := M_nws b2 c.2.1 (by simp only [List.length_append, List.length_cons, List.length_nil]; omega)
    rw [a3, pd_bV_of, cond_false, b3.at (by decide), w2, decide_eq_false (by decide : ¬ (1 : Int32) = 0), cond_false, cond_false, b3.at (by decide), w5]
    obtain ⟨τ4, a4, b4⟩ := M_put1 b3 (by simp only [List.length_append, List.length_cons, List.length_nil]; omega) (97 + c.2.2.1)
    rw [M_textOf_L108_eq, a4, pd_bV_of, ob 238 (by decide) (by decide), cond_false, n, b4.at (by decide), w2, decide_eq_false (by decide : ¬ (1 : Int32) = 0), cond_false, ob 243 (by decide) (by decide), cond_false, b4.at (by decide), w6]
    obtain ⟨τ5, a5, b5⟩ := M_put1 b4 (by simp only [List.length_append, List.length_cons, List.length_nil]; omega) (48 + c.2.2.2.1)
    rw [a5, pd_bV_of]
    obtain ⟨τ6, a6, b6⟩ := M_put1 b5 (by simp only [List.length_append, List.length_cons, List.length_nil]; omega) 46
    rw [a6, pd_bV_of, ob 242 (by decide) (by decide), cond_false, b6.at (by decide), w7]
    obtain ⟨τ7, a7, b7⟩ := M_nws b6 c.2.2.2.2.1 (by simp only [List.length_append, List.length_cons, List.length_nil]; omega)
    rw [a7, pd_bV_of]
    refine ⟨τ7, rfl, ?_⟩
    simp only [List.append_assoc, List.cons_append, List.nil_append] at b7 ⊢
    exact b7
theorem M_text_loop (hw : s_wf S) (h : RM σ₀ S) {p : Nat} (hp : s_is S p) : ∀ (m k : Nat) (σ : pd_H) (d3 : Option pd_V), k + m = s_ln S p → mW σ₀ (c_tx (s_ch S) p k) σ → ∃ τ, M_textOf_L7 (nI p) (nI k) d3 σ = some (τ, some (pd_i (nI (s_tx S p).length))) ∧ mW σ₀ (s_tx S p) τ := by
  have hpc := hw.2.1.1
  have h25 : p < 25 := by rcases hp with q | q <;> omega
  have h6 := hw.2.1.2.1 p h25
  intro m
  induction m with
  | zero =>
    intro k σ d3 hk hW
    have e9 : σ.1 244 p = nI (s_ln S p) := by rw [hW.at (by decide)]; exact (h.2.1.2.1 p h25).1
    have eW : s_tx S p = c_tx (s_ch S) p k := by unfold s_tx; rw [show s_ln S p = k by omega]
    refine ⟨σ, ?_, by rw [eW]; exact hW⟩
    rw [M_textOf_L7_eq, show pd_len 244 = 25 from rfl, pu_obN h25 (by decide), cond_false, nI_clamp (by omega), e9, decide_eq_true (nI_le (show s_ln S p ≤ k by omega) (by omega)), cond_true, hW.1, eW]
  | succ m ih =>
    intro k σ d3 hk hW
    have e9 : σ.1 244 p = nI (s_ln S p) := by rw [hW.at (by decide)]; exact (h.2.1.2.1 p h25).1
    have hc : m_is σ₀ (6 * p + k) (s_ch S (6 * p + k)) := h.2.1.1 p k hp (by omega)
    have hlen : (c_tx (s_ch S) p k).length + (if k = 0 then 0 else 1) ≤ 140 := by
      cases k with
      | zero => exact Nat.zero_le _
      | succ k =>
        have := c_tx_len (ch := s_ch S) (p := p) (n := k)
        rw [if_neg (by omega)]; omega
    have hcl := c_cw_len (s_ch S (6 * p + k))
    have e6 : (6 : Int32) * nI p + nI k = nI (6 * p + k) := by rw [show (6 : Int32) = nI 6 from rfl, pk_mul, nI_add]
    have e27 : ∀ (σ1 : pd_H) (V : List Int32), V.length ≤ 140 → mW σ₀ V σ1 → V ++ c_cw (s_ch S (6 * p + k)) = c_tx (s_ch S) p (k + 1) → ∃ τ, M_textOf_L34 (nI p) (nI k) (nI (6 * p + k)) σ1 = some (τ, some (pd_i (nI (s_tx S p).length))) ∧ mW σ₀ (s_tx S p) τ := fun σ1 V v1 v2 v3 => by
      obtain ⟨τ, t1, t2⟩ := M_cws v2 (a := 6 * p + k) (by omega) hc (by omega) (nI p) (nI k)
      rw [v3] at t2
      obtain ⟨υ, u1, u2⟩ := ih (k + 1) τ (some (pd_i (nI (6 * p + k)))) (by omega) t2
      exact ⟨υ, by rw [t1, ← nI_succ, u1], u2⟩
    rw [M_textOf_L7_eq, show pd_len 244 = 25 from rfl, pu_obN h25 (by decide), cond_false, nI_clamp (by omega), e9, decide_eq_false (nI_ge (show k < s_ln S p by omega) (by omega)), cond_false, e6]
    cases k with
    | zero =>
      rw [show decide (nI 0 ≤ 0) = true from rfl, cond_true]
      exact e27 σ [] (Nat.zero_le _) hW rfl
    | succ k =>
      rw [if_neg (by omega)] at hlen
      obtain ⟨τ, t1, t2⟩ := M_put1 hW (by omega) 59
      rw [show (0 : Int32) = nI 0 from rfl, decide_eq_false (nI_ge (show 0 < k + 1 by omega) (by omega)), cond_false, t1, pd_bV_of]
      exact e27 τ _ (by rw [List.length_append, List.length_singleton]; omega) t2 rfl
theorem M_textOf_s (hw : s_wf S) (h : RM σ S) {p : Nat} (hp : s_is S p) : ∃ τ, M_textOf (nI p) σ = some (τ, some (pd_i (nI (s_tx S p).length))) ∧ mW σ (s_tx S p) τ := by
  obtain ⟨τ, t1, t2⟩ := M_text_loop hw h hp (s_ln S p) 0 (pd_upI σ 230 45 0) none (Nat.zero_add _) ⟨by rw [pu_u1s, pk_us]; rfl, (fun i w q => by cases q), pu_fr.upI (Or.inl rfl), fun j hj => by rw [pu_u1s, pk_un hj]⟩
  exact ⟨τ, by rw [M_textOf_eq]; exact t1, t2⟩
theorem s_tx_len (hw : s_wf S) {p : Nat} (hp : p < 25) : (s_tx S p).length ≤ 167 := by
  have h6 := hw.2.1.2.1 p hp
  unfold s_tx
  cases hn : s_ln S p with
  | zero => exact Nat.zero_le _
  | succ n =>
    have := c_tx_len (ch := s_ch S) (p := p) (n := n)
    omega
/-- what the desk's letters say is nobody's -/
theorem RX_xW (hw : s_wf S) (h : RX σ S) {τ : pd_H} (g : pu_fr (fun k => k = 13 ∨ k = 14) σ τ) : RX τ S := by
  have e1 : ∀ k, ¬ (k = 13 ∨ k = 14) → τ.1 k = σ.1 k := g.1
  have e2 : ∀ k, ¬ (k = 13 ∨ k = 14) → τ.2.1 k = σ.2.1 k := g.2.1
  obtain ⟨⟨a1, a2, a3, a4⟩, ⟨b1, b2, b3⟩, hrt, ⟨c1, c2, c3⟩, ⟨d1, d2, d3⟩, d4, d5, d6⟩ := h
  have hr : σ.2.2 0 = 32 ∨ σ.2.2 0 = 48 := by rcases hrt with q | q <;> omega
  have hseq : ∀ o l, 14 < o → pu_seq σ o l → pu_seq τ o l := fun o l ho q => q.of (by rw [e1 o (by omega)]) (e1 (o + 1) (by omega))
  refine ⟨⟨?_, ?_, ?_, ?_⟩, ⟨?_, ?_, ?_⟩, ?_, ⟨?_, ?_, ?_⟩, ⟨?_, ?_, ?_⟩, ?_, ?_, ?_⟩
  · rw [e1 2 (by omega)]; exact a1
  · rw [e1 3 (by omega)]; exact a2
  · rw [e1 5 (by omega)]; exact a3
  · rw [e2 6 (by omega)]; exact a4
  · intro p k hp hk
    have hx : x_chg τ (6 * p + k) = x_chg σ (6 * p + k) := by unfold x_chg; rw [e1 _ (by omega)]
    rw [hx]; exact b1 p k hp hk
  · intro p hp; rw [e1 9 (by omega)]; exact b2 p hp
  · rw [e1 7 (by omega)]; exact b3
  · rw [g.2.2]; exact hrt
  · rw [g.2.2]; exact hseq _ _ (by omega) c1
  · rw [g.2.2]
    have : x_rw S τ (σ.2.2 0) = x_rw S σ (σ.2.2 0) := by
      unfold x_rw
      rw [e1 (σ.2.2 0 + 4) (by omega), e2 (σ.2.2 0 + 5) (by omega), e1 (σ.2.2 0 + 6) (by omega), e1 (σ.2.2 0 + 9) (by omega), e2 (σ.2.2 0 + 10) (by omega), e1 (σ.2.2 0 + 12) (by omega), e2 (σ.2.2 0 + 13) (by omega), e1 (σ.2.2 0 + 14) (by omega)]
    show c_agr _ _ (x_rw S τ (σ.2.2 0)) _
    rw [this]; exact c2
  · rw [g.2.2, e1 _ (by omega)]; exact c3
  · exact hseq _ _ (by omega) d1
  · rw [e1 0 (by omega)]; exact d2
  · intro v l hv; exact hseq _ _ (by omega) (d3 v l hv)
  · rw [e1 10 (by omega), e1 11 (by omega)]; exact d4
  · rw [e1 0 (by omega)]; exact d5
  · rw [e1 16 (by omega)]; exact d6
theorem RM_mW (h : RM σ S) {τ : pd_H} (g : mW σ W τ) : RM τ S := by
  have e1 : ∀ k, ¬ (k = 230 ∨ k = 260) → τ.1 k = σ.1 k := g.2.2.1.1
  have e2 : ∀ k, ¬ (k = 230 ∨ k = 260) → τ.2.1 k = σ.2.1 k := g.2.2.1.2.1
  have hA : RM (fun k => if k = 230 then τ.1 230 else σ.1 k, fun k => if k = 230 then τ.2.1 230 else σ.2.1 k, σ.2.2) S := by
    refine h.rest ⟨fun k hk => if_neg hk, fun k hk => if_neg hk, rfl⟩ (fun j hj => ?_)
    show (if 230 = 230 then τ.1 230 else σ.1 230) j = _
    rw [if_pos rfl]; exact g.2.2.2 j (by omega)
  obtain ⟨⟨a1, a2, a3⟩, ⟨b1, b2, b3⟩, ⟨⟨c1, c2⟩, c3⟩, d1, d2, d3, d4⟩ := hA
  have q1 : ∀ k, k ≠ 260 → τ.1 k = (fun k => if k = 230 then τ.1 230 else σ.1 k) k := fun k hk => by
    show τ.1 k = if k = 230 then τ.1 230 else σ.1 k
    by_cases e : k = 230
    · rw [if_pos e, e]
    · rw [if_neg e, e1 k (by omega)]
  have q2 : ∀ k, k ≠ 260 → τ.2.1 k = (fun k => if k = 230 then τ.2.1 230 else σ.2.1 k) k := fun k hk => by
    show τ.2.1 k = if k = 230 then τ.2.1 230 else σ.2.1 k
    by_cases e : k = 230
    · rw [if_pos e, e]
    · rw [if_neg e, e2 k (by omega)]
  have eR : m_R τ = m_R (fun k => if k = 230 then τ.1 230 else σ.1 k, fun k => if k = 230 then τ.2.1 230 else σ.2.1 k, σ.2.2) := by
    unfold m_R
    rw [q1 233 (by decide), q2 234 (by decide), q1 237 (by decide), q1 247 (by decide), q2 248 (by decide), q1 245 (by decide), q2 246 (by decide), q1 249 (by decide)]
  refine ⟨⟨?_, ?_, ?_⟩, ⟨?_, ?_, ?_⟩, ⟨⟨?_, ?_⟩, ?_⟩, ?_, ?_, ?_, ?_⟩
  · rw [q1 231 (by decide), q1 232 (by decide)]; exact a1
  · rw [q1 232 (by decide)]; exact a2
  · rw [q1 235 (by decide), q2 236 (by decide)]; exact a3
  · intro p k hp hk
    have := b1 p k hp hk
    unfold m_is m_wr m_co at this ⊢
    rw [q1 238 (by decide), q1 239 (by decide), q1 240 (by decide), q1 241 (by decide), q1 242 (by decide), q1 243 (by decide)]
    exact this
  · intro p hp; rw [q1 244 (by decide)]; exact b2 p hp
  · rw [q1 230 (by decide)]; exact b3
  · rw [q1 230 (by decide)]; exact c1
  · rw [q1 250 (by decide), q1 237 (by decide)]; exact c2
  · rw [eR]; exact c3
  · rw [q1 230 (by decide), q1 252 (by decide), q1 254 (by decide), q1 253 (by decide)]; exact d1
  · rw [q1 230 (by decide), q1 259 (by decide)]; exact d2
  · rw [q1 255 (by decide)]; exact d3
  · rw [q1 256 (by decide)]; exact d4
/-- what text answers -/
def s_ta (S : cS) (p : Nat) (n : Int32) : Int32 := cond (decide (n = -1)) (nI (s_tx S p).length) (cond (decide (n < 0)) (-2) (cond (decide (n < nI (s_tx S p).length)) ((s_tx S p)[n.toNatClampNeg]?.getD 0) (-2)))
theorem c_tx_get {W : List Int32} {f : Nat → Int32} (h : ∀ (i : Nat) (w : Int32), W[i]? = some w → f i = w) {j : Nat} (hj : j < W.length) : f j = W[j]?.getD 0 := by
  have e := List.getElem?_eq_getElem hj
  rw [e]
  exact h j _ e
theorem X_text_17 (hw : s_wf S) (h : RX σ S) {p : Nat} (hp : s_is S p) (n : Int32) : ∃ τ, X_text_L17 (nI p) n σ = some (τ, some (pd_i (s_ta S p n))) ∧ xW σ (s_tx S p) τ := by
  have h25 : p < 25 := by have := hw.2.1.1; rcases hp with q | q <;> omega
  obtain ⟨τ, t1, t2⟩ := X_write_s hw h hp
  have hl := s_tx_len hw h25
  refine ⟨τ, ?_, t2⟩
  rw [X_text_L17_eq, t1, pd_bV_of, t2.1]
  unfold s_ta
  by_cases h1 : n = -1
  · rw [decide_eq_true h1]; rfl
  · rw [decide_eq_false h1, cond_false, cond_false]
    by_cases h2 : n < 0
    · rw [decide_eq_true h2]; rfl
    · rw [decide_eq_false h2, cond_false, cond_false]
      obtain ⟨j, j1, rfl⟩ := nI_of h2
      by_cases h3 : nI j < nI (s_tx S p).length
      · rw [decide_eq_true h3, cond_true, cond_true]
        have hj : j < (s_tx S p).length := by
          rw [Int32.lt_iff_toInt_lt, nI_toInt j1, nI_toInt (by omega)] at h3; omega
        rw [show pd_len 14 = 167 from rfl, pu_obN (show j < 167 by omega) (by decide), cond_false, nI_clamp j1, c_tx_get t2.2.1 hj]
      · rw [decide_eq_false h3, cond_false, cond_false]
theorem M_textAt_s (hw : s_wf S) (h : RM σ S) {p : Nat} (hp : s_is S p) (n : Int32) : ∃ τ, M_textAt (nI p) n σ = some (τ, some (pd_i (s_ta S p n))) ∧ mW σ (s_tx S p) τ := by
  have h25 : p < 25 := by have := hw.2.1.1; rcases hp with q | q <;> omega
  obtain ⟨τ, t1, t2⟩ := M_textOf_s hw h hp
  have hl := s_tx_len hw h25
  refine ⟨τ, ?_, t2⟩
  rw [M_textAt_eq, t1, pd_bI_of, M_in_s, pd_bI_of]
  unfold s_ta
  by_cases h1 : n = -1
  · rw [decide_eq_true h1]; rfl
  · rw [decide_eq_false h1, cond_false, cond_false]
    by_cases h2 : n < 0
    · rw [decide_eq_true h2, c_in_out (by omega) (Or.inl h2)]; rfl
    · rw [decide_eq_false h2, cond_false]
      obtain ⟨j, j1, rfl⟩ := nI_of h2
      by_cases h3 : nI j < nI (s_tx S p).length
      · have hj : j < (s_tx S p).length := by
          rw [Int32.lt_iff_toInt_lt, nI_toInt j1, nI_toInt (by omega)] at h3; omega
        rw [decide_eq_true h3, cond_true, c_in_at hj (by omega), decide_eq_false (by decide : ¬ (1 : Int32) = 0), cond_false, show pd_len 260 = 200 from rfl, pu_obN (show j < 200 by omega) (by decide), cond_false, nI_clamp j1, c_tx_get t2.2.1 hj]
      · rw [decide_eq_false h3, cond_false, c_in_out (by omega) (Or.inr (Int32.not_lt.mp h3))]
        rfl
theorem J_text (h : JR σ S) (a n : Int32) : JI (X_text a n) (M_text a n) σ := by
  have hw := h.1
  have hpc := hw.2.1.1
  have good : ∀ p, s_is S p → a = nI p → JI (X_text a n) (M_text a n) σ := fun p hp e => by
    subst e
    obtain ⟨τ, t1, t2⟩ := X_text_17 hw h.2.1 hp n
    have h25 : p < 25 := by rcases hp with q | q <;> omega
    refine JI.of (v := s_ta S p n) h hw ?_ (RX_xW hw h.2.1 t2.2.2) (XF.of t2.2.2 (fun k hk => by omega)) (fun g => ?_)
    · rw [X_text_eq]
      by_cases e : p = 24
      · rw [e, show decide (nI 24 = (24 : Int32)) = true from rfl, cond_true, ← e]; exact t1
      · have hp : p < s_pc S := hp.resolve_right e
        rw [show (24 : Int32) = nI 24 from rfl, decide_eq_false (fun q => e ((nI_eq (by omega) (by decide)).mp q)), cond_false, X_patch_1 hw h.2.1 hp, pd_bI_of, decide_eq_false (by decide : ¬ (1 : Int32) = 0), cond_false]
        exact t1
    · obtain ⟨υ, u1, u2⟩ := M_textAt_s hw g hp n
      refine ⟨υ, ?_, RM_mW g u2, MF.of u2.2.2.1 (fun k hk => by omega)⟩
      have e19 : τ.1 230 19 = nI (s_pc S) := g.2.1.2.2
      have eT : M_isText (nI p) τ = some (τ, some (pd_i 1)) := by
        rw [M_isText_eq, e19, M_in_s, pd_bI_of]
        by_cases q : p < s_pc S
        · rw [c_in_at q (by omega), decide_eq_false (by decide : ¬ (1 : Int32) = 0), cond_false]
        · have e : p = 24 := hp.resolve_left q
          rw [c_in_out (by omega) (Or.inr (nI_le (by omega) (by omega))), decide_eq_true (rfl : (0 : Int32) = 0), cond_true, e]
          rfl
      rw [M_text_eq, eT, pd_bI_of, decide_eq_false (by decide : ¬ (1 : Int32) = 0), cond_false, u1, pd_bI_of]
  by_cases e : a = 24
  · exact good 24 (Or.inr rfl) e
  · rcases c_pcase a (show s_pc S < 2 ^ 31 by omega) with ⟨p, hp, rfl⟩ | hb
    · exact good p (Or.inl hp) rfl
    · refine JI.same (v := -2) h ?_ (fun g => ?_)
      · rw [X_text_eq, decide_eq_false e, cond_false, X_patch_0 h.2.1 hb, pd_bI_of, decide_eq_true (rfl : (0 : Int32) = 0), cond_true]
      · have e19 : σ.1 230 19 = nI (s_pc S) := g.2.1.2.2
        rw [M_text_eq, M_isText_eq, e19, M_in_s, pd_bI_of, c_in_out (by omega) hb, decide_eq_true (rfl : (0 : Int32) = 0), cond_true, decide_eq_false e, cond_false, pd_bI_of, decide_eq_true (rfl : (0 : Int32) = 0), cond_true]
end TEXTJ
