/-! Is a slot in use? -/
section USED
variable {σ : pd_H} {S : cS}
def c_tch (ch : Nat → cC) (s : Int32) (a : Nat) : Bool := decide ((ch a).2.2.2.1 = s) || decide ((ch a).1 = s)
def s_us (S : cS) (s : Int32) : Bool := (c_line (s_ln S) (s_or S)).any (c_tch (s_ch S) s)
theorem X_touches_s (hw : s_wf S) (h : RX σ S) {p : Nat} (hp : p < s_pc S) (s : Int32) : ∀ (m k : Nat) (d4 : Option pd_V), k + m = s_ln S p → Book_touches_L2 (nI p) s (nI k) d4 σ = some (σ, some (pd_i (cond ((c_blk p k m).any (c_tch (s_ch S) s)) 1 0))) := by
  have hpc := hw.2.1.1
  have h6 := hw.2.1.2.1 p (by omega)
  have e9 : σ.1 9 p = nI (s_ln S p) := (h.2.1.2.1 p (by omega)).1
  intro m
  induction m with
  | zero =>
    intro k d4 hk
    rw [Book_touches_L2_eq, show pd_len 9 = 25 from rfl, pu_obN (show p < 25 by omega) (by decide), cond_false, nI_clamp (by omega), e9, decide_eq_true (nI_le (show s_ln S p ≤ k by omega) (by omega))]
    rfl
  | succ m ih =>
    intro k d4 hk
    have hc : x_chg σ (6 * p + k) = s_ch S (6 * p + k) := h.2.1.1 p k (Or.inl hp) (by omega)
    have e3 : σ.1 (80 + (6 * p + k)) 3 = (s_ch S (6 * p + k)).2.2.2.1 := by rw [← hc]; rfl
    have e0 : σ.1 (80 + (6 * p + k)) 0 = (s_ch S (6 * p + k)).1 := by rw [← hc]; rfl
    rw [Book_touches_L2_eq, show pd_len 9 = 25 from rfl, pu_obN (show p < 25 by omega) (by decide), cond_false, nI_clamp (by omega), e9, decide_eq_false (nI_ge (show k < s_ln S p by omega) (by omega)), cond_false, X_stepOf_s, c_step_nI, pd_bI_of, show pd_len 8 = 150 from rfl, pu_obN (show 6 * p + k < 150 by omega) (by decide), cond_false, nI_clamp (by omega), e3, e0, ← nI_succ, ih (k + 1) _ (by omega)]
    show _ = some (σ, some (pd_i (cond ((decide ((s_ch S (6 * p + k)).2.2.2.1 = s) || decide ((s_ch S (6 * p + k)).1 = s)) || (c_blk p (k + 1) m).any (c_tch (s_ch S) s)) 1 0)))
    cases decide ((s_ch S (6 * p + k)).2.2.2.1 = s) with
    | true => rfl
    | false => cases decide ((s_ch S (6 * p + k)).1 = s) <;> rfl
theorem X_used_loop (hw : s_wf S) (h : RX σ S) (s : Int32) : ∀ (m u : List Nat), s_or S = u ++ m → X_isInUse_L2 s (nI u.length) σ = some (σ, some (pd_i (cond ((c_line (s_ln S) m).any (c_tch (s_ch S) s)) 1 0))) := by
  have hor := h.2.2.2.1.1
  have ho24 := hor.2.1
  intro m
  induction m with
  | nil =>
    intro u e
    rw [List.append_nil] at e
    rw [X_isInUse_L2_eq, hor.1, e, decide_eq_true (nI_le (Nat.le_refl _) (by rw [e] at ho24; omega))]
    rfl
  | cons p m ih =>
    intro u e
    have hl : (s_or S).length = u.length + (m.length + 1) := by rw [e, List.length_append]; rfl
    have hp : p < s_pc S := hw.2.2.1.1.2 p (by rw [e]; exact List.mem_append_right _ List.mem_cons_self)
    have ep : σ.1 (σ.2.2 0 + 1 + 1) u.length = nI p := hor.2.2 _ _ (by rw [e, List.getElem?_append_right (Nat.le_refl _), Nat.sub_self]; rfl)
    have g := ih (u ++ [p]) (by rw [e, List.append_assoc]; rfl)
    rw [List.length_append] at g
    have g : X_isInUse_L2 s (nI (u.length + 1)) σ = _ := g
    rw [X_isInUse_L2_eq, hor.1, decide_eq_false (nI_ge (show u.length < (s_or S).length by omega) (by omega)), cond_false, (x_trl h).2.1, pu_obN (show u.length < 24 by omega) (by decide), cond_false, nI_clamp (by omega), ep, Book_touches_eq, show (0 : Int32) = nI 0 from rfl, X_touches_s hw h hp s (s_ln S p) 0 _ (Nat.zero_add _), pd_bI_of, ← nI_succ, g]
    show _ = some (σ, some (pd_i (cond ((c_blk p 0 (s_ln S p) ++ c_line (s_ln S) m).any (c_tch (s_ch S) s)) 1 0)))
    rw [List.any_append]
    cases (c_blk p 0 (s_ln S p)).any (c_tch (s_ch S) s) <;> rfl
theorem X_used_s (hw : s_wf S) (h : RX σ S) (s : Int32) : X_isInUse s σ = some (σ, some (pd_i (cond (s_us S s) 1 0))) := by
  rw [X_isInUse_eq]
  exact X_used_loop hw h s (s_or S) [] rfl
theorem M_touch_c {ρ : pd_H} {a : Nat} {c : cC} (hc : m_is ρ a c) {s : Int32} (hs : pu_sl s) : (decide (ρ.1 239 a = s) || (!decide (ρ.1 238 a = 0) && decide (ρ.1 243 a = s))) = (decide (c.2.2.2.1 = s) || decide (c.1 = s)) := by
  have hn : s ≠ -1 := fun q => hs.1 (by rw [q]; decide)
  rcases hc with ⟨w1, w2, w3, w4, -⟩ | ⟨w1, w2, w3, w4, w5, w6, -⟩
  · rw [w4, w2, w1, decide_eq_false (show ¬ (-1 : Int32) = s from fun q => hn q.symm)]
    cases decide (c.2.2.2.1 = s) <;> rfl
  · rw [w3, w2, w6, decide_eq_false (by decide : ¬ (1 : Int32) = 0)]
    cases decide (c.1 = s) <;> cases decide (c.2.2.2.1 = s) <;> rfl
theorem M_used_in (hw : s_wf S) (h : RM σ S) {s : Int32} (hs : pu_sl s) {u m : List Nat} {p : Nat} (e : s_or S = u ++ p :: m) : ∀ (d k : Nat) (b : Bool) (d5 : Option pd_V), k + d = s_ln S p → ∃ d4 d5', M_isUsed_L15 s (cond b 1 0) (nI u.length) (nI k) d5 σ = M_isUsed_L4 s (cond (b || (c_blk p k d).any (c_tch (s_ch S) s)) 1 0) (nI (u.length + 1)) d4 d5' σ := by
  have hpc := hw.2.1.1
  have hp : p < s_pc S := hw.2.2.1.1.2 p (by rw [e]; exact List.mem_append_right _ List.mem_cons_self)
  have h6 := hw.2.1.2.1 p (by omega)
  have e9 : σ.1 244 p = nI (s_ln S p) := (h.2.1.2.1 p (by omega)).1
  have hl : (s_or S).length = u.length + (m.length + 1) := by rw [e, List.length_append]; rfl
  have h24 : (s_or S).length ≤ 24 := s_len24 hw hw.2.2.1.1
  have ep : σ.1 250 u.length = nI p := h.2.2.1.1.2.1 _ _ (by rw [e, List.getElem?_append_right (Nat.le_refl _), Nat.sub_self]; rfl)
  intro d
  induction d with
  | zero =>
    intro k b d5 hk
    refine ⟨some (pd_i (nI k)), d5, ?_⟩
    rw [M_isUsed_L15_eq, show pd_len 250 = 24 from rfl, pu_obN (show u.length < 24 by omega) (by decide), cond_false, nI_clamp (by omega), ep, show pd_len 244 = 25 from rfl, pu_obN (show p < 25 by omega) (by decide), cond_false, nI_clamp (by omega), e9, decide_eq_true (nI_le (show s_ln S p ≤ k by omega) (by omega)), cond_true, ← nI_succ]
    show _ = M_isUsed_L4 s (cond (b || false) 1 0) _ _ _ σ
    rw [Bool.or_false]
  | succ d ih =>
    intro k b d5 hk
    have hc : m_is σ (6 * p + k) (s_ch S (6 * p + k)) := h.2.1.1 p k (Or.inl hp) (by omega)
    have ht := M_touch_c hc hs
    have e6 : (6 : Int32) * nI p + nI k = nI (6 * p + k) := by rw [show (6 : Int32) = nI 6 from rfl, pk_mul, nI_add]
    have go : ∀ b', b' = (b || c_tch (s_ch S) s (6 * p + k)) → ∃ d4 d5', M_isUsed_L15 s (cond b' 1 0) (nI u.length) (nI (k + 1)) (some (pd_i (nI (6 * p + k)))) σ = M_isUsed_L4 s (cond (b || (c_blk p k (d + 1)).any (c_tch (s_ch S) s)) 1 0) (nI (u.length + 1)) d4 d5' σ := fun b' eb => by
      obtain ⟨d4, d5', g⟩ := ih (k + 1) b' (some (pd_i (nI (6 * p + k)))) (by omega)
      refine ⟨d4, d5', ?_⟩
      rw [g, eb]
      show _ = M_isUsed_L4 s (cond (b || (c_tch (s_ch S) s (6 * p + k) || (c_blk p (k + 1) d).any (c_tch (s_ch S) s))) 1 0) _ _ _ σ
      rw [Bool.or_assoc]
    rw [M_isUsed_L15_eq, show pd_len 250 = 24 from rfl, pu_obN (show u.length < 24 by omega) (by decide), cond_false, nI_clamp (by omega), ep, show pd_len 244 = 25 from rfl, pu_obN (show p < 25 by omega) (by decide), cond_false, nI_clamp (show p < 2 ^ 31 by omega), e9, decide_eq_false (nI_ge (show k < s_ln S p by omega) (by omega)), cond_false, cond_false, e6, show pd_len 239 = 150 from rfl, show pd_len 238 = 150 from rfl, show pd_len 243 = 150 from rfl, pu_obN (show 6 * p + k < 150 by omega) (by decide), cond_false, cond_false, cond_false, nI_clamp (by omega), ← nI_succ]
    cases b with
    | true =>
      rw [cond_true, decide_eq_false (by decide : ¬ (1 : Int32) = 0), cond_false]
      exact go true rfl
    | false =>
      rw [cond_false, decide_eq_true (rfl : (0 : Int32) = 0), cond_true]
      have hb : c_tch (s_ch S) s (6 * p + k) = (decide (σ.1 239 (6 * p + k) = s) || (!decide (σ.1 238 (6 * p + k) = 0) && decide (σ.1 243 (6 * p + k) = s))) := ht.symm
      cases q1 : decide (σ.1 239 (6 * p + k) = s) with
      | true => exact go true (by rw [hb, q1]; rfl)
      | false =>
        rw [cond_false]
        cases q2 : decide (σ.1 238 (6 * p + k) = 0) with
        | true => exact go false (by rw [hb, q1, q2]; rfl)
        | false =>
          rw [cond_false]
          cases q3 : decide (σ.1 243 (6 * p + k) = s) with
          | true => exact go true (by rw [hb, q1, q2, q3]; rfl)
          | false => exact go false (by rw [hb, q1, q2, q3]; rfl)
theorem M_used_loop (hw : s_wf S) (h : RM σ S) {s : Int32} (hs : pu_sl s) : ∀ (m u : List Nat) (b : Bool) (d4 d5 : Option pd_V), s_or S = u ++ m → M_isUsed_L4 s (cond b 1 0) (nI u.length) d4 d5 σ = some (σ, some (pd_i (cond (b || (c_line (s_ln S) m).any (c_tch (s_ch S) s)) 1 0))) := by
  have h24 : (s_or S).length ≤ 24 := s_len24 hw hw.2.2.1.1
  have e21 : σ.1 230 21 = nI (s_or S).length := h.2.2.1.1.1
  intro m
  induction m with
  | nil =>
    intro u b d4 d5 e
    rw [List.append_nil] at e
    rw [M_isUsed_L4_eq, e21, e, decide_eq_true (nI_le (Nat.le_refl _) (by rw [e] at h24; omega)), cond_true, decide_eq_true (show (cond b 1 0 : Int32) = 0 ∨ (cond b 1 0 : Int32) = 1 by cases b <;> decide), cond_true]
    show _ = some (σ, some (pd_i (cond (b || false) 1 0)))
    rw [Bool.or_false]
  | cons p m ih =>
    intro u b d4 d5 e
    have hl : (s_or S).length = u.length + (m.length + 1) := by rw [e, List.length_append]; rfl
    obtain ⟨q4, q5, g⟩ := M_used_in hw h hs e (s_ln S p) 0 b d5 (Nat.zero_add _)
    have g2 := ih (u ++ [p]) (b || (c_blk p 0 (s_ln S p)).any (c_tch (s_ch S) s)) q4 q5 (by rw [e, List.append_assoc]; rfl)
    rw [List.length_append] at g2
    rw [M_isUsed_L4_eq, e21, decide_eq_false (nI_ge (show u.length < (s_or S).length by omega) (by omega)), cond_false]
    refine (g.trans g2).trans ?_
    show _ = some (σ, some (pd_i (cond (b || (c_blk p 0 (s_ln S p) ++ c_line (s_ln S) m).any (c_tch (s_ch S) s)) 1 0)))
    rw [List.any_append, Bool.or_assoc]
theorem M_used_s (hw : s_wf S) (h : RM σ S) {s : Int32} (hs : pu_sl s) : M_isUsed s σ = some (σ, some (pd_i (cond (s_us S s) 1 0))) := by
  rw [M_isUsed_eq]
  exact M_used_loop hw h hs (s_or S) [] false none none rfl
end USED
