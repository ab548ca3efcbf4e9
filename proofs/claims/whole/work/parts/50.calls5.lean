/-! Again, redo, go. -/
section CALLS5
variable {σ : pd_H} {S : cS}
theorem X_go_g (hw : s_wf S) (h : RX σ S) {l : List Nat} (hl : x_td σ l) (ho : s_ord S l) {n : Nat} (hn : n ≤ (s_un S).length) {v : Int32} {f r : pd_H → Int32} (hf : ∀ τ, RX τ (s_to S l (s_un S)) → f τ = nI n) (hr : ∀ τ, RX τ (s_to S l (s_un S)) → r τ = v) : ∃ τ, (pd_bI (X_carryOut σ) fun s2 v3 => cond (decide (v3 = 0)) (some (pd_upI s2 17 1 (f s2), some (pd_i (r s2)))) (some (s2, some (pd_i v3)))) = some (τ, some (pd_i (s_go S l ((s_un S).take n) v).2)) ∧ RX τ (s_go S l ((s_un S).take n) v).1 ∧ XF σ τ := by
  cases hp : (s_play S l).1 with
  | some q =>
    rw [s_go_no (a := q.1) (f := q.2) hp]
    obtain ⟨τ, t1, t2, t3⟩ := X_carryOut_no hw h hl ho (a := q.1) (f := q.2) hp
    refine ⟨τ, ?_, t2, t3⟩
    have hr := c_err_neg (c_ply_ne (a := q.1) (f := q.2) hp).2.1
    rw [t1, pd_bI_of, hr.2.1]; rfl
  | none =>
    rw [s_go_ok hp]
    obtain ⟨τ, t1, t2, t3, -⟩ := X_carryOut_ok hw h hl ho hp
    refine ⟨pd_upI τ 17 1 (nI n), ?_, t2.un n hn, t3.tr (XF.of (pu_fr.upI (K := fun k => k = 17) rfl) (fun k hk => by omega))⟩
    rw [t1, pd_bI_of, decide_eq_true (rfl : (0 : Int32) = 0), cond_true, hf τ t2, hr τ t2]
theorem X_plan (hw : s_wf S) (h : RX σ S) {p : Nat} (hp : p < s_pc S) (hm : p ∉ s_or S) : ∃ τ, X_planOnTop (nI p) σ = some (τ, none) ∧ x_td τ (s_or S ++ [p]) ∧ RX τ S ∧ XF σ τ := by
  obtain ⟨τ1, t1, t2, t3, t4, t5⟩ := X_tr_like hw h h.2.2.2.1.1 (x_trl h).2.1 (Or.inr rfl)
  obtain ⟨τ2, u1, u2, u3, u4, u5⟩ := X_tr_add hw t3 t2 (s_add24 hw hw.2.2.1.1 hp hm) p
  refine ⟨τ2, ?_, u2, u3, t4.tr u4⟩
  rw [X_planOnTop_eq, t1, pd_bV_of, u1, pd_bV_of]
theorem M_takes_g (hw : s_wf S) (h : RM σ S) {l : List Nat} (ht : m_td σ l) (ho : s_ord S l) : (∃ τ, (s_play S l).1 = none ∧ M_takesTried σ = some (τ, some (pd_i 0)) ∧ RM τ (s_to S l (s_un S)) ∧ MF σ τ) ∨ (∃ τ a f, (s_play S l).1 = some (a, f) ∧ c_rng f ∧ M_takesTried σ = some (τ, some (pd_i (-10 - f))) ∧ RM τ (s_ft S (nI (a / 6), nI (a % 6), f)) ∧ MF σ τ) := by
  cases hp : (s_play S l).1 with
  | some q =>
    obtain ⟨τ, t1, t2, t3⟩ := M_takesTried_no hw h ht.1 ht.2 ho (a := q.1) (f := q.2) hp
    exact Or.inr ⟨τ, q.1, q.2, rfl, (c_ply_ne (a := q.1) (f := q.2) hp).2.1, t1, t2, t3⟩
  | none =>
    obtain ⟨τ, t1, t2, t3, -⟩ := M_takesTried_ok hw h ht.1 ht.2 ho hp
    exact Or.inl ⟨τ, rfl, t1, t2, t3⟩
theorem M_onTop_g (hw : s_wf S) (h : RM σ S) {p : Nat} (hp : p < s_pc S) (hm : p ∉ s_or S) : (∃ τ, (s_play S (s_or S ++ [p])).1 = none ∧ M_onTop (nI p) σ = some (τ, some (pd_i 0)) ∧ RM τ (s_to S (s_or S ++ [p]) (s_un S)) ∧ MF σ τ) ∨ (∃ τ a f, (s_play S (s_or S ++ [p])).1 = some (a, f) ∧ c_rng f ∧ M_onTop (nI p) σ = some (τ, some (pd_i (-10 - f))) ∧ RM τ (s_ft S (nI (a / 6), nI (a % 6), f)) ∧ MF σ τ) := by
  have h24 := s_add24 hw hw.2.2.1.1 hp hm
  obtain ⟨ρ, r1, r2, r3, r4, r5⟩ := M_triesLaid_s h.2.2.1.1.1 h.2.2.1.1.2.1 (s_len24 hw hw.2.2.1.1)
  have k0 : m_td ρ (s_or S) := ⟨r2, r3⟩
  have k1 : m_tdK σ ρ := ⟨r4, r5⟩
  have k4 := k0.push h24 p
  have k5 := k1.tr ((m_tdK.u1 (σ := ρ) (i := (s_or S).length) (x := nI p)).tr (m_tdK.u2 (x := nI ((s_or S).length + 1))))
  have e : M_onTop (nI p) σ = pd_bI (M_takesTried (pd_upI (pd_upI ρ 251 (s_or S).length (nI p)) 230 23 (nI ((s_or S).length + 1)))) fun s2 v3 => some (s2, some (pd_i v3)) := by
    rw [M_onTop_eq, r1, pd_bV_of, r2, show pd_len 251 = 24 from rfl, pu_obN h24 (by decide), cond_false, nI_clamp (by omega), pu_u1n (show 230 ≠ 251 by decide), r2, nI_1]
  rcases M_takes_g hw (h.td k5) k4 (s_ord_add hw.2.2.1.1 hp hm) with ⟨τ, t0, t1, t2, t3⟩ | ⟨τ, a, f, t0, t4, t1, t2, t3⟩
  · exact Or.inl ⟨τ, t0, by rw [e, t1]; rfl, t2, k5.mf.tr t3⟩
  · exact Or.inr ⟨τ, a, f, t0, t4, by rw [e, t1]; rfl, t2, k5.mf.tr t3⟩
theorem RM.un_n (h : RM σ S) : RM (pd_upI σ 230 25 (σ.1 230 25)) S := h.un_same
theorem c_err_le {f : Int32} (h : c_rng f) : decide (0 ≤ -10 - f) = false := (c_err_neg h).1
theorem J_again (h : JR σ S) (a : Int32) : JI (X_again a) (M_again a) σ := by
  have hw := h.1
  rcases c_three hw a with ha | ⟨p, hp, hm, rfl⟩ | ⟨p, hm, rfl⟩
  · exact JI.same (v := -2) h (by rw [X_again_eq, X_patch_0 h.2.1 ha]; rfl) (fun g => by rw [M_again_eq, M_patch_0 hw g ha]; rfl)
  · have ho := s_ord_add hw.2.2.1.1 hp hm
    obtain ⟨τ1, t1, t2, t3, t4⟩ := X_plan hw h.2.1 hp hm
    obtain ⟨τ2, v1, v2, v3⟩ := X_go_g hw t3 t2 ho (Nat.zero_le _) (v := nI (s_or S ++ [p]).length) (f := fun _ => 0) (r := fun s6 => (pd_upI s6 17 1 0).1 (((pd_upI s6 17 1 0).2.2 0) + 1) 1) (fun _ _ => rfl) (fun τ g => (g.un 0 (Nat.zero_le _)).2.2.2.1.1.1)
    refine JI.of (v := (s_go S (s_or S ++ [p]) [] (nI (s_or S ++ [p]).length)).2) h (s_go_wf hw ho s_ord0 (fun q hq => by cases hq)) ?_ v2 (t4.tr v3) (fun g => ?_)
    · rw [X_again_eq, X_patch_1 hw h.2.1 hp, pd_bI_of, decide_eq_false (by decide : ¬ (1 : Int32) = 0), cond_false, X_applied_s hw h.2.1 hp, c_isn_0 hm, pd_bI_of, decide_eq_true (rfl : (0 : Int32) = 0), cond_true, t1, pd_bV_of]
      exact v1
    · have e0 : M_again (nI p) τ2 = pd_bI (M_onTop (nI p) τ2) fun s5 v6 => cond (decide (0 ≤ v6)) (M_again_L41 (some (pd_i (nI p))) v6 0 s5) (M_again_L41 (some (pd_i (nI p))) v6 (s5.1 230 25) s5) := by
        rw [M_again_eq, M_patch_1 hw g hp, pd_bI_of, M_laid_s hw g hp, c_isn_0 hm, decide_eq_false (by decide : ¬ (1 : Int32) = 0), cond_false, pd_bI_of, decide_eq_true (rfl : (0 : Int32) = 0), cond_true]
      rcases M_onTop_g hw g hp hm with ⟨υ, w0, w1, w2, w3⟩ | ⟨υ, b, f, w0, w4, w1, w2, w3⟩
      · rw [s_go_ok w0]
        have w5 := w2.un 0 (Nat.zero_le _)
        refine ⟨pd_upI υ 230 25 0, ?_, w5, w3.up (by omega)⟩
        rw [e0, w1, pd_bI_of, decide_eq_true (by decide : (0 : Int32) ≤ 0), cond_true, M_again_L41_eq, decide_eq_true (by decide : (0 : Int32) ≤ 0), cond_true]
        rw [show (pd_upI υ 230 25 0).1 230 21 = nI (s_or S ++ [p]).length from w5.2.2.1.1.1]
      · rw [s_go_no w0]
        refine ⟨pd_upI υ 230 25 (υ.1 230 25), ?_, w2.un_n, w3.up (by omega)⟩
        rw [e0, w1, pd_bI_of, c_err_le w4, cond_false, M_again_L41_eq, c_err_le w4, cond_false]
  · have hp := hw.2.2.1.1.2 p hm
    exact JI.same (v := -3) h (by rw [X_again_eq, X_patch_1 hw h.2.1 hp, pd_bI_of, X_applied_s hw h.2.1 hp, c_isn_1 hm]; rfl) (fun g => by rw [M_again_eq, M_patch_1 hw g hp, pd_bI_of, M_laid_s hw g hp, c_isn_1 hm]; rfl)
theorem c_snoc {l : List Nat} {k : Nat} (h : l.length = k + 1) : ∃ m p, l = m ++ [p] ∧ m.length = k ∧ l[k]? = some p ∧ l.take k = m := by
  have hk : k < l.length := by omega
  have e : l.take k ++ [l[k]] = l := by
    have := List.take_append_getElem hk
    rw [show k + 1 = l.length by omega, List.take_length] at this
    exact this
  exact ⟨l.take k, l[k], e.symm, by rw [List.length_take]; omega, List.getElem?_eq_getElem hk, rfl⟩
theorem J_redo (h : JR σ S) : JI X_redo M_redo σ := by
  have hw := h.1
  have hun := h.2.1.2.2.2.2.1.1
  cases hk : (s_un S).length with
  | zero =>
    refine JI.same (v := -3) h ?_ (fun g => ?_)
    · rw [X_redo_eq, hun.1, hk]; rfl
    · rw [M_redo_eq, g.2.2.2.1.1, hk]; rfl
  | succ k =>
    have hk24 : k < 24 := by have := hun.2.1; omega
    obtain ⟨m, p, e1, e2, e3, e4⟩ := c_snoc hk
    have hpu : p ∈ s_un S := List.mem_of_getElem? e3
    have hp := hw.2.2.1.2.1.2 p hpu
    have hm := hw.2.2.1.2.2.1 p hpu
    have ho := s_ord_add hw.2.2.1.1 hp hm
    have hnd : (m ++ [p]).Nodup := e1 ▸ hw.2.2.1.2.1.1
    have hm' : s_ord S m := ⟨(List.nodup_append.mp hnd).1, fun x hx => hw.2.2.1.2.1.2 x (by rw [e1]; exact List.mem_append_left _ hx)⟩
    have hpm : p ∉ m := fun q => (List.nodup_append.mp hnd).2.2 p q p (List.mem_singleton.mpr rfl) rfl
    obtain ⟨τ1, t1, t2, t3, t4⟩ := X_plan hw h.2.1 hp hm
    obtain ⟨τ2, v1, v2, v3⟩ := X_go_g hw t3 t2 ho (n := k) (by omega) (v := nI p) (f := fun s2 => s2.1 17 1 - 1) (r := fun _ => nI p) (fun τ g => by
      rw [show τ.1 17 1 = nI (s_un S).length from g.2.2.2.2.1.1.1, hk, nI_pred]) (fun _ _ => rfl)
    rw [e4] at v1 v2
    refine JI.of (v := (s_go S (s_or S ++ [p]) m (nI p)).2) h (s_go_wf hw ho hm' (fun q hq hq2 => ?_)) ?_ v2 (t4.tr v3) (fun g => ?_)
    · rw [List.mem_append, List.mem_singleton] at hq2
      rcases hq2 with q1 | q1
      · exact hw.2.2.1.2.2.1 q (by rw [e1]; exact List.mem_append_left _ hq) q1
      · rw [q1] at hq; exact hpm hq
    · have hne : ¬ nI (k + 1) = 0 := by
        rw [show (0 : Int32) = nI 0 from rfl, nI_eq (by omega) (by omega)]; omega
      have e18 : σ.1 18 k = nI p := hun.2.2 k p e3
      rw [X_redo_eq, hun.1, hk, decide_eq_false hne, cond_false, nI_pred]
      rw [show pd_len 18 = 24 from rfl, pu_obN hk24 (by decide), cond_false, nI_clamp (by omega), e18, t1, pd_bV_of]
      exact v1
    · have hne : ¬ nI (k + 1) = 0 := by
        rw [show (0 : Int32) = nI 0 from rfl, nI_eq (by omega) (by omega)]; omega
      have e252 : τ2.1 252 k = nI p := g.2.2.2.1.2.1 k p e3
      have e0 : M_redo τ2 = pd_bI (M_onTop (nI p) τ2) fun s1 v2 => cond (decide (v2 = 0)) (M_redo_L42 (some (pd_r 10 230)) (nI p) v2 1 (s1.1 230 25) s1) (M_redo_L42 (some (pd_r 10 230)) (nI p) v2 0 (s1.1 230 25) s1) := by
        rw [M_redo_eq, g.2.2.2.1.1, hk, decide_eq_false hne, cond_false, nI_pred, show pd_len 252 = 24 from rfl, pu_obN hk24 (by decide), cond_false, nI_clamp (by omega), e252]
      rcases M_onTop_g hw g hp hm with ⟨υ, w0, w1, w2, w3⟩ | ⟨υ, b, f, w0, w4, w1, w2, w3⟩
      · rw [s_go_ok w0]
        have e25 : υ.1 230 25 - 1 = nI k := by rw [show υ.1 230 25 = nI (s_un S).length from w2.2.2.2.1.1, hk, nI_pred]
        have w5 := w2.un k (show k ≤ (s_un S).length by omega)
        rw [show (s_un (s_to S (s_or S ++ [p]) (s_un S))).take k = m from e4] at w5
        refine ⟨pd_upI υ 230 25 (nI k), ?_, w5, w3.up (by omega)⟩
        rw [e0, w1, pd_bI_of, decide_eq_true (rfl : (0 : Int32) = 0), cond_true, M_redo_L42_eq, decide_eq_true (by decide : (0 : Int32) ≤ 0), cond_true, e25]
      · rw [s_go_no w0]
        refine ⟨pd_upI υ 230 25 (υ.1 230 25), ?_, w2.un_n, w3.up (by omega)⟩
        rw [e0, w1, pd_bI_of, (c_err_neg w4).2.1, cond_false, M_redo_L42_eq, c_err_le w4, cond_false, Int32.sub_zero]
/-! versions -/
theorem s_vr31 (hw : s_wf S) : (s_vr S).length < 2 ^ 31 := by have := hw.2.2.1.2.2.2.1; omega
theorem X_ver_1 (hw : s_wf S) (h : RX σ S) {v : Nat} (hv : v < (s_vr S).length) : X_isVersion (nI v) σ = some (σ, some (pd_i 1)) := by
  rw [X_isVersion_eq, h.2.2.2.2.1.2.1]
  exact pu_at hv (s_vr31 hw) _ _
theorem X_ver_0 (h : RX σ S) {a : Int32} (ha : a < 0 ∨ nI (s_vr S).length ≤ a) : X_isVersion a σ = some (σ, some (pd_i 0)) := by
  rw [X_isVersion_eq, h.2.2.2.2.1.2.1]
  exact pu_out ha _ _
theorem M_ver_1 (hw : s_wf S) (h : RM σ S) {v : Nat} (hv : v < (s_vr S).length) : M_isVersion (nI v) σ = some (σ, some (pd_i 1)) := by
  rw [M_isVersion_eq, h.2.2.2.1.2.2.1, M_in_s, pd_bI_of, c_in_at hv (s_vr31 hw)]; rfl
theorem M_ver_0 (hw : s_wf S) (h : RM σ S) {a : Int32} (ha : a < 0 ∨ nI (s_vr S).length ≤ a) : M_isVersion a σ = some (σ, some (pd_i 0)) := by
  rw [M_isVersion_eq, h.2.2.2.1.2.2.1, M_in_s, pd_bI_of, c_in_out (s_vr31 hw) ha]; rfl
theorem M_triesVersion_s (hw : s_wf S) (h : RM σ S) {v : Nat} {l : List Nat} (hl : (s_vr S)[v]? = some l) : ∃ τ, M_triesVersion (nI v) σ = some (τ, none) ∧ m_td τ l ∧ m_tdK σ τ := by
  have hv : v < (s_vr S).length := (List.getElem?_eq_some_iff.mp hl).1
  have hv6 := hw.2.2.1.2.2.2.1
  have ho := hw.2.2.1.2.2.2.2 l (List.mem_of_getElem? hl)
  have h24 := s_len24 hw ho
  obtain ⟨k1, k2⟩ := h.2.2.2.1.2.2.2 v l hl
  have loop : ∀ d i (ρ : pd_H), i + d = l.length → ρ.1 230 23 = nI l.length → ρ.1 253 = σ.1 253 → (∀ t x, t < i → l[t]? = some x → ρ.1 251 t = nI x) → ∃ τ, M_triesVersion_L12 (nI v) (nI i) ρ = some (τ, none) ∧ m_td τ l ∧ m_tdK ρ τ := by
    intro d
    induction d with
    | zero =>
      intro i ρ hi e1 e2 e3
      have hi : i = l.length := hi
      refine ⟨ρ, ?_, ⟨e1, fun t x hx => e3 t x (by rw [hi]; exact (List.getElem?_eq_some_iff.mp hx).1) hx⟩, m_tdK.rf⟩
      rw [M_triesVersion_L12_eq, e1, hi]
      simp only [nI_leI (show l.length < 2 ^ 31 by omega) (show l.length < 2 ^ 31 by omega), Nat.le_refl, decide_true, pd_bI_of, pd_bJ_of, pd_bV_of, pd_bR_of, cond_true, cond_false]
    | succ d ih =>
      intro i ρ hi e1 e2 e3
      obtain ⟨x, hx⟩ : ∃ x, l[i]? = some x := ⟨_, List.getElem?_eq_getElem (show i < l.length by omega)⟩
      obtain ⟨τ, t1, t2, t3⟩ := ih (i + 1) (pd_upI ρ 251 i (nI x)) (by omega) (by rw [pu_u1n (by decide)]; exact e1) (by rw [pu_u1n (by decide)]; exact e2) (fun t y ht hy => by
        rw [pu_u1s]
        by_cases e : t = i
        · rw [e, pk_us]; rw [e, hx] at hy; cases hy; rfl
        · rw [pk_un e]; exact e3 t y (by omega) hy)
      refine ⟨τ, ?_, t2, m_tdK.u1.tr t3⟩
      have ix : (24 : Int32) * nI v + nI i = nI (24 * v + i) := by
        rw [show (24 : Int32) = nI 24 from rfl, pk_mul, nI_add]
      have e253 : ρ.1 253 (24 * v + i) = nI x := by rw [e2]; exact k2 i x hx
      rw [M_triesVersion_L12_eq, e1]
      simp only [nI_leI (show l.length < 2 ^ 31 by omega) (show i < 2 ^ 31 by omega), show ¬ l.length ≤ i by omega, decide_false, pd_bI_of, pd_bJ_of, pd_bV_of, pd_bR_of, cond_true, cond_false, ix, show pd_len 253 = 144 from rfl, show pd_len 251 = 24 from rfl, pu_obN (show 24 * v + i < 144 by omega) (show 144 < 2 ^ 31 by decide), pu_obN (show i < 24 by omega) (show 24 < 2 ^ 31 by decide), nI_clamp (show i < 2 ^ 31 by omega), nI_clamp (show 24 * v + i < 2 ^ 31 by omega), e253, nI_1]
      exact t1
  obtain ⟨τ, t1, t2, t3⟩ := loop l.length 0 (pd_upI σ 230 23 (nI l.length)) (Nat.zero_add _) (by rw [pu_u1s, pk_us]) (by rw [pu_u1n (by decide)]) (fun t x ht _ => absurd ht (Nat.not_lt_zero t))
  refine ⟨τ, ?_, t2, m_tdK.u2.tr t3⟩
  rw [M_triesVersion_eq, show pd_len 254 = 6 from rfl, pu_obN (show v < 6 by omega) (by decide), cond_false, nI_clamp (by omega), k1]
  exact t1
theorem J_go (h : JR σ S) (a : Int32) : JI (X_go a) (M_go a) σ := by
  have hw := h.1
  rcases c_pcase a (s_vr31 hw) with ⟨v, hv, rfl⟩ | ha
  · have hv6 := hw.2.2.1.2.2.2.1
    obtain ⟨l, hl⟩ : ∃ l, (s_vr S)[v]? = some l := ⟨_, List.getElem?_eq_getElem hv⟩
    have ho := hw.2.2.1.2.2.2.2 l (List.mem_of_getElem? hl)
    have hL : pd_len (20 + 2 * v + 1) = 24 := by
      have : ∀ v, v < 6 → pd_len (20 + 2 * v + 1) = 24 := by decide +kernel
      exact this v (by omega)
    obtain ⟨τ1, t1, t2, t3, t4, t5⟩ := X_tr_like hw h.2.1 (h.2.1.2.2.2.2.1.2.2 v l hl) hL (Or.inl (by omega))
    obtain ⟨τ2, v1, v2, v3⟩ := X_go_g hw t3 t2 ho (Nat.zero_le _) (v := nI l.length) (f := fun _ => 0) (r := fun s6 => (pd_upI s6 17 1 0).1 (((pd_upI s6 17 1 0).2.2 0) + 1) 1) (fun _ _ => rfl) (fun τ g => (g.un 0 (Nat.zero_le _)).2.2.2.1.1.1)
    refine JI.of (v := (s_go S l [] (nI l.length)).2) h (s_go_wf hw ho s_ord0 (fun q hq => by cases hq)) ?_ v2 (t4.tr v3) (fun g => ?_)
    · rw [X_go_eq, X_ver_1 hw h.2.1 hv, pd_bI_of, decide_eq_false (by decide : ¬ (1 : Int32) = 0), cond_false, show pd_len 19 = 6 from rfl, pu_obN (show v < 6 by omega) (by decide), cond_false, nI_clamp (by omega), t1, pd_bV_of]
      exact v1
    · obtain ⟨ρ, r1, r2, r3⟩ := M_triesVersion_s hw g hl
      have e0 : M_go (nI v) τ2 = pd_bI (pd_bI (M_takesTried ρ) fun s2 v3 => cond (decide (0 ≤ v3)) (M_goNow_L23 (some (pd_i (nI v))) v3 0 s2) (M_goNow_L23 (some (pd_i (nI v))) v3 (s2.1 230 25) s2)) fun s3 v4 => some (s3, some (pd_i v4)) := by
        rw [M_go_eq, M_ver_1 hw g hv, pd_bI_of, decide_eq_false (by decide : ¬ (1 : Int32) = 0), cond_false, M_goNow_eq, r1, pd_bV_of]
      rcases M_takes_g hw (g.td r3) r2 ho with ⟨υ, w0, w1, w2, w3⟩ | ⟨υ, b, f, w0, w4, w1, w2, w3⟩
      · rw [s_go_ok w0]
        have w5 := w2.un 0 (Nat.zero_le _)
        refine ⟨pd_upI υ 230 25 0, ?_, w5, MF.up (pu_fr.tr r3.mf w3) (by omega)⟩
        rw [e0, w1, pd_bI_of, decide_eq_true (by decide : (0 : Int32) ≤ 0), cond_true, M_goNow_L23_eq, decide_eq_true (by decide : (0 : Int32) ≤ 0), cond_true]
        rw [show (pd_upI υ 230 25 0).1 230 21 = nI l.length from w5.2.2.1.1.1]
        rfl
      · rw [s_go_no w0]
        refine ⟨pd_upI υ 230 25 (υ.1 230 25), ?_, w2.un_n, MF.up (pu_fr.tr r3.mf w3) (by omega)⟩
        rw [e0, w1, pd_bI_of, c_err_le w4, cond_false, M_goNow_L23_eq, c_err_le w4, cond_false]
        rfl
  · exact JI.same (v := -2) h (by rw [X_go_eq, X_ver_0 h.2.1 ha]; rfl) (fun g => by rw [M_go_eq, M_ver_0 hw g ha]; rfl)
end CALLS5
