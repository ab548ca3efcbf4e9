/-! The law's bigger methods: alike, size, lays. -/
section LAYS
variable {s : Nat → pd_H} {Q : Nat → cS} {d e L : Nat} {xs : Nat → Int32}
theorem qs_self : qs Q d (Q d) = Q := by
  funext x
  unfold qs
  by_cases h : x = d
  · rw [if_pos h, h]
  · rw [if_neg h]
/-- two desks have the same in all cells -/
def l_ag (L : Nat) (xs : Nat → Int32) (S T : cS) : Prop := ∀ k, k < 6 → ∀ i, i < k_sz L xs k → c_what S (nI k) (nI i) = c_what T (nI k) (nI i) ∧ s_rd S (nI k) 8 (nI i) = s_rd T (nI k) 8 (nI i)
/-- two desks whose tallies alone are others -/
def q2 (Q : Nat → cS) (d e : Nat) (m1 m2 : Nat → Int32) : Nat → cS := qs (qs Q d (s_md (Q d) m1)) e (s_md (Q e) m2)
theorem q2_d {m1 m2 : Nat → Int32} (h : d ≠ e) : q2 Q d e m1 m2 d = s_md (Q d) m1 := by
  unfold q2
  rw [qs_n h, qs_s]
theorem q2_e {m1 m2 : Nat → Int32} : q2 Q d e m1 m2 e = s_md (Q e) m2 := qs_s
theorem q2_n {m1 m2 : Nat → Int32} {x : Nat} (h1 : x ≠ d) (h2 : x ≠ e) : q2 Q d e m1 m2 x = Q x := by
  unfold q2
  rw [qs_n h2, qs_n h1]
theorem q2_q2 {m1 m2 n1 n2 : Nat → Int32} (h : d ≠ e) : q2 (q2 Q d e m1 m2) d e n1 n2 = q2 Q d e n1 n2 := by
  funext x
  by_cases h1 : x = e
  · subst h1; rw [q2_e, q2_e, q2_e]; rfl
  · by_cases h2 : x = d
    · subst h2; rw [q2_d h, q2_d h, q2_d h]; rfl
    · rw [q2_n h2 h1, q2_n h2 h1, q2_n h2 h1]
theorem l_alike1 (hd : d < 4) (he : e < 4) (hne : d ≠ e) (h : l_W s Q) (hR : l_R s L xs) (hA : l_ag L xs (Q d) (Q e)) {k i : Nat} (hk : k < 6) (hi : i < k_sz L xs k) : ∃ s' m1 m2, L_alike_L19 (230 * d) (230 * e) 1 (nI k) (nI i) (p4_jn s) = L_alike_L19 (230 * d) (230 * e) 1 (nI k) (nI (i + 1)) (p4_jn s') ∧ l_W s' (q2 Q d e m1 m2) ∧ s' 4 = s 4 := by
  have hsz := k_sz_le (L := L) (xs := xs) (k := k)
  have hsl := pu_sl_of hk
  obtain ⟨s1, a1, a2, a3⟩ := y_what hd h (nI k) (nI i) (Z_what (h d hd).1 (h d hd).2.1 hsl (nI i)) (h d hd).1
  rw [qs_self] at a2
  obtain ⟨s2, b1, b2, b3⟩ := y_what he a2 (nI k) (nI i) (Z_what (a2 e he).1 (a2 e he).2.1 hsl (nI i)) (a2 e he).1
  rw [qs_self] at b2
  obtain ⟨z1, z2⟩ := Z_get (b2 d hd).1 (b2 d hd).2.1 hsl (nI i)
  obtain ⟨s3, c1, c2, c3⟩ := y_get hd b2 (nI k) 8 (nI i) z1 z2
  have eqe : qs Q d (s_bm (Q d) 8 (s_rdF (Q d) (nI k) 8 (nI i))) e = Q e := qs_n (fun q => hne q.symm)
  obtain ⟨w1, w2⟩ := Z_get (c2 e he).1 (c2 e he).2.1 hsl (nI i)
  obtain ⟨s4, d1, d2, d3⟩ := y_get he c2 (nI k) 8 (nI i) w1 w2
  rw [eqe] at d1 d2
  refine ⟨s4, c_bmp (s_mt (Q d)) 8 (s_rdF (Q d) (nI k) 8 (nI i)), c_bmp (s_mt (Q e)) 8 (s_rdF (Q e) (nI k) 8 (nI i)), ?_, d2, d3.trans (c3.trans (b3.trans a3))⟩
  obtain ⟨g1, g2⟩ := hA k hk i hi
  have e6 : (6 : Int32) + nI k = nI (6 + k) := nI_add 6 _
  rw [L_alike_L19_eq, e6, l_20 (by omega), cond_false, nI_clamp (by omega), l_m, (hR k hk).2, decide_eq_false (nI_ge hi (by omega)), cond_false, decide_eq_false (by decide : ¬ (1 : Int32) = 0), cond_false, a1, pd_bI_of, b1, pd_bI_of, decide_eq_true g1, cond_true, c1, pd_bJ_of, d1, pd_bJ_of, pu_cmp0, decide_eq_true g2, cond_true, nI_1]
theorem l_ag_q2 (hne : d ≠ e) (hA : l_ag L xs (Q d) (Q e)) (m1 m2 : Nat → Int32) : l_ag L xs (q2 Q d e m1 m2 d) (q2 Q d e m1 m2 e) := by
  rw [q2_d hne, q2_e]
  exact hA
theorem q2_0 : q2 Q d e (s_mt (Q d)) (s_mt (Q e)) = Q := by
  show qs (qs Q d (Q d)) e (Q e) = Q
  rw [qs_self, qs_self]
theorem l_alike2 (hd : d < 4) (he : e < 4) (hne : d ≠ e) (h : l_W s Q) (hR : l_R s L xs) (hA : l_ag L xs (Q d) (Q e)) {k : Nat} (hk : k < 6) (d5 : Option pd_V) : ∃ s' m1 m2 d5', L_alike_L5 (230 * d) (230 * e) 1 (nI k) d5 (p4_jn s) = L_alike_L5 (230 * d) (230 * e) 1 (nI (k + 1)) d5' (p4_jn s') ∧ l_W s' (q2 Q d e m1 m2) ∧ s' 4 = s 4 := by
  have hsz := k_sz_le (L := L) (xs := xs) (k := k)
  have loop : ∀ n, n ≤ k_sz L xs k → ∃ s' m1 m2, L_alike_L19 (230 * d) (230 * e) 1 (nI k) (nI 0) (p4_jn s) = L_alike_L19 (230 * d) (230 * e) 1 (nI k) (nI n) (p4_jn s') ∧ l_W s' (q2 Q d e m1 m2) ∧ s' 4 = s 4 := by
    intro n
    induction n with
    | zero => intro _; exact ⟨s, s_mt (Q d), s_mt (Q e), rfl, by rw [q2_0]; exact h, rfl⟩
    | succ n ih =>
      intro hn
      obtain ⟨s1, m1, m2, a1, a2, a3⟩ := ih (by omega)
      obtain ⟨s2, n1, n2, b1, b2, b3⟩ := l_alike1 hd he hne a2 (hR.of a3) (l_ag_q2 hne hA m1 m2) hk (i := n) (by omega)
      rw [q2_q2 hne] at b2
      exact ⟨s2, n1, n2, a1.trans b1, b2, b3.trans a3⟩
  obtain ⟨s', m1, m2, a1, a2, a3⟩ := loop _ (Nat.le_refl _)
  refine ⟨s', m1, m2, some (pd_i (nI (k_sz L xs k))), ?_, a2, a3⟩
  have e6 : (6 : Int32) + nI k = nI (6 + k) := nI_add 6 _
  rw [L_alike_L5_eq, decide_eq_false (show ¬ (6 : Int32) ≤ nI k from nI_ge hk (by decide)), cond_false, decide_eq_false (by decide : ¬ (1 : Int32) = 0), cond_false]
  refine a1.trans ?_
  rw [L_alike_L19_eq, e6, l_20 (by omega), cond_false, nI_clamp (by omega), l_m, ((hR.of a3) k hk).2, decide_eq_true (nI_le (Nat.le_refl _) (by omega)), cond_true, nI_1]
/-- two desks that have the same are found alike -/
theorem l_alike (hd : d < 4) (he : e < 4) (hne : d ≠ e) (h : l_W s Q) (hR : l_R s L xs) (hA : l_ag L xs (Q d) (Q e)) : ∃ s' m1 m2, L_alike (230 * d) (230 * e) (p4_jn s) = some (p4_jn s', some (pd_i 1)) ∧ l_W s' (q2 Q d e m1 m2) ∧ s' 4 = s 4 := by
  have loop : ∀ n, n ≤ 6 → ∃ s' m1 m2 d5', L_alike (230 * d) (230 * e) (p4_jn s) = L_alike_L5 (230 * d) (230 * e) 1 (nI n) d5' (p4_jn s') ∧ l_W s' (q2 Q d e m1 m2) ∧ s' 4 = s 4 := by
    intro n
    induction n with
    | zero => intro _; exact ⟨s, s_mt (Q d), s_mt (Q e), none, L_alike_eq _ _ _, by rw [q2_0]; exact h, rfl⟩
    | succ n ih =>
      intro hn
      obtain ⟨s1, m1, m2, d5, a1, a2, a3⟩ := ih (by omega)
      obtain ⟨s2, n1, n2, d5', b1, b2, b3⟩ := l_alike2 hd he hne a2 (hR.of a3) (l_ag_q2 hne hA m1 m2) (k := n) (by omega) d5
      rw [q2_q2 hne] at b2
      exact ⟨s2, n1, n2, d5', a1.trans b1, b2, b3.trans a3⟩
  obtain ⟨s', m1, m2, d5, a1, a2, a3⟩ := loop 6 (Nat.le_refl _)
  refine ⟨s', m1, m2, ?_, a2, a3⟩
  rw [a1, L_alike_L5_eq, decide_eq_true (by decide : (6 : Int32) ≤ nI 6), cond_true, decide_eq_true (by decide : (1 : Int32) = 0 ∨ (1 : Int32) = 1), cond_true]
/-! how many bits -/
def k_size (x : Int32) (n : Nat) : Nat := ((List.range n).filter (fun k => c_has x (nI k))).length
theorem k_size_succ {x : Int32} {n : Nat} : k_size x (n + 1) = k_size x n + cond (c_has x (nI n)) 1 0 := by
  unfold k_size
  rw [List.range_succ, List.filter_append, List.length_append]
  congr 1
  cases h : c_has x (nI n) with
  | true => rw [List.filter_cons_of_pos (by rw [h])]; rfl
  | false => rw [List.filter_cons_of_neg (by rw [h]; decide)]; rfl
theorem l_bit (x t : Int32) : (x >>> (t &&& 31)) &&& 1 = cond (c_has x t) (nI 1) (nI 0) := by
  unfold c_has
  obtain ⟨j, hj, e⟩ := pk_andE (x >>> (t &&& 31)) (m := 1) 1 (by decide +kernel)
  rw [e]
  match j, hj with
  | 0, _ => rfl
  | 1, _ => rfl
theorem l_size (x : Int32) (σ : pd_H) : L_size x σ = some (σ, some (pd_i (nI (k_size x 24)))) := by
  have loop : ∀ n, n ≤ 24 → L_size x σ = L_size_L4 x (nI (k_size x n)) (nI n) σ := by
    intro n
    induction n with
    | zero => intro _; exact L_size_eq x σ
    | succ n ih =>
      intro hn
      rw [ih (by omega), L_size_L4_eq, decide_eq_false (show ¬ (24 : Int32) ≤ nI n from nI_ge (show n < 24 by omega) (by decide)), cond_false, l_bit, nI_1, k_size_succ]
      congr 1
      cases c_has x (nI n) with
      | true => exact nI_add _ 1
      | false => exact nI_add _ 0
  rw [loop 24 (Nat.le_refl _), L_size_L4_eq, decide_eq_true (by decide : (24 : Int32) ≤ nI 24), cond_true]
/-! drafts are laid, one after the other -/
theorem l_flt_pre {p : Nat → Bool} {n : Nat} : ∀ {m : Nat}, n ≤ m → ∃ C, (List.range m).filter p = (List.range n).filter p ++ C := by
  intro m h
  induction h with
  | refl => exact ⟨[], (List.append_nil _).symm⟩
  | step _ ih =>
    obtain ⟨C, hC⟩ := ih
    rw [List.range_succ, List.filter_append, hC]
    exact ⟨_, List.append_assoc _ _ _⟩
theorem p_all_pre {D : Nat → Nat → cC} : ∀ {C A : List Nat}, ∃ w, p_all D (A ++ C) = p_all D A ++ w := by
  intro C
  induction C with
  | nil => intro A; exact ⟨[], by rw [List.append_nil, List.append_nil]⟩
  | cons q C ih =>
    intro A
    obtain ⟨w, hw⟩ := ih (A := A ++ [q])
    rw [List.append_assoc] at hw
    refine ⟨p_dr D A.length q ++ w, ?_⟩
    rw [show A ++ q :: C = A ++ ([q] ++ C) from rfl, hw, p_all_add, List.append_assoc]
def k_F (B : cS) (D : Nat → Nat → cC) (A : List Nat) : Option Int32 × pS := p_ply (s_kd B) (s_sz B) (p_all D A) (s_p0 B)
theorem k_F_pre {B : cS} {D : Nat → Nat → cC} {A C : List Nat} {f : Int32} (h : (k_F B D A).1 = some f) : (k_F B D (A ++ C)).1 = some f := by
  obtain ⟨w, hw⟩ := p_all_pre (D := D) (C := C) (A := A)
  unfold k_F
  rw [hw, p_app_bad h]
  exact h
def k_tk (aI : Nat → Int32) (but : Int32) (q : Nat) : Bool := !decide (aI q < 0) && !c_has but (aI q)
def l_A (s : Nat → pd_H) (aI : Nat → Int32) (n : Nat) : Prop := ∀ q, q < n → (s 4).1 0 (12 + q) = aI q
theorem k_flt_succ {p : Nat → Bool} {n : Nat} : (List.range (n + 1)).filter p = (List.range n).filter p ++ cond (p n) [n] [] := by
  rw [List.range_succ, List.filter_append]
  have e : [n].filter p = cond (p n) [n] [] := by
    cases h : p n with
    | true => rw [List.filter_cons_of_pos h]; rfl
    | false => rw [List.filter_cons_of_neg (by rw [h]; decide)]; rfl
  rw [e]
theorem l_lays1 (hL : L < 2 ^ 31) (hd : d < 4) (h : l_W s Q) (hM : l_M s L xs) (hR : l_R s L xs) {aI : Nat → Int32} (hA : l_A s aI 7) {but : Int32} {B : cS} {n : Nat} (hn : n < 7) (hof : s_of B (k_D L xs) ((List.range n).filter (k_tk aI but)) (Q d)) (d6 d7 : Option pd_V) :
    ∃ s' S', l_W s' (qs Q d S') ∧ s' 4 = s 4 ∧ ((∃ d6' d7', L_lays_L6 (230 * d) but 0 (nI n) d6 d7 (p4_jn s) = L_lays_L6 (230 * d) but 0 (nI (n + 1)) d6' d7' (p4_jn s') ∧ s_of B (k_D L xs) ((List.range (n + 1)).filter (k_tk aI but)) S') ∨ ∃ f, L_lays_L6 (230 * d) but 0 (nI n) d6 d7 (p4_jn s) = some (p4_jn s', some (pd_i (-10 - f))) ∧ (k_F B (k_D L xs) ((List.range 7).filter (k_tk aI but))).1 = some f) := by
  have e12 : (12 : Int32) + nI n = nI (12 + n) := nI_add 12 _
  have hm : (p4_jn s).1 920 (12 + n) = aI n := hA n hn
  have hlen : ((List.range n).filter (k_tk aI but)).length ≤ n := by
    have := List.length_filter_le (k_tk aI but) (List.range n)
    rwa [List.length_range] at this
  have base : ∀ c1 c2 : Bool, decide (aI n < 0) = c1 → c_has but (aI n) = c2 → L_lays_L6 (230 * d) but 0 (nI n) d6 d7 (p4_jn s) = L_lays_L47 (230 * d) but 0 (nI n) d6 d7 (cond (!c1 && !c2) 1 0) (p4_jn s) := fun c1 c2 h1 h2 => by
    rw [L_lays_L6_eq, decide_eq_false (show ¬ (7 : Int32) ≤ nI n from nI_ge hn (by decide)), cond_false, decide_eq_true (rfl : (0 : Int32) = 0), cond_true, e12, l_20 (by omega), cond_false, nI_clamp (by omega), hm, h1, cond_false, c_nothas, h2]
    cases c1 <;> cases c2 <;> rfl
  cases htk : k_tk aI but n with
  | false =>
    refine ⟨s, Q d, by rw [qs_self]; exact h, rfl, Or.inl ⟨some (pd_i 0), d7, ?_, ?_⟩⟩
    · have e0 : (!decide (aI n < 0) && !c_has but (aI n)) = false := htk
      rw [base _ _ rfl rfl, e0, cond_false, L_lays_L47_eq, decide_eq_true (rfl : (0 : Int32) = 0), cond_true, nI_1]
    · rw [k_flt_succ, htk, cond_false, List.append_nil]; exact hof
  | true =>
    have e1 : (!decide (aI n < 0) && !c_has but (aI n)) = true := htk
    obtain ⟨s1, a1, a2, a3⟩ := l_draft hL hd h hM hR hn hof.2.2.1
    have ho3 := hof.add3 (q := n) (by omega)
    generalize hS3 : s_add (s_add (s_add (Q d) (k_D L xs n 0)) (k_D L xs n 1)) (k_D L xs n 2) = S3 at a2 ho3
    obtain ⟨hw3, hX3, -⟩ := a2 d hd
    rw [qs_s] at hw3 hX3
    have hpc : s_pc S3 = ((List.range n).filter (k_tk aI but)).length := ho3.2.1.2.1
    obtain ⟨z1, z2⟩ := Z_lay0 hw3 hX3 (by rw [ho3.2.2.1.1]; decide) (by omega)
    have hly := ho3.ly hw3
    have e47 : L_lays_L6 (230 * d) but 0 (nI n) d6 d7 (p4_jn s) = pd_bI (Y_lay (230 * d) (p4_jn s1)) fun s3 v4 => cond (decide (0 ≤ v4)) (L_lays_L6 (230 * d) but 0 (nI (n + 1)) (some (pd_i 1)) (some (pd_i v4)) s3) (L_lays_L6 (230 * d) but v4 (nI (n + 1)) (some (pd_i 1)) (some (pd_i v4)) s3) := by
      rw [base _ _ rfl rfl, e1, cond_true, L_lays_L47_eq, decide_eq_false (by decide : ¬ (1 : Int32) = 0), cond_false, a1, pd_bI_of, decide_eq_false (by decide : ¬ (1 : Int32) = 0), cond_false, nI_1]
    cases hr : (s_ly S3).1 with
    | none =>
      obtain ⟨y1, y2⟩ := z1 hr
      obtain ⟨s2, b1, b2, b3⟩ := y_lay hd a2 y1 y2
      rw [qs_qs] at b2
      refine ⟨s2, _, b2, b3.trans a3, Or.inl ⟨some (pd_i 1), some (pd_i (nI (s_pc S3))), ?_, ?_⟩⟩
      · rw [e47, b1, pd_bI_of, decide_eq_true (nI_pos' (by omega)), cond_true]
      · rw [k_flt_succ, htk, cond_true]
        exact ho3.lay (by omega) _
    | some kf =>
      obtain ⟨k', f⟩ := kf
      obtain ⟨y1, y2⟩ := z2 k' f hr
      obtain ⟨s2, b1, b2, b3⟩ := y_lay hd a2 y1 y2
      rw [qs_qs] at b2
      rw [hr] at hly
      have hly : (k_F B (k_D L xs) ((List.range n).filter (k_tk aI but) ++ [n])).1 = some f := hly
      have hrng := p_rng hly
      have hneg := c_err_neg hrng.2
      refine ⟨s2, _, b2, b3.trans a3, Or.inr ⟨f, ?_, ?_⟩⟩
      · rw [e47, b1, pd_bI_of, hneg.1, cond_false, L_lays_L6_eq, hneg.2.1, cond_false, Bool.cond_self]
      · obtain ⟨C, hC⟩ := l_flt_pre (p := k_tk aI but) (n := n + 1) (m := 7) (by omega)
        rw [hC, k_flt_succ, htk, cond_true]
        exact k_F_pre hly
theorem l_lays (hL : L < 2 ^ 31) (hd : d < 4) (h : l_W s Q) (hM : l_M s L xs) (hR : l_R s L xs) {aI : Nat → Int32} (hA : l_A s aI 7) {but : Int32} {B : cS} (hof : s_of B (k_D L xs) [] (Q d)) :
    ∃ s' S', l_W s' (qs Q d S') ∧ s' 4 = s 4 ∧ ((L_lays (230 * d) but (p4_jn s) = some (p4_jn s', some (pd_i 0)) ∧ s_of B (k_D L xs) ((List.range 7).filter (k_tk aI but)) S') ∨ ∃ f, L_lays (230 * d) but (p4_jn s) = some (p4_jn s', some (pd_i (-10 - f))) ∧ (k_F B (k_D L xs) ((List.range 7).filter (k_tk aI but))).1 = some f) := by
  have loop : ∀ n, n ≤ 7 → ∃ s' S', l_W s' (qs Q d S') ∧ s' 4 = s 4 ∧ ((∃ d6' d7', L_lays (230 * d) but (p4_jn s) = L_lays_L6 (230 * d) but 0 (nI n) d6' d7' (p4_jn s') ∧ s_of B (k_D L xs) ((List.range n).filter (k_tk aI but)) S') ∨ ∃ f, L_lays (230 * d) but (p4_jn s) = some (p4_jn s', some (pd_i (-10 - f))) ∧ (k_F B (k_D L xs) ((List.range 7).filter (k_tk aI but))).1 = some f) := by
    intro n
    induction n with
    | zero => intro _; exact ⟨s, Q d, by rw [qs_self]; exact h, rfl, Or.inl ⟨none, none, L_lays_eq _ _ _, hof⟩⟩
    | succ n ih =>
      intro hn
      obtain ⟨s1, S1, a1, a2, a3⟩ := ih (by omega)
      rcases a3 with ⟨d6, d7, b1, b2⟩ | hf
      · obtain ⟨s2, S2, c1, c2, c3⟩ := l_lays1 hL hd a1 (hM.of a2) (hR.of a2) (aI := aI) (by unfold l_A; rw [a2]; exact hA) (but := but) (B := B) (n := n) (by omega) (by rw [qs_s]; exact b2) d6 d7
        rw [qs_qs] at c1
        refine ⟨s2, S2, c1, c2.trans a2, ?_⟩
        rcases c3 with ⟨d6', d7', g1, g2⟩ | ⟨f, g1, g2⟩
        · exact Or.inl ⟨d6', d7', b1.trans g1, g2⟩
        · exact Or.inr ⟨f, b1.trans g1, g2⟩
      · exact ⟨s1, S1, a1, a2, Or.inr hf⟩
  obtain ⟨s1, S1, a1, a2, a3⟩ := loop 7 (Nat.le_refl _)
  refine ⟨s1, S1, a1, a2, ?_⟩
  rcases a3 with ⟨d6, d7, b1, b2⟩ | hf
  · refine Or.inl ⟨?_, b2⟩
    rw [b1, L_lays_L6_eq, decide_eq_true (by decide : (7 : Int32) ≤ nI 7), cond_true]
  · exact Or.inr hf
end LAYS
