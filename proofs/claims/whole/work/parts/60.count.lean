/-! Counts. -/
def c_pc (M : Nat) : Nat := M % 2 + M / 2 % 2 + M / 4 % 2 + M / 8 % 2 + M / 16 % 2 + M / 32 % 2
theorem J_bitCount_s {M : Nat} (hM : M < 64) (σ : pd_H) : J_bitCount (nI M) σ = some (σ, some (pd_i (nI (c_pc M)))) := by
  rw [J_bitCount_eq]
  refine congrArg (fun v => some (σ, some (pd_i v))) ?_
  clear σ
  revert hM
  revert M
  decide +kernel
theorem c_pc_or {M k : Nat} (hM : M < 64) (hk : k < 6) (h : M.testBit k = false) : c_pc (M ||| 2 ^ k) = c_pc M + 1 ∧ M ||| 2 ^ k < 64 ∧ nI M ||| ((1 : Int32) <<< (nI k &&& 31)) = nI (M ||| 2 ^ k) := by
  have : ∀ M, M < 64 → ∀ k, k < 6 → M.testBit k = false → c_pc (M ||| 2 ^ k) = c_pc M + 1 ∧ M ||| 2 ^ k < 64 ∧ nI M ||| ((1 : Int32) <<< (nI k &&& 31)) = nI (M ||| 2 ^ k) := by decide +kernel
  exact this M hM k hk h
/-- dead ones in a line; in a patch -/
def c_dd (chg : Nat → cC) (a : Nat) (t : List Nat) : Nat := cond (decide (c_need chg t (c_tc (chg a)) = 0)) 1 0
def c_dn (chg : Nat → cC) : List Nat → Nat
  | [] => 0
  | a :: t => c_dd chg a t + c_dn chg t
def c_dp (chg : Nat → cC) (p : Nat) : List Nat → Nat
  | [] => 0
  | a :: t => cond (Nat.beq (a / 6) p) (c_dd chg a t) 0 + c_dp chg p t
theorem c_mask_bc {chg : Nat → cC} {p : Nat} : ∀ {t : List Nat}, t.Nodup → ∃ M, M < 64 ∧ c_mask chg t p = nI M ∧ (∀ k, M.testBit k = true → 6 * p + k ∈ t) ∧ c_pc M = c_dp chg p t := by
  intro t
  induction t with
  | nil => intro _; exact ⟨0, by decide, rfl, (fun k hk => by rw [Nat.zero_testBit] at hk; cases hk), rfl⟩
  | cons a t ih =>
    intro hnd
    obtain ⟨ha, ht⟩ := List.nodup_cons.mp hnd
    obtain ⟨M, h1, h2, h3, h4⟩ := ih ht
    show ∃ M, M < 64 ∧ cond (decide (c_need chg t (c_tc (chg a)) = 0) && Nat.beq (a / 6) p) (c_mask chg t p ||| c_bit a) (c_mask chg t p) = nI M ∧ (∀ k, M.testBit k = true → 6 * p + k ∈ a :: t) ∧ c_pc M = cond (Nat.beq (a / 6) p) (cond (decide (c_need chg t (c_tc (chg a)) = 0)) 1 0) 0 + c_dp chg p t
    by_cases e : a / 6 = p
    · rw [e, Nat.beq_refl, Bool.and_true]
      cases decide (c_need chg t (c_tc (chg a)) = 0) with
      | false => exact ⟨M, h1, h2, fun k hk => List.mem_cons_of_mem _ (h3 k hk), by rw [h4]; exact (Nat.zero_add _).symm⟩
      | true =>
        have ea : 6 * p + a % 6 = a := by rw [← e]; exact Nat.div_add_mod a 6
        have hb : M.testBit (a % 6) = false := by
          cases hb : M.testBit (a % 6) with
          | false => rfl
          | true => exact absurd (ea ▸ h3 _ hb) ha
        obtain ⟨g1, g2, g3⟩ := c_pc_or h1 (Nat.mod_lt a (by decide)) hb
        refine ⟨M ||| 2 ^ (a % 6), g2, ?_, fun k hk => ?_, ?_⟩
        · rw [cond_true, h2]; exact g3
        · rw [Nat.testBit_or, Bool.or_eq_true] at hk
          rcases hk with hk | hk
          · exact List.mem_cons_of_mem _ (h3 k hk)
          · rw [Nat.testBit_two_pow] at hk
            rw [← of_decide_eq_true hk, ea]; exact List.mem_cons_self
        · rw [g1, h4, Nat.add_comm]; rfl
    · rw [c_beq_f e, Bool.and_false]
      exact ⟨M, h1, h2, fun k hk => List.mem_cons_of_mem _ (h3 k hk), by rw [h4]; exact (Nat.zero_add _).symm⟩
def c_sum (f : Nat → Nat) : List Nat → Nat
  | [] => 0
  | p :: l => f p + c_sum f l
theorem c_sum_none {f : Nat → Nat} {q d : Nat} : ∀ {l : List Nat}, q ∉ l → c_sum (fun p => cond (Nat.beq q p) d 0 + f p) l = c_sum f l := by
  intro l
  induction l with
  | nil => intro _; rfl
  | cons p l ih =>
    intro h
    show (cond (Nat.beq q p) d 0 + f p) + c_sum _ l = f p + c_sum f l
    rw [ih (fun g => h (List.mem_cons_of_mem _ g)), c_beq_f (fun e => h (by rw [e]; exact List.mem_cons_self)), cond_false, Nat.zero_add]
theorem c_sum_one {f : Nat → Nat} {q d : Nat} : ∀ {l : List Nat}, l.Nodup → q ∈ l → c_sum (fun p => cond (Nat.beq q p) d 0 + f p) l = d + c_sum f l := by
  intro l
  induction l with
  | nil => intro _ h; cases h
  | cons p l ih =>
    intro hnd h
    obtain ⟨h1, h2⟩ := List.nodup_cons.mp hnd
    show (cond (Nat.beq q p) d 0 + f p) + c_sum _ l = d + (f p + c_sum f l)
    by_cases e : q = p
    · subst e
      rw [Nat.beq_refl, cond_true, c_sum_none h1]; omega
    · have hq : q ∈ l := by
        rcases List.mem_cons.mp h with g | g
        · exact absurd g e
        · exact g
      rw [c_beq_f e, cond_false, ih h2 hq]; omega
theorem c_sum_dn {chg : Nat → cC} {l : List Nat} (hnd : l.Nodup) : ∀ {t : List Nat}, (∀ a ∈ t, a / 6 ∈ l) → c_sum (fun p => c_dp chg p t) l = c_dn chg t := by
  intro t
  induction t with
  | nil =>
    intro _
    show c_sum (fun _ => 0) l = 0
    induction l with
    | nil => rfl
    | cons p l ih => show 0 + c_sum (fun _ => 0) l = 0; rw [ih (List.nodup_cons.mp hnd).2 (fun a ha => by cases ha)]
  | cons a t ih =>
    intro h
    show c_sum (fun p => cond (Nat.beq (a / 6) p) (c_dd chg a t) 0 + c_dp chg p t) l = c_dd chg a t + c_dn chg t
    rw [c_sum_one hnd (h a List.mem_cons_self), ih (fun b hb => h b (List.mem_cons_of_mem _ hb))]
section COUNT
variable {σ : pd_H} {S : cS}
theorem s_lnd (hw : s_wf S) : (c_line (s_ln S) (s_or S)).Nodup := c_line_nodup hw.2.2.1.1.1 (fun p hp => hw.2.1.2.1 p (s_or25 hw p hp))
theorem X_dead_n (hw : s_wf S) (h : RX σ S) : X_deadChanges σ = some (σ, some (pd_i (nI (c_dn (s_ch S) (c_line (s_ln S) (s_or S)))))) := by
  have h24 := s_or24 hw
  obtain ⟨L2, L4, L5, L6, L7, L9, L10, L12, L13, L14, L15⟩ := pu_len_run (x_run3 h)
  have loop : ∀ (m : List Nat) (i s : Nat), i + m.length = (s_or S).length → (∀ t x, m[t]? = some x → (s_or S)[i + t]? = some x) → X_deadChanges_L4 (nI s) (nI i) σ = some (σ, some (pd_i (nI (s + c_sum (fun p => c_dp (s_ch S) p (c_line (s_ln S) (s_or S))) m)))) := by
    intro m
    induction m with
    | nil =>
      intro i s hi _
      have hi : i = (s_or S).length := hi
      rw [X_deadChanges_L4_eq, h.2.2.2.1.1.1, hi, decide_eq_true (nI_le (Nat.le_refl _) (by omega)), cond_true]
      rfl
    | cons y m ih =>
      intro i s hi hm
      have hi : i + (m.length + 1) = (s_or S).length := hi
      have hy : (s_or S)[i]? = some y := by have := hm 0 y rfl; rwa [Nat.add_zero] at this
      have hmt : ∀ t x, m[t]? = some x → (s_or S)[i + 1 + t]? = some x := fun t x h => by
        rw [show i + 1 + t = i + (t + 1) by omega]; exact hm (t + 1) x h
      have ey : σ.1 (σ.2.2 0 + 1 + 1) i = nI y := h.2.2.2.1.1.2.2 i y hy
      have hyo := List.mem_of_getElem? hy
      have y25 := s_or25 hw y hyo
      obtain ⟨M, m1, m2, -, m4⟩ := c_mask_bc (chg := s_ch S) (p := y) (s_lnd hw)
      rw [X_deadChanges_L4_eq, h.2.2.2.1.1.1, decide_eq_false (nI_ge (show i < (s_or S).length by omega) (by omega)), cond_false, (x_trl h).2.1, pu_obN (show i < 24 by omega) (by decide), cond_false, nI_clamp (by omega), ey, L15, pu_obN y25 (by decide), cond_false, nI_clamp (by omega), h.2.2.2.1.2.2 y hyo, m2, J_bitCount_s m1, pd_bI_of, m4, nI_add, nI_1, ih (i + 1) _ (by omega) hmt]
      show _ = some (σ, some (pd_i (nI (s + (c_dp (s_ch S) y (c_line (s_ln S) (s_or S)) + c_sum (fun p => c_dp (s_ch S) p (c_line (s_ln S) (s_or S))) m)))))
      rw [Nat.add_assoc]
  have l0 : X_deadChanges_L4 0 0 σ = _ := loop (s_or S) 0 0 (Nat.zero_add _) (fun t x hx => by rw [Nat.zero_add]; exact hx)
  rw [X_deadChanges_eq, l0, Nat.zero_add, c_sum_dn hw.2.2.1.1.1 (fun a ha => ?_)]
  obtain ⟨p, h1, k, h2, rfl⟩ := c_line_mem ha
  have := hw.2.1.2.1 p (s_or25 hw p h1)
  rw [show (6 * p + k) / 6 = p by omega]; exact h1
theorem M_deadNow_s (hw : s_wf S) (h : RM σ S) : ∃ τ, M_deadNow σ = some (τ, some (pd_i (nI (c_dn (s_ch S) (c_line (s_ln S) (s_or S)))))) ∧ m_ddK σ τ ∧ m_line τ (c_line (s_ln S) (s_or S)) ∧ m_lvs τ (s_ch S) (c_line (s_ln S) (s_or S)) 0 := by
  obtain ⟨τ, t1, t2, t3, t4, t5⟩ := M_findsLives_s hw h
  refine ⟨τ, ?_, t4, t2, t3⟩
  have loop : ∀ (t : List Nat) (i s : Nat), (c_line (s_ln S) (s_or S)).drop i = t → i ≤ (c_line (s_ln S) (s_or S)).length → M_deadNow_L8 (nI s) (nI i) τ = some (τ, some (pd_i (nI (s + c_dn (s_ch S) t)))) := by
    intro t
    induction t with
    | nil =>
      intro i s ht hi
      have : (c_line (s_ln S) (s_or S)).length ≤ i := List.drop_eq_nil_iff.mp ht
      have hi : i = (c_line (s_ln S) (s_or S)).length := by omega
      rw [M_deadNow_L8_eq, t2.1, hi, decide_eq_true (nI_le (Nat.le_refl _) (by omega)), cond_true]
      rfl
    | cons x t ih =>
      intro i s ht hi
      have hlt : i < (c_line (s_ln S) (s_or S)).length := by
        rcases Nat.lt_or_ge i (c_line (s_ln S) (s_or S)).length with g | g
        · exact g
        · rw [List.drop_eq_nil_of_le g] at ht; cases ht
      have ht' : (c_line (s_ln S) (s_or S)).drop (i + 1) = t := by
        have := congrArg List.tail ht
        rw [List.tail_drop] at this
        exact this
      have e262 := t3 i x t (Nat.zero_le i) ht
      rw [M_deadNow_L8_eq, t2.1, decide_eq_false (nI_ge hlt (by omega)), cond_false, show pd_len 262 = 144 from rfl, pu_obN (show i < 144 by omega) (by decide), cond_false, nI_clamp (by omega), e262, Int32.add_zero, nI_1, nI_1, ih (i + 1) _ ht' hlt, ih (i + 1) _ ht' hlt]
      show _ = some (τ, some (pd_i (nI (s + (cond (decide (c_need (s_ch S) t (c_tc (s_ch S x)) = 0)) 1 0 + c_dn (s_ch S) t)))))
      cases decide (c_need (s_ch S) t (c_tc (s_ch S x)) = 0) with
      | false => rw [cond_false, cond_false, Nat.zero_add]
      | true => rw [cond_true, cond_true, Nat.add_assoc]
  have l0 : M_deadNow_L8 0 0 τ = _ := loop (c_line (s_ln S) (s_or S)) 0 0 rfl (Nat.zero_le _)
  rw [M_deadNow_eq, t1, pd_bV_of, l0, Nat.zero_add]
theorem X_applied_n (hw : s_wf S) (h : RX σ S) : X_appliedChanges σ = some (σ, some (pd_i (nI (c_line (s_ln S) (s_or S)).length))) := by
  have h24 := s_or24 hw
  have hbl : ∀ (q d k : Nat), (c_blk q k d).length = d := by
    intro q d
    induction d with
    | zero => intro k; rfl
    | succ d ih => intro k; show (c_blk q (k + 1) d).length + 1 = d + 1; rw [ih]
  have loop : ∀ (m : List Nat) (i s : Nat), i + m.length = (s_or S).length → (∀ t x, m[t]? = some x → (s_or S)[i + t]? = some x) → X_appliedChanges_L4 (nI s) (nI i) σ = some (σ, some (pd_i (nI (s + (c_line (s_ln S) m).length)))) := by
    intro m
    induction m with
    | nil =>
      intro i s hi _
      have hi : i = (s_or S).length := hi
      rw [X_appliedChanges_L4_eq, h.2.2.2.1.1.1, hi, decide_eq_true (nI_le (Nat.le_refl _) (by omega)), cond_true]
      rfl
    | cons y m ih =>
      intro i s hi hm
      have hi : i + (m.length + 1) = (s_or S).length := hi
      have hy : (s_or S)[i]? = some y := by have := hm 0 y rfl; rwa [Nat.add_zero] at this
      have hmt : ∀ t x, m[t]? = some x → (s_or S)[i + 1 + t]? = some x := fun t x h => by
        rw [show i + 1 + t = i + (t + 1) by omega]; exact hm (t + 1) x h
      have ey : σ.1 (σ.2.2 0 + 1 + 1) i = nI y := h.2.2.2.1.1.2.2 i y hy
      have y25 := s_or25 hw y (List.mem_of_getElem? hy)
      rw [X_appliedChanges_L4_eq, h.2.2.2.1.1.1, decide_eq_false (nI_ge (show i < (s_or S).length by omega) (by omega)), cond_false, (x_trl h).2.1, pu_obN (show i < 24 by omega) (by decide), cond_false, nI_clamp (by omega), ey, show pd_len 9 = 25 from rfl, pu_obN y25 (by decide), cond_false, nI_clamp (by omega), (h.2.1.2.1 y y25).1, nI_add, nI_1, ih (i + 1) _ (by omega) hmt]
      show _ = some (σ, some (pd_i (nI (s + (c_blk y 0 (s_ln S y) ++ c_line (s_ln S) m).length))))
      rw [List.length_append, hbl, Nat.add_assoc]
  have l0 : X_appliedChanges_L4 0 0 σ = _ := loop (s_or S) 0 0 (Nat.zero_add _) (fun t x hx => by rw [Nat.zero_add]; exact hx)
  rw [X_appliedChanges_eq, l0, Nat.zero_add]
theorem J_count (h : JR σ S) (a : Int32) : JI (X_count a) (M_count a) σ := by
  have hw := h.1
  have hX := h.2.1
  have h24 := s_or24 hw
  rw [show X_count a = fun σ => X_count a σ from rfl]
  by_cases a0 : a = 0
  · refine JI.same (v := nI (s_pc S)) h (by show X_count a σ = _; rw [X_count_eq, decide_eq_true a0, cond_true, hX.2.1.2.2]) (fun g => by rw [M_count_eq, decide_eq_true a0, cond_true, g.2.1.2.2])
  by_cases a1 : a = 1
  · refine JI.same (v := nI (s_or S).length) h (by show X_count a σ = _; rw [X_count_eq, decide_eq_false a0, cond_false, decide_eq_true a1, cond_true, hX.2.2.2.1.1.1]) (fun g => by rw [M_count_eq, decide_eq_false a0, cond_false, decide_eq_true a1, cond_true, g.2.2.1.1.1])
  by_cases a2 : a = 2
  · refine JI.same (v := nI (s_ln S 24)) h (by show X_count a σ = _; rw [X_count_eq, decide_eq_false a0, cond_false, decide_eq_false a1, cond_false, decide_eq_true a2, cond_true, x_len24 hX]) (fun g => by rw [M_count_eq, decide_eq_false a0, cond_false, decide_eq_false a1, cond_false, decide_eq_true a2, cond_true, m_len24 g])
  by_cases a3 : a = 3
  · refine JI.same (v := nI (s_un S).length) h (by show X_count a σ = _; rw [X_count_eq, decide_eq_false a0, cond_false, decide_eq_false a1, cond_false, decide_eq_false a2, cond_false, decide_eq_true a3, cond_true, hX.2.2.2.2.1.1.1]) (fun g => by rw [M_count_eq, decide_eq_false a0, cond_false, decide_eq_false a1, cond_false, decide_eq_false a2, cond_false, decide_eq_true a3, cond_true, g.2.2.2.1.1])
  by_cases a4 : a = 4
  · refine JI.same (v := nI (s_vr S).length) h (by show X_count a σ = _; rw [X_count_eq, decide_eq_false a0, cond_false, decide_eq_false a1, cond_false, decide_eq_false a2, cond_false, decide_eq_false a3, cond_false, decide_eq_true a4, cond_true, hX.2.2.2.2.1.2.1]) (fun g => by rw [M_count_eq, decide_eq_false a0, cond_false, decide_eq_false a1, cond_false, decide_eq_false a2, cond_false, decide_eq_false a3, cond_false, decide_eq_true a4, cond_true, g.2.2.2.1.2.2.1])
  by_cases a5 : a = 5
  · refine JI.same (v := s_all S 6 0 0) h (by show X_count a σ = _; rw [X_count_eq, decide_eq_false a0, cond_false, decide_eq_false a1, cond_false, decide_eq_false a2, cond_false, decide_eq_false a3, cond_false, decide_eq_false a4, cond_false, decide_eq_true a5, cond_true, X_all_s hw hX, pd_bI_of]) (fun g => by rw [M_count_eq, decide_eq_false a0, cond_false, decide_eq_false a1, cond_false, decide_eq_false a2, cond_false, decide_eq_false a3, cond_false, decide_eq_false a4, cond_false, decide_eq_true a5, cond_true, M_all_s hw g, pd_bI_of])
  by_cases a6 : a = 6
  · refine JI.of (v := nI (c_line (s_ln S) (s_or S)).length) h hw (by show X_count a σ = _; rw [X_count_eq, decide_eq_false a0, cond_false, decide_eq_false a1, cond_false, decide_eq_false a2, cond_false, decide_eq_false a3, cond_false, decide_eq_false a4, cond_false, decide_eq_false a5, cond_false, decide_eq_true a6, cond_true, X_applied_n hw hX, pd_bI_of]) hX XF.rf (fun g => ?_)
    obtain ⟨τ, t1, t2, t3⟩ := M_findsLine_s g.2.1.2.1 g.2.2.1.1.1 g.2.2.1.1.2.1 h24 (s_or25 hw)
    exact ⟨τ, by rw [M_count_eq, decide_eq_false a0, cond_false, decide_eq_false a1, cond_false, decide_eq_false a2, cond_false, decide_eq_false a3, cond_false, decide_eq_false a4, cond_false, decide_eq_false a5, cond_false, decide_eq_true a6, cond_true, M_changesLaid_eq, t1, pd_bV_of, pd_bI_of, t2.1], g.dd t3, t3.mf⟩
  by_cases a7 : a = 7
  · refine JI.of (v := nI (c_dn (s_ch S) (c_line (s_ln S) (s_or S)))) h hw (by show X_count a σ = _; rw [X_count_eq, decide_eq_false a0, cond_false, decide_eq_false a1, cond_false, decide_eq_false a2, cond_false, decide_eq_false a3, cond_false, decide_eq_false a4, cond_false, decide_eq_false a5, cond_false, decide_eq_false a6, cond_false, decide_eq_true a7, cond_true, X_dead_n hw hX, pd_bI_of]) hX XF.rf (fun g => ?_)
    obtain ⟨τ, t1, t2, -, -⟩ := M_deadNow_s hw g
    exact ⟨τ, by rw [M_count_eq, decide_eq_false a0, cond_false, decide_eq_false a1, cond_false, decide_eq_false a2, cond_false, decide_eq_false a3, cond_false, decide_eq_false a4, cond_false, decide_eq_false a5, cond_false, decide_eq_false a6, cond_false, decide_eq_true a7, cond_true, t1, pd_bI_of], g.dd t2, t2.mf⟩
  by_cases a8 : a = 8
  · have eX : X_count a σ = _ := X_count_eq a σ
    rw [decide_eq_false a0, cond_false, decide_eq_false a1, cond_false, decide_eq_false a2, cond_false, decide_eq_false a3, cond_false, decide_eq_false a4, cond_false, decide_eq_false a5, cond_false, decide_eq_false a6, cond_false, decide_eq_false a7, cond_false, decide_eq_true a8, cond_true, hX.2.2.2.1.1.1] at eX
    have eM : ∀ τ, RM τ S → M_count a τ = _ := fun τ _ => M_count_eq a τ
    cases hk : (s_or S).length with
    | zero =>
      refine JI.same (v := -1) h (by show X_count a σ = _; rw [eX, hk]; rfl) (fun g => ?_)
      rw [M_count_eq, decide_eq_false a0, cond_false, decide_eq_false a1, cond_false, decide_eq_false a2, cond_false, decide_eq_false a3, cond_false, decide_eq_false a4, cond_false, decide_eq_false a5, cond_false, decide_eq_false a6, cond_false, decide_eq_false a7, cond_false, decide_eq_true a8, cond_true, g.2.2.1.1.1, hk]; rfl
    | succ k =>
      obtain ⟨m, p, e1, e2, e3, e4⟩ := c_snoc hk
      have hne : ¬ nI (k + 1) = 0 := by
        rw [show (0 : Int32) = nI 0 from rfl, nI_eq (by omega) (by omega)]; omega
      refine JI.same (v := nI p) h ?_ (fun g => ?_)
      · show X_count a σ = _
        rw [eX, hk, decide_eq_false hne, cond_false, nI_pred, (x_trl hX).2.1, pu_obN (show k < 24 by omega) (by decide), cond_false, nI_clamp (by omega)]
        rw [show σ.1 (σ.2.2 0 + 1 + 1) k = nI p from hX.2.2.2.1.1.2.2 k p e3]
      · rw [M_count_eq, decide_eq_false a0, cond_false, decide_eq_false a1, cond_false, decide_eq_false a2, cond_false, decide_eq_false a3, cond_false, decide_eq_false a4, cond_false, decide_eq_false a5, cond_false, decide_eq_false a6, cond_false, decide_eq_false a7, cond_false, decide_eq_true a8, cond_true, g.2.2.1.1.1, hk, decide_eq_false hne, cond_false, nI_pred, show pd_len 250 = 24 from rfl, pu_obN (show k < 24 by omega) (by decide), cond_false, nI_clamp (by omega), g.2.2.1.1.2.1 k p e3]
  · refine JI.same (v := -2) h (by show X_count a σ = _; rw [X_count_eq, decide_eq_false a0, cond_false, decide_eq_false a1, cond_false, decide_eq_false a2, cond_false, decide_eq_false a3, cond_false, decide_eq_false a4, cond_false, decide_eq_false a5, cond_false, decide_eq_false a6, cond_false, decide_eq_false a7, cond_false, decide_eq_false a8, cond_false]) (fun g => by rw [M_count_eq, decide_eq_false a0, cond_false, decide_eq_false a1, cond_false, decide_eq_false a2, cond_false, decide_eq_false a3, cond_false, decide_eq_false a4, cond_false, decide_eq_false a5, cond_false, decide_eq_false a6, cond_false, decide_eq_false a7, cond_false, decide_eq_false a8, cond_false])
end COUNT
