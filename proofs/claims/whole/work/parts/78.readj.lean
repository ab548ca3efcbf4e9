/-! Read. -/
section READJ
variable {σ : pd_H} {S : cS} {L : List Nat}
def c_semi : List Nat → Nat
  | [] => 0
  | b :: t => cond (Nat.beq b 59) 1 0 + c_semi t
theorem c_semi_sf {l r : List Nat} (h : c_sf l r) : c_semi l = c_semi r := by
  obtain ⟨u, h1, h2⟩ := h
  subst h1
  induction u with
  | nil => rfl
  | cons b u ih =>
    have hb : Nat.beq b 59 = false := by rw [← Bool.not_eq_true]; exact fun q => h2 (by rw [Nat.eq_of_beq_eq_true q]; exact List.mem_cons_self)
    show cond (Nat.beq b 59) 1 0 + c_semi (u ++ r) = _
    rw [hb, cond_false, Nat.zero_add]
    exact ih (fun q => h2 (List.mem_cons_of_mem _ q))
theorem c_prs_len : ∀ {f : Nat} {l : List Nat}, (c_prs f l).1 = true → (c_prs f l).2.1.length = c_semi l + 1 ∧ (c_prs f l).2.2 = [] ∧ (c_prs f l).2.1.length ≤ f := by
  intro f
  induction f with
  | zero => intro l h; cases h
  | succ f ih =>
    intro l h
    rcases c_prs_one h with ⟨c, ⟨g1, g2⟩ | ⟨r, g1, g2, g3⟩⟩
    · have e := c_semi_sf (c_tcg_sf (l := l))
      rw [g1] at e
      rw [g2, e]
      exact ⟨rfl, rfl, Nat.succ_le_succ (Nat.zero_le _)⟩
    · have e := c_semi_sf (c_tcg_sf (l := l))
      rw [g1] at e
      have e : c_semi l = 1 + c_semi r := e
      obtain ⟨k1, k2, k3⟩ := ih g2
      rw [g3, e]
      refine ⟨?_, k2, Nat.succ_le_succ k3⟩
      show (c_prs f r).2.1.length + 1 = _
      omega
theorem M_read_L15_s (hT : mT σ L) {d3 d4 : Option pd_V} : ∀ (l u : List Nat) (k : Nat), L = u ++ l → M_read_L15 (nI k) (nI u.length) d3 d4 σ = M_read_L15 (nI (k + c_semi l)) (nI L.length) d3 d4 σ := by
  intro l
  induction l with
  | nil => intro u k e; rw [List.append_nil] at e; rw [e]; rfl
  | cons b t ih =>
    intro u k e
    obtain ⟨hb, hu⟩ := c_byte_at e ⟨hT.1, hT.2.1⟩
    have e1 : decide (σ.1 230 39 ≤ nI u.length) = false := by
      rw [hT.2.2.1]
      refine decide_eq_false (nI_ge ?_ (by have := hT.1; omega))
      rw [e, List.length_append, List.length_cons]; omega
    have e2 : σ.1 259 u.length = nI b := hT.2.2.2 _ _ (by rw [e, List.getElem?_append_right (Nat.le_refl _), Nat.sub_self]; rfl)
    have g := ih (u ++ [b]) (k + cond (Nat.beq b 59) 1 0) (by rw [e, List.append_assoc]; rfl)
    rw [List.length_append] at g
    have g : M_read_L15 (nI (k + cond (Nat.beq b 59) 1 0)) (nI (u.length + 1)) d3 d4 σ = M_read_L15 (nI (k + cond (Nat.beq b 59) 1 0 + c_semi t)) (nI L.length) d3 d4 σ := g
    rw [M_read_L15_eq, e1, cond_false, show pd_len 259 = 80 from rfl, pu_obN hu (by decide), cond_false, nI_clamp (by omega), e2, show (59 : Int32) = nI 59 from rfl, nI_beq (by omega) (by decide), show (1 : Int32) = nI 1 from rfl, show (0 : Int32) = nI 0 from rfl, nI_add, nI_add, nI_add]
    show _ = M_read_L15 (nI (k + (cond (Nat.beq b 59) 1 0 + c_semi t))) (nI L.length) d3 d4 σ
    rw [← Nat.add_assoc, ← g]
    cases Nat.beq b 59 <;> rfl
theorem s_addL_dr : ∀ (cs : List cC) (S : cS), s_addL S cs = s_dr S (s_ch (s_addL S cs)) (s_ln (s_addL S cs)) := by
  intro cs
  induction cs with
  | nil => intro S; rfl
  | cons c cs ih => intro S; exact ih (s_add S c)
theorem s_addL_ln : ∀ (cs : List cC) (S : cS), s_ln (s_addL S cs) 24 = s_ln S 24 + cs.length ∧ ∀ p, p ≠ 24 → s_ln (s_addL S cs) p = s_ln S p := by
  intro cs
  induction cs with
  | nil => intro S; exact ⟨rfl, fun _ _ => rfl⟩
  | cons c cs ih =>
    intro S
    obtain ⟨h1, h2⟩ := ih (s_add S c)
    refine ⟨?_, fun p hp => ?_⟩
    · show s_ln (s_addL (s_add S c) cs) 24 = _
      rw [h1, s_add_ln, List.length_cons]; omega
    · show s_ln (s_addL (s_add S c) cs) p = _
      rw [h2 p hp]
      exact c_updN_n hp
theorem s_addL_ch : ∀ (cs : List cC) (S : cS), (∀ a, a < 144 + s_ln S 24 → s_ch (s_addL S cs) a = s_ch S a) ∧ ∀ (j : Nat) (c : cC), cs[j]? = some c → s_ch (s_addL S cs) (144 + s_ln S 24 + j) = c := by
  intro cs
  induction cs with
  | nil => intro S; exact ⟨fun _ _ => rfl, fun j c h => by cases h⟩
  | cons d cs ih =>
    intro S
    obtain ⟨h1, h2⟩ := ih (s_add S d)
    rw [s_add_ln] at h1 h2
    have hd : ∀ a, s_ch (s_add S d) a = c_updC (s_ch S) (144 + s_ln S 24) d a := fun _ => rfl
    refine ⟨fun a ha => ?_, fun j c hj => ?_⟩
    · show s_ch (s_addL (s_add S d) cs) a = _
      rw [h1 a (by omega), hd, c_updC_n (by omega)]
    · show s_ch (s_addL (s_add S d) cs) _ = _
      cases j with
      | zero =>
        have hj : some d = some c := hj
        cases hj
        rw [h1 _ (by omega), hd]
        exact c_updC_s
      | succ j =>
        have := h2 j c hj
        rw [show 144 + (s_ln S 24 + 1) + j = 144 + s_ln S 24 + (j + 1) by omega] at this
        exact this
theorem s_dr_drK {ch ch' : Nat → cC} {ln ln' : Nat → Nat} (h : s_drK S ch ln) (g : s_drK (s_dr S ch ln) ch' ln') : s_drK S ch' ln' := ⟨fun a ha => (g.1 a ha).trans (h.1 a ha), fun p hp => (g.2.1 p hp).trans (h.2.1 p hp), g.2.2⟩
theorem s_addL_drK : ∀ (cs : List cC) (S : cS), s_wf S → s_ln S 24 + cs.length ≤ 6 → (∀ c ∈ cs, c_chok c ∧ c_nrm c) → s_drK S (s_ch (s_addL S cs)) (s_ln (s_addL S cs)) := by
  intro cs
  induction cs with
  | nil => intro S hw _ _; exact ⟨fun _ _ => rfl, fun _ _ => rfl, hw.2.1.2.1 24 (by decide), fun k hk => hw.2.1.2.2 24 k (Or.inr rfl) hk⟩
  | cons c cs ih =>
    intro S hw h6 hc
    rw [List.length_cons] at h6
    have hc1 := hc c List.mem_cons_self
    have hk := s_addK hw (by omega) hc1.1 hc1.2
    exact s_dr_drK hk (ih (s_add S c) (s_dr_wf hw hk) (by rw [s_add_ln]; omega) (fun d hd => hc d (List.mem_cons_of_mem _ hd)))
/-- the model behind its reading -/
theorem RM_read (hw : s_wf S) {cs : List cC} (h6 : s_ln S 24 + cs.length ≤ 6) (hc : ∀ c ∈ cs, c_chok c ∧ c_nrm c) (h : RM σ S) {τ : pd_H} (hI : rI σ (144 + s_ln S 24) cs cs.length τ) : RM (pd_upI (pd_upI τ 244 24 (nI (s_ln S 24 + cs.length))) 230 39 0) (s_rd1 S cs) := by
  obtain ⟨⟨f1, f2, f3⟩, hm⟩ := hI
  obtain ⟨l1, l2⟩ := s_addL_ln cs S
  obtain ⟨c1, c2⟩ := s_addL_ch cs S
  -- the model with its own places only
  have hA : RM (fun k => if k = 230 then τ.1 230 else σ.1 k, fun k => if k = 230 then τ.2.1 230 else σ.2.1 k, σ.2.2) S := by
    refine h.rest ⟨fun k hk => if_neg hk, fun k hk => if_neg hk, rfl⟩ (fun j hj => ?_)
    show (if 230 = 230 then τ.1 230 else σ.1 230) j = _
    rw [if_pos rfl]; exact f2 j (by omega)
  have hB : RM (pd_upI τ 244 24 (nI (s_ln S 24 + cs.length))) (s_addL S cs) := by
    rw [s_addL_dr]
    refine RM_dr hw (s_addL_drK cs S hw h6 hc) hA ⟨fun k hk => ?_, fun k hk => ?_, f1.2.2⟩ ⟨fun p k hp hk => ?_, fun p hp => ?_, ?_⟩
    · have hk : ¬ (238 ≤ k ∧ k ≤ 244) := hk
      rw [pu_u1n (by omega)]
      show τ.1 k = if k = 230 then τ.1 230 else σ.1 k
      by_cases e : k = 230
      · rw [if_pos e, e]
      · rw [if_neg e, f1.1 k (by omega)]
    · have hk : ¬ (238 ≤ k ∧ k ≤ 244) := hk
      show τ.2.1 k = if k = 230 then τ.2.1 230 else σ.2.1 k
      by_cases e : k = 230
      · rw [if_pos e, e]
      · rw [if_neg e, f1.2.1 k (by omega)]
    · have hk : k < s_ln (s_addL S cs) p := hk
      show m_is _ (6 * p + k) (s_ch (s_addL S cs) (6 * p + k))
      have hp : p < s_pc S ∨ p = 24 := hp
      have hpc := hw.2.1.1
      have e244 : ∀ c, m_is τ (6 * p + k) c → m_is (pd_upI τ 244 24 (nI (s_ln S 24 + cs.length))) (6 * p + k) c := fun c q => m_is_fr2 q (fun k' h1 h2 => by rw [pu_u1n (by omega)])
      have old : k < s_ln S p → 6 * p + k < 144 + s_ln S 24 → m_is (pd_upI τ 244 24 (nI (s_ln S 24 + cs.length))) (6 * p + k) (s_ch (s_addL S cs) (6 * p + k)) := fun q1 q2 => by
        rw [c1 _ q2]
        exact e244 _ (m_is_fr2 (h.2.1.1 p k hp q1) (fun k' h1 h2 => f3 k' h1 h2 _ q2))
      rcases hp with hp | hp
      · rw [l2 p (by omega)] at hk
        have := hw.2.1.2.1 p (by omega)
        exact old hk (by omega)
      · subst hp
        rw [l1] at hk
        by_cases q : k < s_ln S 24
        · exact old q (by omega)
        · obtain ⟨j, rfl⟩ : ∃ j, k = s_ln S 24 + j := ⟨k - s_ln S 24, by omega⟩
          have hj : j < cs.length := by omega
          have e : cs[j]? = some cs[j] := List.getElem?_eq_getElem hj
          have ei : 6 * 24 + (s_ln S 24 + j) = 144 + s_ln S 24 + j := by omega
          refine e244 _ ?_
          rw [ei, c2 j _ e]
          exact hm j hj _ e
    · show (pd_upI τ 244 24 (nI (s_ln S 24 + cs.length))).1 244 p = nI (s_ln (s_addL S cs) p) ∧ s_ln (s_addL S cs) p ≤ 6
      rw [pu_u1s]
      by_cases e : p = 24
      · rw [e, pk_us, l1]; exact ⟨rfl, h6⟩
      · rw [pk_un e, l2 p e, f1.1 244 (by omega)]; exact h.2.1.2.1 p hp
    · show (pd_upI τ 244 24 (nI (s_ln S 24 + cs.length))).1 230 19 = _
      rw [pu_u1n (by decide), f2 19 (by decide)]; exact h.2.1.2.2
  have f := hB.2.2.2
  obtain ⟨g1, g2, g3, g4⟩ := f
  generalize pd_upI τ 244 24 (nI (s_ln S 24 + cs.length)) = ρ at *
  refine RM_ot hB (pu_fr.upI (Or.inl rfl)) (fun j hj => by rw [pu_u1s, pk_un (by omega)]) ?_
  have e1 : ∀ k, k ≠ 230 → (pd_upI ρ 230 39 0).1 k = ρ.1 k := fun k hk => pu_u1n hk
  have en : s_un (s_addL S cs) = s_un S ∧ s_vr (s_addL S cs) = s_vr S ∧ s_fl (s_addL S cs) = s_fl S ∧ s_mt (s_addL S cs) = s_mt S := by rw [s_addL_dr]; exact ⟨rfl, rfl, rfl, rfl⟩
  obtain ⟨n1, n2, n3, n4⟩ := en
  rw [n1, n2] at g1
  rw [n3] at g3
  rw [n4] at g4
  refine ⟨⟨?_, ?_, ?_, ?_⟩, ⟨?_, fun i b hb => by cases hb⟩, ?_, ?_⟩
  · rw [pu_u1s, pk_un (by decide)]; exact g1.1
  · rw [e1 252 (by decide)]; exact g1.2.1
  · rw [pu_u1s, pk_un (by decide)]; exact g1.2.2.1
  · rw [e1 254 (by decide), e1 253 (by decide)]; exact g1.2.2.2
  · rw [pu_u1s, pk_us]; rfl
  · rw [e1 255 (by decide)]; exact g3
  · rw [e1 256 (by decide)]; exact g4
theorem c_le6 {n : Nat} (h : n < 100) : decide (nI n ≤ (6 : Int32)) = decide (n ≤ 6) := by
  have : ∀ n, n < 100 → decide (nI n ≤ (6 : Int32)) = decide (n ≤ 6) := by decide +kernel
  exact this n h
theorem J_read (h : JR σ S) : JI X_read M_read σ := by
  have hw := h.1
  have h6 := hw.2.1.2.1 24 (by decide)
  have h80 := hw.2.2.2.2.1
  obtain ⟨σ1, y, a1, a2, a3⟩ := Tape_findFlaw_s h.1 h.2.1
  have hX1 := RX_tS h.1 h.2.1 a2
  have hF1 : XF σ σ1 := XF.of a2.2.2.2 (fun k hk => by omega)
  have l24 : σ1.1 9 24 = nI (s_ln S 24) := x_len24 hX1
  cases hr : (c_prs 81 (s_tp S)).1 with
  | false =>
    have hv : s_fw S = nI ((s_tp S).length - (c_prs 81 (s_tp S)).2.2.length) := by unfold s_fw; rw [hr]; rfl
    have hne : ¬ s_fw S = -1 := by
      rw [hv]
      have : ∀ k, k < 81 → ¬ nI k = (-1 : Int32) := by decide
      exact this _ (by omega)
    refine JI.of (v := -3) h hw ?_ hX1 hF1 (fun g => ?_)
    · rw [X_read_eq, a1, pd_bI_of, decide_eq_false hne, cond_false]
    · obtain ⟨υ, k1, k2⟩ := M_flaw_s h.1 g
      refine ⟨υ, ?_, g.mF k2, MF.of k2.1 (fun k hk => by omega)⟩
      rw [M_read_eq, k1, pd_bI_of, decide_eq_false hne, cond_false]
  | true =>
    have hv : s_fw S = -1 := by unfold s_fw; rw [hr]; rfl
    obtain ⟨p1, p2, p3⟩ := c_prs_len hr
    have hok := c_prs_ok hr
    have a3 := a3 hr
    have e106 : σ1.1 10 6 = nI (c_prs 81 (s_tp S)).2.1.length := a2.2.2.1.trans a3
    have eX : X_read σ = cond (decide (s_ln S 24 + (c_prs 81 (s_tp S)).2.1.length ≤ 6)) (X_read_L58 (nI (c_prs 81 (s_tp S)).2.1.length) 0 (pd_upI σ1 10 3 0)) (some (σ1, some (pd_i (-4)))) := by
      rw [X_read_eq, a1, pd_bI_of, decide_eq_true hv, cond_true, l24, e106, nI_add, c_le6 (by omega)]
    have eM : ∀ ρ, RM ρ S → ∃ υ, mF ρ υ ∧ M_read ρ = cond (decide (s_ln S 24 + (c_prs 81 (s_tp S)).2.1.length ≤ 6)) (pd_bV (M_goesTo 0 υ) fun s1 => M_read_L84 (nI (c_prs 81 (s_tp S)).2.1.length) (nI (144 + s_ln S 24)) 0 none s1) (some (υ, some (pd_i (-4)))) := fun ρ g => by
      obtain ⟨υ, k1, k2⟩ := M_flaw_s h.1 g
      have g2 := g.mF k2
      refine ⟨υ, k2, ?_⟩
      have e15 := M_read_L15_s (m_mT hw g2) (d3 := none) (d4 := none) (s_tp S) [] 1 rfl
      have e39 : υ.1 230 39 = nI (s_tp S).length := g2.2.2.2.2.1.1
      rw [M_read_eq, k1, pd_bI_of, decide_eq_true hv, cond_true]
      refine Eq.trans e15 ?_
      rw [Nat.add_comm 1, ← p1, M_read_L15_eq, e39, decide_eq_true (nI_le (Nat.le_refl _) (by omega)), cond_true, m_len24 g2, nI_add, c_le6 (by omega), m_144]
    by_cases hn : s_ln S 24 + (c_prs 81 (s_tp S)).2.1.length ≤ 6
    · rw [decide_eq_true hn, cond_true] at eX
      have ht : tS (pd_upI σ1 10 3 0) (s_tp S) y (s_tp S) (pd_upI σ1 10 3 0) := ⟨⟨[], rfl, by rw [pu_u1s, pk_us]; rfl⟩, by rw [pu_u1s, pk_un (by decide)]; exact a2.2.1, by rw [pu_u1s, pk_un (by decide)]; exact a2.2.2.1, pu_fr.rf⟩
      have ht2 : tS σ (s_tp S) y (s_tp S) (pd_upI σ1 10 3 0) := ⟨ht.1, ht.2.1, ht.2.2.1, a2.2.2.2.tr (pu_fr.upI (Or.inl rfl))⟩
      obtain ⟨τ, t1, t2, t3⟩ := X_read_loop 81 (s_tp S) S (pd_upI σ1 10 3 0) 0 _ y hw (RX_tS h.1 h.2.1 ht2) ht hr hn (Nat.zero_add _).symm (by omega)
      have hwL := s_addL_wf hw hn hok
      have hwf : s_wf (s_rd1 S (c_prs 81 (s_tp S)).2.1) := by
        have e := s_addL_dr (c_prs 81 (s_tp S)).2.1 S
        refine s_ot_wf hwL (by have := hwL.2.2.1.2.1; rw [e] at this ⊢; exact this) (by have := hwL.2.2.1.2.2.1; rw [e] at this ⊢; exact this) hw.2.2.1.2.2.2.1 (by have := hwL.2.2.1.2.2.2.2; rw [e] at this ⊢; exact this) (Nat.zero_le _) (fun b hb => by cases hb)
      refine JI.of (v := nI (s_ln S 24 + (c_prs 81 (s_tp S)).2.1.length)) h hwf (eX.trans t1) t2 ((XF.of ht2.2.2.2 (fun k hk => by omega)).tr t3) (fun g => ?_)
      obtain ⟨υ, k1, k2⟩ := eM _ g
      rw [decide_eq_true hn, cond_true] at k2
      have g2 := g.mF k1
      obtain ⟨ρ, m1, m2, m3⟩ := M_goesTo_s (m_mT hw g2) (show 0 < 8 by decide)
      have g3 := g2.mF m3
      obtain ⟨ω, w1, w2⟩ := c_rd0 (σ₀ := ρ) (base := 144 + s_ln S 24) (CS := (c_prs 81 (s_tp S)).2.1) 81 [] (s_tp S) ρ [] rfl m2 hr rfl (by omega) ⟨rF.rf, fun j hj => absurd hj (Nat.not_lt_zero _)⟩ none
      have e244 : ω.1 244 24 = nI (s_ln S 24) := by rw [w2.1.1.1 244 (by omega)]; exact m_len24 g3
      refine ⟨pd_upI (pd_upI ω 244 24 (nI (s_ln S 24 + (c_prs 81 (s_tp S)).2.1.length))) 230 39 0, ?_, RM_read hw hn hok g3 w2, ?_⟩
      · rw [k2, show (0 : Int32) = nI 0 from rfl, m1, pd_bV_of]
        refine Eq.trans w1 ?_
        unfold M_rd_fin
        rw [e244, nI_add]
        rfl
      · exact (((MF.of k1.1 (fun k hk => by omega)).tr (MF.of m3.1 (fun k hk => by omega))).tr (MF.of w2.1.1 (fun k hk => by omega))).tr ((MF.of (pu_fr.upI (K := fun k => k = 244) rfl) (fun k hk => by omega)).tr (MF.of (pu_fr.upI (K := fun k => k = 230) rfl) (fun k hk => by omega)))
    · rw [decide_eq_false hn, cond_false] at eX
      refine JI.of (v := -4) h hw eX hX1 hF1 (fun g => ?_)
      obtain ⟨υ, k1, k2⟩ := eM _ g
      rw [decide_eq_false hn, cond_false] at k2
      exact ⟨υ, k2, g.mF k1, MF.of k1.1 (fun k hk => by omega)⟩
end READJ
