/-! Prune: the model. -/
section PRUNEJ
variable {σ τ : pd_H} {S : cS}
theorem c_blk_split {p : Nat} : ∀ {a b k : Nat}, c_blk p k (a + b) = c_blk p k a ++ c_blk p (k + a) b := by
  intro a
  induction a with
  | zero => intro b k; rw [Nat.zero_add]; rfl
  | succ a ih =>
    intro b k
    rw [Nat.succ_add]
    show (6 * p + k) :: c_blk p (k + 1) (a + b) = ((6 * p + k) :: c_blk p (k + 1) a) ++ c_blk p (k + (a + 1)) b
    rw [ih, show k + 1 + a = k + (a + 1) by omega]; rfl
theorem c_blk_len {p k d : Nat} : (c_blk p k d).length = d := by rw [c_blk_range, List.length_map, List.length_range']
theorem c_line_split {len : Nat → Nat} {u m : List Nat} {p k : Nat} (hk : k < len p) : ∃ A t, c_line len (u ++ p :: m) = A ++ (6 * p + k) :: t ∧ A.length = (c_line len u).length + k := by
  obtain ⟨d, hd⟩ : ∃ d, len p = k + (d + 1) := ⟨len p - k - 1, by omega⟩
  refine ⟨c_line len u ++ c_blk p 0 k, c_blk p (k + 1) d ++ c_line len m, ?_, by rw [List.length_append, c_blk_len]⟩
  rw [c_line_app]
  show c_line len u ++ (c_blk p 0 (len p) ++ c_line len m) = _
  rw [hd, c_blk_split, Nat.zero_add]
  show c_line len u ++ ((c_blk p 0 k ++ (6 * p + k) :: c_blk p (k + 1) d) ++ c_line len m) = _
  simp only [List.append_assoc, List.cons_append]
theorem M_prune_zero (hw : s_wf S) (h : RM σ S) : ∀ (m u : List Nat) (τ : pd_H) (r : Int32) (d3 : Option pd_V), s_or S = u ++ m → pu_fr (fun k => k = 244) σ τ → (∀ p ∈ u, τ.1 244 p = 0) → (∀ p, p ∉ u → τ.1 244 p = σ.1 244 p) → ∃ υ, M_prune_L7 r (nI u.length) d3 τ = M_prune_L35 r 0 d3 υ ∧ pu_fr (fun k => k = 244) σ υ ∧ (∀ p ∈ s_or S, υ.1 244 p = 0) ∧ ∀ p, p ∉ s_or S → υ.1 244 p = σ.1 244 p := by
  have h24 : (s_or S).length ≤ 24 := s_len24 hw hw.2.2.1.1
  have e21 : σ.1 230 21 = nI (s_or S).length := h.2.2.1.1.1
  intro m
  induction m with
  | nil =>
    intro u τ r d3 e hf h1 h2
    rw [List.append_nil] at e
    subst e
    refine ⟨τ, ?_, hf, h1, h2⟩
    rw [M_prune_L7_eq, hf.1 230 (by decide), e21, decide_eq_true (nI_le (Nat.le_refl _) (by omega)), cond_true]
  | cons p m ih =>
    intro u τ r d3 e hf h1 h2
    have hl : (s_or S).length = u.length + (m.length + 1) := by rw [e, List.length_append]; rfl
    have hp25 : p < 25 := s_or25 hw p (by rw [e]; exact List.mem_append_right _ List.mem_cons_self)
    have ep : τ.1 250 u.length = nI p := by
      rw [hf.1 250 (by decide)]
      exact h.2.2.1.1.2.1 _ _ (by rw [e, List.getElem?_append_right (Nat.le_refl _), Nat.sub_self]; rfl)
    obtain ⟨υ, u1, u2, u3, u4⟩ := ih (u ++ [p]) (pd_upI τ 244 p 0) r d3 (by rw [e, List.append_assoc]; rfl) (hf.tr (pu_fr.upI rfl)) (fun q hq => by
      rw [pu_u1s]
      by_cases k : q = p
      · rw [k, pk_us]
      · rw [pk_un k]
        rcases List.mem_append.mp hq with hq | hq
        · exact h1 q hq
        · exact absurd (List.mem_singleton.mp hq) k) (fun q hq => by
      have : q ≠ p := fun k => hq (by rw [k]; exact List.mem_append_right _ (List.mem_singleton.mpr rfl))
      rw [pu_u1s, pk_un this]
      exact h2 q (fun k => hq (List.mem_append_left _ k)))
    rw [List.length_append] at u1
    refine ⟨υ, ?_, u2, u3, u4⟩
    rw [M_prune_L7_eq, hf.1 230 (by decide), e21, decide_eq_false (nI_ge (show u.length < (s_or S).length by omega) (by omega)), cond_false, show pd_len 250 = 24 from rfl, pu_obN (show u.length < 24 by omega) (by decide), cond_false, nI_clamp (by omega), ep, show pd_len 244 = 25 from rfl, pu_obN hp25 (by decide), cond_false, nI_clamp (by omega), ← nI_succ]
    exact u1
/-- what the model's books hold on the way: u done, p done up to k -/
def m_pr (S : cS) (σ : pd_H) (τ : pd_H) : Prop := pu_fr (fun k => 238 ≤ k ∧ k ≤ 244) σ τ
theorem M_prune_in (hw : s_wf S) {E : pd_H} (hL : m_line E (c_line (s_ln S) (s_or S))) (hlv : m_lvs E (s_ch S) (c_line (s_ln S) (s_or S)) 0) (h144 : (c_line (s_ln S) (s_or S)).length ≤ 144) {u m : List Nat} {p : Nat} (e : s_or S = u ++ p :: m) {E1 : pd_H} (hE1 : pu_fr (fun k => 238 ≤ k ∧ k ≤ 244) E E1) (hch : ∀ k, k < s_ln S p → m_is E1 (6 * p + k) (s_ch S (6 * p + k))) : ∀ (d k : Nat) (τ : pd_H) (r : Int32) (d3 : Option pd_V), k + d = s_ln S p → pu_fr (fun k => 238 ≤ k ∧ k ≤ 244) E1 τ → (∀ q a, 238 ≤ q → q ≤ 243 → ¬ (6 * p ≤ a ∧ a < 6 * p + 6) → τ.1 q a = E1.1 q a) → (∀ q, q ≠ p → τ.1 244 q = E1.1 244 q) → τ.1 244 p = nI (c_lk (s_dd S) p k).length → (∀ i x, (c_lk (s_dd S) p k)[i]? = some x → m_is τ (6 * p + i) (s_ch S (6 * p + x))) → (∀ i, k ≤ i → i < s_ln S p → m_is τ (6 * p + i) (s_ch S (6 * p + i))) → ∃ υ d3', M_prune_L35 r (nI ((c_line (s_ln S) u).length + k)) d3 τ = M_prune_L35 r (nI ((c_line (s_ln S) u).length + s_ln S p)) d3' υ ∧ pu_fr (fun k => 238 ≤ k ∧ k ≤ 244) E1 υ ∧ (∀ q a, 238 ≤ q → q ≤ 243 → ¬ (6 * p ≤ a ∧ a < 6 * p + 6) → υ.1 q a = E1.1 q a) ∧ (∀ q, q ≠ p → υ.1 244 q = E1.1 244 q) ∧ υ.1 244 p = nI (s_prl S p) ∧ ∀ i x, (s_lv S p)[i]? = some x → m_is υ (6 * p + i) (s_ch S (6 * p + x)) := by
  have hp25 : p < 25 := s_or25 hw p (by rw [e]; exact List.mem_append_right _ List.mem_cons_self)
  have hp24 : p < 24 := by
    have := hw.2.2.1.1.2 p (by rw [e]; exact List.mem_append_right _ List.mem_cons_self)
    have := hw.2.1.1
    omega
  have h6 := hw.2.1.2.1 p hp25
  intro d
  induction d with
  | zero =>
    intro k τ r d3 hk hf h1 h2 h3 h4 h5
    have hk : k = s_ln S p := by omega
    subst hk
    exact ⟨τ, d3, rfl, hf, h1, h2, h3, h4⟩
  | succ d ih =>
    intro k τ r d3 hk hf h1 h2 h3 h4 h5
    have hkn : k < s_ln S p := by omega
    have hl := c_lk_len (dead := s_dd S) (p := p) (k := k)
    have es := c_lk_succ (dead := s_dd S) (p := p) (k := k)
    obtain ⟨A, t, eL, eA⟩ := c_line_split (len := s_ln S) (u := u) (m := m) hkn
    rw [← e] at eL
    have hfE : pu_fr (fun k => 238 ≤ k ∧ k ≤ 244) E τ := hE1.tr hf
    have e48 : τ.1 230 48 = nI (c_line (s_ln S) (s_or S)).length := by rw [hfE.1 230 (by omega)]; exact hL.1
    have hzl : A.length < (c_line (s_ln S) (s_or S)).length := by rw [eL, List.length_append, List.length_cons]; omega
    have e261 : τ.1 261 A.length = nI (6 * p + k) := by
      rw [hfE.1 261 (by omega)]
      exact hL.2 _ _ (by rw [eL, List.getElem?_append_right (Nat.le_refl _), Nat.sub_self]; rfl)
    have e262 : τ.1 262 A.length = c_need (s_ch S) t (c_tc (s_ch S (6 * p + k))) := by
      rw [hfE.1 262 (by omega)]
      exact hlv A.length _ _ (Nat.zero_le _) (by rw [eL, List.drop_left])
    have hnd := s_lnd hw
    have hdd : s_dd S (6 * p + k) = decide (c_need (s_ch S) t (c_tc (s_ch S (6 * p + k))) = 0) := by
      unfold s_dd
      rw [eL]
      rw [eL] at hnd
      exact c_dead_at hnd
    have e6 := (c_div6 (x := 6 * p + k) (by omega)).1
    rw [show (6 * p + k) / 6 = p by omega] at e6
    rw [← eA, M_prune_L35_eq, e48, decide_eq_false (nI_ge hzl (by omega)), cond_false, show pd_len 261 = 144 from rfl, show pd_len 262 = 144 from rfl, pu_obN (show A.length < 144 by omega) (by decide), cond_false, cond_false, nI_clamp (by omega), e262, ← hdd]
    have enx : nI A.length + 1 = nI ((c_line (s_ln S) u).length + (k + 1)) := by rw [← nI_succ, eA, Nat.add_assoc]
    rw [enx]
    cases hd : s_dd S (6 * p + k) with
    | true =>
      rw [hd, cond_true, List.append_nil] at es
      rw [cond_true]
      exact ih (k + 1) τ r _ (by omega) hf h1 h2 (by rw [es]; exact h3) (by rw [es]; exact h4) (fun i q1 q2 => h5 i (by omega) q2)
    | false =>
      rw [hd, cond_false] at es
      have el : (c_lk (s_dd S) p (k + 1)).length = (c_lk (s_dd S) p k).length + 1 := by rw [es, List.length_append]; rfl
      obtain ⟨ρ, r1, r2, r3, r4⟩ := M_copies_s (a := 6 * p + k) (b := 6 * p + (c_lk (s_dd S) p k).length) (by omega) (by omega) (h5 k (Nat.le_refl _) hkn)
      have e244 : ρ.1 244 = τ.1 244 := r2.1 244 (by omega)
      have f2 : pu_fr (fun k => 238 ≤ k ∧ k ≤ 244) τ (pd_upI ρ 244 p (nI (c_lk (s_dd S) p (k + 1)).length)) := (r2.mono fun q hq => by omega).tr (pu_fr.upI (by omega))
      have up : ∀ a c, m_is ρ a c → m_is (pd_upI ρ 244 p (nI (c_lk (s_dd S) p (k + 1)).length)) a c := fun a c q => m_is_fr2 q (fun q1 h1 h2 => by rw [pu_u1n (by omega)])
      obtain ⟨υ, d3', u1, u2⟩ := ih (k + 1) (pd_upI ρ 244 p (nI (c_lk (s_dd S) p (k + 1)).length)) r (some (pd_i (nI p))) (by omega) (hf.tr f2) (fun q a q1 q2 qa => by
        rw [pu_u1n (by omega), r3 q a q1 q2 (by omega)]; exact h1 q a q1 q2 qa) (fun q hq => by rw [pu_u1s, pk_un hq, e244]; exact h2 q hq) (by rw [pu_u1s, pk_us]) (fun i x hx => by
        refine up _ _ ?_
        rw [es, List.getElem?_append] at hx
        by_cases q : i < (c_lk (s_dd S) p k).length
        · rw [if_pos q] at hx
          exact m_is_fr2 (h4 i x hx) (fun q1 h1 h2 => r3 q1 _ h1 h2 (by omega))
        · rw [if_neg q] at hx
          have hi : i - (c_lk (s_dd S) p k).length < 1 := (List.getElem?_eq_some_iff.mp hx).1
          have hi : i = (c_lk (s_dd S) p k).length := by omega
          rw [hi, Nat.sub_self] at hx
          have hx : some k = some x := hx
          cases hx
          rw [hi]; exact r4) (fun i q1 q2 => up _ _ (m_is_fr2 (h5 i (by omega) q2) (fun q3 h1 h2 => r3 q3 _ h1 h2 (by omega))))
      refine ⟨υ, d3', ?_, u2⟩
      have o25 : pd_ob (nI p) 25 = false := pu_obN hp25 (by decide)
      have np : (nI p).toNatClampNeg = p := nI_clamp (by omega)
      have a6 : (6 : Int32) * nI p + nI (c_lk (s_dd S) p k).length = nI (6 * p + (c_lk (s_dd S) p k).length) := by rw [show (6 : Int32) = nI 6 from rfl, pk_mul, nI_add]
      rw [cond_false, cond_false, e261, e6, show pd_len 244 = 25 from rfl, o25, cond_false, np, h3, a6, r1, pd_bV_of, cond_false, cond_false, e244, h3, ← nI_succ, ← el]
      exact u1
theorem M_prune_out (hw : s_wf S) {E : pd_H} (h : RM E S) (hL : m_line E (c_line (s_ln S) (s_or S))) (hlv : m_lvs E (s_ch S) (c_line (s_ln S) (s_or S)) 0) (h144 : (c_line (s_ln S) (s_or S)).length ≤ 144) : ∀ (m u : List Nat) (τ : pd_H) (r : Int32) (d3 : Option pd_V), s_or S = u ++ m → pu_fr (fun k => 238 ≤ k ∧ k ≤ 244) E τ → (∀ p ∈ u, τ.1 244 p = nI (s_prl S p) ∧ ∀ i x, (s_lv S p)[i]? = some x → m_is τ (6 * p + i) (s_ch S (6 * p + x))) → (∀ p, p ∉ u → p ∈ s_or S → τ.1 244 p = 0) → (∀ p, p ∉ s_or S → τ.1 244 p = E.1 244 p) → (∀ p, p < 25 → p ∉ u → ∀ q i, 238 ≤ q → q ≤ 243 → i < 6 → τ.1 q (6 * p + i) = E.1 q (6 * p + i)) → ∃ υ d3', M_prune_L35 r (nI (c_line (s_ln S) u).length) d3 τ = M_prune_L35 r (nI (c_line (s_ln S) (s_or S)).length) d3' υ ∧ pu_fr (fun k => 238 ≤ k ∧ k ≤ 244) E υ ∧ (∀ p ∈ s_or S, υ.1 244 p = nI (s_prl S p) ∧ ∀ i x, (s_lv S p)[i]? = some x → m_is υ (6 * p + i) (s_ch S (6 * p + x))) ∧ (∀ p, p ∉ s_or S → υ.1 244 p = E.1 244 p) ∧ ∀ p, p < 25 → p ∉ s_or S → ∀ q i, 238 ≤ q → q ≤ 243 → i < 6 → υ.1 q (6 * p + i) = E.1 q (6 * p + i) := by
  intro m
  induction m with
  | nil =>
    intro u τ r d3 e hf h1 h2 h3 h4
    rw [List.append_nil] at e
    subst e
    exact ⟨τ, d3, rfl, hf, h1, h3, h4⟩
  | cons p m ih =>
    intro u τ r d3 e hf h1 h2 h3 h4
    have hpo : p ∈ s_or S := by rw [e]; exact List.mem_append_right _ List.mem_cons_self
    have hp : p < s_pc S := hw.2.2.1.1.2 p hpo
    have hp25 := s_or25 hw p hpo
    have hpu : p ∉ u := fun q => by
      have hnd := hw.2.2.1.1.1
      rw [e] at hnd
      exact (List.nodup_append.mp hnd).2.2 p q p List.mem_cons_self rfl
    have h6 := hw.2.1.2.1 p hp25
    have old : ∀ k, k < s_ln S p → m_is τ (6 * p + k) (s_ch S (6 * p + k)) := fun k hk => m_is_fr2 (h.2.1.1 p k (Or.inl hp) hk) (fun q q1 q2 => h4 p hp25 hpu q k q1 q2 (by omega))
    obtain ⟨υ, d3', u1, u2, u3, u4, u5, u6⟩ := M_prune_in hw hL hlv h144 e hf old (s_ln S p) 0 τ r d3 (Nat.zero_add _) pu_fr.rf (fun _ _ _ _ _ => rfl) (fun _ _ => rfl) (by rw [h2 p hpu hpo]; rfl) (fun i x q => by cases q) (fun i _ hi => old i hi)
    have la : (c_line (s_ln S) (u ++ [p])).length = (c_line (s_ln S) u).length + s_ln S p := by
      rw [c_line_app, List.length_append]
      show _ + (c_blk p 0 (s_ln S p) ++ []).length = _
      rw [List.append_nil, c_blk_len]
    have ne : ∀ q, q ≠ p → q < 25 → ∀ i, i < 6 → ¬ (6 * p ≤ 6 * q + i ∧ 6 * q + i < 6 * p + 6) := fun q hq _ i hi => by omega
    obtain ⟨ω, d3'', w1, w2⟩ := ih (u ++ [p]) υ r d3' (by rw [e, List.append_assoc]; rfl) (hf.tr u2) (fun q hq => by
      rcases List.mem_append.mp hq with hq | hq
      · have hqp : q ≠ p := fun e => hpu (by rw [← e]; exact hq)
        have hq25 := s_or25 hw q (by rw [e]; exact List.mem_append_left _ hq)
        refine ⟨by rw [u4 q hqp]; exact (h1 q hq).1, fun i x hx => m_is_fr2 ((h1 q hq).2 i x hx) (fun q1 k1 k2 => u3 q1 _ k1 k2 (ne q hqp hq25 i (s_lv_i hw hq25 hx).2.1))⟩
      · rw [List.mem_singleton.mp hq]
        exact ⟨u5, u6⟩) (fun q hq hqo => by
      have hqp : q ≠ p := fun e => hq (by rw [e]; exact List.mem_append_right _ (List.mem_singleton.mpr rfl))
      rw [u4 q hqp]; exact h2 q (fun k => hq (List.mem_append_left _ k)) hqo) (fun q hq => by
      have hqp : q ≠ p := fun e => hq (by rw [e]; exact hpo)
      rw [u4 q hqp]; exact h3 q hq) (fun q hq25 hq q1 i k1 k2 hi => by
      have hqp : q ≠ p := fun e => hq (by rw [e]; exact List.mem_append_right _ (List.mem_singleton.mpr rfl))
      rw [u3 q1 _ k1 k2 (ne q hqp hq25 i hi)]
      exact h4 q hq25 (fun k => hq (List.mem_append_left _ k)) q1 i k1 k2 hi)
    rw [la] at w1
    exact ⟨ω, d3'', u1.trans w1, w2⟩
theorem M_prune_s (hw : s_wf S) (h : RM σ S) : ∃ τ, M_prune σ = some (τ, some (pd_i (nI (c_dn (s_ch S) (c_line (s_ln S) (s_or S)))))) ∧ RM τ (s_pr S) ∧ MF σ τ := by
  have hpc := hw.2.1.1
  obtain ⟨τ, t1, t2, t3, t4⟩ := M_deadNow_s hw h
  have h1 := h.dd t2
  obtain ⟨-, -, -, -, -, h144⟩ := M_findsLives_s hw h
  obtain ⟨υ, v1, v2, v3, v4⟩ := M_prune_zero hw h1 (s_or S) [] τ (nI (c_dn (s_ch S) (c_line (s_ln S) (s_or S)))) none rfl pu_fr.rf (fun p q => by cases q) (fun _ _ => rfl)
  obtain ⟨ω, d3', w1, w2, w3, w4, w5⟩ := M_prune_out hw h1 t3 t4 h144 (s_or S) [] υ (nI (c_dn (s_ch S) (c_line (s_ln S) (s_or S)))) none rfl (v2.mono fun k hk => by omega) (fun p q => by cases q) (fun p _ q => v3 p q) v4 (fun p _ _ q i q1 q2 _ => by rw [v2.1 q (by omega)])
  obtain ⟨⟨m1, m2, m3⟩, ⟨n1, n2, n3⟩, ⟨⟨o1, o2, -⟩, -⟩, ⟨f1, f2, f3, f5⟩, f6, f7, f8⟩ := h1
  have e1 : ∀ k, ¬ (238 ≤ k ∧ k ≤ 244) → ω.1 k = τ.1 k := w2.1
  have h0 : RM0 ω (s_pr S) := by
    refine ⟨⟨?_, ?_, ?_⟩, ⟨?_, ?_, ?_⟩, ⟨?_, ?_⟩, ⟨?_, ?_, ?_, ?_⟩, ?_, ?_, ?_⟩
    · rw [e1 231 (by omega), e1 232 (by omega)]; exact m1
    · rw [e1 232 (by omega)]; exact m2
    · rw [e1 235 (by omega), w2.2.1 236 (by omega)]; exact m3
    · intro p k hp hk
      have hk : k < s_prl S p := hk
      have hp : s_is S p := hp
      have h25 : p < 25 := by rcases hp with q | q <;> omega
      show m_is ω (6 * p + k) (s_prc S (6 * p + k))
      by_cases q : p ∈ s_or S
      · obtain ⟨x, ek⟩ : ∃ x, (s_lv S p)[k]? = some x := ⟨_, List.getElem?_eq_getElem hk⟩
        obtain ⟨-, hk6, hx⟩ := s_lv_i hw h25 ek
        rw [s_prc_at ek hk6]
        exact (w3 p q).2 k x ek
      · have hkl : k < s_ln S p := Nat.lt_of_lt_of_le hk s_prl_le
        rw [s_prc_out hw q h25 hkl]
        exact m_is_fr2 (n1 p k hp hkl) (fun q1 k1 k2 => w5 p h25 q q1 k k1 k2 (by have := hw.2.1.2.1 p h25; omega))
    · intro p hp
      show ω.1 244 p = nI (s_prl S p) ∧ s_prl S p ≤ 6
      refine ⟨?_, Nat.le_trans s_prl_le (hw.2.1.2.1 p hp)⟩
      by_cases q : p ∈ s_or S
      · exact (w3 p q).1
      · rw [w4 p q, s_prl_out hw q hp]; exact (n2 p hp).1
    · rw [e1 230 (by omega)]; exact n3
    · rw [e1 230 (by omega)]; exact o1
    · rw [e1 250 (by omega)]; exact o2
    · rw [e1 230 (by omega)]; exact f1
    · rw [e1 252 (by omega)]; exact f2
    · rw [e1 230 (by omega)]; exact f3
    · rw [e1 254 (by omega), e1 253 (by omega)]; exact f5
    · rw [e1 230 (by omega), e1 259 (by omega)]; exact f6
    · rw [e1 255 (by omega)]; exact f7
    · rw [e1 256 (by omega)]; exact f8
  obtain ⟨θ, z1, z2, z3, -⟩ := M_playsLaid_s (s_pr_wf hw) h0
  refine ⟨θ, ?_, z2, (t2.mf.tr (MF.of w2 (fun k hk => by omega))).tr (MF.of z3 m_trK_in)⟩
  have e48 : ω.1 230 48 = nI (c_line (s_ln S) (s_or S)).length := by rw [e1 230 (by omega)]; exact t3.1
  rw [M_prune_eq, t1, pd_bI_of]
  refine Eq.trans v1 ?_
  refine Eq.trans w1 ?_
  rw [M_prune_L35_eq, e48, decide_eq_true (nI_le (Nat.le_refl _) (by omega)), cond_true, z1, pd_bV_of]
theorem J_prune (h : JR σ S) : JI X_prune M_prune σ := by
  obtain ⟨τ, t1, t2, t3⟩ := X_prune_s h.1 h.2.1
  exact JI.of h (s_pr_wf h.1) t1 t2 t3 (fun g => M_prune_s h.1 g)
end PRUNEJ
