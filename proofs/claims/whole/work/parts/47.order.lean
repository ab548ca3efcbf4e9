/-! Patches of the order; another order, with what it moves. -/
theorem c_pcase (a : Int32) {n : Nat} (hn : n < 2 ^ 31) : (∃ p, p < n ∧ a = nI p) ∨ (a < 0 ∨ nI n ≤ a) := by
  by_cases h0 : a < 0
  · exact Or.inr (Or.inl h0)
  · obtain ⟨j, h2, rfl⟩ := nI_of h0
    rcases Nat.lt_or_ge j n with g | g
    · exact Or.inl ⟨j, g, rfl⟩
    · exact Or.inr (Or.inr (nI_le g h2))
section ORDER
variable {σ : pd_H} {S : cS}
theorem s_pc31 (hw : s_wf S) : s_pc S < 2 ^ 31 := by have := hw.2.1.1; omega
theorem X_patch_1 (hw : s_wf S) (h : RX σ S) {p : Nat} (hp : p < s_pc S) : X_isPatch (nI p) σ = some (σ, some (pd_i 1)) := by
  rw [X_isPatch_eq, h.2.1.2.2]
  exact pu_at hp (s_pc31 hw) _ _
theorem X_patch_0 (h : RX σ S) {a : Int32} (ha : a < 0 ∨ nI (s_pc S) ≤ a) : X_isPatch a σ = some (σ, some (pd_i 0)) := by
  rw [X_isPatch_eq, h.2.1.2.2]
  exact pu_out ha _ _
theorem M_patch_1 (hw : s_wf S) (h : RM σ S) {p : Nat} (hp : p < s_pc S) : M_isPatch (nI p) σ = some (σ, some (pd_i 1)) := by
  rw [M_isPatch_eq, h.2.1.2.2, M_in_s, pd_bI_of, c_in_at hp (s_pc31 hw)]; rfl
theorem M_patch_0 (hw : s_wf S) (h : RM σ S) {a : Int32} (ha : a < 0 ∨ nI (s_pc S) ≤ a) : M_isPatch a σ = some (σ, some (pd_i 0)) := by
  rw [M_isPatch_eq, h.2.1.2.2, M_in_s, pd_bI_of, c_in_out (s_pc31 hw) ha]; rfl
def c_isn (l : List Nat) (p : Nat) : Int32 := cond (Nat.ble l.length (c_ix l p)) 0 1
theorem c_isn_1 {l : List Nat} {p : Nat} (h : p ∈ l) : c_isn l p = 1 := by unfold c_isn; rw [c_ble_mem.mpr h]; rfl
theorem c_isn_0 {l : List Nat} {p : Nat} (h : p ∉ l) : c_isn l p = 0 := by
  unfold c_isn
  cases hb : Nat.ble l.length (c_ix l p) with
  | true => rfl
  | false => exact absurd (c_ble_mem.mp hb) h
theorem s_or25 (hw : s_wf S) : ∀ x ∈ s_or S, x < 25 := fun x hx => by have := hw.2.2.1.1.2 x hx; have := hw.2.1.1; omega
theorem s_ord25 (hw : s_wf S) {l : List Nat} (ho : s_ord S l) : ∀ x ∈ l, x < 25 := fun x hx => by have := ho.2 x hx; have := hw.2.1.1; omega
theorem X_applied_s (hw : s_wf S) (h : RX σ S) {p : Nat} (hp : p < s_pc S) : X_isApplied (nI p) σ = some (σ, some (pd_i (c_isn (s_or S) p))) := by
  obtain ⟨L2, -⟩ := pu_len_run (x_run3 h)
  have h31 := s_pc31 hw
  rw [X_isApplied_eq, Seq_indexOf_s h.2.2.2.1.1 L2 (by omega) (fun x hx => by have := s_or25 hw x hx; omega), pd_bI_of]
  unfold c_ixI c_isn
  have hle := h.2.2.2.1.1.2.1
  cases hb : Nat.ble (s_or S).length (c_ix (s_or S) p) with
  | true => rfl
  | false =>
    have : c_ix (s_or S) p < 2 ^ 31 := by have := c_ix_le (s_or S) p; omega
    have hne : ¬ nI (c_ix (s_or S) p) = -1 := fun q => by
      have := nI_toInt this
      rw [q] at this
      have e : (-1 : Int32).toInt = -1 := by decide
      omega
    rw [cond_false, decide_eq_false hne, cond_false]; rfl
theorem M_laid_s (hw : s_wf S) (h : RM σ S) {p : Nat} (hp : p < s_pc S) : M_isLaid (nI p) σ = some (σ, some (pd_i (c_isn (s_or S) p))) := by
  have h31 := s_pc31 hw
  exact M_isLaid_s h.2.2.1.1.1 h.2.2.1.1.2.1 (s_len24 hw hw.2.2.1.1) (fun x hx => by have := s_or25 hw x hx; omega) (by omega)
theorem X_apErr_out (h : RX σ S) {a : Int32} (ha : a < 0 ∨ nI (s_pc S) ≤ a) : X_appliedError a σ = some (σ, some (pd_i (-2))) := by
  rw [X_appliedError_eq, X_patch_0 h ha]; rfl
theorem X_apErr_no (hw : s_wf S) (h : RX σ S) {p : Nat} (hp : p < s_pc S) (hn : p ∉ s_or S) : X_appliedError (nI p) σ = some (σ, some (pd_i (-3))) := by
  rw [X_appliedError_eq, X_patch_1 hw h hp, pd_bI_of, X_applied_s hw h hp, c_isn_0 hn]; rfl
theorem X_apErr_ok (hw : s_wf S) (h : RX σ S) {p : Nat} (hn : p ∈ s_or S) : X_appliedError (nI p) σ = some (σ, some (pd_i 0)) := by
  have hp := hw.2.2.1.1.2 p hn
  rw [X_appliedError_eq, X_patch_1 hw h hp, pd_bI_of, X_applied_s hw h hp, c_isn_1 hn]; rfl
/-! the place in the order -/
theorem J_order (h : JR σ S) (a : Int32) : JI (X_order a) (M_order a) σ := by
  have hw := h.1
  have hle := s_len24 hw hw.2.2.1.1
  obtain ⟨L2, -⟩ := pu_len_run (x_run3 h.2.1)
  have hX := h.2.1.2.2.2.1.1
  have eX : σ.1 (σ.2.2 0 + 1) 1 = nI (s_or S).length := hX.1
  rcases c_pcase a (show (s_or S).length < 2 ^ 31 by omega) with ⟨p, hp, rfl⟩ | ha
  · obtain ⟨x, hx⟩ : ∃ x, (s_or S)[p]? = some x := ⟨_, List.getElem?_eq_getElem hp⟩
    refine JI.same (v := nI x) h ?_ (fun g => ?_)
    · rw [X_order_eq, eX, pu_at2 hp (by omega), show σ.2.2 0 + 1 + 1 = σ.2.2 0 + 2 from rfl, L2, pu_obN (show p < 24 by omega) (by decide), cond_false, nI_clamp (by omega)]
      rw [show σ.1 (σ.2.2 0 + 2) p = nI x from hX.2.2 p x hx]
    · rw [M_order_eq, g.2.2.1.1.1, M_in_s, pd_bI_of, c_in_at hp (by omega), decide_eq_false (by decide : ¬ (1 : Int32) = 0), cond_false, show pd_len 250 = 24 from rfl, pu_obN (show p < 24 by omega) (by decide), cond_false, nI_clamp (by omega), g.2.2.1.1.2.1 p x hx]
  · refine JI.same (v := -2) h ?_ (fun g => ?_)
    · rw [X_order_eq, eX]; exact pu_out2 ha _ _
    · rw [M_order_eq, g.2.2.1.1.1, M_in_s, pd_bI_of, c_in_out (by omega) ha]; rfl
/-! fewer undone ones -/
theorem RX.un (h : RX σ S) (n : Nat) (hn : n ≤ (s_un S).length) : RX (pd_upI σ 17 1 (nI n)) (s_to S (s_or S) ((s_un S).take n)) := by
  obtain ⟨⟨a1, a2, a3, a4⟩, ⟨b1, b2, b3⟩, hrt, ⟨c1, c2, c3⟩, ⟨d1, d2, d3⟩, d4, d5, d6⟩ := h
  have hr : σ.2.2 0 = 32 ∨ σ.2.2 0 = 48 := by rcases hrt with q | q <;> omega
  have e1 : ∀ k, k ≠ 17 → (pd_upI σ 17 1 (nI n)).1 k = σ.1 k := fun k hk => pu_u1n hk
  have hseq : ∀ o l, o ≠ 17 → o ≠ 16 → pu_seq σ o l → pu_seq (pd_upI σ 17 1 (nI n)) o l := fun o l h1 h2 q => q.of (by rw [e1 o h1]) (e1 (o + 1) (by omega))
  refine ⟨⟨?_, ?_, ?_, a4⟩, ⟨?_, ?_, ?_⟩, hrt, ⟨hseq (σ.2.2 0 + 1) _ (by omega) (by omega) c1, ?_, ?_⟩, ⟨⟨?_, ?_, ?_⟩, ?_, fun v l hv => hseq (20 + 2 * v) _ (by omega) (by omega) (d3 v l hv)⟩, ?_, ?_, ?_⟩
  · rw [e1 2 (by omega)]; exact a1
  · rw [e1 3 (by omega)]; exact a2
  · rw [e1 5 (by omega)]; exact a3
  · intro p k hp hk
    have hx : x_chg (pd_upI σ 17 1 (nI n)) (6 * p + k) = x_chg σ (6 * p + k) := by unfold x_chg; rw [e1 _ (by omega)]
    rw [hx]; exact b1 p k hp hk
  · intro p hp; rw [e1 9 (by omega)]; exact b2 p hp
  · rw [e1 7 (by omega)]; exact b3
  · have : x_rw S (pd_upI σ 17 1 (nI n)) (σ.2.2 0) = x_rw S σ (σ.2.2 0) := by
      unfold x_rw
      rw [e1 _ (by omega : σ.2.2 0 + 4 ≠ 17), e1 _ (by omega : σ.2.2 0 + 6 ≠ 17), e1 _ (by omega : σ.2.2 0 + 9 ≠ 17), e1 _ (by omega : σ.2.2 0 + 12 ≠ 17), e1 _ (by omega : σ.2.2 0 + 14 ≠ 17)]
      rfl
    show c_agr _ _ (x_rw S _ (σ.2.2 0)) _
    rw [this]; exact c2
  · show ∀ p ∈ s_or S, (pd_upI σ 17 1 (nI n)).1 (σ.2.2 0 + 15) p = _
    rw [e1 _ (by omega)]; exact c3
  · rw [pu_u1s, pk_us, show s_un (s_to S (s_or S) ((s_un S).take n)) = (s_un S).take n from rfl, List.length_take, Nat.min_eq_left hn]
  · show ((s_un S).take n).length ≤ 24
    rw [List.length_take]
    have : (s_un S).length ≤ 24 := d1.2.1
    omega
  · intro i x hx
    have hx : ((s_un S).take n)[i]? = some x := hx
    rw [e1 18 (by omega)]
    rw [List.getElem?_take] at hx
    split at hx
    · exact d1.2.2 i x hx
    · cases hx
  · rw [e1 0 (by omega)]; exact d2
  · rw [e1 10 (by omega), e1 11 (by omega)]; exact d4
  · rw [e1 0 (by omega)]; exact d5
  · rw [e1 16 (by omega)]; exact d6
theorem RM.un (h : RM σ S) (n : Nat) (hn : n ≤ (s_un S).length) : RM (pd_upI σ 230 25 (nI n)) (s_to S (s_or S) ((s_un S).take n)) := by
  obtain ⟨⟨a1, a2, a3⟩, ⟨b1, b2, b3⟩, ⟨⟨c1, c2⟩, c3⟩, d1, d2, d3, d4⟩ := h
  have e1 : ∀ k, k ≠ 230 → (pd_upI σ 230 25 (nI n)).1 k = σ.1 k := fun k hk => pu_u1n hk
  refine ⟨⟨?_, ?_, ?_⟩, ⟨?_, ?_, ?_⟩, ⟨⟨?_, ?_⟩, ?_⟩, ⟨?_, ?_, ?_, ?_⟩, ?_, ?_, ?_⟩
  · rw [e1 231 (by decide), e1 232 (by decide)]; exact a1
  · rw [e1 232 (by decide)]; exact a2
  · rw [e1 235 (by decide)]; exact a3
  · intro p k hp hk
    have := b1 p k hp hk
    unfold m_is m_wr m_co at this ⊢
    rw [e1 238 (by decide), e1 239 (by decide), e1 240 (by decide), e1 241 (by decide), e1 242 (by decide), e1 243 (by decide)]
    exact this
  · intro p hp; rw [e1 244 (by decide)]; exact b2 p hp
  · rw [pu_u1s, pk_un (by decide)]; exact b3
  · rw [pu_u1s, pk_un (by decide)]; exact c1
  · rw [e1 250 (by decide), e1 237 (by decide)]; exact c2
  · have : m_R (pd_upI σ 230 25 (nI n)) = m_R σ := by
      unfold m_R
      rw [e1 233 (by decide), e1 237 (by decide), e1 247 (by decide), e1 245 (by decide), e1 249 (by decide)]
      rfl
    rw [this]; exact c3
  · rw [pu_u1s, pk_us, show s_un (s_to S (s_or S) ((s_un S).take n)) = (s_un S).take n from rfl, List.length_take, Nat.min_eq_left hn]
  · intro i x hx
    have hx : ((s_un S).take n)[i]? = some x := hx
    rw [e1 252 (by decide)]
    rw [List.getElem?_take] at hx
    split at hx
    · exact d1.2.1 i x hx
    · cases hx
  · rw [pu_u1s, pk_un (by decide)]; exact d1.2.2.1
  · rw [e1 254 (by decide), e1 253 (by decide)]; exact d1.2.2.2
  · rw [pu_u1s, pk_un (by decide), e1 259 (by decide)]; exact d2
  · rw [e1 255 (by decide)]; exact d3
  · rw [e1 256 (by decide)]; exact d4
/-! what comes of another order -/
def s_go (S : cS) (l un : List Nat) (v : Int32) : cS × Int32 := match (s_play S l).1 with
  | none => (s_to S l un, v)
  | some (a, f) => (s_ft S (nI (a / 6), nI (a % 6), f), -10 - f)
theorem s_go_ok {l un : List Nat} {v : Int32} (h : (s_play S l).1 = none) : s_go S l un v = (s_to S l un, v) := by unfold s_go; rw [h]
theorem s_go_no {l un : List Nat} {v : Int32} {a : Nat} {f : Int32} (h : (s_play S l).1 = some (a, f)) : s_go S l un v = (s_ft S (nI (a / 6), nI (a % 6), f), -10 - f) := by unfold s_go; rw [h]
theorem s_go_wf (hw : s_wf S) {l un : List Nat} {v : Int32} (ho : s_ord S l) (hu : s_ord S un) (hd : ∀ p ∈ un, p ∉ l) : s_wf (s_go S l un v).1 := by
  cases hp : (s_play S l).1 with
  | none => rw [s_go_ok hp]; exact s_to_wf hw ho hp hu hd
  | some q => rw [s_go_no (a := q.1) (f := q.2) hp]; exact s_ft_wf hw _
theorem s_ord0 : s_ord S [] := ⟨List.nodup_nil, fun p hp => by cases hp⟩
theorem X_re (hw : s_wf S) (h : RX σ S) {l : List Nat} (hl : pu_seq σ (σ.2.2 1 + 1) l) (ho : s_ord S l) : ∃ τ, (pd_bI (X_carryOut σ) fun s1 v1 => pd_bI (X_rearranged v1 s1) fun s2 v2 => some (s2, some (pd_i v2))) = some (τ, some (pd_i (s_go S l [] (c_moved S l)).2)) ∧ RX τ (s_go S l [] (c_moved S l)).1 ∧ XF σ τ := by
  cases hp : (s_play S l).1 with
  | some q =>
    rw [s_go_no (a := q.1) (f := q.2) hp]
    obtain ⟨τ, t1, t2, t3⟩ := X_carryOut_no hw h hl ho (a := q.1) (f := q.2) hp
    refine ⟨τ, ?_, t2, t3⟩
    have hr := c_err_neg (c_ply_ne (a := q.1) (f := q.2) hp).2.1
    rw [t1, pd_bI_of, X_rearranged_eq, hr.2.1]; rfl
  | none =>
    rw [s_go_ok hp]
    obtain ⟨τ, t1, t2, t3, t4, t5⟩ := X_carryOut_ok hw h hl ho hp
    have hu := t2.un 0 (Nat.zero_le _)
    have hpc := hw.2.1.1
    have fr : pu_fr (fun k => k = 17) τ (pd_upI τ 17 1 0) := pu_fr.upI rfl
    have hrt := x_run t2
    have hm := Run_movedFrom_s (E := pd_upI τ 17 1 0) (r := τ.2.2 0) (q := τ.2.2 1) (len := s_ln S) (l := l) (l' := s_or S) (x_run3 t2) (x_tr3 t2) hu.2.1.2.1 hu.2.2.2.1.1 (t4.of (by rw [fr.1 _ (by omega)]) (fr.1 _ (by omega))) (s_ord25 hw ho) (s_or25 hw)
    refine ⟨pd_upI τ 17 1 0, ?_, hu, t3.tr (XF.of fr (fun k hk => by omega))⟩
    rw [t1, pd_bI_of, X_rearranged_eq]
    show pd_bI (pd_bI (Run_movedFrom (τ.2.2 0) (τ.2.2 1) (pd_upI τ 17 1 0)) _) _ = _
    rw [hm, pd_bI_of, pd_bI_of]
    have e : c_mv ((pd_upI τ 17 1 0).1 (τ.2.2 0 + 12)) ((pd_upI τ 17 1 0).1 (τ.2.2 1 + 12)) ((pd_upI τ 17 1 0).2.1 (τ.2.2 0 + 13)) ((pd_upI τ 17 1 0).2.1 (τ.2.2 1 + 13)) (s_ln S) (s_or S) l 0 = c_moved S l := by
      unfold c_moved
      refine c_mv_congr (fun q hq hq' a ha => ?_)
      have n1 := t2.2.2.2.1.2.1.2 a (c_blk_line hq ha)
      have n2 := t5.2 a (c_blk_line hq' ha)
      refine ⟨?_, ?_, ?_, ?_⟩
      · rw [fr.1 _ (by omega)]; exact n1.2.2.1
      · rw [fr.1 _ (by omega)]; exact n2.2.2.1
      · exact n1.2.2.2.1
      · exact n2.2.2.2.1
    rw [e]
theorem M_re (hw : s_wf S) (h : RM σ S) {l : List Nat} (ht1 : σ.1 230 23 = nI l.length) (ht2 : m_ls (σ.1 251) l) (ho : s_ord S l) : ∃ τ, M_goesOver σ = some (τ, some (pd_i (s_go S l [] (c_moved S l)).2)) ∧ RM τ (s_go S l [] (c_moved S l)).1 ∧ MF σ τ := by
  cases hp : (s_play S l).1 with
  | some q =>
    rw [s_go_no (a := q.1) (f := q.2) hp]
    exact M_goesOver_no hw h ht1 ht2 ho (a := q.1) (f := q.2) hp
  | none =>
    rw [s_go_ok hp]
    exact M_goesOver_ok hw h ht1 ht2 ho hp
end ORDER
