/-! Lay: a patch of the draft. -/
section LAYJ
variable {σ τ : pd_H} {S : cS}
def s_npc (S : cS) : Nat → cC := fun a => if 6 * s_pc S ≤ a ∧ a < 6 * s_pc S + s_ln S 24 then s_ch S (144 + (a - 6 * s_pc S)) else s_ch S a
def s_npl (S : cS) : Nat → Nat := c_updN (c_updN (s_ln S) (s_pc S) (s_ln S 24)) 24 0
/-- the draft is a patch -/
def s_np (S : cS) : cS := (s_kd S, s_sz S, s_bt S, s_bn S, s_npc S, s_npl S, s_pc S + 1, s_or S, s_un S, s_vr S, s_tp S, s_fl S, s_mt S)
theorem s_npc_lo {a : Nat} (h : a < 6 * s_pc S) : s_npc S a = s_ch S a := if_neg (by omega)
theorem s_npc_in {k : Nat} (h : k < s_ln S 24) : s_npc S (6 * s_pc S + k) = s_ch S (144 + k) := by
  unfold s_npc
  rw [if_pos ⟨by omega, by omega⟩]
  congr 1; omega
theorem s_npl_n {p : Nat} (h : p ≠ s_pc S) (h24 : p ≠ 24) : s_npl S p = s_ln S p := by
  unfold s_npl
  rw [c_updN_n h24, c_updN_n h]
theorem s_npl_24 : s_npl S 24 = 0 := c_updN_s
theorem s_npl_pc (h : s_pc S < 24) : s_npl S (s_pc S) = s_ln S 24 := by
  unfold s_npl
  rw [c_updN_n (by omega), c_updN_s]
theorem s_np_line (h24 : s_pc S < 24) {l : List Nat} (hl : ∀ p ∈ l, p < s_pc S) : c_line (s_npl S) l = c_line (s_ln S) l := c_line_congr (fun p hp => s_npl_n (by have := hl p hp; omega) (by have := hl p hp; omega))
theorem s_np_ch (hw : s_wf S) (h24 : s_pc S < 24) {l : List Nat} (hl : ∀ p ∈ l, p < s_pc S) : ∀ a ∈ c_line (s_ln S) l, s_npc S a = s_ch S a := fun a ha => by
  obtain ⟨p, h1, k, h2, rfl⟩ := c_line_mem ha
  have h3 := hl p h1
  have := hw.2.1.2.1 p (by omega)
  exact s_npc_lo (by omega)
theorem s_np_play (hw : s_wf S) (h24 : s_pc S < 24) {l : List Nat} (hl : ∀ p ∈ l, p < s_pc S) : s_play (s_np S) l = s_play S l := by
  show c_ply (s_kd S) (s_sz S) (s_npc S) (c_line (s_npl S) l) (c_r0 (s_bt S) (s_bn S)) = c_ply (s_kd S) (s_sz S) (s_ch S) (c_line (s_ln S) l) (c_r0 (s_bt S) (s_bn S))
  rw [s_np_line h24 hl]
  exact c_ply_congr (s_np_ch hw h24 hl)
theorem s_np_ord {l : List Nat} (h : s_ord S l) : s_ord (s_np S) l := ⟨h.1, fun p hp => Nat.lt_succ_of_lt (h.2 p hp)⟩
theorem s_np_wf (hw : s_wf S) (h24 : s_pc S < 24) : s_wf (s_np S) := by
  have h6 := hw.2.1.2.1 24 (by decide)
  refine ⟨hw.1, ⟨h24, fun p hp => ?_, fun p k hp hk => ?_⟩, ⟨s_np_ord hw.2.2.1.1, s_np_ord hw.2.2.1.2.1, hw.2.2.1.2.2.1, hw.2.2.1.2.2.2.1, fun l hl => s_np_ord (hw.2.2.1.2.2.2.2 l hl)⟩, ?_, hw.2.2.2.2⟩
  · show s_npl S p ≤ 6
    by_cases e : p = s_pc S
    · rw [e, s_npl_pc h24]; exact h6
    · by_cases e2 : p = 24
      · rw [e2, s_npl_24]; exact Nat.zero_le _
      · rw [s_npl_n e e2]; exact hw.2.1.2.1 p hp
  · have hk : k < s_npl S p := hk
    show c_chok (s_npc S (6 * p + k)) ∧ c_nrm (s_npc S (6 * p + k))
    have hp : p < s_pc S + 1 ∨ p = 24 := hp
    by_cases e : p = s_pc S
    · subst e
      rw [s_npl_pc h24] at hk
      rw [s_npc_in hk]
      exact hw.2.1.2.2 24 k (Or.inr rfl) hk
    · by_cases e2 : p = 24
      · rw [e2, s_npl_24] at hk; omega
      · rw [s_npl_n e e2] at hk
        have := hw.2.1.2.1 p (by omega)
        rw [s_npc_lo (by omega)]
        exact hw.2.1.2.2 p k (Or.inl (by omega)) hk
  · show (s_play (s_np S) (s_or S)).1 = none
    rw [s_np_play hw h24 hw.2.2.1.1.2]
    exact hw.2.2.2.1
def x_npK (k : Nat) : Prop := k = 7 ∨ k = 9 ∨ (80 ≤ k ∧ k < 230)
theorem RX_np (hw : s_wf S) (h24 : s_pc S < 24) (h : RX σ S) (hf : pu_fr x_npK σ τ) (hb : x_bk τ (s_np S)) : RX τ (s_np S) := by
  have e1 : ∀ k, ¬ x_npK k → τ.1 k = σ.1 k := hf.1
  have e2 : ∀ k, ¬ x_npK k → τ.2.1 k = σ.2.1 k := hf.2.1
  have hrt := h.2.2.1
  have hr : σ.2.2 0 = 32 ∨ σ.2.2 0 = 48 := by rcases hrt with q | q <;> omega
  have hseq : ∀ o l, 10 < o → o + 1 < 80 → pu_seq σ o l → pu_seq τ o l := fun o l h1 ho q => q.of (by rw [e1 o (by unfold x_npK; omega)]) (e1 (o + 1) (by unfold x_npK; omega))
  have hpl := s_np_play hw h24 hw.2.2.1.1.2
  have hln := s_np_line h24 hw.2.2.1.1.2
  obtain ⟨⟨a1, a2, a3, a4⟩, -, -, ⟨c1, c2, c3⟩, ⟨d1, d2, d3⟩, d4, d5, d6⟩ := h
  refine ⟨⟨?_, ?_, ?_, ?_⟩, hb, ?_, ⟨?_, ?_, ?_⟩, ⟨?_, ?_, ?_⟩, ?_, ?_, ?_⟩
  · rw [e1 2 (by unfold x_npK; omega)]; exact a1
  · rw [e1 3 (by unfold x_npK; omega)]; exact a2
  · rw [e1 5 (by unfold x_npK; omega)]; exact a3
  · rw [e2 6 (by unfold x_npK; omega)]; exact a4
  · rw [hf.2.2]; exact hrt
  · rw [hf.2.2]; exact hseq _ _ (by omega) (by omega) c1
  · rw [hf.2.2]
    show c_agr (fun c => c < 72) (fun a => a ∈ c_line (s_npl S) (s_or S)) (x_rw S τ (σ.2.2 0)) (s_play (s_np S) (s_or S)).2
    rw [hpl, hln]
    have : x_rw S τ (σ.2.2 0) = x_rw S σ (σ.2.2 0) := by
      unfold x_rw
      rw [e1 (σ.2.2 0 + 4) (by unfold x_npK; omega), e2 (σ.2.2 0 + 5) (by unfold x_npK; omega), e1 (σ.2.2 0 + 6) (by unfold x_npK; omega), e1 (σ.2.2 0 + 9) (by unfold x_npK; omega), e2 (σ.2.2 0 + 10) (by unfold x_npK; omega), e1 (σ.2.2 0 + 12) (by unfold x_npK; omega), e2 (σ.2.2 0 + 13) (by unfold x_npK; omega), e1 (σ.2.2 0 + 14) (by unfold x_npK; omega)]
    rw [this]; exact c2
  · rw [hf.2.2, e1 _ (by unfold x_npK; omega : ¬ x_npK (σ.2.2 0 + 15))]
    intro p hp
    show _ = c_mask (s_npc S) (c_line (s_npl S) (s_or S)) p
    rw [c3 p hp, hln]
    exact c_mask_congr (fun a ha => (s_np_ch hw h24 hw.2.2.1.1.2 a ha).symm)
  · exact hseq _ _ (by omega) (by omega) d1
  · rw [e1 0 (by unfold x_npK; omega)]; exact d2
  · intro v l hv
    have hvlt : v < (s_vr S).length := (List.getElem?_eq_some_iff.mp hv).1
    have hvl := hw.2.2.1.2.2.2.1
    exact hseq _ _ (by omega) (by omega) (d3 v l hv)
  · rw [e1 10 (by unfold x_npK; omega), e1 11 (by unfold x_npK; omega)]; exact d4
  · rw [e1 0 (by unfold x_npK; omega)]; exact d5
  · rw [e1 16 (by unfold x_npK; omega)]; exact d6
theorem Book_make_loop (hw : s_wf S) (h24 : s_pc S < 24) (h : RX σ S) : ∀ (m k : Nat) (τ : pd_H), k + m = s_ln S 24 → pu_fr (fun q => 80 + 6 * s_pc S ≤ q ∧ q < 80 + 6 * s_pc S + s_ln S 24) σ τ → (∀ j, j < k → x_chg τ (6 * s_pc S + j) = s_ch S (144 + j)) → ∃ υ, Book_makePatchOfDraft_L7 (nI (s_pc S)) (nI k) τ = some (pd_upI (pd_upI (pd_upI υ 9 (s_pc S) (nI (s_ln S 24))) 9 24 0) 7 2 (nI (s_pc S + 1)), some (pd_i (nI (s_pc S)))) ∧ pu_fr (fun q => 80 + 6 * s_pc S ≤ q ∧ q < 80 + 6 * s_pc S + s_ln S 24) σ υ ∧ ∀ j, j < s_ln S 24 → x_chg υ (6 * s_pc S + j) = s_ch S (144 + j) := by
  have h6 := hw.2.1.2.1 24 (by decide)
  intro m
  induction m with
  | zero =>
    intro k τ hk hf hc
    have e9 : τ.1 9 24 = nI (s_ln S 24) := by rw [hf.1 9 (by omega)]; exact x_len24 h
    have e7 : τ.1 7 2 = nI (s_pc S) := by rw [hf.1 7 (by omega)]; exact h.2.1.2.2
    refine ⟨τ, ?_, hf, fun j hj => hc j (by omega)⟩
    rw [Book_makePatchOfDraft_L7_eq, e9, decide_eq_true (nI_le (show s_ln S 24 ≤ k by omega) (by omega)), cond_true, show pd_len 9 = 25 from rfl, pu_obN (show s_pc S < 25 by omega) (by decide), cond_false, nI_clamp (by omega), pu_u1n (show 7 ≠ 9 by decide), pu_u1n (show 7 ≠ 9 by decide), e7, ← nI_succ]
  | succ m ih =>
    intro k τ hk hf hc
    have e9 : τ.1 9 24 = nI (s_ln S 24) := by rw [hf.1 9 (by omega)]; exact x_len24 h
    have hsrc : x_chg τ (144 + k) = s_ch S (144 + k) := by
      have e : x_chg τ (144 + k) = x_chg σ (144 + k) := by unfold x_chg; rw [hf.1 _ (by omega)]
      rw [e]; exact h.2.1.1 24 k (Or.inr rfl) (by omega)
    obtain ⟨ρ, r1, r2, g0, g1, g2, g3, g4, g5⟩ := Change_become_s (80 + (6 * s_pc S + k)) (τ.1 (80 + (144 + k)) 0) (τ.1 (80 + (144 + k)) 1) (τ.1 (80 + (144 + k)) 2) (τ.1 (80 + (144 + k)) 3) (τ.1 (80 + (144 + k)) 4) (τ.1 (80 + (144 + k)) 5) τ
    have hρ : x_chg ρ (6 * s_pc S + k) = s_ch S (144 + k) := by
      rw [← hsrc]
      unfold x_chg
      rw [g0, g1, g2, g3, g4, g5]
    obtain ⟨υ, u1, u2, u3⟩ := ih (k + 1) ρ (by omega) (hf.tr (r2.mono fun q hq => by omega)) (fun j hj => by
      by_cases e : j = k
      · rw [e]; exact hρ
      · have : x_chg ρ (6 * s_pc S + j) = x_chg τ (6 * s_pc S + j) := by unfold x_chg; rw [r2.1 _ (by omega)]
        rw [this]; exact hc j (by omega))
    refine ⟨υ, ?_, u2, u3⟩
    have s1 : nI 24 * 6 + nI k = nI (144 + k) := c_step_nI 24 k
    rw [Book_makePatchOfDraft_L7_eq, e9, decide_eq_false (nI_ge (show k < s_ln S 24 by omega) (by omega)), cond_false, X_stepOf_s, c_step_nI, pd_bI_of, show pd_len 8 = 150 from rfl, pu_obN (show 6 * s_pc S + k < 150 by omega) (by decide), cond_false, X_stepOf_s, show (24 : Int32) = nI 24 from rfl, s1, pd_bI_of, pu_obN (show 144 + k < 150 by omega) (by decide), cond_false, nI_clamp (by omega), nI_clamp (by omega), Change_becomeLike_eq, r1, pd_bV_of, pd_bV_of, ← nI_succ, u1]
theorem Book_make_s (hw : s_wf S) (h24 : s_pc S < 24) (h : RX σ S) : ∃ υ, Book_makePatchOfDraft σ = some (υ, some (pd_i (nI (s_pc S)))) ∧ RX υ (s_np S) ∧ pu_fr x_npK σ υ := by
  have h6 := hw.2.1.2.1 24 (by decide)
  obtain ⟨υ, u1, u2, u3⟩ := Book_make_loop hw h24 h (s_ln S 24) 0 σ (Nat.zero_add _) pu_fr.rf (fun j hj => absurd hj (Nat.not_lt_zero _))
  have fr : pu_fr x_npK σ (pd_upI (pd_upI (pd_upI υ 9 (s_pc S) (nI (s_ln S 24))) 9 24 0) 7 2 (nI (s_pc S + 1))) := ((u2.mono fun q hq => by unfold x_npK; omega).tr (((pu_fr.upI (Or.inr (Or.inl rfl))).tr (pu_fr.upI (Or.inr (Or.inl rfl)))).tr (pu_fr.upI (Or.inl rfl))))
  refine ⟨_, ?_, RX_np hw h24 h fr ⟨fun p k hp hk => ?_, fun p hp => ?_, ?_⟩, fr⟩
  · rw [Book_makePatchOfDraft_eq, h.2.1.2.2]; exact u1
  · have hk : k < s_npl S p := hk
    show x_chg _ (6 * p + k) = s_npc S (6 * p + k)
    have hx : x_chg (pd_upI (pd_upI (pd_upI υ 9 (s_pc S) (nI (s_ln S 24))) 9 24 0) 7 2 (nI (s_pc S + 1))) (6 * p + k) = x_chg υ (6 * p + k) := by
      unfold x_chg
      rw [pu_u1n (by omega), pu_u1n (by omega), pu_u1n (by omega)]
    rw [hx]
    have hp : p < s_pc S + 1 ∨ p = 24 := hp
    by_cases e : p = s_pc S
    · subst e
      rw [s_npl_pc h24] at hk
      rw [s_npc_in hk]
      exact u3 k hk
    · by_cases e2 : p = 24
      · rw [e2, s_npl_24] at hk; omega
      · rw [s_npl_n e e2] at hk
        have := hw.2.1.2.1 p (by omega)
        have e3 : x_chg υ (6 * p + k) = x_chg σ (6 * p + k) := by unfold x_chg; rw [u2.1 _ (by omega)]
        rw [s_npc_lo (by omega), e3]
        exact h.2.1.1 p k (Or.inl (by omega)) hk
  · show (pd_upI (pd_upI (pd_upI υ 9 (s_pc S) (nI (s_ln S 24))) 9 24 0) 7 2 (nI (s_pc S + 1))).1 9 p = nI (s_npl S p) ∧ s_npl S p ≤ 6
    rw [pu_u1n (by decide), pu_u1s, pu_u1s]
    by_cases e2 : p = 24
    · rw [e2, pk_us, s_npl_24]; exact ⟨rfl, Nat.zero_le _⟩
    · rw [pk_un e2]
      by_cases e : p = s_pc S
      · rw [e, pk_us, s_npl_pc h24]; exact ⟨rfl, h6⟩
      · rw [pk_un e, s_npl_n e e2, u2.1 9 (by omega)]; exact h.2.1.2.1 p hp
  · show (pd_upI (pd_upI (pd_upI υ 9 (s_pc S) (nI (s_ln S 24))) 9 24 0) 7 2 (nI (s_pc S + 1))).1 7 2 = nI (s_pc S + 1)
    rw [pu_u1s, pk_us]
/-- the model copies a change -/
theorem M_copies_s {a b : Nat} (ha : a < 150) (hb : b < 150) {c : cC} (hc : m_is σ a c) : ∃ υ, M_copiesChange (nI a) (nI b) σ = some (υ, none) ∧ pu_fr (fun k => 238 ≤ k ∧ k ≤ 243) σ υ ∧ (∀ k j, 238 ≤ k → k ≤ 243 → j ≠ b → υ.1 k j = σ.1 k j) ∧ m_is υ b c := by
  have oa : ∀ k, 238 ≤ k → k ≤ 243 → pd_ob (nI a) (pd_len k) = false := fun k h1 h2 => by
    have : k = 238 ∨ k = 239 ∨ k = 240 ∨ k = 241 ∨ k = 242 ∨ k = 243 := by omega
    rcases this with rfl | rfl | rfl | rfl | rfl | rfl <;> exact pu_obN ha (by decide)
  have ob : ∀ k, 238 ≤ k → k ≤ 243 → pd_ob (nI b) (pd_len k) = false := fun k h1 h2 => by
    have : k = 238 ∨ k = 239 ∨ k = 240 ∨ k = 241 ∨ k = 242 ∨ k = 243 := by omega
    rcases this with rfl | rfl | rfl | rfl | rfl | rfl <;> exact pu_obN hb (by decide)
  have hz : vp_nar .boolean (σ.1 238 a) = σ.1 238 a := by
    rcases hc with ⟨-, w2, -⟩ | ⟨-, w2, -⟩ <;> (rw [w2]; rfl)
  generalize hρ : pd_upI (pd_upI (pd_upI (pd_upI σ 238 b (σ.1 238 a)) 239 b (σ.1 239 a)) 240 b (σ.1 240 a)) 241 b (σ.1 241 a) = ρ
  have r242 : ρ.1 242 = σ.1 242 := by rw [← hρ, pu_u1n (by decide), pu_u1n (by decide), pu_u1n (by decide), pu_u1n (by decide)]
  have r243 : ρ.1 243 = σ.1 243 := by rw [← hρ, pu_u1n (by decide), pu_u1n (by decide), pu_u1n (by decide), pu_u1n (by decide)]
  have r238 : ρ.1 238 = upd (σ.1 238) b (σ.1 238 a) := by rw [← hρ, pu_u1n (by decide), pu_u1n (by decide), pu_u1n (by decide), pu_u1s]
  have r239 : ρ.1 239 = upd (σ.1 239) b (σ.1 239 a) := by rw [← hρ, pu_u1n (by decide), pu_u1n (by decide), pu_u1s, pu_u1n (by decide)]
  have r240 : ρ.1 240 = upd (σ.1 240) b (σ.1 240 a) := by rw [← hρ, pu_u1n (by decide), pu_u1s, pu_u1n (by decide), pu_u1n (by decide)]
  have r241 : ρ.1 241 = upd (σ.1 241) b (σ.1 241 a) := by rw [← hρ, pu_u1s, pu_u1n (by decide), pu_u1n (by decide), pu_u1n (by decide)]
  have fρ : pu_fr (fun k => 238 ≤ k ∧ k ≤ 243) σ ρ := by
    rw [← hρ]
    exact (((pu_fr.upI (by omega)).tr (pu_fr.upI (by omega))).tr (pu_fr.upI (by omega))).tr (pu_fr.upI (by omega))
  refine ⟨pd_upI (pd_upI ρ 242 b (σ.1 242 a)) 243 b (σ.1 243 a), ?_, fρ.tr ((pu_fr.upI (by omega)).tr (pu_fr.upI (by omega))), fun k j h1 h2 hj => ?_, ?_⟩
  · rw [M_copiesChange_eq, oa 238 (by decide) (by decide), oa 239 (by decide) (by decide), oa 240 (by decide) (by decide), oa 241 (by decide) (by decide), oa 242 (by decide) (by decide), oa 243 (by decide) (by decide), ob 242 (by decide) (by decide), ob 243 (by decide) (by decide), cond_false, cond_false, cond_false, cond_false, nI_clamp (by omega), nI_clamp (by omega), M_keeps_s hb, hz, hρ, pd_bV_of, cond_false, cond_false, cond_false, cond_false, r242, pu_u1n (by decide), r243]
  · have : k = 238 ∨ k = 239 ∨ k = 240 ∨ k = 241 ∨ k = 242 ∨ k = 243 := by omega
    rcases this with rfl | rfl | rfl | rfl | rfl | rfl
    · rw [pu_u1n (by decide), pu_u1n (by decide), r238, pk_un hj]
    · rw [pu_u1n (by decide), pu_u1n (by decide), r239, pk_un hj]
    · rw [pu_u1n (by decide), pu_u1n (by decide), r240, pk_un hj]
    · rw [pu_u1n (by decide), pu_u1n (by decide), r241, pk_un hj]
    · rw [pu_u1n (by decide), pu_u1s, pk_un hj, r242]
    · rw [pu_u1s, pk_un hj, pu_u1n (by decide), r243]
  · have q238 : (pd_upI (pd_upI ρ 242 b (σ.1 242 a)) 243 b (σ.1 243 a)).1 238 b = σ.1 238 a := by rw [pu_u1n (by decide), pu_u1n (by decide), r238, pk_us]
    have q239 : (pd_upI (pd_upI ρ 242 b (σ.1 242 a)) 243 b (σ.1 243 a)).1 239 b = σ.1 239 a := by rw [pu_u1n (by decide), pu_u1n (by decide), r239, pk_us]
    have q240 : (pd_upI (pd_upI ρ 242 b (σ.1 242 a)) 243 b (σ.1 243 a)).1 240 b = σ.1 240 a := by rw [pu_u1n (by decide), pu_u1n (by decide), r240, pk_us]
    have q241 : (pd_upI (pd_upI ρ 242 b (σ.1 242 a)) 243 b (σ.1 243 a)).1 241 b = σ.1 241 a := by rw [pu_u1n (by decide), pu_u1n (by decide), r241, pk_us]
    have q242 : (pd_upI (pd_upI ρ 242 b (σ.1 242 a)) 243 b (σ.1 243 a)).1 242 b = σ.1 242 a := by rw [pu_u1n (by decide), pu_u1s, pk_us]
    have q243 : (pd_upI (pd_upI ρ 242 b (σ.1 242 a)) 243 b (σ.1 243 a)).1 243 b = σ.1 243 a := by rw [pu_u1s, pk_us]
    unfold m_is m_wr m_co at hc ⊢
    rw [q238, q239, q240, q241, q242, q243]
    exact hc
/-- behind a way without a finding the patch plays -/
theorem c_ly_ply {kd sz : Nat → Int32} {chg chg' : Nat → cC} {p : Nat} : ∀ (d k : Nat) (t : Nat → Int32) (n : Nat → Int64) (mt : Nat → Int32) (R : cR), (c_ly kd sz chg d k t n mt).1 = none → R.1 = t → R.2.1 = n → (∀ j, j < k + d → chg' (6 * p + j) = chg (144 + j)) → (c_ply kd sz chg' (c_blk p k d) R).1 = none := by
  intro d
  induction d with
  | zero => intro k t n mt R _ _ _ _; rfl
  | succ d ih =>
    intro k t n mt R h e1 e2 hc
    have ec := hc k (by omega)
    have h : (cond (decide (c_fd kd sz (c_r0 t n) (chg (144 + k)) = 0)) (c_ly kd sz chg d (k + 1) (c_one kd 24 (144 + k) (chg (144 + k)) (c_r0 t n)).1 (c_one kd 24 (144 + k) (chg (144 + k)) (c_r0 t n)).2.1 (c_tal mt (chg (144 + k)) (c_f1 kd sz (chg (144 + k))) (c_ww (c_r0 t n) (chg (144 + k))) (c_f2 kd sz (c_r0 t n) (chg (144 + k))))) (some (k, c_fd kd sz (c_r0 t n) (chg (144 + k))), c_tal mt (chg (144 + k)) (c_f1 kd sz (chg (144 + k))) (c_ww (c_r0 t n) (chg (144 + k))) (c_f2 kd sz (c_r0 t n) (chg (144 + k))))).1 = none := h
    by_cases h0 : c_fd kd sz (c_r0 t n) (chg (144 + k)) = 0
    · rw [decide_eq_true h0, cond_true] at h
      have hR : c_fd kd sz R (chg' (6 * p + k)) = 0 := by rw [ec, c_fd_v, e1, e2]; exact h0
      show (c_ply kd sz chg' ((6 * p + k) :: c_blk p (k + 1) d) R).1 = none
      rw [c_ply_ok hR]
      refine ih (k + 1) _ _ _ _ h ?_ ?_ (fun j hj => hc j (by omega))
      · rw [ec, ← e1, ← e2]; rfl
      · rw [ec, ← e1, ← e2]; rfl
    · rw [decide_eq_false h0, cond_false] at h; cases h
end LAYJ
