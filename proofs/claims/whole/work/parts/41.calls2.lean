/-! The draft: change, move, drop. -/
theorem c_ply_congr {kd sz : Nat → Int32} {chg chg' : Nat → cC} : ∀ {t : List Nat} {R : cR}, (∀ a ∈ t, chg a = chg' a) → c_ply kd sz chg t R = c_ply kd sz chg' t R := by
  intro t
  induction t with
  | nil => intro R _; rfl
  | cons a t ih =>
    intro R h
    have h1 := h a List.mem_cons_self
    by_cases h0 : c_fd kd sz R (chg a) = 0
    · rw [c_ply_ok h0, c_ply_ok (chg := chg') (by rw [← h1]; exact h0), h1]
      exact ih (fun b hb => h b (List.mem_cons_of_mem _ hb))
    · rw [c_ply_bad h0, c_ply_bad (chg := chg') (by rw [← h1]; exact h0), h1]
theorem c_need_congr {chg chg' : Nat → cC} : ∀ {t : List Nat}, (∀ a ∈ t, chg a = chg' a) → c_need chg t = c_need chg' t := by
  intro t
  induction t with
  | nil => intro _; rfl
  | cons a t ih =>
    intro h
    show c_nst (chg a) (c_need chg t) = c_nst (chg' a) (c_need chg' t)
    rw [h a List.mem_cons_self, ih (fun b hb => h b (List.mem_cons_of_mem _ hb))]
theorem c_mask_congr {chg chg' : Nat → cC} {p : Nat} : ∀ {t : List Nat}, (∀ a ∈ t, chg a = chg' a) → c_mask chg t p = c_mask chg' t p := by
  intro t
  induction t with
  | nil => intro _; rfl
  | cons a t ih =>
    intro h
    have ht := fun b hb => h b (List.mem_cons_of_mem _ hb)
    unfold c_mask
    rw [h a List.mem_cons_self, ih ht, c_need_congr ht]
theorem c_line_congr {len len' : Nat → Nat} : ∀ {l : List Nat}, (∀ p ∈ l, len p = len' p) → c_line len l = c_line len' l := by
  intro l
  induction l with
  | nil => intro _; rfl
  | cons p m ih =>
    intro h
    show c_blk p 0 (len p) ++ c_line len m = c_blk p 0 (len' p) ++ c_line len' m
    rw [h p List.mem_cons_self, ih (fun q hq => h q (List.mem_cons_of_mem _ hq))]
/-- another draft -/
def s_dr (S : cS) (ch : Nat → cC) (ln : Nat → Nat) : cS := (s_kd S, s_sz S, s_bt S, s_bn S, ch, ln, s_pc S, s_or S, s_un S, s_vr S, s_tp S, s_fl S, s_mt S)
def s_drK (S : cS) (ch : Nat → cC) (ln : Nat → Nat) : Prop := (∀ a, a < 144 → ch a = s_ch S a) ∧ (∀ p, p < 24 → ln p = s_ln S p) ∧ ln 24 ≤ 6 ∧ ∀ k, k < ln 24 → c_chok (ch (144 + k)) ∧ c_nrm (ch (144 + k))
section CALLS2
variable {σ : pd_H} {S : cS} {ch : Nat → cC} {ln : Nat → Nat}
theorem s_dr_line (hw : s_wf S) (hd : s_drK S ch ln) {l : List Nat} (hl : ∀ p ∈ l, p < s_pc S) : c_line ln l = c_line (s_ln S) l := c_line_congr (fun p hp => hd.2.1 p (Nat.lt_of_lt_of_le (hl p hp) hw.2.1.1))
theorem s_line_lt (hw : s_wf S) {l : List Nat} (hl : ∀ p ∈ l, p < s_pc S) {a : Nat} (ha : a ∈ c_line (s_ln S) l) : a < 144 := by
  obtain ⟨p, h1, k, h2, rfl⟩ := c_line_mem ha
  have h3 := hl p h1
  have h4 := hw.2.1.1
  have h5 := hw.2.1.2.1 p (by omega)
  omega
theorem s_dr_play (hw : s_wf S) (hd : s_drK S ch ln) {l : List Nat} (hl : ∀ p ∈ l, p < s_pc S) : s_play (s_dr S ch ln) l = s_play S l := by
  show c_ply (s_kd S) (s_sz S) ch (c_line ln l) (c_r0 (s_bt S) (s_bn S)) = c_ply (s_kd S) (s_sz S) (s_ch S) (c_line (s_ln S) l) (c_r0 (s_bt S) (s_bn S))
  rw [s_dr_line hw hd hl]
  exact c_ply_congr (fun a ha => hd.1 a (s_line_lt hw hl ha))
theorem s_dr_wf (hw : s_wf S) (hd : s_drK S ch ln) : s_wf (s_dr S ch ln) := by
  refine ⟨hw.1, ⟨hw.2.1.1, fun p hp => ?_, fun p k hp hk => ?_⟩, hw.2.2.1, ?_, hw.2.2.2.2⟩
  · show ln p ≤ 6
    rcases Nat.lt_or_ge p 24 with q | q
    · rw [hd.2.1 p q]; exact hw.2.1.2.1 p hp
    · rw [show p = 24 by omega]; exact hd.2.2.1
  · have hk : k < ln p := hk
    show c_chok (ch (6 * p + k)) ∧ c_nrm (ch (6 * p + k))
    rcases hp with hp | hp
    · have hp : p < s_pc S := hp
      have h24 : p < 24 := Nat.lt_of_lt_of_le hp hw.2.1.1
      rw [hd.2.1 p h24] at hk
      have h6 := hw.2.1.2.1 p (by omega)
      rw [hd.1 _ (by omega)]
      exact hw.2.1.2.2 p k (Or.inl hp) hk
    · subst hp
      exact hd.2.2.2 k hk
  · show (s_play (s_dr S ch ln) (s_or S)).1 = none
    rw [s_dr_play hw hd (hw.2.2.1.1.2)]
    exact hw.2.2.2.1
def x_drK (k : Nat) : Prop := k = 9 ∨ (224 ≤ k ∧ k < 230)
theorem RX_dr {τ : pd_H} (hw : s_wf S) (hd : s_drK S ch ln) (h : RX σ S) (hf : pu_fr x_drK σ τ) (hb : x_bk τ (s_dr S ch ln)) : RX τ (s_dr S ch ln) := by
  have e1 : ∀ k, ¬ x_drK k → τ.1 k = σ.1 k := hf.1
  have e2 : ∀ k, ¬ x_drK k → τ.2.1 k = σ.2.1 k := hf.2.1
  have hrt := h.2.2.1
  have hr : σ.2.2 0 = 32 ∨ σ.2.2 0 = 48 := by rcases hrt with q | q <;> omega
  have hseq : ∀ o l, o + 1 < 80 → o ≠ 9 → o ≠ 8 → pu_seq σ o l → pu_seq τ o l := fun o l ho h9 h8 q => q.of (by rw [e1 o (by unfold x_drK; omega)]) (e1 (o + 1) (by unfold x_drK; omega))
  have hpl := s_dr_play hw hd hw.2.2.1.1.2
  have hln := s_dr_line hw hd hw.2.2.1.1.2
  obtain ⟨⟨a1, a2, a3, a4⟩, -, -, ⟨c1, c2, c3⟩, ⟨d1, d2, d3⟩, d4, d5, d6⟩ := h
  refine ⟨⟨?_, ?_, ?_, ?_⟩, hb, ?_, ⟨?_, ?_, ?_⟩, ⟨?_, ?_, ?_⟩, ?_, ?_, ?_⟩
  · rw [e1 2 (by unfold x_drK; omega)]; exact a1
  · rw [e1 3 (by unfold x_drK; omega)]; exact a2
  · rw [e1 5 (by unfold x_drK; omega)]; exact a3
  · rw [e2 6 (by unfold x_drK; omega)]; exact a4
  · rw [hf.2.2]; exact hrt
  · rw [hf.2.2]; exact hseq _ _ (by omega) (by omega) (by omega) c1
  · rw [hf.2.2]
    show c_agr (fun c => c < 72) (fun a => a ∈ c_line ln (s_or S)) (x_rw S τ (σ.2.2 0)) (s_play (s_dr S ch ln) (s_or S)).2
    rw [hpl, hln]
    have : x_rw S τ (σ.2.2 0) = x_rw S σ (σ.2.2 0) := by
      unfold x_rw
      rw [e1 _ (by unfold x_drK; omega : ¬ x_drK (σ.2.2 0 + 4)), e2 _ (by unfold x_drK; omega : ¬ x_drK (σ.2.2 0 + 5)), e1 _ (by unfold x_drK; omega : ¬ x_drK (σ.2.2 0 + 6)), e1 _ (by unfold x_drK; omega : ¬ x_drK (σ.2.2 0 + 9)), e2 _ (by unfold x_drK; omega : ¬ x_drK (σ.2.2 0 + 10)), e1 _ (by unfold x_drK; omega : ¬ x_drK (σ.2.2 0 + 12)), e2 _ (by unfold x_drK; omega : ¬ x_drK (σ.2.2 0 + 13)), e1 _ (by unfold x_drK; omega : ¬ x_drK (σ.2.2 0 + 14))]
    rw [this]; exact c2
  · rw [hf.2.2, e1 _ (by unfold x_drK; omega : ¬ x_drK (σ.2.2 0 + 15))]
    intro p hp
    show _ = c_mask ch (c_line ln (s_or S)) p
    rw [c3 p hp, hln]
    exact c_mask_congr (fun a ha => (hd.1 a (s_line_lt hw hw.2.2.1.1.2 ha)).symm)
  · exact hseq _ _ (by omega) (by omega) (by omega) d1
  · rw [e1 0 (by unfold x_drK; omega)]; exact d2
  · intro v l hv
    have hvlt : v < (s_vr S).length := (List.getElem?_eq_some_iff.mp hv).1
    have hvl := hw.2.2.1.2.2.2.1
    exact hseq _ _ (by omega) (by omega) (by omega) (d3 v l hv)
  · rw [e1 10 (by unfold x_drK; omega), e1 11 (by unfold x_drK; omega)]; exact d4
  · rw [e1 0 (by unfold x_drK; omega)]; exact d5
  · rw [e1 16 (by unfold x_drK; omega)]; exact d6
def m_drK (k : Nat) : Prop := 238 ≤ k ∧ k ≤ 244
theorem RM_dr {τ : pd_H} (hw : s_wf S) (hd : s_drK S ch ln) (h : RM σ S) (hf : pu_fr m_drK σ τ) (hb : m_bk τ (s_dr S ch ln)) : RM τ (s_dr S ch ln) := by
  have e1 : ∀ k, ¬ m_drK k → τ.1 k = σ.1 k := hf.1
  have e2 : ∀ k, ¬ m_drK k → τ.2.1 k = σ.2.1 k := hf.2.1
  have hpl := s_dr_play hw hd hw.2.2.1.1.2
  have hln := s_dr_line hw hd hw.2.2.1.1.2
  have eR : m_R τ = m_R σ := by
    unfold m_R
    rw [e1 233 (by unfold m_drK; omega), e2 234 (by unfold m_drK; omega), e1 237 (by unfold m_drK; omega), e1 247 (by unfold m_drK; omega), e2 248 (by unfold m_drK; omega), e1 245 (by unfold m_drK; omega), e2 246 (by unfold m_drK; omega), e1 249 (by unfold m_drK; omega)]
  obtain ⟨⟨a1, a2, a3⟩, -, ⟨⟨c1, c2⟩, c3⟩, d1, d2, d3, d4⟩ := h
  refine ⟨⟨?_, ?_, ?_⟩, hb, ⟨⟨?_, ?_⟩, ?_⟩, ?_, ?_, ?_, ?_⟩
  · rw [e1 231 (by unfold m_drK; omega), e1 232 (by unfold m_drK; omega)]; exact a1
  · rw [e1 232 (by unfold m_drK; omega)]; exact a2
  · rw [e1 235 (by unfold m_drK; omega), e2 236 (by unfold m_drK; omega)]; exact a3
  · rw [e1 230 (by unfold m_drK; omega)]; exact c1
  · rw [e1 250 (by unfold m_drK; omega), e1 237 (by unfold m_drK; omega)]
    show m_ls (σ.1 250) (s_or S) ∧ ∀ c, c < 72 → σ.1 237 c = (s_play (s_dr S ch ln) (s_or S)).2.2.2.1 c
    rw [hpl]; exact c2
  · rw [eR]
    show c_agr (c_vc (s_kd S) (s_sz S)) (fun a => a ∈ c_line ln (s_or S)) (m_R σ) (s_play (s_dr S ch ln) (s_or S)).2
    rw [hpl, hln]
    exact c3
  · rw [e1 230 (by unfold m_drK; omega), e1 252 (by unfold m_drK; omega), e1 254 (by unfold m_drK; omega), e1 253 (by unfold m_drK; omega)]; exact d1
  · rw [e1 230 (by unfold m_drK; omega), e1 259 (by unfold m_drK; omega)]; exact d2
  · rw [e1 255 (by unfold m_drK; omega)]; exact d3
  · rw [e1 256 (by unfold m_drK; omega)]; exact d4
/-- one number at one place -/
def c_updN (f : Nat → Nat) (k x : Nat) : Nat → Nat := fun j => if j = k then x else f j
theorem c_updN_s {f : Nat → Nat} {k x : Nat} : c_updN f k x k = x := if_pos rfl
theorem c_updN_n {f : Nat → Nat} {k x j : Nat} (h : j ≠ k) : c_updN f k x j = f j := if_neg h
def c_updC (f : Nat → cC) (k : Nat) (x : cC) : Nat → cC := fun j => if j = k then x else f j
theorem c_updC_s {f : Nat → cC} {k : Nat} {x : cC} : c_updC f k x k = x := if_pos rfl
theorem c_updC_n {f : Nat → cC} {k : Nat} {x : cC} {j : Nat} (h : j ≠ k) : c_updC f k x j = f j := if_neg h
theorem x_len24 (h : RX σ S) : σ.1 9 24 = nI (s_ln S 24) := (h.2.1.2.1 24 (by omega)).1
theorem m_len24 (h : RM σ S) : σ.1 244 24 = nI (s_ln S 24) := (h.2.1.2.1 24 (by omega)).1
theorem J_drop (h : JR σ S) : JI X_drop M_drop σ := by
  have h6 := h.1.2.1.2.1 24 (by omega)
  have eX := x_len24 h.2.1
  cases hn : s_ln S 24 with
  | zero =>
    rw [hn] at eX
    refine JI.same (v := -3) h (by rw [X_drop_eq, eX]; rfl) (fun g => ?_)
    have eM := m_len24 g
    rw [hn] at eM
    rw [M_drop_eq, eM]; rfl
  | succ n =>
    rw [hn] at eX h6
    have hd : s_drK S (s_ch S) (c_updN (s_ln S) 24 n) := ⟨fun _ _ => rfl, fun p hp => c_updN_n (by omega), by rw [c_updN_s]; omega, fun k hk => by rw [c_updN_s] at hk; exact h.1.2.1.2.2 24 k (Or.inr rfl) (by omega)⟩
    have hX : X_drop σ = some (pd_upI σ 9 24 (nI n), some (pd_i (nI n))) := by
      rw [X_drop_eq, eX, nI_pred, decide_eq_false (nI_ne0 (by omega) (by omega)), cond_false, pu_u1s, pk_us]
    have frX : pu_fr x_drK σ (pd_upI σ 9 24 (nI n)) := pu_fr.upI (Or.inl rfl)
    refine JI.of h (s_dr_wf h.1 hd) hX (RX_dr h.1 hd h.2.1 frX ⟨fun p k hp hk => ?_, fun p hp => ?_, ?_⟩) (XF.of frX (fun k hk => by unfold x_drK at hk; omega)) (fun g => ?_)
    · have hk : k < c_updN (s_ln S) 24 n p := hk
      have hk2 : k < s_ln S p := by
        by_cases e : p = 24
        · rw [e, c_updN_s] at hk; rw [e]; omega
        · rw [c_updN_n e] at hk; exact hk
      have : x_chg (pd_upI σ 9 24 (nI n)) (6 * p + k) = x_chg σ (6 * p + k) := by unfold x_chg; rw [pu_u1n (by omega)]
      rw [this]; exact h.2.1.2.1.1 p k hp hk2
    · show (pd_upI σ 9 24 (nI n)).1 9 p = nI (c_updN (s_ln S) 24 n p) ∧ c_updN (s_ln S) 24 n p ≤ 6
      rw [pu_u1s]
      by_cases e : p = 24
      · rw [e, pk_us, c_updN_s]; exact ⟨rfl, by omega⟩
      · rw [pk_un e, c_updN_n e]; exact h.2.1.2.1.2.1 p hp
    · exact h.2.1.2.1.2.2
    · have eM := m_len24 g
      rw [hn] at eM
      generalize pd_upI σ 9 24 (nI n) = τ at g eM
      have frM : pu_fr m_drK τ (pd_upI τ 244 24 (nI n)) := pu_fr.upI (by unfold m_drK; omega)
      refine ⟨pd_upI τ 244 24 (nI n), ?_, RM_dr h.1 hd g frM ⟨fun p k hp hk => ?_, fun p hp => ?_, ?_⟩, MF.of frM (fun k hk => by unfold m_drK at hk; omega)⟩
      · rw [M_drop_eq, eM, nI_pred, decide_eq_false (nI_ne0 (by omega) (by omega)), cond_false, pu_u1s, pk_us]
      · have hk : k < c_updN (s_ln S) 24 n p := hk
        have hk2 : k < s_ln S p := by
          by_cases e : p = 24
          · rw [e, c_updN_s] at hk; rw [e]; omega
          · rw [c_updN_n e] at hk; exact hk
        have := g.2.1.1 p k hp hk2
        unfold m_is m_wr m_co at this ⊢
        simp only [pu_u1n (show 238 ≠ 244 by decide), pu_u1n (show 239 ≠ 244 by decide), pu_u1n (show 240 ≠ 244 by decide), pu_u1n (show 241 ≠ 244 by decide), pu_u1n (show 242 ≠ 244 by decide), pu_u1n (show 243 ≠ 244 by decide)]
        exact this
      · show (pd_upI τ 244 24 (nI n)).1 244 p = nI (c_updN (s_ln S) 24 n p) ∧ c_updN (s_ln S) 24 n p ≤ 6
        rw [pu_u1s]
        by_cases e : p = 24
        · rw [e, pk_us, c_updN_s]; exact ⟨rfl, by omega⟩
        · rw [pk_un e, c_updN_n e]; exact g.2.1.2.1 p hp
      · show (pd_upI τ 244 24 (nI n)).1 230 19 = _
        rw [pu_u1n (by decide)]; exact g.2.1.2.2
/-- one more in the draft -/
def s_add (S : cS) (c : cC) : cS := s_dr S (c_updC (s_ch S) (144 + s_ln S 24) c) (c_updN (s_ln S) 24 (s_ln S 24 + 1))
theorem s_addK (hw : s_wf S) {c : cC} (hn : s_ln S 24 < 6) (hc : c_chok c) (hm : c_nrm c) : s_drK S (c_updC (s_ch S) (144 + s_ln S 24) c) (c_updN (s_ln S) 24 (s_ln S 24 + 1)) := by
  refine ⟨fun a ha => c_updC_n (by omega), fun p hp => c_updN_n (by omega), by rw [c_updN_s]; omega, fun k hk => ?_⟩
  rw [c_updN_s] at hk
  by_cases e : k = s_ln S 24
  · rw [e, c_updC_s]; exact ⟨hc, hm⟩
  · rw [c_updC_n (by omega)]
    exact hw.2.1.2.2 24 k (Or.inr rfl) (by omega)
theorem x_add (hw : s_wf S) (h : RX σ S) {c : cC} (hn : s_ln S 24 < 6) (hc : c_chok c) (hm : c_nrm c) {τ : pd_H} (hf : pu_fr x_drK σ τ) (h1 : ∀ k, k ≠ 224 + s_ln S 24 → k ≠ 9 → τ.1 k = σ.1 k) (h2 : x_chg τ (144 + s_ln S 24) = c) (h3 : τ.1 9 = upd (σ.1 9) 24 (nI (s_ln S 24 + 1))) : RX τ (s_add S c) := by
  refine RX_dr hw (s_addK hw hn hc hm) h hf ⟨fun p k hp hk => ?_, fun p hp => ?_, ?_⟩
  · have hk : k < c_updN (s_ln S) 24 (s_ln S 24 + 1) p := hk
    show x_chg τ (6 * p + k) = c_updC (s_ch S) (144 + s_ln S 24) c (6 * p + k)
    have hp : p < s_pc S ∨ p = 24 := hp
    have hpc := hw.2.1.1
    by_cases e : 6 * p + k = 144 + s_ln S 24
    · rw [e, c_updC_s]; exact h2
    · rw [c_updC_n e]
      have hk2 : k < s_ln S p := by
        by_cases e2 : p = 24
        · subst e2; rw [c_updN_s] at hk; omega
        · rw [c_updN_n e2] at hk; exact hk
      rw [← h.2.1.1 p k hp hk2]
      unfold x_chg
      rw [h1 (80 + (6 * p + k)) (by omega) (by omega)]
  · show τ.1 9 p = nI (c_updN (s_ln S) 24 (s_ln S 24 + 1) p) ∧ c_updN (s_ln S) 24 (s_ln S 24 + 1) p ≤ 6
    rw [h3]
    by_cases e : p = 24
    · rw [e, pk_us, c_updN_s]; exact ⟨rfl, by omega⟩
    · rw [pk_un e, c_updN_n e]; exact h.2.1.2.1 p hp
  · show τ.1 7 2 = _
    rw [h1 7 (by omega) (by omega)]; exact h.2.1.2.2
theorem m_add (hw : s_wf S) (h : RM σ S) {c : cC} (hn : s_ln S 24 < 6) (hc : c_chok c) (hm : c_nrm c) {τ : pd_H} (hf : pu_fr m_drK σ τ) (h1 : ∀ k j, 238 ≤ k → k ≤ 243 → j ≠ 144 + s_ln S 24 → τ.1 k j = σ.1 k j) (h2 : m_is τ (144 + s_ln S 24) c) (h3 : τ.1 244 = upd (σ.1 244) 24 (nI (s_ln S 24 + 1))) : RM τ (s_add S c) := by
  refine RM_dr hw (s_addK hw hn hc hm) h hf ⟨fun p k hp hk => ?_, fun p hp => ?_, ?_⟩
  · have hk : k < c_updN (s_ln S) 24 (s_ln S 24 + 1) p := hk
    show m_is τ (6 * p + k) (c_updC (s_ch S) (144 + s_ln S 24) c (6 * p + k))
    by_cases e : 6 * p + k = 144 + s_ln S 24
    · rw [e, c_updC_s]; exact h2
    · rw [c_updC_n e]
      have hk2 : k < s_ln S p := by
        by_cases e2 : p = 24
        · subst e2; rw [c_updN_s] at hk; omega
        · rw [c_updN_n e2] at hk; exact hk
      have := h.2.1.1 p k hp hk2
      unfold m_is m_wr m_co at this ⊢
      rw [h1 238 _ (by omega) (by omega) e, h1 239 _ (by omega) (by omega) e, h1 240 _ (by omega) (by omega) e, h1 241 _ (by omega) (by omega) e, h1 242 _ (by omega) (by omega) e, h1 243 _ (by omega) (by omega) e]
      exact this
  · show τ.1 244 p = nI (c_updN (s_ln S) 24 (s_ln S 24 + 1) p) ∧ c_updN (s_ln S) 24 (s_ln S 24 + 1) p ≤ 6
    rw [h3]
    by_cases e : p = 24
    · rw [e, pk_us, c_updN_s]; exact ⟨rfl, by omega⟩
    · rw [pk_un e, c_updN_n e]; exact h.2.1.2.1 p hp
  · show τ.1 230 19 = _
    rw [hf.1 230 (by unfold m_drK; omega)]; exact h.2.1.2.2
theorem Book_nextOfDraft_s (h : RX σ S) (hn : s_ln S 24 < 6) : Book_nextOfDraft σ = some (σ, some (pd_r 1 (224 + s_ln S 24))) := by
  have e : (24 : Int32) * 6 + nI (s_ln S 24) = nI (144 + s_ln S 24) := nI_add 144 _
  rw [Book_nextOfDraft_eq, x_len24 h, X_stepOf_s, e]
  simp only [pd_bI_of, pd_bJ_of, pd_bV_of, pd_bR_of, cond_true, cond_false, show pd_len 8 = 150 from rfl, pu_obN (show 144 + s_ln S 24 < 150 by omega) (show 150 < 2 ^ 31 by decide), nI_clamp (show 144 + s_ln S 24 < 2 ^ 31 by omega)]
  rw [show 80 + (144 + s_ln S 24) = 224 + s_ln S 24 by omega]
theorem Change_become_s (o : Nat) (a b c d e f : Int32) (σ : pd_H) : ∃ τ, Change_become o a b c d e f σ = some (τ, none) ∧ pu_fr (fun k => k = o) σ τ ∧ τ.1 o 0 = a ∧ τ.1 o 1 = b ∧ τ.1 o 2 = c ∧ τ.1 o 3 = d ∧ τ.1 o 4 = e ∧ τ.1 o 5 = f := by
  refine ⟨_, Change_become_eq o a b c d e f σ, ?_, ?_, ?_, ?_, ?_, ?_, ?_⟩
  · exact (((((pu_fr.upI (K := fun k => k = o) rfl).tr (pu_fr.upI (K := fun k => k = o) rfl)).tr (pu_fr.upI (K := fun k => k = o) rfl)).tr (pu_fr.upI (K := fun k => k = o) rfl)).tr (pu_fr.upI (K := fun k => k = o) rfl)).tr (pu_fr.upI (K := fun k => k = o) rfl)
  all_goals simp only [pu_u1s, pk_us, pk_un (show 0 ≠ 1 by decide), pk_un (show 0 ≠ 2 by decide), pk_un (show 0 ≠ 3 by decide), pk_un (show 0 ≠ 4 by decide), pk_un (show 0 ≠ 5 by decide), pk_un (show 1 ≠ 2 by decide), pk_un (show 1 ≠ 3 by decide), pk_un (show 1 ≠ 4 by decide), pk_un (show 1 ≠ 5 by decide), pk_un (show 2 ≠ 3 by decide), pk_un (show 2 ≠ 4 by decide), pk_un (show 2 ≠ 5 by decide), pk_un (show 3 ≠ 4 by decide), pk_un (show 3 ≠ 5 by decide), pk_un (show 4 ≠ 5 by decide)]
end CALLS2
