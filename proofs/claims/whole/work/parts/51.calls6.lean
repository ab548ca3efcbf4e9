/-! Undo, keep, type, wipe, fault, met. -/
theorem c_ply_pre {kd sz : Nat → Int32} {chg : Nat → cC} : ∀ {t u : List Nat} {R : cR}, (c_ply kd sz chg (t ++ u) R).1 = none → (c_ply kd sz chg t R).1 = none := by
  intro t
  induction t with
  | nil => intro u R _; rfl
  | cons a t ih =>
    intro u R h
    by_cases h0 : c_fd kd sz R (chg a) = 0
    · rw [List.cons_append, c_ply_ok h0] at h
      rw [c_ply_ok h0]; exact ih h
    · rw [List.cons_append, c_ply_bad h0] at h; cases h
theorem c_ply_app {kd sz : Nat → Int32} {chg : Nat → cC} : ∀ {t u : List Nat} {R : cR}, (c_ply kd sz chg t R).1 = none → c_ply kd sz chg (t ++ u) R = c_ply kd sz chg u (c_ply kd sz chg t R).2 := by
  intro t
  induction t with
  | nil => intro u R _; rfl
  | cons a t ih =>
    intro u R h
    by_cases h0 : c_fd kd sz R (chg a) = 0
    · rw [c_ply_ok h0] at h
      rw [List.cons_append, c_ply_ok h0, c_ply_ok h0]; exact ih h
    · rw [c_ply_bad h0] at h; cases h
theorem c_in_k {n : Nat} {K : Int32} (e : K = nI n - 1) {j : Nat} (h : j < n) (hn : n < 2 ^ 31) (ρ : pd_H) : M_in (nI j) 0 K ρ = some (ρ, some (pd_i 1)) := by
  subst e
  rw [M_in_s, c_in_at h hn]
theorem c_in_ko {n : Nat} {K : Int32} (e : K = nI n - 1) {a : Int32} (hn : n < 2 ^ 31) (h : a < 0 ∨ nI n ≤ a) (ρ : pd_H) : M_in a 0 K ρ = some (ρ, some (pd_i 0)) := by
  subst e
  rw [M_in_s, c_in_out hn h]
section CALLS6
variable {σ : pd_H} {S : cS}
theorem s_play_pre {l m : List Nat} (h : (s_play S (l ++ m)).1 = none) : (s_play S l).1 = none := by
  unfold s_play c_play at h ⊢
  rw [c_line_app] at h
  exact c_ply_pre h
theorem s_play0 : (s_play S []).1 = none := rfl
/-- what lies beside -/
def s_ot (S : cS) (un : List Nat) (vr : List (List Nat)) (tp : List Nat) (fl : Int32 × Int32 × Int32) (mt : Nat → Int32) : cS := (s_kd S, s_sz S, s_bt S, s_bn S, s_ch S, s_ln S, s_pc S, s_or S, un, vr, tp, fl, mt)
theorem s_ot_wf (hw : s_wf S) {un : List Nat} {vr : List (List Nat)} {tp : List Nat} {fl : Int32 × Int32 × Int32} {mt : Nat → Int32} (hu : s_ord S un) (hd : ∀ p ∈ un, p ∉ s_or S) (h6 : vr.length ≤ 6) (hv : ∀ l ∈ vr, s_ord S l) (h80 : tp.length ≤ 80) (hb : ∀ b ∈ tp, b < 256) : s_wf (s_ot S un vr tp fl mt) := ⟨hw.1, hw.2.1, ⟨hw.2.2.1.1, hu, hd, h6, hv⟩, hw.2.2.2.1, h80, hb⟩
theorem RX_ot {τ : pd_H} (h : RX σ S) (hf : pu_fr (fun k => k = 0 ∨ k = 10 ∨ k = 11 ∨ (16 ≤ k ∧ k < 32)) σ τ) {un : List Nat} {vr : List (List Nat)} {tp : List Nat} {fl : Int32 × Int32 × Int32} {mt : Nat → Int32} (ho : x_ot τ (s_ot S un vr tp fl mt)) : RX τ (s_ot S un vr tp fl mt) := by
  obtain ⟨⟨a1, a2, a3, a4⟩, ⟨b1, b2, b3⟩, hrt, ⟨c1, c2, c3⟩, -⟩ := h
  have hr : σ.2.2 0 = 32 ∨ σ.2.2 0 = 48 := by rcases hrt with q | q <;> omega
  have e1 : ∀ k, ¬ (k = 0 ∨ k = 10 ∨ k = 11 ∨ (16 ≤ k ∧ k < 32)) → τ.1 k = σ.1 k := hf.1
  have e2 : ∀ k, ¬ (k = 0 ∨ k = 10 ∨ k = 11 ∨ (16 ≤ k ∧ k < 32)) → τ.2.1 k = σ.2.1 k := hf.2.1
  refine ⟨⟨?_, ?_, ?_, ?_⟩, ⟨?_, ?_, ?_⟩, ?_, ⟨?_, ?_, ?_⟩, ho⟩
  · rw [e1 2 (by omega)]; exact a1
  · rw [e1 3 (by omega)]; exact a2
  · rw [e1 5 (by omega)]; exact a3
  · rw [e2 6 (by omega)]; exact a4
  · intro p k hp hk
    have hx : x_chg τ (6 * p + k) = x_chg σ (6 * p + k) := by unfold x_chg; rw [e1 _ (by omega)]
    rw [hx]; exact b1 p k hp hk
  · intro p hp; rw [e1 9 (by omega)]; exact b2 p hp
  · rw [e1 7 (by omega)]; exact b3
  · rw [hf.2.2]; exact hrt
  · rw [hf.2.2]; exact c1.of (by rw [e1 _ (by omega)]) (e1 _ (by omega))
  · rw [hf.2.2]
    have : x_rw S τ (σ.2.2 0) = x_rw S σ (σ.2.2 0) := by
      unfold x_rw
      rw [e1 _ (by omega : ¬ (σ.2.2 0 + 4 = 0 ∨ σ.2.2 0 + 4 = 10 ∨ σ.2.2 0 + 4 = 11 ∨ (16 ≤ σ.2.2 0 + 4 ∧ σ.2.2 0 + 4 < 32))), e2 _ (by omega : ¬ (σ.2.2 0 + 5 = 0 ∨ σ.2.2 0 + 5 = 10 ∨ σ.2.2 0 + 5 = 11 ∨ (16 ≤ σ.2.2 0 + 5 ∧ σ.2.2 0 + 5 < 32))), e1 _ (by omega : ¬ (σ.2.2 0 + 6 = 0 ∨ σ.2.2 0 + 6 = 10 ∨ σ.2.2 0 + 6 = 11 ∨ (16 ≤ σ.2.2 0 + 6 ∧ σ.2.2 0 + 6 < 32))), e1 _ (by omega : ¬ (σ.2.2 0 + 9 = 0 ∨ σ.2.2 0 + 9 = 10 ∨ σ.2.2 0 + 9 = 11 ∨ (16 ≤ σ.2.2 0 + 9 ∧ σ.2.2 0 + 9 < 32))), e2 _ (by omega : ¬ (σ.2.2 0 + 10 = 0 ∨ σ.2.2 0 + 10 = 10 ∨ σ.2.2 0 + 10 = 11 ∨ (16 ≤ σ.2.2 0 + 10 ∧ σ.2.2 0 + 10 < 32))), e1 _ (by omega : ¬ (σ.2.2 0 + 12 = 0 ∨ σ.2.2 0 + 12 = 10 ∨ σ.2.2 0 + 12 = 11 ∨ (16 ≤ σ.2.2 0 + 12 ∧ σ.2.2 0 + 12 < 32))), e2 _ (by omega : ¬ (σ.2.2 0 + 13 = 0 ∨ σ.2.2 0 + 13 = 10 ∨ σ.2.2 0 + 13 = 11 ∨ (16 ≤ σ.2.2 0 + 13 ∧ σ.2.2 0 + 13 < 32))), e1 _ (by omega : ¬ (σ.2.2 0 + 14 = 0 ∨ σ.2.2 0 + 14 = 10 ∨ σ.2.2 0 + 14 = 11 ∨ (16 ≤ σ.2.2 0 + 14 ∧ σ.2.2 0 + 14 < 32)))]
    show c_agr _ _ (x_rw S τ (σ.2.2 0)) _
    rw [this]; exact c2
  · rw [hf.2.2, e1 _ (by omega)]; exact c3
theorem RM_ot {τ : pd_H} (h : RM σ S) (hf : pu_fr (fun k => k = 230 ∨ (252 ≤ k ∧ k < 257) ∨ k = 259) σ τ) (h230 : ∀ j, j = 19 ∨ j = 21 → τ.1 230 j = σ.1 230 j) {un : List Nat} {vr : List (List Nat)} {tp : List Nat} {fl : Int32 × Int32 × Int32} {mt : Nat → Int32} (ho : m_ot τ (s_ot S un vr tp fl mt)) : RM τ (s_ot S un vr tp fl mt) := by
  have e1 : ∀ k, ¬ (k = 230 ∨ (252 ≤ k ∧ k < 257) ∨ k = 259) → τ.1 k = σ.1 k := hf.1
  have e2 : ∀ k, ¬ (k = 230 ∨ (252 ≤ k ∧ k < 257) ∨ k = 259) → τ.2.1 k = σ.2.1 k := hf.2.1
  obtain ⟨⟨a1, a2, a3⟩, ⟨b1, b2, b3⟩, ⟨⟨c1, c2⟩, c3⟩, -⟩ := h
  refine ⟨⟨?_, ?_, ?_⟩, ⟨?_, ?_, ?_⟩, ⟨⟨?_, ?_⟩, ?_⟩, ho⟩
  · rw [e1 231 (by decide), e1 232 (by decide)]; exact a1
  · rw [e1 232 (by decide)]; exact a2
  · rw [e1 235 (by decide), e2 236 (by decide)]; exact a3
  · intro p k hp hk
    have := b1 p k hp hk
    unfold m_is m_wr m_co at this ⊢
    rw [e1 238 (by decide), e1 239 (by decide), e1 240 (by decide), e1 241 (by decide), e1 242 (by decide), e1 243 (by decide)]
    exact this
  · intro p hp; rw [e1 244 (by decide)]; exact b2 p hp
  · rw [h230 19 (Or.inl rfl)]; exact b3
  · rw [h230 21 (Or.inr rfl)]; exact c1
  · rw [e1 250 (by decide), e1 237 (by decide)]; exact c2
  · have : m_R τ = m_R σ := by
      unfold m_R
      rw [e1 233 (by decide), e2 234 (by decide), e1 237 (by decide), e1 247 (by decide), e2 248 (by decide), e1 245 (by decide), e2 246 (by decide), e1 249 (by decide)]
    rw [this]; exact c3
/-! the tape -/
theorem J_wipe (h : JR σ S) : JI X_wipe M_wipe σ := by
  have hw := h.1
  obtain ⟨d1, d2, d3, d4⟩ := h.2.1.2.2.2.2
  have hS : s_wf (s_ot S (s_un S) (s_vr S) [] (s_fl S) (s_mt S)) := s_ot_wf hw hw.2.2.1.2.1 hw.2.2.1.2.2.1 hw.2.2.1.2.2.2.1 hw.2.2.1.2.2.2.2 (Nat.zero_le _) (fun b hb => by cases hb)
  have fr : pu_fr (fun k => k = 10) σ (pd_upI σ 10 2 0) := pu_fr.upI rfl
  refine JI.of (v := nI (s_tp S).length) (τ := pd_upI σ 10 2 0) h hS ?_ (RX_ot h.2.1 (fr.mono fun k hk => Or.inr (Or.inl hk)) ?_) (XF.of fr (fun k hk => by omega)) (fun g => ?_)
  · rw [X_wipe_eq, d2.1]
  · refine ⟨⟨d1.1.of (by rw [fr.1 17 (by decide)]) (fr.1 18 (by decide)), by rw [fr.1 0 (by decide)]; exact d1.2.1, fun v l hv => (d1.2.2 v l hv).of (by rw [fr.1 _ (by omega)]) (fr.1 _ (by omega))⟩, ⟨?_, fun i b hb => by cases hb⟩, ?_, ?_⟩
    · rw [pu_u1s, pk_us]; rfl
    · rw [fr.1 0 (by decide)]; exact d3
    · rw [fr.1 16 (by decide)]; exact d4
  · obtain ⟨f1, f2, f3, f4⟩ := g.2.2.2
    refine ⟨pd_upI (pd_upI σ 10 2 0) 230 39 0, ?_, RM_ot g (pu_fr.upI (Or.inl rfl)) (fun j hj => by rw [pu_u1s, pk_un (by omega)]) ?_, MF.rf.up (by omega)⟩
    · rw [M_wipe_eq, f2.1]
    · have e1 : ∀ k, k ≠ 230 → (pd_upI (pd_upI σ 10 2 0) 230 39 0).1 k = (pd_upI σ 10 2 0).1 k := fun k hk => pu_u1n hk
      refine ⟨⟨?_, ?_, ?_, ?_⟩, ⟨?_, fun i b hb => by cases hb⟩, ?_, ?_⟩
      · rw [pu_u1s, pk_un (by decide)]; exact f1.1
      · rw [e1 252 (by decide)]; exact f1.2.1
      · rw [pu_u1s, pk_un (by decide)]; exact f1.2.2.1
      · rw [e1 254 (by decide), e1 253 (by decide)]; exact f1.2.2.2
      · rw [pu_u1s, pk_us]; rfl
      · rw [e1 255 (by decide)]; exact f3
      · rw [e1 256 (by decide)]; exact f4
theorem c_push {f : Nat → Int32} {l : List Nat} {b : Nat} (h : ∀ i x, l[i]? = some x → f i = nI x) : ∀ i x, (l ++ [b])[i]? = some x → upd f l.length (nI b) i = nI x := by
  intro i x hx
  rw [List.getElem?_append] at hx
  by_cases hi : i < l.length
  · rw [if_pos hi] at hx
    rw [pk_un (by omega)]
    exact h i x hx
  · rw [if_neg hi] at hx
    rcases Nat.eq_or_lt_of_le (Nat.not_lt.mp hi) with e | e
    · subst e
      rw [Nat.sub_self] at hx
      rw [pk_us]
      cases hx; rfl
    · rw [List.getElem?_eq_none (by simp only [List.length_singleton]; omega)] at hx
      cases hx
theorem J_type (h : JR σ S) (a : Int32) : JI (X_type a) (M_type a) σ := by
  have hw := h.1
  obtain ⟨d1, d2, d3, d4⟩ := h.2.1.2.2.2.2
  have h80 := hw.2.2.2.2.1
  rcases c_pcase a (show 256 < 2 ^ 31 by decide) with ⟨b, hb, rfl⟩ | ha
  · have eb : decide (nI b ≤ 255) = true := decide_eq_true (nI_le (show b ≤ 255 by omega) (show 255 < 2 ^ 31 by decide))
    have e0 : decide (nI b < 0) = false := decide_eq_false (nI_pos (by omega))
    have eM : ∀ ρ, M_in (nI b) 0 255 ρ = some (ρ, some (pd_i 1)) := c_in_k (n := 256) (by decide) hb (by decide)
    by_cases hn : (s_tp S).length = 80
    · refine JI.same (v := -4) h ?_ (fun g => ?_)
      · rw [X_type_eq, e0, eb, d2.1, hn]; rfl
      · rw [M_type_eq, eM, pd_bI_of, g.2.2.2.2.1.1, hn]; rfl
    · have hn80 : (s_tp S).length < 80 := by omega
      have hlt : decide (nI (s_tp S).length < (80 : Int32)) = true := decide_eq_true (nI_lt hn80 (by decide))
      have hne : ¬ nI (s_tp S).length = (80 : Int32) := by
        rw [show (80 : Int32) = nI 80 from rfl, nI_eq (by omega) (by decide)]; exact hn
      have hS : s_wf (s_ot S (s_un S) (s_vr S) (s_tp S ++ [b]) (s_fl S) (s_mt S)) := s_ot_wf hw hw.2.2.1.2.1 hw.2.2.1.2.2.1 hw.2.2.1.2.2.2.1 hw.2.2.1.2.2.2.2 (by rw [List.length_append, List.length_singleton]; omega) (fun x hx => by
        rw [List.mem_append, List.mem_singleton] at hx
        rcases hx with q | q
        · exact hw.2.2.2.2.2 x q
        · omega)
      have fr : pu_fr (fun k => k = 10 ∨ k = 11) σ (pd_upI (pd_upI σ 11 (s_tp S).length (nI b)) 10 2 (nI ((s_tp S).length + 1))) := (pu_fr.upI (Or.inr rfl)).tr (pu_fr.upI (Or.inl rfl))
      refine JI.of (v := nI ((s_tp S).length + 1)) (τ := pd_upI (pd_upI σ 11 (s_tp S).length (nI b)) 10 2 (nI ((s_tp S).length + 1))) h hS ?_ (RX_ot h.2.1 (fr.mono fun k hk => by omega) ?_) (XF.of fr (fun k hk => by omega)) (fun g => ?_)
      · rw [X_type_eq, e0, eb, d2.1, hlt]
        simp only [cond_true, cond_false, show pd_len 11 = 80 from rfl, pu_obN hn80 (show 80 < 2 ^ 31 by decide), nI_clamp (show (s_tp S).length < 2 ^ 31 by omega), pu_u1n (show 10 ≠ 11 by decide), d2.1, nI_1, pu_u1s, pk_us]
      · refine ⟨⟨d1.1.of (by rw [fr.1 17 (by decide)]) (fr.1 18 (by decide)), by rw [fr.1 0 (by decide)]; exact d1.2.1, fun v l hv => (d1.2.2 v l hv).of (by rw [fr.1 _ (by omega)]) (fr.1 _ (by omega))⟩, ⟨?_, ?_⟩, ?_, ?_⟩
        · rw [pu_u1s, pk_us]
          show nI ((s_tp S).length + 1) = nI (s_tp S ++ [b]).length
          rw [List.length_append, List.length_singleton]
        · intro i x hx
          rw [pu_u1n (by decide), pu_u1s]
          exact c_push d2.2 i x hx
        · rw [fr.1 0 (by decide)]; exact d3
        · rw [fr.1 16 (by decide)]; exact d4
      · obtain ⟨f1, f2, f3, f4⟩ := g.2.2.2
        generalize pd_upI (pd_upI σ 11 (s_tp S).length (nI b)) 10 2 (nI ((s_tp S).length + 1)) = ρ at *
        have e1 : ∀ k, k ≠ 230 → k ≠ 259 → (pd_upI (pd_upI ρ 259 (s_tp S).length (nI b)) 230 39 (nI ((s_tp S).length + 1))).1 k = ρ.1 k := fun k hk hk2 => by rw [pu_u1n hk, pu_u1n hk2]
        have e2 : ∀ j, j ≠ 39 → (pd_upI (pd_upI ρ 259 (s_tp S).length (nI b)) 230 39 (nI ((s_tp S).length + 1))).1 230 j = ρ.1 230 j := fun j hj => by rw [pu_u1s, pk_un hj, pu_u1n (by decide)]
        refine ⟨pd_upI (pd_upI ρ 259 (s_tp S).length (nI b)) 230 39 (nI ((s_tp S).length + 1)), ?_, RM_ot g ((pu_fr.upI (Or.inr (Or.inr rfl))).tr (pu_fr.upI (Or.inl rfl))) (fun j hj => e2 j (by omega)) ?_, (MF.rf.up (by omega)).up (by omega)⟩
        · rw [M_type_eq, eM, pd_bI_of, f2.1, decide_eq_false hne]
          simp only [show decide ((1 : Int32) = 0) = false from rfl, cond_true, cond_false, show pd_len 259 = 80 from rfl, pu_obN hn80 (show 80 < 2 ^ 31 by decide), nI_clamp (show (s_tp S).length < 2 ^ 31 by omega), pu_u1n (show 230 ≠ 259 by decide), f2.1, nI_1, pu_u1s, pk_us]
        · refine ⟨⟨?_, ?_, ?_, ?_⟩, ⟨?_, ?_⟩, ?_, ?_⟩
          · rw [e2 25 (by decide)]; exact f1.1
          · rw [e1 252 (by decide) (by decide)]; exact f1.2.1
          · rw [e2 28 (by decide)]; exact f1.2.2.1
          · rw [e1 254 (by decide) (by decide), e1 253 (by decide) (by decide)]; exact f1.2.2.2
          · rw [pu_u1s, pk_us]
            show nI ((s_tp S).length + 1) = nI (s_tp S ++ [b]).length
            rw [List.length_append, List.length_singleton]
          · intro i x hx
            rw [pu_u1n (by decide), pu_u1s]
            exact c_push f2.2 i x hx
          · rw [e1 255 (by decide) (by decide)]; exact f3
          · rw [e1 256 (by decide) (by decide)]; exact f4
  · refine JI.same (v := -2) h ?_ (fun g => ?_)
    · rw [X_type_eq]
      rcases ha with ha | ha
      · rw [decide_eq_true ha]; rfl
      · by_cases h0 : a < 0
        · rw [decide_eq_true h0]; rfl
        · have : ¬ a ≤ 255 := fun q => by
            rw [Int32.le_iff_toInt_le] at q ha
            have e1 : (nI 256).toInt = 256 := by decide
            have e2 : (255 : Int32).toInt = 255 := by decide
            omega
          rw [decide_eq_false h0, cond_false, decide_eq_false this]; rfl
    · rw [M_type_eq, c_in_ko (n := 256) (by decide) (by decide) ha]; rfl
/-! the fault; what is met -/
theorem J_fault (h : JR σ S) (a : Int32) : JI (X_fault a) (M_fault a) σ := by
  obtain ⟨d1, d2, d3, d4⟩ := h.2.1.2.2.2.2
  have hM : ∀ (j : Nat) (ρ : pd_H), j < 3 → M_fault (nI j) ρ = some (ρ, some (pd_i (ρ.1 255 j))) := fun j ρ hj => by
    rw [M_fault_eq, c_in_k (n := 3) (by decide) hj (by decide), pd_bI_of, decide_eq_false (by decide : ¬ (1 : Int32) = 0), cond_false, show pd_len 255 = 3 from rfl, pu_obN hj (by decide), cond_false, nI_clamp (by omega)]
  rcases c_pcase a (show 3 < 2 ^ 31 by decide) with ⟨j, hj, rfl⟩ | ha
  · match j, hj with
    | 0, hj => exact JI.same (v := (s_fl S).1) h (by rw [X_fault_eq, d3.1]; rfl) (fun g => by rw [hM 0 σ hj, g.2.2.2.2.2.1.1])
    | 1, hj => exact JI.same (v := (s_fl S).2.1) h (by rw [X_fault_eq, d3.2.1]; rfl) (fun g => by rw [hM 1 σ hj, g.2.2.2.2.2.1.2.1])
    | 2, hj => exact JI.same (v := (s_fl S).2.2) h (by rw [X_fault_eq, d3.2.2]; rfl) (fun g => by rw [hM 2 σ hj, g.2.2.2.2.2.1.2.2])
  · have hne : ∀ j, j < 3 → ¬ a = nI j := fun j hj e => by
      rw [e] at ha
      rcases ha with q | q
      · exact nI_pos (by omega) q
      · rw [nI_leI (by decide) (by omega)] at q; omega
    refine JI.same (v := -2) h ?_ (fun g => ?_)
    · rw [X_fault_eq, decide_eq_false (show ¬ a = 0 from hne 0 (by decide)), decide_eq_false (show ¬ a = 1 from hne 1 (by decide)), decide_eq_false (show ¬ a = 2 from hne 2 (by decide))]; rfl
    · rw [M_fault_eq, c_in_ko (n := 3) (by decide) (by decide) ha]; rfl
theorem J_met (h : JR σ S) (a b : Int32) : JI (X_met a b) (M_met a b) σ := by
  have d4 : σ.1 16 = s_mt S := h.2.1.2.2.2.2.2.2.2
  rcases c_pcase a (show 18 < 2 ^ 31 by decide) with ⟨i, hi, rfl⟩ | ha
  · have eM : ∀ ρ, M_in (nI i) 0 17 ρ = some (ρ, some (pd_i 1)) := c_in_k (n := 18) (by decide) hi (by decide)
    rcases c_pcase b (show 6 < 2 ^ 31 by decide) with ⟨j, hj, rfl⟩ | hb
    · have eM2 : ∀ ρ, M_in (nI j) 0 5 ρ = some (ρ, some (pd_i 1)) := c_in_k (n := 6) (by decide) hj (by decide)
      refine JI.same (v := s_mt S (6 * i + j)) h ?_ (fun g => ?_)
      · rw [X_met_eq, show (18 : Int32) = nI 18 from rfl, pu_at hi (by decide), show (6 : Int32) = nI 6 from rfl, pu_at2 hj (by decide), show nI i * nI 6 + nI j = nI (6 * i + j) from c_step_nI i j, show pd_len 16 = 108 from rfl, pu_obN (show 6 * i + j < 108 by omega) (by decide), cond_false, nI_clamp (by omega), d4]
      · rw [M_met_eq, eM, pd_bI_of, decide_eq_false (by decide : ¬ (1 : Int32) = 0), cond_false, eM2, pd_bI_of, decide_eq_false (by decide : ¬ (1 : Int32) = 0), cond_false, show (6 : Int32) * nI i + nI j = nI (6 * i + j) by rw [Int32.mul_comm]; exact c_step_nI i j, show pd_len 256 = 108 from rfl, pu_obN (show 6 * i + j < 108 by omega) (by decide), cond_false, nI_clamp (by omega), g.2.2.2.2.2.2]
    · refine JI.same (v := -2) h ?_ (fun g => ?_)
      · rw [X_met_eq, show (18 : Int32) = nI 18 from rfl, pu_at hi (by decide)]
        exact pu_out2 hb _ _
      · rw [M_met_eq, eM, pd_bI_of, decide_eq_false (by decide : ¬ (1 : Int32) = 0), cond_false, c_in_ko (n := 6) (by decide) (by decide) hb]; rfl
  · refine JI.same (v := -2) h ?_ (fun g => ?_)
    · rw [X_met_eq]
      exact pu_out ha _ _
    · rw [M_met_eq, c_in_ko (n := 18) (by decide) (by decide) ha]; rfl
end CALLS6
