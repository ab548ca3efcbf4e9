/-! Since, both. -/
theorem c_lst_congr {chg chg' : Nat → cC} {cell p : Nat} : ∀ {k : Nat}, (∀ j, j < k → chg (6 * p + j) = chg' (6 * p + j)) → c_lst chg cell p k = c_lst chg' cell p k := by
  intro k
  induction k with
  | zero => intro _; rfl
  | succ k ih =>
    intro h
    unfold c_lst
    rw [h k (Nat.lt_succ_self k), ih (fun j hj => h j (by omega))]
theorem c_unc_congr {chg chg' : Nat → cC} {len : Nat → Nat} {R T : cR} {cell : Nat} (h1 : R.1 cell = T.1 cell) (h2 : R.2.1 cell = T.2.1 cell) : ∀ {m : List Nat} {n : Nat} {ty : Int32} {nu : Int64} {s : Int32}, (∀ p ∈ m, (∀ j, j < len p → chg (6 * p + j) = chg' (6 * p + j)) ∧ (c_lst chg' cell p (len p) ≠ 150 → R.2.2.2.2.2.1 (c_lst chg' cell p (len p)) = T.2.2.2.2.2.1 (c_lst chg' cell p (len p)) ∧ R.2.2.2.2.2.2.1 (c_lst chg' cell p (len p)) = T.2.2.2.2.2.2.1 (c_lst chg' cell p (len p)))) → c_unc chg len R cell m n ty nu s = c_unc chg' len T cell m n ty nu s := by
  intro m
  induction m with
  | nil => intro n ty nu s _; rfl
  | cons p m ih =>
    intro n ty nu s h
    obtain ⟨g1, g2⟩ := h p List.mem_cons_self
    have hr := fun q hq => h q (List.mem_cons_of_mem _ hq)
    unfold c_unc
    rw [c_lst_congr g1]
    by_cases e : c_lst chg' cell p (len p) = 150
    · rw [e, Nat.beq_refl, cond_true, cond_true, h1, h2]
      exact ih hr
    · obtain ⟨g3, g4⟩ := g2 e
      rw [c_beq_f e, cond_false, cond_false, h1, h2, g3, g4]
      exact ih hr
section SINCE2
variable {σ : pd_H} {S : cS}
theorem X_unc_s (hw : s_wf S) (h : RX σ S) {cell : Nat} (hc : cell < 72) : Run_unchangedAfter (σ.2.2 0) (nI cell) σ = some (σ, some (pd_i (s_since S cell))) := by
  obtain ⟨g1, g2, g3⟩ := x_cell h hc
  rw [Run_unchangedAfter_s (x_run3 h) h.2.1.2.1 h.2.2.2.1.1 (s_or25 hw) hc]
  refine congrArg (fun v => some (σ, some (pd_i v))) ?_
  have e5 : σ.1 5 cell = (s_play S ((s_or S).take 0)).2.1 cell := by rw [h.1.2.2.1]; rfl
  have e6 : σ.2.1 6 cell = (s_play S ((s_or S).take 0)).2.2.1 cell := by rw [h.1.2.2.2]; rfl
  rw [g1, g2, e5, e6]
  have ec := c_unc_congr (chg := x_chg σ) (chg' := s_ch S) (len := s_ln S) (R := x_rows σ (σ.2.2 0)) (T := (s_play S (s_or S)).2) (cell := cell) g1 g2 (m := s_or S) (n := 0) (ty := (s_play S ((s_or S).take 0)).2.1 cell) (nu := (s_play S ((s_or S).take 0)).2.2.1 cell) (s := cond (s_eq S cell 0) 0 1) (fun p hp => ⟨fun j hj => h.2.1.1 p j (Or.inl (hw.2.2.1.1.2 p hp)) hj, fun hne => by
    have hlt := c_lst_lt hne
    have hge : 6 * p ≤ c_lst (s_ch S) cell p (s_ln S p) := by
      have : ∀ k, c_lst (s_ch S) cell p k ≠ 150 → 6 * p ≤ c_lst (s_ch S) cell p k := by
        intro k
        induction k with
        | zero => intro h; exact absurd rfl h
        | succ k ih =>
          intro h
          unfold c_lst at h ⊢
          cases hd : decide ((s_ch S (6 * p + k)).2.2.2.1 * 12 + (s_ch S (6 * p + k)).2.2.2.2.1 = nI cell) with
          | true => rw [cond_true]; omega
          | false => rw [hd, cond_false] at h; rw [cond_false]; exact ih h
      exact this _ hne
    obtain ⟨j, hj⟩ : ∃ j, c_lst (s_ch S) cell p (s_ln S p) = 6 * p + j := ⟨_, (Nat.add_sub_cancel' hge).symm⟩
    have hL : c_lst (s_ch S) cell p (s_ln S p) ∈ c_line (s_ln S) (s_or S) := by
      rw [hj]; exact c_line_in hp (by omega)
    have := h.2.2.2.1.2.1.2 _ hL
    exact ⟨this.2.2.1, this.2.2.2.1⟩⟩)
  refine ec.trans ?_
  rw [s_unc hw hc (s_or S) 0 _ (Nat.zero_add _) (fun t x hx => by rw [Nat.zero_add]; exact hx)]
  have e0 : cond (s_eq S cell 0) (0 : Int32) 1 = nI (c_dw (s_eq S cell) 1) := by
    show _ = nI (cond (s_eq S cell 0) 0 1)
    cases s_eq S cell 0 <;> rfl
  rw [e0, c_up_dw, Nat.zero_add, c_dw_full]
  rfl
theorem m_ls_take {f : Nat → Int32} {l : List Nat} (h : m_ls f l) (k : Nat) : m_ls f (l.take k) := fun i x hx => by
  rw [List.getElem?_take] at hx
  split at hx
  · exact h i x hx
  · cases hx
theorem M_sinceOf_s (hw : s_wf S) (h : RM σ S) {cell : Nat} (hvc : c_vc (s_kd S) (s_sz S) cell) : ∃ τ, M_sinceOf (nI cell) σ = some (τ, some (pd_i (s_since S cell))) ∧ RM τ S ∧ MF σ τ := by
  have hc := c_vc_72 hvc
  have h24 := s_or24 hw
  obtain ⟨g1, g2, g3⟩ := m_cell h hvc
  have o := pu_obN hc (show 72 < 2 ^ 31 by decide)
  have done : ∀ (ρ : pd_H) (v : Int32), RM0 ρ S → MF σ ρ → ∃ τ, (pd_bV (M_playsLaid ρ) fun s1 => some (s1, some (pd_i v))) = some (τ, some (pd_i v)) ∧ RM τ S ∧ MF σ τ := fun ρ v hρ mf => by
    obtain ⟨ω, w1, w2, w3, -⟩ := M_playsLaid_s hw hρ
    exact ⟨ω, by rw [w1, pd_bV_of], w2, mf.tr (MF.of w3 m_trK_in)⟩
  have loop : ∀ (k : Nat) (ρ : pd_H), k ≤ (s_or S).length → RM0 ρ S → MF σ ρ → ∃ τ, M_sinceOf_L31 (nI cell) ((s_play S (s_or S)).2.1 cell) ((s_play S (s_or S)).2.2.1 cell) (nI k) 1 (nI k - 1) ρ = some (τ, some (pd_i (nI (c_dw (s_eq S cell) k)))) ∧ RM τ S ∧ MF σ τ := by
    intro k
    induction k with
    | zero =>
      intro ρ _ hρ mf
      rw [M_sinceOf_L31_eq, decide_eq_true (by decide : nI 0 - 1 < 0), cond_true]
      exact done ρ _ hρ mf
    | succ k ih =>
      intro ρ hk hρ mf
      have hk24 : k < 24 := by omega
      obtain ⟨α, a1, a2, a3, a4, a5⟩ := M_triesLaid_s hρ.2.2.1.1 hρ.2.2.1.2 h24
      have fa : pu_fr m_trK ρ α := a4.mono (fun j hj => by unfold m_trK m_doK m_mvK; omega)
      have hα : RM0 α S := hρ.fr fa (fun j hj => a5 j (by omega)) (a4.1 256 (by decide))
      have ho : s_ord S ((s_or S).take k) := ⟨hw.2.2.1.1.1.sublist (List.take_sublist _ _), fun p hp => hw.2.2.1.1.2 p (List.mem_of_mem_take hp)⟩
      have hlen : ((s_or S).take k).length = k := by rw [List.length_take]; omega
      obtain ⟨υ, t1, t2, t3, t4, -⟩ := m_play hw hα.1 hα.2.1 ho (by omega) (m_ls_take a3 k)
      obtain ⟨u1, u2⟩ := t4 (s_take_ok hw k)
      rw [hlen] at u1
      have fu : pu_fr m_trK α υ := t1.mono (fun j hj => Or.inl hj)
      have hυ : RM0 υ S := hα.fr fu (fun j hj => t2 j (by omega) (by omega) (by omega)) t3
      have mf2 : MF σ υ := (mf.tr (MF.of fa m_trK_in)).tr (MF.of fu m_trK_in)
      obtain ⟨v1, v2, -⟩ := u2.1.1 _ hvc
      have v1 : υ.1 233 cell = (s_play S ((s_or S).take k)).2.1 cell := v1
      have v2 : υ.2.1 234 cell = (s_play S ((s_or S).take k)).2.2.1 cell := v2
      have hm1 : nI k + -1 = nI k - 1 := by rw [Int32.sub_eq_add_neg]
      have x1 : M_sinceOf_L78 (nI cell) ((s_play S (s_or S)).2.1 cell) ((s_play S (s_or S)).2.2.1 cell) (nI (k + 1)) (some (pd_i 1)) (nI k) 1 υ = M_sinceOf_L31 (nI cell) ((s_play S (s_or S)).2.1 cell) ((s_play S (s_or S)).2.2.1 cell) (nI k) 1 (nI k - 1) υ := by
        rw [M_sinceOf_L78_eq, decide_eq_false (by decide : ¬ (1 : Int32) = 0), cond_false, hm1]
      have x0 : ∃ τ, M_sinceOf_L78 (nI cell) ((s_play S (s_or S)).2.1 cell) ((s_play S (s_or S)).2.2.1 cell) (nI (k + 1)) (some (pd_i 1)) (nI k) 0 υ = some (τ, some (pd_i (nI (k + 1)))) ∧ RM τ S ∧ MF σ τ := by
        rw [M_sinceOf_L78_eq, decide_eq_true (rfl : (0 : Int32) = 0), cond_true, M_sinceOf_L31_eq, decide_eq_true (rfl : (0 : Int32) = 0), cond_true, Bool.cond_self]
        exact done υ _ hυ mf2
      obtain ⟨τ, y1, y2⟩ := ih υ (by omega) hυ mf2
      rw [nI_pred, M_sinceOf_L31_eq, decide_eq_false (nI_pos (by omega)), cond_false, decide_eq_false (by decide : ¬ (1 : Int32) = 0), cond_false, a1, pd_bV_of, u1, pd_bI_of, show pd_len 233 = 72 from rfl, show pd_len 234 = 72 from rfl, o, cond_false, cond_false, nI_clamp (by omega), v1, v2, pu_cmp0, x1, y1]
      show ∃ τ, _ = some (τ, some (pd_i (nI (cond (s_eq S cell k) (c_dw (s_eq S cell) k) (k + 1))))) ∧ _
      have es : s_eq S cell k = (decide ((s_play S ((s_or S).take k)).2.1 cell = (s_play S (s_or S)).2.1 cell) && decide ((s_play S ((s_or S).take k)).2.2.1 cell = (s_play S (s_or S)).2.2.1 cell)) := by
        unfold s_eq
        rw [decide_eq_decide.mpr (eq_comm (a := (s_play S (s_or S)).2.1 cell)), decide_eq_decide.mpr (eq_comm (a := (s_play S (s_or S)).2.2.1 cell))]
      rw [es]
      cases decide ((s_play S ((s_or S).take k)).2.1 cell = (s_play S (s_or S)).2.1 cell) with
      | false => exact x0
      | true =>
        cases decide ((s_play S ((s_or S).take k)).2.2.1 cell = (s_play S (s_or S)).2.2.1 cell) with
        | false => exact x0
        | true => exact ⟨τ, rfl, y2⟩
  obtain ⟨τ, t1, t2⟩ := loop (s_or S).length σ (Nat.le_refl _) h.z MF.rf
  refine ⟨τ, ?_, t2⟩
  rw [M_sinceOf_eq, show pd_len 233 = 72 from rfl, show pd_len 234 = 72 from rfl, o, cond_false, cond_false, nI_clamp (by omega), g1, g2, h.2.2.1.1.1]
  exact t1
theorem J_since (h : JR σ S) (a i : Int32) : JI (X_since a i) (M_since a i) σ := by
  have hw := h.1
  have hX := h.2.1
  rcases c_slv_cases a with ⟨ha, e⟩ | ⟨e, -⟩
  · by_cases h0 : c_eltF (s_kd S) (s_sz S) a i = 0
    · obtain ⟨q1, q2⟩ := c_elt_0 h0
      obtain ⟨e1, e2⟩ := c_cell_ok hw.1.2.1.sz ha q2
      have hvc := c_vc_at hw.1.2.1.sz ha q1 q2
      refine JI.of (v := s_since S (c_cell a i)) h hw ?_ hX XF.rf (fun g => ?_)
      · rw [X_since_eq, X_elementError_0 hX ha h0, pd_bI_of, decide_eq_true (rfl : (0 : Int32) = 0), cond_true, X_cellOf_s, pd_bI_of, e1, X_unc_s hw hX e2, pd_bI_of]
      · obtain ⟨τ, t1, t2, t3⟩ := M_sinceOf_s hw g hvc
        refine ⟨τ, ?_, t2, t3⟩
        rw [M_since_eq, M_slot, e, pd_bI_of, decide_eq_false (by decide : ¬ (1 : Int32) = 0), cond_false, m_eltF hw g ha, pd_bI_of, h0, decide_eq_true (by decide : (0 : Int32) ≤ 0), cond_true, m_cell_comm, e1, t1, pd_bI_of]
    · refine JI.same (v := -10 - c_eltF (s_kd S) (s_sz S) a i) h ?_ (fun g => ?_)
      · rw [X_since_eq, X_elementError_1 hX ha h0, pd_bI_of, decide_eq_false (c_elt_ne h0), cond_false]
      · rw [M_since_eq, M_slot, e, pd_bI_of, decide_eq_false (by decide : ¬ (1 : Int32) = 0), cond_false, m_eltF hw g ha, pd_bI_of, c_rng_le (c_eltF_rng _ _ _ _), decide_eq_false h0, cond_false, m_eltF hw g ha, pd_bI_of, M_refused_s, pd_bI_of]
  · exact JI.same (v := -2) h (by rw [X_since_eq, X_elementError_n e]; rfl) (fun g => by rw [M_since_eq, M_slot, e]; rfl)
end SINCE2
