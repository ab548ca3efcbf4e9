/-! Digest. -/
section DIGESTJ
variable {σ : pd_H} {S : cS}
theorem q_gets (hw : s_wf S) {j : Nat} (hj : j < 6) (i : Int32) : QL S (X_numberRead (nI j) 8 i) (M_gets (nI j) 8 i 0) (s_rd S (nI j) (nI 8) i) := by
  have ha := pu_sl_j hj
  refine ⟨fun σ h => ⟨σ, X_numberRead_s hw h ha 8 i, h, XF.rf⟩, fun σ g => ?_⟩
  obtain ⟨τ, t1, t2, t3, t4⟩ := M_asks_g hw g ha (show 8 < 9 by decide) i
  have hf : c_rng (s_rdF S (nI j) (nI 8) i) := c_rdF_rng _ _ _ _ _
  refine ⟨τ, ?_, t2, MF.of t3 (fun k hk => by omega)⟩
  rw [M_gets_eq, show (8 : Int32) = nI 8 from rfl, t1, pd_bI_of, decide_eq_true (rfl : (0 : Int32) = 0), cond_true, M_gets_L21_g hf, t4]
theorem q_since (hw : s_wf S) {j i : Nat} (hj : j < 6) (hi : i < 12) (h0 : c_eltF (s_kd S) (s_sz S) (nI j) (nI i) = 0) : QI S (X_since (nI j) (nI i)) (M_sinceOf (nI (12 * j + i))) (s_since S (12 * j + i)) := by
  have ha := pu_sl_j hj
  obtain ⟨q1, q2⟩ := c_elt_0 h0
  obtain ⟨e1, e2⟩ := c_cell_ok hw.1.2.1.sz ha q2
  have hvc := c_vc_at hw.1.2.1.sz ha q1 q2
  rw [c_cell_eq hj hi] at e1 e2 hvc
  refine ⟨fun σ hX => ⟨σ, ?_, hX, XF.rf⟩, fun σ g => M_sinceOf_s hw g hvc⟩
  rw [X_since_eq, X_elementError_0 hX ha h0, pd_bI_of, decide_eq_true (rfl : (0 : Int32) = 0), cond_true, X_cellOf_s, pd_bI_of, e1, X_unc_s hw hX e2, pd_bI_of]
/-- a slot's elements -/
theorem d_cells (hw : s_wf S) {j : Nat} (hj : j < 6) (h0 : c_arrF (s_kd S) (nI j) = 0) (d1 d2 : Option pd_V) : ∀ (d i : Nat) (h : Int64), i + d = s_n S j → QE S (X_slotHashed_L55 d1 d2 (nI j) h (nI i)) (M_slotDigest_L47 d1 d2 (nI j) h (nI i)) := by
  have ha := pu_sl_j hj
  have o6 : pd_ob (nI j) 6 = false := pu_obN hj (by decide)
  obtain ⟨n1, n2⟩ := s_n_ok hw hj
  have ez : ∀ σ, RM σ S → σ.1 232 j = nI (s_n S j) := fun σ g => by rw [← (g.1.1 j hj).2 h0]; exact n1
  intro d
  induction d with
  | zero =>
    intro i h hi
    have e : decide (nI (s_n S j) ≤ nI i) = true := decide_eq_true (nI_le (show s_n S j ≤ i by omega) (by omega))
    exact QE.of h (fun σ hX => by rw [X_slotHashed_L55_eq, show pd_len 3 = 6 from rfl, o6, cond_false, nI_clamp (by omega), hX.1.2.1, n1, e, cond_true]) (fun σ hM => by rw [M_slotDigest_L47_eq, show pd_len 232 = 6 from rfl, o6, cond_false, nI_clamp (by omega), ez σ hM, e, cond_true])
  | succ d ih =>
    intro i h hi
    have hin : i < s_n S j := by omega
    have e : decide (nI (s_n S j) ≤ nI i) = false := decide_eq_false (nI_ge hin (by omega))
    have hel : c_eltF (s_kd S) (s_sz S) (nI j) (nI i) = 0 := by
      unfold c_eltF c_idxF
      rw [h0, decide_eq_true (rfl : (0 : Int32) = 0), cond_true, decide_eq_false (nI_pos (by omega)), cond_false, nI_clamp (by omega), n1, decide_eq_true (nI_lt hin (by omega)), cond_true]
    obtain ⟨q1, q2⟩ := c_elt_0 hel
    have hvc := c_vc_at hw.1.2.1.sz ha q1 q2
    have ec : c_cell (nI j) (nI i) = 12 * j + i := c_cell_eq hj (by omega)
    rw [ec] at hvc
    have e12 : (12 : Int32) * nI j + nI i = nI (12 * j + i) := by rw [show (12 : Int32) = nI 12 from rfl, pk_mul, nI_add]
    have eW : c_what S (nI j) (nI i) = (s_play S (s_or S)).2.1 (12 * j + i) := by
      unfold c_what
      rw [hel, decide_eq_true (rfl : (0 : Int32) = 0), cond_true, ec]
    have eB : c_blame S (nI j) (nI i) = (s_play S (s_or S)).2.2.2.1 (12 * j + i) := by
      unfold c_blame
      rw [hel, decide_eq_true (rfl : (0 : Int32) = 0), cond_true, ec]
    have o72 : pd_ob (nI (12 * j + i)) 72 = false := pu_obN (by omega) (by decide)
    generalize hv : s_rd S (nI j) (nI 8) (nI i) = v
    generalize ht : (s_play S (s_or S)).2.1 (12 * j + i) = t at *
    generalize hb : (s_play S (s_or S)).2.2.2.1 (12 * j + i) = b at *
    have qg := q_gets hw hj (nI i)
    rw [hv] at qg
    refine QE.seqL (fx := fun τ => pd_bI (X_since (nI j) (nI i) τ) fun s13 v14 => pd_bJ (X_hashed (31 * (31 * (31 * h + t.toInt64) + v) + b.toInt64) v14.toInt64 s13) fun s15 v16 => X_slotHashed_L55 d1 d2 (nI j) v16 (nI (i + 1)) s15) (fm := fun τ => pd_bI (M_sinceOf (nI (12 * j + i)) τ) fun s5 v6 => M_slotDigest_L47 d1 d2 (nI j) (31 * (31 * (31 * (31 * h + t.toInt64) + v) + (τ.1 237 (12 * j + i)).toInt64) + v6.toInt64) (nI (i + 1)) s5) qg ?_ (fun σ τ hX k => ?_) (fun σ τ hM k => ?_)
    · refine QE.seqI (q_since hw hj (by omega) hel) (ih (i + 1) (31 * (31 * (31 * (31 * h + t.toInt64) + v) + b.toInt64) + (s_since S (12 * j + i)).toInt64) (by omega)) (fun σ τ _ k => ?_) (fun σ τ hM k => ?_)
      · show pd_bI (X_since (nI j) (nI i) σ) _ = _
        rw [k, pd_bI_of, X_hashed_eq, pd_bJ_of]
      · obtain ⟨g1, g2, g3⟩ := m_cell hM hvc
        rw [hb] at g3
        show pd_bI (M_sinceOf (nI (12 * j + i)) σ) _ = _
        rw [k, pd_bI_of, g3]
    · have eb : X_blame (nI j) (nI i) τ = some (τ, some (pd_i b)) := by
        obtain ⟨τ', k1, k2, k3⟩ := qg.1 σ hX
        rw [k1] at k; cases k
        rw [X_blame_s hw k2 ha, eB]
      rw [X_slotHashed_L55_eq, show pd_len 3 = 6 from rfl, o6, cond_false, nI_clamp (by omega), hX.1.2.1, n1, e, cond_false, X_what_s hw hX ha, eW, pd_bI_of, X_hashed_eq, pd_bJ_of, k, pd_bJ_of, X_hashed_eq, pd_bJ_of, eb, pd_bI_of, X_hashed_eq, pd_bJ_of, ← nI_succ]
    · obtain ⟨g1, g2, g3⟩ := m_cell hM hvc
      rw [ht] at g1
      have er : M_isRow (nI j) σ = some (σ, some (pd_i 1)) := by
        rw [M_isRow_s ha, s_kdM hM ha, c_in_arr hw.1.1 ha, h0]; rfl
      rw [M_slotDigest_L47_eq, show pd_len 232 = 6 from rfl, o6, cond_false, nI_clamp (by omega), ez σ hM, e, cond_false, er, pd_bI_of, decide_eq_false (by decide : ¬ (1 : Int32) = 0), cond_false, e12, show pd_len 233 = 72 from rfl, o72, cond_false, k, pd_bJ_of, show pd_len 237 = 72 from rfl, o72, cond_false, nI_clamp (by omega), g1, ← nI_succ]
/-- a slot -/
theorem d_slot (hw : s_wf S) {j : Nat} (hj : j < 6) (h : Int64) : QE S (X_slotHashed h (nI j)) (M_slotDigest h (nI j)) := by
  have ha := pu_sl_j hj
  have o6 : pd_ob (nI j) 6 = false := pu_obN hj (by decide)
  obtain ⟨vc, qc⟩ := q_changed hw hj
  have tail : QE S (fun τ => pd_bI (Shelf_arrayFinding (nI j) τ) fun s13 v14 => cond (decide (v14 = 0)) (X_slotHashed_L55 (some (pd_j h)) none (nI j) (31 * (31 * (31 * h + (c_kind S (nI j)).toInt64) + (c_size S (nI j)).toInt64) + vc.toInt64) 0 s13) (some (s13, some (pd_j (31 * (31 * (31 * h + (c_kind S (nI j)).toInt64) + (c_size S (nI j)).toInt64) + vc.toInt64))))) (fun τ => M_slotDigest_L47 (some (pd_j h)) none (nI j) (31 * (31 * (31 * h + (c_kind S (nI j)).toInt64) + (c_size S (nI j)).toInt64) + vc.toInt64) 0 τ) := by
    generalize (31 * (31 * (31 * h + (c_kind S (nI j)).toInt64) + (c_size S (nI j)).toInt64) + vc.toInt64) = w
    by_cases h0 : c_arrF (s_kd S) (nI j) = 0
    · refine QE.congr (d_cells hw hj h0 (some (pd_j h)) none (s_n S j) 0 w (Nat.zero_add _)) (fun σ hX => ?_) (fun σ _ => rfl)
      show pd_bI (Shelf_arrayFinding (nI j) σ) _ = _
      rw [x_arrF hX ha, pd_bI_of, h0, decide_eq_true (rfl : (0 : Int32) = 0), cond_true]; rfl
    · refine QE.of w (fun σ hX => ?_) (fun σ hM => ?_)
      · show pd_bI (Shelf_arrayFinding (nI j) σ) _ = _
        rw [x_arrF hX ha, pd_bI_of, decide_eq_false h0, cond_false]
      · have er : M_isRow (nI j) σ = some (σ, some (pd_i 0)) := by
          rw [M_isRow_s ha, s_kdM hM ha, c_in_arr hw.1.1 ha, decide_eq_false h0]; rfl
        show M_slotDigest_L47 _ _ _ _ _ σ = _
        rw [M_slotDigest_L47_eq, show pd_len 232 = 6 from rfl, o6, cond_false, er, pd_bI_of, decide_eq_true (rfl : (0 : Int32) = 0), cond_true, Bool.cond_self]
  refine QE.seqI (fx := fun τ => pd_bI (X_size (nI j) τ) fun s5 v6 => pd_bJ (X_hashed (31 * h + (c_kind S (nI j)).toInt64) v6.toInt64 s5) fun s7 v8 => pd_bI (X_changed (nI j) s7) fun s9 v10 => pd_bJ (X_hashed v8 v10.toInt64 s9) fun s11 v12 => pd_bI (Shelf_arrayFinding (nI j) s11) fun s13 v14 => cond (decide (v14 = 0)) (X_slotHashed_L55 (some (pd_j h)) none (nI j) v12 0 s13) (some (s13, some (pd_j v12)))) (fm := fun τ => pd_bI (M_size (nI j) τ) fun s3 v4 => pd_bI (M_changed (nI j) s3) fun s5 v6 => M_slotDigest_L47 (some (pd_j h)) none (nI j) (31 * (31 * (31 * h + (c_kind S (nI j)).toInt64) + v4.toInt64) + v6.toInt64) 0 s5) (q_kind hj) ?_ (fun σ τ _ t => ?_) (fun σ τ _ t => ?_)
  · refine QE.seqI (fx := fun τ => pd_bI (X_changed (nI j) τ) fun s9 v10 => pd_bJ (X_hashed (31 * (31 * h + (c_kind S (nI j)).toInt64) + (c_size S (nI j)).toInt64) v10.toInt64 s9) fun s11 v12 => pd_bI (Shelf_arrayFinding (nI j) s11) fun s13 v14 => cond (decide (v14 = 0)) (X_slotHashed_L55 (some (pd_j h)) none (nI j) v12 0 s13) (some (s13, some (pd_j v12)))) (fm := fun τ => pd_bI (M_changed (nI j) τ) fun s5 v6 => M_slotDigest_L47 (some (pd_j h)) none (nI j) (31 * (31 * (31 * h + (c_kind S (nI j)).toInt64) + (c_size S (nI j)).toInt64) + v6.toInt64) 0 s5) (q_size hw hj) ?_ (fun σ τ _ t => ?_) (fun σ τ _ t => ?_)
    · refine QE.seqI qc tail (fun σ τ _ t => ?_) (fun σ τ _ t => ?_)
      · show pd_bI (X_changed (nI j) σ) _ = _
        rw [t, pd_bI_of, X_hashed_eq, pd_bJ_of]
      · show pd_bI (M_changed (nI j) σ) _ = _
        rw [t, pd_bI_of]
    · show pd_bI (X_size (nI j) σ) _ = _
      rw [t, pd_bI_of, X_hashed_eq, pd_bJ_of]
    · show pd_bI (M_size (nI j) σ) _ = _
      rw [t, pd_bI_of]
  · rw [X_slotHashed_eq, t, pd_bI_of, X_hashed_eq, pd_bJ_of]
  · rw [M_slotDigest_eq, t, pd_bI_of]
theorem d_slots (hw : s_wf S) : ∀ (d j : Nat) (h : Int64), j + d = 6 → QE S (X_digest_L31 h (nI j)) (M_digest_L33 h (nI j)) := by
  intro d
  induction d with
  | zero =>
    intro j h hj
    have hj : j = 6 := by omega
    subst hj
    exact QE.congr (d_patches hw (s_or S) [] h rfl) (fun σ _ => by rw [X_digest_L31_eq]; rfl) (fun σ _ => by rw [M_digest_L33_eq]; rfl)
  | succ d ih =>
    intro j h hj
    have e : decide ((6 : Int32) ≤ nI j) = false := decide_eq_false (nI_ge (show j < 6 by omega) (by decide))
    obtain ⟨v, q⟩ := d_slot hw (show j < 6 by omega) h
    refine QE.seqL q (ih (j + 1) v (by omega)) (fun σ τ _ t => ?_) (fun σ τ _ t => ?_)
    · rw [X_digest_L31_eq, e, cond_false, t, pd_bJ_of, ← nI_succ]
    · rw [M_digest_L33_eq, e, cond_false, t, pd_bJ_of, ← nI_succ]
theorem d_counts (hw : s_wf S) : ∀ (d k : Nat) (h : Int64), k + d = 9 → QE S (X_digest_L6 h (nI k)) (M_digest_L6 h (nI k)) := by
  intro d
  induction d with
  | zero =>
    intro k h hk
    have hk : k = 9 := by omega
    subst hk
    exact QE.congr (d_slots hw 6 0 h rfl) (fun σ _ => by rw [X_digest_L6_eq]; rfl) (fun σ _ => by rw [M_digest_L6_eq]; rfl)
  | succ d ih =>
    intro k h hk
    have e : decide ((8 : Int32) < nI k) = false := decide_eq_false (nI_nlt (show k ≤ 8 by omega) (by decide))
    have e' : decide ((9 : Int32) ≤ nI k) = false := decide_eq_false (nI_ge (show k < 9 by omega) (by decide))
    obtain ⟨v, q⟩ := q_count hw (show k < 9 by omega)
    refine QE.seqI q (ih (k + 1) (31 * h + v.toInt64) (by omega)) (fun σ τ _ t => ?_) (fun σ τ _ t => ?_)
    · rw [X_digest_L6_eq, e, cond_false, t, pd_bI_of, X_hashed_eq, pd_bJ_of, ← nI_succ]
    · rw [M_digest_L6_eq, e', cond_false, t, pd_bI_of, ← nI_succ]
theorem J_digest (h : JR σ S) : JL X_digest M_digest σ := by
  obtain ⟨v, q1, q2⟩ : QE S X_digest M_digest := QE.congr (d_counts h.1 9 0 17 rfl) (fun σ _ => X_digest_eq σ) (fun σ _ => M_digest_eq σ)
  obtain ⟨τ, t1, t2, t3⟩ := q1 σ h.2.1
  exact JL.of h h.1 t1 t2 t3 (fun g => q2 τ g)
end DIGESTJ
