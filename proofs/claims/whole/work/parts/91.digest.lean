/-! Digest: what is asked, with one value for both. -/
section DIGEST
variable {S : cS}
def QI (S : cS) (x m : pd_H → Option pd_R) (v : Int32) : Prop := (∀ σ, RX σ S → ∃ τ, x σ = some (τ, some (pd_i v)) ∧ RX τ S ∧ XF σ τ) ∧ ∀ σ, RM σ S → ∃ τ, m σ = some (τ, some (pd_i v)) ∧ RM τ S ∧ MF σ τ
def QL (S : cS) (x m : pd_H → Option pd_R) (v : Int64) : Prop := (∀ σ, RX σ S → ∃ τ, x σ = some (τ, some (pd_j v)) ∧ RX τ S ∧ XF σ τ) ∧ ∀ σ, RM σ S → ∃ τ, m σ = some (τ, some (pd_j v)) ∧ RM τ S ∧ MF σ τ
def QE (S : cS) (x m : pd_H → Option pd_R) : Prop := ∃ v, QL S x m v
theorem QE.seqI {x m fx fm Fx Fm : pd_H → Option pd_R} {v : Int32} (q : QI S x m v) (e : QE S fx fm) (hx : ∀ σ τ, RX σ S → x σ = some (τ, some (pd_i v)) → Fx σ = fx τ) (hm : ∀ σ τ, RM σ S → m σ = some (τ, some (pd_i v)) → Fm σ = fm τ) : QE S Fx Fm := by
  obtain ⟨w, e1, e2⟩ := e
  refine ⟨w, fun σ h => ?_, fun σ h => ?_⟩
  · obtain ⟨τ, t1, t2, t3⟩ := q.1 σ h
    obtain ⟨υ, u1, u2, u3⟩ := e1 τ t2
    exact ⟨υ, (hx σ τ h t1).trans u1, u2, t3.tr u3⟩
  · obtain ⟨τ, t1, t2, t3⟩ := q.2 σ h
    obtain ⟨υ, u1, u2, u3⟩ := e2 τ t2
    exact ⟨υ, (hm σ τ h t1).trans u1, u2, t3.tr u3⟩
theorem QE.seqL {x m fx fm Fx Fm : pd_H → Option pd_R} {v : Int64} (q : QL S x m v) (e : QE S fx fm) (hx : ∀ σ τ, RX σ S → x σ = some (τ, some (pd_j v)) → Fx σ = fx τ) (hm : ∀ σ τ, RM σ S → m σ = some (τ, some (pd_j v)) → Fm σ = fm τ) : QE S Fx Fm := by
  obtain ⟨w, e1, e2⟩ := e
  refine ⟨w, fun σ h => ?_, fun σ h => ?_⟩
  · obtain ⟨τ, t1, t2, t3⟩ := q.1 σ h
    obtain ⟨υ, u1, u2, u3⟩ := e1 τ t2
    exact ⟨υ, (hx σ τ h t1).trans u1, u2, t3.tr u3⟩
  · obtain ⟨τ, t1, t2, t3⟩ := q.2 σ h
    obtain ⟨υ, u1, u2, u3⟩ := e2 τ t2
    exact ⟨υ, (hm σ τ h t1).trans u1, u2, t3.tr u3⟩
theorem QE.congr {fx fm Fx Fm : pd_H → Option pd_R} (e : QE S fx fm) (hx : ∀ σ, RX σ S → Fx σ = fx σ) (hm : ∀ σ, RM σ S → Fm σ = fm σ) : QE S Fx Fm := by
  obtain ⟨w, e1, e2⟩ := e
  exact ⟨w, fun σ h => by rw [hx σ h]; exact e1 σ h, fun σ h => by rw [hm σ h]; exact e2 σ h⟩
theorem QE.of {Fx Fm : pd_H → Option pd_R} (v : Int64) (hx : ∀ σ, RX σ S → Fx σ = some (σ, some (pd_j v))) (hm : ∀ σ, RM σ S → Fm σ = some (σ, some (pd_j v))) : QE S Fx Fm := ⟨v, fun σ h => ⟨σ, hx σ h, h, XF.rf⟩, fun σ h => ⟨σ, hm σ h, h, MF.rf⟩⟩
theorem QI.of {x m : pd_H → Option pd_R} {v : Int32} (hx : ∀ σ, RX σ S → x σ = some (σ, some (pd_i v))) (hm : ∀ σ, RM σ S → m σ = some (σ, some (pd_i v))) : QI S x m v := ⟨fun σ h => ⟨σ, hx σ h, h, XF.rf⟩, fun σ h => ⟨σ, hm σ h, h, MF.rf⟩⟩
theorem q_count (hw : s_wf S) {k : Nat} (hk : k < 9) : ∃ v, QI S (X_count (nI k)) (M_count (nI k)) v := by
  have h24 := s_or24 hw
  match k, hk with
  | 0, _ => exact ⟨nI (s_pc S), QI.of (fun σ h => (X_count_eq _ σ).trans (by show some (σ, some (pd_i (σ.1 7 2))) = _; rw [h.2.1.2.2])) (fun σ h => (M_count_eq _ σ).trans (by show some (σ, some (pd_i (σ.1 230 19))) = _; rw [h.2.1.2.2]))⟩
  | 1, _ => exact ⟨nI (s_or S).length, QI.of (fun σ h => (X_count_eq _ σ).trans (by show some (σ, some (pd_i (σ.1 ((σ.2.2 0) + 1) 1))) = _; rw [h.2.2.2.1.1.1])) (fun σ h => (M_count_eq _ σ).trans (by show some (σ, some (pd_i (σ.1 230 21))) = _; rw [h.2.2.1.1.1]))⟩
  | 2, _ => exact ⟨nI (s_ln S 24), QI.of (fun σ h => (X_count_eq _ σ).trans (by show some (σ, some (pd_i (σ.1 9 24))) = _; rw [x_len24 h])) (fun σ h => (M_count_eq _ σ).trans (by show some (σ, some (pd_i (σ.1 244 24))) = _; rw [m_len24 h]))⟩
  | 3, _ => exact ⟨nI (s_un S).length, QI.of (fun σ h => (X_count_eq _ σ).trans (by show some (σ, some (pd_i (σ.1 17 1))) = _; rw [h.2.2.2.2.1.1.1])) (fun σ h => (M_count_eq _ σ).trans (by show some (σ, some (pd_i (σ.1 230 25))) = _; rw [h.2.2.2.1.1]))⟩
  | 4, _ => exact ⟨nI (s_vr S).length, QI.of (fun σ h => (X_count_eq _ σ).trans (by show some (σ, some (pd_i (σ.1 0 7))) = _; rw [h.2.2.2.2.1.2.1])) (fun σ h => (M_count_eq _ σ).trans (by show some (σ, some (pd_i (σ.1 230 28))) = _; rw [h.2.2.2.1.2.2.1]))⟩
  | 5, _ => exact ⟨s_all S 6 0 0, QI.of (fun σ h => (X_count_eq _ σ).trans (by show (pd_bI (X_allDifferences ((σ.2.2 0) + 3) 4 σ) fun s5 v6 => some (s5, some (pd_i v6))) = _; rw [X_all_s hw h, pd_bI_of])) (fun σ h => (M_count_eq _ σ).trans (by show (pd_bI (M_changedNow σ) fun s5 v6 => some (s5, some (pd_i v6))) = _; rw [M_all_s hw h, pd_bI_of]))⟩
  | 6, _ =>
    refine ⟨nI (c_line (s_ln S) (s_or S)).length, fun σ h => ⟨σ, (X_count_eq _ σ).trans (by show (pd_bI (X_appliedChanges σ) fun s3 v4 => some (s3, some (pd_i v4))) = _; rw [X_applied_n hw h, pd_bI_of]), h, XF.rf⟩, fun σ g => ?_⟩
    obtain ⟨τ, t1, t2, t3⟩ := M_findsLine_s g.2.1.2.1 g.2.2.1.1.1 g.2.2.1.1.2.1 h24 (s_or25 hw)
    exact ⟨τ, (M_count_eq _ σ).trans (by show (pd_bI (M_changesLaid σ) fun s3 v4 => some (s3, some (pd_i v4))) = _; rw [M_changesLaid_eq, t1, pd_bV_of, pd_bI_of, t2.1]), g.dd t3, t3.mf⟩
  | 7, _ =>
    refine ⟨nI (c_dn (s_ch S) (c_line (s_ln S) (s_or S))), fun σ h => ⟨σ, (X_count_eq _ σ).trans (by show (pd_bI (X_deadChanges σ) fun s1 v2 => some (s1, some (pd_i v2))) = _; rw [X_dead_n hw h, pd_bI_of]), h, XF.rf⟩, fun σ g => ?_⟩
    obtain ⟨τ, t1, t2, -, -⟩ := M_deadNow_s hw g
    exact ⟨τ, (M_count_eq _ σ).trans (by show (pd_bI (M_deadNow σ) fun s1 v2 => some (s1, some (pd_i v2))) = _; rw [t1, pd_bI_of]), g.dd t2, t2.mf⟩
  | 8, _ =>
    have eX : ∀ σ, X_count (nI 8) σ = cond (decide ((σ.1 ((σ.2.2 0) + 1) 1) = 0)) (some (σ, some (pd_i (-1)))) (cond (pd_ob ((σ.1 ((σ.2.2 0) + 1) 1) - 1) (pd_len (((σ.2.2 0) + 1) + 1))) none (some (σ, some (pd_i (σ.1 (((σ.2.2 0) + 1) + 1) (Int32.toNatClampNeg ((σ.1 ((σ.2.2 0) + 1) 1) - 1))))))) := fun σ => X_count_eq _ σ
    have eM : ∀ σ, M_count (nI 8) σ = cond (decide ((σ.1 230 21) = 0)) (some (σ, some (pd_i (-1)))) (cond (pd_ob ((σ.1 230 21) - 1) (pd_len 250)) none (some (σ, some (pd_i (σ.1 250 (Int32.toNatClampNeg ((σ.1 230 21) - 1))))))) := fun σ => M_count_eq _ σ
    cases hk : (s_or S).length with
    | zero => exact ⟨-1, QI.of (fun σ h => by rw [eX, h.2.2.2.1.1.1, hk]; rfl) (fun σ h => by rw [eM, h.2.2.1.1.1, hk]; rfl)⟩
    | succ k =>
      obtain ⟨m, p, e1, e2, e3, e4⟩ := c_snoc hk
      have hne : ¬ nI (k + 1) = 0 := by
        rw [show (0 : Int32) = nI 0 from rfl, nI_eq (by omega) (by omega)]; omega
      exact ⟨nI p, QI.of (fun σ h => by rw [eX, h.2.2.2.1.1.1, hk, decide_eq_false hne, cond_false, nI_pred, (x_trl h).2.1, pu_obN (show k < 24 by omega) (by decide), cond_false, nI_clamp (by omega), show σ.1 (σ.2.2 0 + 1 + 1) k = nI p from h.2.2.2.1.1.2.2 k p e3]) (fun σ g => by rw [eM, g.2.2.1.1.1, hk, decide_eq_false hne, cond_false, nI_pred, show pd_len 250 = 24 from rfl, pu_obN (show k < 24 by omega) (by decide), cond_false, nI_clamp (by omega), g.2.2.1.1.2.1 k p e3])⟩
theorem q_kind {j : Nat} (hj : j < 6) : QI S (X_kind (nI j)) (M_kind (nI j)) (c_kind S (nI j)) := QI.of (fun σ h => X_kind_s h (pu_sl_j hj)) (fun σ h => M_kind_s h (pu_sl_j hj))
theorem q_size (hw : s_wf S) {j : Nat} (hj : j < 6) : QI S (X_size (nI j)) (M_size (nI j)) (c_size S (nI j)) := QI.of (fun σ h => X_size_s h (pu_sl_j hj)) (fun σ h => M_size_s hw h (pu_sl_j hj))
theorem q_changed (hw : s_wf S) {j : Nat} (hj : j < 6) : ∃ v, QI S (X_changed (nI j)) (M_changed (nI j)) v := by
  have ha := pu_sl_j hj
  rcases c_slv_cases (nI j) with ⟨-, e⟩ | ⟨-, e⟩
  · obtain ⟨n1, n2⟩ := s_n_ok hw hj
    by_cases h0 : c_arrF (s_kd S) (nI j) = 0
    · exact ⟨s_df S j (s_n S j), QI.of (fun σ h => by rw [X_changed_eq, X_slot, e, pd_bI_of, decide_eq_false (by decide : ¬ (1 : Int32) = 0), cond_false, x_arrF h ha, pd_bI_of, h0, decide_eq_true (rfl : (0 : Int32) = 0), cond_true, X_df_s h hj n2 n1, pd_bI_of]) (fun σ g => by rw [M_changed_eq, M_slot, e, pd_bI_of, decide_eq_false (by decide : ¬ (1 : Int32) = 0), cond_false, m_arrF hw g ha, pd_bI_of, h0, decide_eq_true (by decide : (0 : Int32) ≤ 0), cond_true, M_df_s g hj n2 h0 n1, pd_bI_of])⟩
    · exact ⟨-10 - c_arrF (s_kd S) (nI j), QI.of (fun σ h => by rw [X_changed_eq, X_slot, e, pd_bI_of, decide_eq_false (by decide : ¬ (1 : Int32) = 0), cond_false, x_arrF h ha, pd_bI_of, decide_eq_false h0, cond_false, X_findingCode_s, pd_bI_of]) (fun σ g => by rw [M_changed_eq, M_slot, e, pd_bI_of, decide_eq_false (by decide : ¬ (1 : Int32) = 0), cond_false, m_arrF hw g ha, pd_bI_of, c_arr_le, decide_eq_false h0, cond_false, m_arrF hw g ha, pd_bI_of, M_refused_s, pd_bI_of])⟩
  · exact absurd ha e
/-- the tally -/
theorem d_met : ∀ (d k : Nat) (h : Int64), k + d = 108 → QE S (X_digest_L159 h (nI k)) (M_digest_L153 h (nI k)) := by
  intro d
  induction d with
  | zero =>
    intro k h hk
    have e : decide ((108 : Int32) ≤ nI k) = true := decide_eq_true (nI_le (show 108 ≤ k by omega) (by omega))
    exact QE.of h (fun σ _ => by rw [X_digest_L159_eq, e, cond_true]) (fun σ _ => by rw [M_digest_L153_eq, e, cond_true])
  | succ d ih =>
    intro k h hk
    have e : decide ((108 : Int32) ≤ nI k) = false := decide_eq_false (nI_ge (show k < 108 by omega) (by decide))
    refine QE.congr (ih (k + 1) (31 * h + (s_mt S k).toInt64) (by omega)) (fun σ hX => ?_) (fun σ hM => ?_)
    · rw [X_digest_L159_eq, e, cond_false, show pd_len 16 = 108 from rfl, pu_obN (show k < 108 by omega) (by decide), cond_false, nI_clamp (by omega), X_hashed_eq, pd_bJ_of, ← nI_succ, show σ.1 16 = s_mt S from hX.2.2.2.2.2.2.2]
    · rw [M_digest_L153_eq, e, cond_false, show pd_len 256 = 108 from rfl, pu_obN (show k < 108 by omega) (by decide), cond_false, nI_clamp (by omega), ← nI_succ, show σ.1 256 = s_mt S from hM.2.2.2.2.2.2]
def s_fk (S : cS) (k : Nat) : Int32 := cond (Nat.beq k 0) (s_fl S).1 (cond (Nat.beq k 1) (s_fl S).2.1 (s_fl S).2.2)
/-- the fault -/
theorem d_fault : ∀ (d k : Nat) (h : Int64), k + d = 3 → QE S (X_digest_L135 h (nI k)) (M_digest_L126 h (nI k)) := by
  intro d
  induction d with
  | zero =>
    intro k h hk
    have hk : k = 3 := by omega
    subst hk
    exact QE.congr (d_met 108 0 h rfl) (fun σ _ => by rw [X_digest_L135_eq]; rfl) (fun σ _ => by rw [M_digest_L126_eq]; rfl)
  | succ d ih =>
    intro k h hk
    have e : decide ((3 : Int32) ≤ nI k) = false := decide_eq_false (nI_ge (show k < 3 by omega) (by decide))
    have e' : decide ((2 : Int32) < nI k) = false := decide_eq_false (nI_nlt (show k ≤ 2 by omega) (by decide))
    refine QE.congr (ih (k + 1) (31 * h + (s_fk S k).toInt64) (by omega)) (fun σ hX => ?_) (fun σ hM => ?_)
    · obtain ⟨d1, d2, d3, d4⟩ := hX.2.2.2.2
      have ef : X_fault (nI k) σ = some (σ, some (pd_i (s_fk S k))) := by
        have : k < 3 := by omega
        match k, this with
        | 0, _ => rw [X_fault_eq, d3.1]; rfl
        | 1, _ => rw [X_fault_eq, d3.2.1]; rfl
        | 2, _ => rw [X_fault_eq, d3.2.2]; rfl
      rw [X_digest_L135_eq, e', cond_false, ef, pd_bI_of, X_hashed_eq, pd_bJ_of, ← nI_succ]
    · have d3 := hM.2.2.2.2.2.1
      have ef : σ.1 255 k = s_fk S k := by
        have : k < 3 := by omega
        match k, this with
        | 0, _ => exact d3.1
        | 1, _ => exact d3.2.1
        | 2, _ => exact d3.2.2
      rw [M_digest_L126_eq, e, cond_false, show pd_len 255 = 3 from rfl, pu_obN (show k < 3 by omega) (by decide), cond_false, nI_clamp (by omega), ef, ← nI_succ]
theorem q_flaw (hw : s_wf S) : QI S X_flaw M_flaw (s_fw S) := ⟨fun σ h => by
  obtain ⟨τ, y, g1, g2, -⟩ := Tape_findFlaw_s hw h
  exact ⟨τ, by rw [X_flaw_eq, g1, pd_bI_of], RX_tS hw h g2, XF.of g2.2.2.2 (fun k hk => by omega)⟩, fun σ g => by
  obtain ⟨υ, k1, k2⟩ := M_flaw_s hw g
  exact ⟨υ, k1, g.mF k2, MF.of k2.1 (fun k hk => by omega)⟩⟩
/-- the draft seen ahead -/
theorem d_view (hw : s_wf S) : ∀ (d k : Nat) (h : Int64), k + d = s_ln S 24 → QE S (X_digest_L92 h (nI k)) (M_digest_L82 h (nI k)) := by
  have hl6 := hw.2.1.2.1 24 (by decide)
  intro d
  induction d with
  | zero =>
    intro k h hk
    have e : decide (nI (s_ln S 24) ≤ nI k) = true := decide_eq_true (nI_le (show s_ln S 24 ≤ k by omega) (by omega))
    refine QE.seqI (q_flaw hw) (d_fault 3 0 (31 * h + (s_fw S).toInt64) rfl) (fun σ τ hX t => ?_) (fun σ τ hM t => ?_)
    · rw [X_digest_L92_eq, x_len24 hX, e, cond_true, t, pd_bI_of, X_hashed_eq, pd_bJ_of]; rfl
    · rw [M_digest_L82_eq, m_len24 hM, e, cond_true, t, pd_bI_of]; rfl
  | succ d ih =>
    intro k h hk
    have e : decide (nI (s_ln S 24) ≤ nI k) = false := decide_eq_false (nI_ge (show k < s_ln S 24 by omega) (by omega))
    have q : QI S (X_preview (nI k)) (M_previewOf (nI k)) (s_pv S k) := ⟨fun σ h => X_preview_s hw h (by omega), fun σ h => M_preview_s hw h (by omega)⟩
    refine QE.seqI q (ih (k + 1) (31 * h + (s_pv S k).toInt64) (by omega)) (fun σ τ hX t => ?_) (fun σ τ hM t => ?_)
    · rw [X_digest_L92_eq, x_len24 hX, e, cond_false, t, pd_bI_of, X_hashed_eq, pd_bJ_of, ← nI_succ]
    · rw [M_digest_L82_eq, m_len24 hM, e, cond_false, t, pd_bI_of, ← nI_succ]
theorem q_trace (hw : s_wf S) {p k : Nat} (hm : p ∈ s_or S) (hk : k < s_ln S p) (b : Bool) : QL S (X_trace (nI p) (nI k) (cond b 1 0)) (M_traceOf (nI (6 * p + k)) (cond b 1 0)) (s_tr S (6 * p + k) b) := by
  have hp := hw.2.2.1.1.2 p hm
  have hpc := hw.2.1.1
  have hp25 : p < 25 := by omega
  have hl6 := hw.2.1.2.1 p hp25
  have n150 : 6 * p + k < 150 := by omega
  have hL := c_line_in (len := s_ln S) hm hk
  refine ⟨fun σ hX => ⟨σ, ?_, hX, XF.rf⟩, fun σ g => ⟨σ, M_traceOf_s g n150 hL b, g, MF.rf⟩⟩
  obtain ⟨L2, L4, L5, L6, L7, L9, L10, L12, L13, L14, L15⟩ := pu_len_run (x_run3 hX)
  have eX : σ.1 9 p = nI (s_ln S p) := (hX.2.1.2.1 p hp25).1
  have e9 := pu_obN hp25 (show 25 < 2 ^ 31 by decide)
  obtain ⟨g1, g2, g3, g4, -⟩ := hX.2.2.2.1.2.1.2 _ hL
  have g1 : σ.1 (σ.2.2 0 + 8 + 1) (6 * p + k) = (s_play S (s_or S)).2.2.2.2.1 (6 * p + k) := g1
  have g2 : σ.2.1 (σ.2.2 0 + 8 + 2) (6 * p + k) = (s_play S (s_or S)).2.2.2.2.2.1 (6 * p + k) := g2
  have g3 : σ.1 (σ.2.2 0 + 11 + 1) (6 * p + k) = (s_play S (s_or S)).2.2.2.2.2.2.1 (6 * p + k) := g3
  have g4 : σ.2.1 (σ.2.2 0 + 11 + 2) (6 * p + k) = (s_play S (s_or S)).2.2.2.2.2.2.2.1 (6 * p + k) := g4
  have c1 : decide ((cond b (1 : Int32) 0) < 0) = false := by cases b <;> rfl
  have c2 : decide ((1 : Int32) < cond b (1 : Int32) 0) = false := by cases b <;> rfl
  have c3 : decide (nI k < 0) = false := decide_eq_false (nI_pos (by omega))
  have c4 : decide (nI k < nI (s_ln S p)) = true := decide_eq_true (nI_lt hk (by omega))
  rw [X_trace_eq, X_patch_1 hw hX hp, pd_bI_of, decide_eq_false (by decide : ¬ (1 : Int32) = 0), cond_false, show pd_len 9 = 25 from rfl, e9, cond_false, nI_clamp (by omega), eX, c1, c2, c3, c4, cond_false, cond_false, cond_false, cond_true, X_applied_s hw hX hp, pd_bI_of, X_lerr, pd_bJ_of, X_stepOf_s, c_step_nI, pd_bI_of, pd_bI_of, c_isn_1 hm, decide_eq_false (by decide : ¬ (1 : Int32) = 0), cond_false, X_numberAt_s L12 L13 n150 (by decide), pd_bJ_of, X_numberAt_s L9 L10 n150 (by decide), pd_bJ_of, g1, g2, g3, g4]
  cases b <;> rfl
/-- a patch's changes -/
theorem d_logs (hw : s_wf S) {p : Nat} (hm : p ∈ s_or S) (d1 d2 : Option pd_V) : ∀ (d k : Nat) (h : Int64), k + d = s_ln S p → QE S (X_patchHashed_L51 d1 d2 (nI p) h (nI k)) (M_patchDigest_L58 d1 d2 (nI p) h (nI k)) := by
  have hp := hw.2.2.1.1.2 p hm
  have hpc := hw.2.1.1
  have hp25 : p < 25 := by omega
  have hl6 := hw.2.1.2.1 p hp25
  have e9 := pu_obN hp25 (show 25 < 2 ^ 31 by decide)
  intro d
  induction d with
  | zero =>
    intro k h hk
    have e : decide (nI (s_ln S p) ≤ nI k) = true := decide_eq_true (nI_le (show s_ln S p ≤ k by omega) (by omega))
    exact QE.of h (fun σ hX => by rw [X_patchHashed_L51_eq, show pd_len 9 = 25 from rfl, e9, cond_false, nI_clamp (by omega), (hX.2.1.2.1 p hp25).1, e, cond_true]) (fun σ hM => by rw [M_patchDigest_L58_eq, show pd_len 244 = 25 from rfl, e9, cond_false, nI_clamp (by omega), (hM.2.1.2.1 p hp25).1, e, cond_true])
  | succ d ih =>
    intro k h hk
    have hkl : k < s_ln S p := by omega
    have e : decide (nI (s_ln S p) ≤ nI k) = false := decide_eq_false (nI_ge hkl (by omega))
    have e6 : (6 : Int32) * nI p + nI k = nI (6 * p + k) := by rw [show (6 : Int32) = nI 6 from rfl, pk_mul, nI_add]
    have q0 : QL S (X_trace (nI p) (nI k) 0) (M_traceOf (nI (6 * p + k)) 0) (s_tr S (6 * p + k) false) := q_trace hw hm hkl false
    have q1 : QL S (X_trace (nI p) (nI k) 1) (M_traceOf (nI (6 * p + k)) 1) (s_tr S (6 * p + k) true) := q_trace hw hm hkl true
    refine QE.seqL (fx := fun τ => pd_bJ (X_trace (nI p) (nI k) 1 τ) fun s5 v6 => pd_bJ (X_hashed (31 * h + s_tr S (6 * p + k) false) v6 s5) fun s7 v8 => X_patchHashed_L51 d1 d2 (nI p) v8 (nI (k + 1)) s7) (fm := fun τ => pd_bJ (M_traceOf (nI (6 * p + k)) 1 τ) fun s3 v4 => M_patchDigest_L58 d1 d2 (nI p) (31 * (31 * h + s_tr S (6 * p + k) false) + v4) (nI (k + 1)) s3) q0 (QE.seqL q1 (ih (k + 1) (31 * (31 * h + s_tr S (6 * p + k) false) + s_tr S (6 * p + k) true) (by omega)) (fun σ τ _ t => ?_) (fun σ τ _ t => ?_)) (fun σ τ hX t => ?_) (fun σ τ hM t => ?_)
    · show pd_bJ (X_trace (nI p) (nI k) 1 σ) _ = _
      rw [t, pd_bJ_of, X_hashed_eq, pd_bJ_of]
    · show pd_bJ (M_traceOf (nI (6 * p + k)) 1 σ) _ = _
      rw [t, pd_bJ_of]
    · rw [X_patchHashed_L51_eq, show pd_len 9 = 25 from rfl, e9, cond_false, nI_clamp (by omega), (hX.2.1.2.1 p hp25).1, e, cond_false, t, pd_bJ_of, X_hashed_eq, pd_bJ_of, ← nI_succ]
    · rw [M_patchDigest_L58_eq, show pd_len 244 = 25 from rfl, e9, cond_false, nI_clamp (by omega), (hM.2.1.2.1 p hp25).1, e, cond_false, e6, t, pd_bJ_of, ← nI_succ]
theorem q_hangs (hw : s_wf S) {p : Nat} (hm : p ∈ s_or S) : QI S (X_hangs (nI p)) (M_hangsNow (nI p)) (s_hg S p) := QI.of (fun σ h => by rw [X_hangs_eq, X_apErr_ok hw h hm, pd_bI_of, decide_eq_true (rfl : (0 : Int32) = 0), cond_true, X_dep_s hw h hm]; rfl) (fun σ g => M_dep_s hw g hm)
theorem q_dead (hw : s_wf S) {p : Nat} (hm : p ∈ s_or S) : QI S (X_dead (nI p)) (M_deadOf (nI p)) (c_mask (s_ch S) (c_line (s_ln S) (s_or S)) p) := by
  have hp25 := s_or25 hw p hm
  refine ⟨fun σ hX => ⟨σ, ?_, hX, XF.rf⟩, fun σ g => ?_⟩
  · obtain ⟨L2, L4, L5, L6, L7, L9, L10, L12, L13, L14, L15⟩ := pu_len_run (x_run3 hX)
    rw [X_dead_eq, X_apErr_ok hw hX hm, pd_bI_of, decide_eq_true (rfl : (0 : Int32) = 0), cond_true, L15, pu_obN hp25 (by decide), cond_false, nI_clamp (by omega), hX.2.2.2.1.2.2 p hm]
  · obtain ⟨τ, t1, t2⟩ := M_deadOf_s hw g hp25
    exact ⟨τ, t1, g.dd t2, t2.mf⟩
theorem q_text (hw : s_wf S) {p : Nat} (hm : p ∈ s_or S) : QI S (X_text (nI p) (-1)) (M_textOf (nI p)) (nI (s_tx S p).length) := by
  have hp := hw.2.2.1.1.2 p hm
  have hpc := hw.2.1.1
  refine ⟨fun σ h => ?_, fun σ g => ?_⟩
  · obtain ⟨τ, t1, t2⟩ := X_text_17 hw h (Or.inl hp) (-1)
    refine ⟨τ, ?_, RX_xW hw h t2.2.2, XF.of t2.2.2 (fun k hk => by omega)⟩
    rw [X_text_eq, show (24 : Int32) = nI 24 from rfl, decide_eq_false (fun q => by rw [nI_eq (by omega) (by decide)] at q; omega), cond_false, X_patch_1 hw h hp, pd_bI_of, decide_eq_false (by decide : ¬ (1 : Int32) = 0), cond_false]
    exact t1
  · obtain ⟨τ, t1, t2⟩ := M_textOf_s hw g (Or.inl hp)
    exact ⟨τ, t1, RM_mW g t2, MF.of t2.2.2.1 (fun k hk => by omega)⟩
/-- a patch -/
theorem d_patch (hw : s_wf S) {p : Nat} (hm : p ∈ s_or S) (h : Int64) : QE S (X_patchHashed h (nI p)) (M_patchDigest h (nI p)) := by
  refine QE.seqI (fx := fun τ => pd_bI (X_dead (nI p) τ) fun s7 v8 => pd_bJ (X_hashed (31 * (31 * h + (nI p).toInt64) + (s_hg S p).toInt64) v8.toInt64 s7) fun s9 v10 => pd_bI (X_text (nI p) (-1) s9) fun s11 v12 => pd_bJ (X_hashed v10 v12.toInt64 s11) fun s13 v14 => X_patchHashed_L51 (some (pd_j h)) none (nI p) v14 0 s13) (fm := fun τ => pd_bI (M_deadOf (nI p) τ) fun s3 v4 => pd_bI (M_textOf (nI p) s3) fun s5 v6 => M_patchDigest_L58 (some (pd_j h)) none (nI p) (31 * (31 * (31 * (31 * h + (nI p).toInt64) + (s_hg S p).toInt64) + v4.toInt64) + v6.toInt64) 0 s5) (q_hangs hw hm) ?_ (fun σ τ _ t => ?_) (fun σ τ _ t => ?_)
  · refine QE.seqI (fx := fun τ => pd_bI (X_text (nI p) (-1) τ) fun s11 v12 => pd_bJ (X_hashed (31 * (31 * (31 * h + (nI p).toInt64) + (s_hg S p).toInt64) + (c_mask (s_ch S) (c_line (s_ln S) (s_or S)) p).toInt64) v12.toInt64 s11) fun s13 v14 => X_patchHashed_L51 (some (pd_j h)) none (nI p) v14 0 s13) (fm := fun τ => pd_bI (M_textOf (nI p) τ) fun s5 v6 => M_patchDigest_L58 (some (pd_j h)) none (nI p) (31 * (31 * (31 * (31 * h + (nI p).toInt64) + (s_hg S p).toInt64) + (c_mask (s_ch S) (c_line (s_ln S) (s_or S)) p).toInt64) + v6.toInt64) 0 s5) (q_dead hw hm) ?_ (fun σ τ _ t => ?_) (fun σ τ _ t => ?_)
    · refine QE.seqI (q_text hw hm) (d_logs hw hm (some (pd_j h)) none (s_ln S p) 0 (31 * (31 * (31 * (31 * h + (nI p).toInt64) + (s_hg S p).toInt64) + (c_mask (s_ch S) (c_line (s_ln S) (s_or S)) p).toInt64) + (nI (s_tx S p).length).toInt64) (Nat.zero_add _)) (fun σ τ _ t => ?_) (fun σ τ _ t => ?_)
      · show pd_bI (X_text (nI p) (-1) σ) _ = _
        rw [t, pd_bI_of, X_hashed_eq, pd_bJ_of]; rfl
      · show pd_bI (M_textOf (nI p) σ) _ = _
        rw [t, pd_bI_of]; rfl
    · show pd_bI (X_dead (nI p) σ) _ = _
      rw [t, pd_bI_of, X_hashed_eq, pd_bJ_of]
    · show pd_bI (M_deadOf (nI p) σ) _ = _
      rw [t, pd_bI_of]
  · rw [X_patchHashed_eq, X_hashed_eq, pd_bJ_of, t, pd_bI_of, X_hashed_eq, pd_bJ_of]
  · rw [M_patchDigest_eq, t, pd_bI_of]
theorem d_patches (hw : s_wf S) : ∀ (m u : List Nat) (h : Int64), s_or S = u ++ m → QE S (X_digest_L52 h (nI u.length)) (M_digest_L54 h (nI u.length)) := by
  have h24 := s_or24 hw
  intro m
  induction m with
  | nil =>
    intro u h e
    rw [List.append_nil] at e
    refine QE.congr (d_view hw (s_ln S 24) 0 h (Nat.zero_add _)) (fun σ hX => ?_) (fun σ hM => ?_)
    · rw [X_digest_L52_eq, hX.2.2.2.1.1.1, e, decide_eq_true (nI_le (Nat.le_refl _) (by rw [e] at h24; omega)), cond_true]; rfl
    · rw [M_digest_L54_eq, hM.2.2.1.1.1, e, decide_eq_true (nI_le (Nat.le_refl _) (by rw [e] at h24; omega)), cond_true]; rfl
  | cons p m ih =>
    intro u h e
    have hl : (s_or S).length = u.length + (m.length + 1) := by rw [e, List.length_append]; rfl
    have hm : p ∈ s_or S := by rw [e]; exact List.mem_append_right _ List.mem_cons_self
    have ei : (s_or S)[u.length]? = some p := by rw [e, List.getElem?_append_right (Nat.le_refl _), Nat.sub_self]; rfl
    have el : decide (nI (s_or S).length ≤ nI u.length) = false := decide_eq_false (nI_ge (show u.length < (s_or S).length by omega) (by omega))
    obtain ⟨v, q⟩ := d_patch hw hm h
    have g := ih (u ++ [p]) v (by rw [e, List.append_assoc]; rfl)
    rw [List.length_append] at g
    refine QE.seqL q g (fun σ τ hX t => ?_) (fun σ τ hM t => ?_)
    · rw [X_digest_L52_eq, hX.2.2.2.1.1.1, el, cond_false, (x_trl hX).2.1, pu_obN (show u.length < 24 by omega) (by decide), cond_false, nI_clamp (by omega), show σ.1 (σ.2.2 0 + 1 + 1) u.length = nI p from hX.2.2.2.1.1.2.2 _ p ei, t, pd_bJ_of, ← nI_succ]; rfl
    · rw [M_digest_L54_eq, hM.2.2.1.1.1, el, cond_false, show pd_len 250 = 24 from rfl, pu_obN (show u.length < 24 by omega) (by decide), cond_false, nI_clamp (by omega), hM.2.2.1.1.2.1 _ p ei, t, pd_bJ_of, ← nI_succ]; rfl
end DIGEST
