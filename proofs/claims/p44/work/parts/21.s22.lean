/-! (whole, 22.step) -/
/-! A change is done: canonical, and by the desk. -/
abbrev cC : Type := Int32 × Int32 × Int32 × Int32 × Int32 × Int32
/-- types and numbers of the cells, writers; before; after; sources -/
abbrev cR : Type := (Nat → Int32) × (Nat → Int64) × (Nat → Int32) × (Nat → Int32) × (Nat → Int64) × (Nat → Int32) × (Nat → Int64) × (Nat → Int32)
def c_fc (c : cC) : Nat := c_cell c.1 c.2.1
def c_tc (c : cC) : Nat := c_cell c.2.2.2.1 c.2.2.2.2.1
def c_f1 (kd sz : Nat → Int32) (c : cC) : Int32 := cond (decide (c.1 = (-1 : Int32))) 0 (c_rdF kd sz c.1 c.2.2.1 c.2.1)
def c_ww (R : cR) (c : cC) : Int32 := cond (decide (c.1 = (-1 : Int32))) c.2.2.1 (cond (decide (c.2.2.1 = 8)) (8 + R.1 (c_fc c)) c.2.2.1)
def c_ht (R : cR) (c : cC) : Int32 := cond (decide (c.1 = (-1 : Int32))) (c_tyW c.2.2.1) (cond (decide (c.2.2.1 = 8)) (R.1 (c_fc c)) c.2.2.1)
def c_hn (R : cR) (c : cC) : Int64 := cond (decide (c.1 = (-1 : Int32))) (c_mk (c_tyW c.2.2.1) c.2.2.2.2.2) (cond (decide (c.2.2.1 = 8)) (R.2.1 (c_fc c)) (c_wd (R.1 (c_fc c)) (R.2.1 (c_fc c)) c.2.2.1))
def c_f2 (kd sz : Nat → Int32) (R : cR) (c : cC) : Int32 := c_wrF kd sz c.2.2.2.1 (c_ww R c) c.2.2.2.2.1
def c_fd (kd sz : Nat → Int32) (R : cR) (c : cC) : Int32 := cond (decide (c_f1 kd sz c = 0)) (c_f2 kd sz R c) (c_f1 kd sz c)
def c_nt (kd : Nat → Int32) (R : cR) (c : cC) : Int32 := cond (decide (7 < kd c.2.2.2.1.toNatClampNeg)) (c_ht R c) (kd c.2.2.2.1.toNatClampNeg)
def c_nn (kd : Nat → Int32) (R : cR) (c : cC) : Int64 := cond (decide (7 < kd c.2.2.2.1.toNatClampNeg)) (c_hn R c) (c_wd (c_ht R c) (c_hn R c) (kd c.2.2.2.1.toNatClampNeg))
def c_sr (R : cR) (c : cC) : Int32 := cond (decide (c.1 = (-1 : Int32))) (-1) (R.2.2.1 (c_fc c))
/-- the rows behind a change that has no finding -/
def c_one (kd : Nat → Int32) (p : Int32) (a : Nat) (c : cC) (R : cR) : cR :=
  (upd R.1 (c_tc c) (c_nt kd R c), vp_updL R.2.1 (c_tc c) (c_nn kd R c), upd R.2.2.1 (c_tc c) p, upd R.2.2.2.1 a (R.1 (c_tc c)), vp_updL R.2.2.2.2.1 a (R.2.1 (c_tc c)), upd R.2.2.2.2.2.1 a (c_nt kd R c), vp_updL R.2.2.2.2.2.2.1 a (c_nn kd R c), upd R.2.2.2.2.2.2.2 a (c_sr R c))
/-- a change as the desk holds it; a run's rows -/
def x_chg (σ : pd_H) (a : Nat) : cC := (σ.1 (80 + a) 0, σ.1 (80 + a) 1, σ.1 (80 + a) 2, σ.1 (80 + a) 3, σ.1 (80 + a) 4, σ.1 (80 + a) 5)
def x_rows (σ : pd_H) (r : Nat) : cR := (σ.1 (r + 4), σ.2.1 (r + 5), σ.1 (r + 6), σ.1 (r + 9), σ.2.1 (r + 10), σ.1 (r + 12), σ.2.1 (r + 13), σ.1 (r + 14))
/-- sizes are at most 12 -/
def c_szok (sz : Nat → Int32) : Prop := ∀ s, s < 6 → sz s ≤ (12 : Int32)
/-- a change of slots -/
def c_ok (c : cC) : Prop := (c.1 = -1 ∨ pu_sl c.1) ∧ pu_sl c.2.2.2.1
theorem c_idxF_0 {sz : Nat → Int32} {s i : Int32} (hz : c_szok sz) (hs : pu_sl s) (h : c_idxF sz s i = 0) : ∃ j : Nat, j < 12 ∧ i = nI j ∧ i < sz s.toNatClampNeg := by
  unfold c_idxF at h
  by_cases h0 : i < 0
  · rw [decide_eq_true h0] at h; exact absurd (show (5 : Int32) = 0 from h) (by decide)
  · rw [decide_eq_false h0, cond_false] at h
    by_cases h1 : i < sz s.toNatClampNeg
    · obtain ⟨j, h2, rfl⟩ := nI_of h0
      refine ⟨j, ?_, rfl, h1⟩
      have h3 := Int32.lt_of_lt_of_le h1 (hz _ (pu_sl_cl hs))
      rw [show (12 : Int32) = nI 12 from rfl, nI_ltI h2 (by decide)] at h3
      exact h3
    · rw [decide_eq_false h1] at h; exact absurd (show (5 : Int32) = 0 from h) (by decide)
theorem c_rdF_idx {kd sz : Nat → Int32} {s w i : Int32} (h : c_rdF kd sz s w i = 0) : c_idxF sz s i = 0 := by
  unfold c_rdF at h
  cases h1 : decide (c_arrF kd s = 0) with
  | false => rw [h1, cond_false] at h; rw [h] at h1; exact absurd h1 (by decide)
  | true =>
    rw [h1, cond_true] at h
    cases h2 : decide (w = 8) with
    | true => rw [h2] at h; exact h
    | false =>
      rw [h2, cond_false] at h
      cases h3 : decide (kd s.toNatClampNeg ≤ 7) with
      | false => rw [h3] at h; exact absurd (show (3 : Int32) = 0 from h) (by decide)
      | true =>
        rw [h3, cond_true] at h
        cases h4 : decide (c_wid (kd s.toNatClampNeg) w = 0) with
        | true => rw [h4] at h; exact absurd (show (4 : Int32) = 0 from h) (by decide)
        | false => rw [h4] at h; exact h
theorem c_wrF_idx {kd sz : Nat → Int32} {s w i : Int32} (h : c_wrF kd sz s w i = 0) : c_idxF sz s i = 0 := by
  unfold c_wrF at h
  cases h1 : decide (c_arrF kd s = 0) with
  | false => rw [h1, cond_false] at h; rw [h] at h1; exact absurd h1 (by decide)
  | true =>
    rw [h1, cond_true] at h
    have k : cond (decide (c_tak (kd s.toNatClampNeg) (c_tyW w) = 0)) 4 (c_idxF sz s i) = 0 → c_idxF sz s i = 0 := by
      intro h
      cases h4 : decide (c_tak (kd s.toNatClampNeg) (c_tyW w) = 0) with
      | true => rw [h4] at h; exact absurd (show (4 : Int32) = 0 from h) (by decide)
      | false => rw [h4] at h; exact h
    cases h3 : decide (kd s.toNatClampNeg ≤ 7) with
    | true => rw [h3] at h; exact k h
    | false =>
      rw [h3, cond_false] at h
      cases h2 : decide (8 ≤ w) with
      | true => rw [h2] at h; exact k h
      | false => rw [h2] at h; exact absurd (show (3 : Int32) = 0 from h) (by decide)
/-- a cell that there is -/
theorem c_cell_ok {sz : Nat → Int32} {s i : Int32} (hz : c_szok sz) (hs : pu_sl s) (h : c_idxF sz s i = 0) : s * 12 + i = nI (c_cell s i) ∧ c_cell s i < 72 := by
  obtain ⟨j, h1, rfl, -⟩ := c_idxF_0 hz hs h
  obtain ⟨k, h2, rfl⟩ := pu_sl_nI hs
  rw [c_cell_nI h2 h1, c_cell_eq h2 h1]
  exact ⟨rfl, by omega⟩
theorem Change_isCopy_s (o : Nat) (σ : pd_H) : Change_isCopy o σ = some (σ, some (pd_i (cond (decide (σ.1 o 0 = (-1 : Int32))) 0 1))) := by
  rw [Change_isCopy_eq]; simp only [pu_cs]
section STEP
variable {r a : Nat} {σ : pd_H}
set_option maxHeartbeats 4000000 in
theorem Run_pickUp_s (hr : r = 32 ∨ r = 48 ∨ r = 64) (ha : a < 150) (hz : c_szok (σ.1 3)) (hs : pu_sl (σ.1 (80 + a) 0)) {f : Int32} (hf : c_rdF (σ.1 2) (σ.1 3) (σ.1 (80 + a) 0) (σ.1 (80 + a) 2) (σ.1 (80 + a) 1) = f) :
    Run_pickUp r (80 + a) (nI a) σ = cond (decide (f = 0)) (some (pd_upI (pd_upJ (pd_upI (pd_upI (pd_upI (pd_upI σ r 13 (σ.1 (80 + a) 2)) r 14 f) (r + 14) a (σ.1 (r + 6) (c_cell (σ.1 (80 + a) 0) (σ.1 (80 + a) 1)))) r 17 (cond (decide (σ.1 (80 + a) 2 = 8)) (σ.1 (r + 4) (c_cell (σ.1 (80 + a) 0) (σ.1 (80 + a) 1))) (σ.1 (80 + a) 2))) r 18 (cond (decide (σ.1 (80 + a) 2 = 8)) (σ.2.1 (r + 5) (c_cell (σ.1 (80 + a) 0) (σ.1 (80 + a) 1))) (c_wd (σ.1 (r + 4) (c_cell (σ.1 (80 + a) 0) (σ.1 (80 + a) 1))) (σ.2.1 (r + 5) (c_cell (σ.1 (80 + a) 0) (σ.1 (80 + a) 1))) (σ.1 (80 + a) 2)))) r 15 (cond (decide (σ.1 (80 + a) 2 = 8)) (8 + σ.1 (r + 4) (c_cell (σ.1 (80 + a) 0) (σ.1 (80 + a) 1))) (σ.1 (80 + a) 2)), none)) (some (pd_upI (pd_upI σ r 13 (σ.1 (80 + a) 2)) r 14 f, none)) := by
  obtain ⟨L2, L4, L5, L6, L7, L9, L10, L12, L13, L14, L15⟩ := pu_len_run hr
  have n1 : 80 + a ≠ r := by omega
  have n2 : 80 + a ≠ r + 14 := by omega
  have n3 : 2 ≠ r := by omega
  have n4 : 3 ≠ r := by omega
  have n5 : r + 6 ≠ r := by omega
  have n6 : r + 4 ≠ r := by omega
  have n7 : r + 4 ≠ r + 14 := by omega
  have n8 : r ≠ r + 14 := by omega
  rw [Run_pickUp_eq]
  simp only [pu_u1n n1, pu_u1s, pk_us, pk_un (show 13 ≠ 14 by decide)]
  rw [Shelf_readingFinding_s hs]
  simp only [pu_u1n n3, pu_u1n n4, pd_bI_of, pd_bJ_of, pd_bV_of, pd_bR_of, cond_true, cond_false, hf, X_cellOf_s, pu_u1n n1]
  by_cases h0 : f = 0
  · have hi := c_rdF_idx (h0 ▸ hf)
    obtain ⟨e1, e2⟩ := c_cell_ok hz hs hi
    simp only [decide_eq_true h0, pd_bI_of, pd_bJ_of, pd_bV_of, pd_bR_of, cond_true, cond_false, e1, L6, L14, L4, L5, pu_obN e2 (show 72 < 2 ^ 31 by decide), pu_obN ha (show 150 < 2 ^ 31 by decide), nI_clamp (show a < 2 ^ 31 by omega), nI_clamp (show c_cell (σ.1 (80 + a) 0) (σ.1 (80 + a) 1) < 2 ^ 31 by omega), pu_u1n n5, pu_u1n n6, pu_u1n n7, pu_u1n n8, pu_u1n n1, pu_u1n n2, pu_u1s, pk_us, pk_un (show 13 ≠ 14 by decide), pk_un (show 13 ≠ 17 by decide), pk_un (show 17 ≠ 13 by decide), pu_u2, pu_j1, X_widened_s]
    by_cases h8 : σ.1 (80 + a) 2 = 8
    · simp only [decide_eq_true h8, pd_bI_of, pd_bJ_of, pd_bV_of, pd_bR_of, cond_true, cond_false]
    · simp only [decide_eq_false h8, pd_bI_of, pd_bJ_of, pd_bV_of, pd_bR_of, cond_true, cond_false, pu_u1s, pu_u1n n8, pk_us, pk_un (show 13 ≠ 14 by decide), pk_un (show 13 ≠ 17 by decide)]
  · simp only [decide_eq_false h0, pd_bI_of, pd_bJ_of, pd_bV_of, pd_bR_of, cond_true, cond_false]
/-- what putDown leaves -/
def x_put (σ : pd_H) (r a tc : Nat) (nt : Int32) (nn : Int64) : pd_H := pd_upJ (pd_upI (pd_upJ (pd_upI (pd_upJ (pd_upI σ (r + 9) a (σ.1 (r + 4) tc)) (r + 10) a (σ.2.1 (r + 5) tc)) (r + 4) tc nt) (r + 5) tc nn) (r + 12) a nt) (r + 13) a nn
set_option maxHeartbeats 4000000 in
theorem Run_putDown_s (hr : r = 32 ∨ r = 48 ∨ r = 64) (ha : a < 150) (hz : c_szok (σ.1 3)) (hs : pu_sl (σ.1 (80 + a) 3)) (hi : c_idxF (σ.1 3) (σ.1 (80 + a) 3) (σ.1 (80 + a) 4) = 0) :
    Run_putDown r (80 + a) (nI a) σ = some (x_put σ r a (c_cell (σ.1 (80 + a) 3) (σ.1 (80 + a) 4)) (cond (decide (7 < σ.1 2 (σ.1 (80 + a) 3).toNatClampNeg)) (σ.1 r 17) (σ.1 2 (σ.1 (80 + a) 3).toNatClampNeg)) (cond (decide (7 < σ.1 2 (σ.1 (80 + a) 3).toNatClampNeg)) (σ.2.1 r 18) (c_wd (σ.1 r 17) (σ.2.1 r 18) (σ.1 2 (σ.1 (80 + a) 3).toNatClampNeg))), none) := by
  obtain ⟨L2, L4, L5, L6, L7, L9, L10, L12, L13, L14, L15⟩ := pu_len_run hr
  obtain ⟨e1, e2⟩ := c_cell_ok hz hs hi
  generalize htc : c_cell (σ.1 (80 + a) 3) (σ.1 (80 + a) 4) = tc at e1 e2
  have n1 : 80 + a ≠ r + 8 + 1 := by omega
  have n2 : 2 ≠ r + 8 + 1 := by omega
  have n3 : r ≠ r + 8 + 1 := by omega
  have n4 : r ≠ r + 8 + 2 := by omega
  have n5 : r + 4 ≠ r + 8 + 1 := by omega
  have n6 : r + 5 ≠ r + 8 + 2 := by omega
  have s1 := pu_sl_ob hs
  have b72 : ∀ {i : Nat}, i < 72 → pd_ob (nI i) 72 = false := fun h => pu_obN h (by decide)
  have P1 := fun (b : Int32) (c : Int64) (τ : pd_H) => Values_put_s (o := r + 8) (b := b) (c := c) τ L9 L10 ha (by decide)
  have P2 := fun (b : Int32) (c : Int64) (τ : pd_H) => Values_put_s (o := r + 3) (b := b) (c := c) τ L4 L5 e2 (by decide)
  have P3 := fun (b : Int32) (c : Int64) (τ : pd_H) => Values_put_s (o := r + 11) (b := b) (c := c) τ L12 L13 ha (by decide)
  rw [Run_putDown_eq]
  simp only [X_cellOf_s, pd_bI_of, pd_bJ_of, pd_bV_of, pd_bR_of, cond_true, cond_false, e1, L4, L5, b72 e2, nI_clamp (show tc < 2 ^ 31 by omega), P1, pu_j1, pu_u1n n1, pu_u1n n2, pu_u1n n3, s1, show pd_len 2 = 6 from rfl, X_widened_s, P2, pu_j2n n4, pu_u2, Run_putDown_L101_eq, P3]
  by_cases h7 : 7 < σ.1 2 (σ.1 (80 + a) 3).toNatClampNeg
  · simp only [decide_eq_true h7, pd_bI_of, pd_bJ_of, pd_bV_of, pd_bR_of, cond_true, cond_false, pu_j1, pu_u1s, pk_us, pu_j2s, pk_uLs, x_put]
  · simp only [decide_eq_false h7, pd_bI_of, pd_bJ_of, pd_bV_of, pd_bR_of, cond_true, cond_false, pu_j1, pu_u1s, pk_us, pu_j2s, pk_uLs, x_put]
theorem x_put_at {τ : pd_H} {tc : Nat} {nt : Int32} {nn : Int64} {k : Nat} (h1 : k ≠ r + 9) (h2 : k ≠ r + 4) (h3 : k ≠ r + 12) : (x_put τ r a tc nt nn).1 k = τ.1 k := by
  simp only [x_put, pu_j1, pu_u1n h1, pu_u1n h2, pu_u1n h3]
set_option maxHeartbeats 4000000 in
theorem Run_step_L98_s (hr : r = 32 ∨ r = 48 ∨ r = 64) (ha : a < 150) (hz : c_szok (σ.1 3)) (hs : pu_sl (σ.1 (80 + a) 3)) {p : Int32} {d : Option pd_V} {f : Int32} (hf : c_wrF (σ.1 2) (σ.1 3) (σ.1 (80 + a) 3) (σ.1 r 15) (σ.1 (80 + a) 4) = f) :
    Run_step_L98 r p d (nI a) (80 + a) σ = cond (decide (f = 0)) (some (pd_upI (x_put (pd_upI σ r 16 f) r a (c_cell (σ.1 (80 + a) 3) (σ.1 (80 + a) 4)) (cond (decide (7 < σ.1 2 (σ.1 (80 + a) 3).toNatClampNeg)) (σ.1 r 17) (σ.1 2 (σ.1 (80 + a) 3).toNatClampNeg)) (cond (decide (7 < σ.1 2 (σ.1 (80 + a) 3).toNatClampNeg)) (σ.2.1 r 18) (c_wd (σ.1 r 17) (σ.2.1 r 18) (σ.1 2 (σ.1 (80 + a) 3).toNatClampNeg)))) (r + 6) (c_cell (σ.1 (80 + a) 3) (σ.1 (80 + a) 4)) p, some (pd_i f))) (some (pd_upI σ r 16 f, some (pd_i f))) := by
  obtain ⟨L2, L4, L5, L6, L7, L9, L10, L12, L13, L14, L15⟩ := pu_len_run hr
  have n1 : 80 + a ≠ r := by omega
  have n2 : 2 ≠ r := by omega
  have n3 : 3 ≠ r := by omega
  have n4 : r ≠ r + 6 := by omega
  rw [Run_step_L98_eq, Shelf_writingFinding_s hs]
  simp only [pd_bI_of, pd_bJ_of, pd_bV_of, pd_bR_of, cond_true, cond_false, hf, pu_u1s, pk_us]
  by_cases h0 : f = 0
  · have hi := c_wrF_idx (h0 ▸ hf)
    obtain ⟨e1, e2⟩ := c_cell_ok hz hs hi
    have H := Run_putDown_s (r := r) (a := a) (σ := pd_upI σ r 16 f) hr ha (by rw [pu_u1n n3]; exact hz) (by rw [pu_u1n n1]; exact hs) (by rw [pu_u1n n3, pu_u1n n1]; exact hi)
    simp only [pu_u1n n1, pu_u1n n2, pu_u1s, pu_u2, pk_un (show 17 ≠ 16 by decide)] at H
    have k1 : 80 + a ≠ r + 9 := by omega
    have k2 : 80 + a ≠ r + 4 := by omega
    have k3 : 80 + a ≠ r + 12 := by omega
    have k4 : r ≠ r + 9 := by omega
    have k5 : r ≠ r + 4 := by omega
    have k6 : r ≠ r + 12 := by omega
    simp only [decide_eq_true h0, pd_bI_of, pd_bJ_of, pd_bV_of, pd_bR_of, cond_true, cond_false, H, X_cellOf_s, x_put_at k1 k2 k3, x_put_at k4 k5 k6, pu_u1n n1, e1, L6, pu_obN e2 (show 72 < 2 ^ 31 by decide), nI_clamp (show c_cell (σ.1 (80 + a) 3) (σ.1 (80 + a) 4) < 2 ^ 31 by omega), pu_u1n n4, pu_u1s, pk_us]
  · simp only [decide_eq_false h0, pd_bI_of, pd_bJ_of, pd_bV_of, pd_bR_of, cond_true, cond_false]
/-- what a step tells -/
def x_told (τ : pd_H) (r : Nat) (c : cC) (f1 ww f2 : Int32) : Prop := τ.1 r 13 = cond (decide (c.1 = (-1 : Int32))) (-1) c.2.2.1 ∧ (c.1 ≠ -1 → τ.1 r 14 = f1) ∧ τ.1 r 15 = cond (decide (f1 = 0)) ww (-1) ∧ (f1 = 0 → τ.1 r 16 = f2)
/-- the rows of a run where a step has a finding -/
def x_same (R T : cR) (a : Nat) : Prop := T.1 = R.1 ∧ T.2.1 = R.2.1 ∧ T.2.2.1 = R.2.2.1 ∧ T.2.2.2.1 = R.2.2.2.1 ∧ T.2.2.2.2.1 = R.2.2.2.2.1 ∧ T.2.2.2.2.2.1 = R.2.2.2.2.2.1 ∧ T.2.2.2.2.2.2.1 = R.2.2.2.2.2.2.1 ∧ ∀ j, j ≠ a → T.2.2.2.2.2.2.2 j = R.2.2.2.2.2.2.2 j
def x_stK (r k : Nat) : Prop := k = r ∨ (r + 4 ≤ k ∧ k ≤ r + 6) ∨ (r + 9 ≤ k ∧ k ≤ r + 10) ∨ (r + 12 ≤ k ∧ k ≤ r + 14)
set_option maxHeartbeats 4000000 in
theorem Run_step_tail {τ0 : pd_H} (hr : r = 32 ∨ r = 48 ∨ r = 64) (ha : a < 150) (hz : c_szok (σ.1 3)) (hs : pu_sl (σ.1 (80 + a) 3)) {p : Int32} {d : Option pd_V}
    (e80 : τ0.1 (80 + a) = σ.1 (80 + a)) (e2 : τ0.1 2 = σ.1 2) (e3 : τ0.1 3 = σ.1 3) (e4 : τ0.1 (r + 4) = σ.1 (r + 4)) (e5 : τ0.2.1 (r + 5) = σ.2.1 (r + 5)) (e6 : τ0.1 (r + 6) = σ.1 (r + 6)) (e9 : τ0.1 (r + 9) = σ.1 (r + 9)) (e10 : τ0.2.1 (r + 10) = σ.2.1 (r + 10)) (e12 : τ0.1 (r + 12) = σ.1 (r + 12)) (e13 : τ0.2.1 (r + 13) = σ.2.1 (r + 13))
    (e14 : τ0.1 (r + 14) = upd (σ.1 (r + 14)) a (c_sr (x_rows σ r) (x_chg σ a))) (f15 : τ0.1 r 15 = c_ww (x_rows σ r) (x_chg σ a)) (f17 : τ0.1 r 17 = c_ht (x_rows σ r) (x_chg σ a)) (f18 : τ0.2.1 r 18 = c_hn (x_rows σ r) (x_chg σ a)) :
    ∃ τ, Run_step_L98 r p d (nI a) (80 + a) τ0 = some (τ, some (pd_i (c_f2 (σ.1 2) (σ.1 3) (x_rows σ r) (x_chg σ a)))) ∧
      (c_f2 (σ.1 2) (σ.1 3) (x_rows σ r) (x_chg σ a) = 0 → x_rows τ r = c_one (σ.1 2) p a (x_chg σ a) (x_rows σ r)) ∧
      (c_f2 (σ.1 2) (σ.1 3) (x_rows σ r) (x_chg σ a) ≠ 0 → x_same (x_rows σ r) (x_rows τ r) a) ∧
      pu_fr (x_stK r) τ0 τ ∧ (∀ j, j ≠ 16 → τ.1 r j = τ0.1 r j) ∧ τ.1 r 16 = c_f2 (σ.1 2) (σ.1 3) (x_rows σ r) (x_chg σ a) := by
  have hf : c_wrF (τ0.1 2) (τ0.1 3) (τ0.1 (80 + a) 3) (τ0.1 r 15) (τ0.1 (80 + a) 4) = c_f2 (σ.1 2) (σ.1 3) (x_rows σ r) (x_chg σ a) := by rw [e2, e3, e80, f15]; rfl
  rw [Run_step_L98_s hr ha (by rw [e3]; exact hz) (by rw [e80]; exact hs) hf, e80, e2, f17, f18]
  generalize hff : c_f2 (σ.1 2) (σ.1 3) (x_rows σ r) (x_chg σ a) = f
  have K1 : x_stK r r := Or.inl rfl
  have K3 : x_stK r (r + 4) := by unfold x_stK; omega
  have K4 : x_stK r (r + 5) := by unfold x_stK; omega
  have K5 : x_stK r (r + 6) := by unfold x_stK; omega
  have K6 : x_stK r (r + 9) := by unfold x_stK; omega
  have K7 : x_stK r (r + 10) := by unfold x_stK; omega
  have K8 : x_stK r (r + 12) := by unfold x_stK; omega
  have K9 : x_stK r (r + 13) := by unfold x_stK; omega
  have m2 : r + 4 ≠ r := by omega
  have m4 : r + 6 ≠ r := by omega
  have m6 : r + 9 ≠ r := by omega
  have m8 : r + 12 ≠ r := by omega
  have m10 : r + 14 ≠ r := by omega
  by_cases h0 : f = 0
  · rw [decide_eq_true h0, cond_true]
    have a1 : r + 4 ≠ r + 6 := by omega
    have a2 : r + 4 ≠ r + 9 := by omega
    have a3 : r + 4 ≠ r + 12 := by omega
    have a4 : r + 5 ≠ r + 10 := by omega
    have a5 : r + 5 ≠ r + 13 := by omega
    have a6 : r + 6 ≠ r + 4 := by omega
    have a7 : r + 6 ≠ r + 9 := by omega
    have a8 : r + 6 ≠ r + 12 := by omega
    have a9 : r + 9 ≠ r + 4 := by omega
    have a10 : r + 9 ≠ r + 6 := by omega
    have a11 : r + 9 ≠ r + 12 := by omega
    have a12 : r + 10 ≠ r + 5 := by omega
    have a13 : r + 10 ≠ r + 13 := by omega
    have a14 : r + 12 ≠ r + 4 := by omega
    have a15 : r + 12 ≠ r + 6 := by omega
    have a16 : r + 12 ≠ r + 9 := by omega
    have a17 : r + 13 ≠ r + 5 := by omega
    have a18 : r + 13 ≠ r + 10 := by omega
    have a19 : r + 14 ≠ r + 4 := by omega
    have a20 : r + 14 ≠ r + 6 := by omega
    have a21 : r + 14 ≠ r + 9 := by omega
    have a22 : r + 14 ≠ r + 12 := by omega
    have b1 : r ≠ r + 4 := by omega
    have b2 : r ≠ r + 6 := by omega
    have b3 : r ≠ r + 9 := by omega
    have b4 : r ≠ r + 12 := by omega
    refine ⟨_, rfl, fun _ => ?_, fun h => absurd h0 h, ?_, fun j hj => ?_, ?_⟩
    · simp only [x_rows, c_one, x_put, pu_u1s, pu_j1, pu_u2, pu_j2s, pu_u1n a1, pu_u1n a2, pu_u1n a3, pu_j2n a4, pu_j2n a5, pu_u1n a6, pu_u1n a7, pu_u1n a8, pu_u1n a9, pu_u1n a10, pu_u1n a11, pu_j2n a12, pu_j2n a13, pu_u1n a14, pu_u1n a15, pu_u1n a16, pu_j2n a17, pu_j2n a18, pu_u1n a19, pu_u1n a20, pu_u1n a21, pu_u1n a22, pu_u1n m2, pu_u1n m4, pu_u1n m6, pu_u1n m8, pu_u1n m10, e4, e5, e6, e9, e10, e12, e13, e14]
      rfl
    · exact ((pu_fr.upI K1).tr ((((((pu_fr.upI K6).tr (pu_fr.upJ K7)).tr (pu_fr.upI K3)).tr (pu_fr.upJ K4)).tr (pu_fr.upI K8)).tr (pu_fr.upJ K9))).tr (pu_fr.upI K5)
    · rw [pu_u1n b2, x_put_at b3 b1 b4, pu_u1s, pk_un hj]
    · rw [pu_u1n b2, x_put_at b3 b1 b4, pu_u1s, pk_us]
  · rw [decide_eq_false h0, cond_false]
    refine ⟨_, rfl, fun h => absurd h h0, fun _ => ⟨?_, ?_, ?_, ?_, ?_, ?_, ?_, ?_⟩, pu_fr.upI K1, fun j hj => ?_, ?_⟩
    · show (pd_upI τ0 r 16 f).1 (r + 4) = _; rw [pu_u1n m2, e4]; rfl
    · exact e5
    · show (pd_upI τ0 r 16 f).1 (r + 6) = _; rw [pu_u1n m4, e6]; rfl
    · show (pd_upI τ0 r 16 f).1 (r + 9) = _; rw [pu_u1n m6, e9]; rfl
    · exact e10
    · show (pd_upI τ0 r 16 f).1 (r + 12) = _; rw [pu_u1n m8, e12]; rfl
    · exact e13
    · intro j hj; show (pd_upI τ0 r 16 f).1 (r + 14) j = _; rw [pu_u1n m10, e14, pk_un hj]; rfl
    · rw [pu_u1s, pk_un hj]
    · rw [pu_u1s, pk_us]
set_option maxHeartbeats 8000000 in
theorem Run_step_s (hr : r = 32 ∨ r = 48 ∨ r = 64) {p k : Nat} (hp : p < 25) (hk : k < 6) (hz : c_szok (σ.1 3)) (hok : c_ok (x_chg σ (6 * p + k))) :
    ∃ τ, Run_step r (nI p) (nI k) σ = some (τ, some (pd_i (c_fd (σ.1 2) (σ.1 3) (x_rows σ r) (x_chg σ (6 * p + k))))) ∧
      (c_fd (σ.1 2) (σ.1 3) (x_rows σ r) (x_chg σ (6 * p + k)) = 0 → x_rows τ r = c_one (σ.1 2) (nI p) (6 * p + k) (x_chg σ (6 * p + k)) (x_rows σ r)) ∧
      (c_fd (σ.1 2) (σ.1 3) (x_rows σ r) (x_chg σ (6 * p + k)) ≠ 0 → x_same (x_rows σ r) (x_rows τ r) (6 * p + k)) ∧
      pu_fr (x_stK r) σ τ ∧ (∀ j, j < 13 → τ.1 r j = σ.1 r j) ∧
      x_told τ r (x_chg σ (6 * p + k)) (c_f1 (σ.1 2) (σ.1 3) (x_chg σ (6 * p + k))) (c_ww (x_rows σ r) (x_chg σ (6 * p + k))) (c_f2 (σ.1 2) (σ.1 3) (x_rows σ r) (x_chg σ (6 * p + k))) := by
  obtain ⟨L2, L4, L5, L6, L7, L9, L10, L12, L13, L14, L15⟩ := pu_len_run hr
  generalize ha0 : 6 * p + k = a at hok ⊢
  have ha : a < 150 := by omega
  have n1 : 80 + a ≠ r := by omega
  have n2 : 80 + a ≠ r + 14 := by omega
  have n3 : 2 ≠ r := by omega
  have n4 : 3 ≠ r := by omega
  have n5 : 2 ≠ r + 14 := by omega
  have n6 : 3 ≠ r + 14 := by omega
  have m1 : r ≠ r + 14 := by omega
  have m2 : r + 4 ≠ r := by omega
  have m3 : r + 4 ≠ r + 14 := by omega
  have m4 : r + 6 ≠ r := by omega
  have m5 : r + 6 ≠ r + 14 := by omega
  have m6 : r + 9 ≠ r := by omega
  have m7 : r + 9 ≠ r + 14 := by omega
  have m8 : r + 12 ≠ r := by omega
  have m9 : r + 12 ≠ r + 14 := by omega
  have m10 : r + 14 ≠ r := by omega
  have m11 : r + 5 ≠ r := by omega
  have m12 : r + 10 ≠ r := by omega
  have m13 : r + 13 ≠ r := by omega
  have K1 : x_stK r r := Or.inl rfl
  have K2 : x_stK r (r + 14) := by unfold x_stK; omega
  have K3 : x_stK r (r + 4) := by unfold x_stK; omega
  have K4 : x_stK r (r + 5) := by unfold x_stK; omega
  have K5 : x_stK r (r + 6) := by unfold x_stK; omega
  have K6 : x_stK r (r + 9) := by unfold x_stK; omega
  have K7 : x_stK r (r + 10) := by unfold x_stK; omega
  have K8 : x_stK r (r + 12) := by unfold x_stK; omega
  have K9 : x_stK r (r + 13) := by unfold x_stK; omega
  rw [Run_step_eq, X_stepOf_s, c_step_nI, ha0]
  simp only [pd_bI_of, pd_bJ_of, pd_bV_of, pd_bR_of, cond_true, cond_false, show pd_len 8 = 150 from rfl, L14, pu_obN ha (show 150 < 2 ^ 31 by decide), nI_clamp (show a < 2 ^ 31 by omega), Change_isCopy_s, pu_u1n n1, pu_u1n n2]
  generalize hσ1 : pd_upI (pd_upI (pd_upI σ r 13 (-1)) r 15 (-1)) (r + 14) a (-1) = σ1
  have q1 : ∀ j, j ≠ r → j ≠ r + 14 → σ1.1 j = σ.1 j := fun j h1 h2 => by rw [← hσ1, pu_u1n h2, pu_u1n h1, pu_u1n h1]
  have q2 : σ1.2 = σ.2 := by rw [← hσ1]; rfl
  have q3 : σ1.1 r = upd (upd (σ.1 r) 13 (-1)) 15 (-1) := by rw [← hσ1, pu_u1n m1, pu_u1s, pu_u1s]
  have q4 : σ1.1 (r + 14) = upd (σ.1 (r + 14)) a (-1) := by rw [← hσ1, pu_u1s, pu_u1n m10, pu_u1n m10]
  have q5 : pu_fr (x_stK r) σ σ1 := by rw [← hσ1]; exact ((pu_fr.upI K1).tr (pu_fr.upI K1)).tr (pu_fr.upI K2)
  have e80 := q1 (80 + a) n1 n2
  have e2 := q1 2 n3 n5
  have e3 := q1 3 n4 n6
  have e4 := q1 (r + 4) m2 m3
  have e6 := q1 (r + 6) m4 m5
  have e9 := q1 (r + 9) m6 m7
  have e12 := q1 (r + 12) m8 m9
  obtain ⟨hc, hto⟩ := hok
  have hc : σ.1 (80 + a) 0 = -1 ∨ pu_sl (σ.1 (80 + a) 0) := hc
  have hto : pu_sl (σ.1 (80 + a) 3) := hto
  by_cases hcp : σ.1 (80 + a) 0 = -1
  · have F1 : c_f1 (σ.1 2) (σ.1 3) (x_chg σ a) = 0 := by
      show cond (decide (σ.1 (80 + a) 0 = (-1 : Int32))) 0 _ = 0
      rw [decide_eq_true hcp]; rfl
    have hFD : c_fd (σ.1 2) (σ.1 3) (x_rows σ r) (x_chg σ a) = c_f2 (σ.1 2) (σ.1 3) (x_rows σ r) (x_chg σ a) := by
      show cond (decide (c_f1 (σ.1 2) (σ.1 3) (x_chg σ a) = 0)) _ _ = _
      rw [F1]; rfl
    have hSR : c_sr (x_rows σ r) (x_chg σ a) = -1 := by
      show cond (decide (σ.1 (80 + a) 0 = (-1 : Int32))) _ _ = _
      rw [decide_eq_true hcp]; rfl
    have hWW : c_ww (x_rows σ r) (x_chg σ a) = σ.1 (80 + a) 2 := by
      show cond (decide (σ.1 (80 + a) 0 = (-1 : Int32))) _ _ = _
      rw [decide_eq_true hcp]; rfl
    have hHT : c_ht (x_rows σ r) (x_chg σ a) = c_tyW (σ.1 (80 + a) 2) := by
      show cond (decide (σ.1 (80 + a) 0 = (-1 : Int32))) _ _ = _
      rw [decide_eq_true hcp]; rfl
    have hHN : c_hn (x_rows σ r) (x_chg σ a) = c_mk (c_tyW (σ.1 (80 + a) 2)) (σ.1 (80 + a) 5) := by
      show cond (decide (σ.1 (80 + a) 0 = (-1 : Int32))) _ _ = _
      rw [decide_eq_true hcp]; rfl
    rw [decide_eq_true hcp]
    simp only [ pd_bI_of, pd_bJ_of, pd_bV_of, pd_bR_of, cond_true, cond_false, show decide ((0 : Int32) = 0) = true from rfl, X_typeWritten_s, X_numberMade_s, pu_u1n n1, e80, pu_u1s, pk_us]
    generalize hτ0 : pd_upJ (pd_upI (pd_upI σ1 r 15 (σ.1 (80 + a) 2)) r 17 (c_tyW (σ.1 (80 + a) 2))) r 18 (c_mk (c_tyW (σ.1 (80 + a) 2)) (σ.1 (80 + a) 5)) = τ0
    have g1 : ∀ j, j ≠ r → τ0.1 j = σ1.1 j := fun j h1 => by rw [← hτ0, pu_j1, pu_u1n h1, pu_u1n h1]
    have g2 : ∀ j, j ≠ r → τ0.2.1 j = σ.2.1 j := fun j h1 => by rw [← hτ0, pu_j2n h1]; show σ1.2.1 j = _; rw [q2]
    have g3 : τ0.1 r = upd (upd (σ1.1 r) 15 (σ.1 (80 + a) 2)) 17 (c_tyW (σ.1 (80 + a) 2)) := by rw [← hτ0, pu_j1, pu_u1s, pu_u1s]
    have g4 : pu_fr (x_stK r) σ1 τ0 := by rw [← hτ0]; exact ((pu_fr.upI K1).tr (pu_fr.upI K1)).tr (pu_fr.upJ K1)
    obtain ⟨τ, t1, t2, t3, t4, t5, t6⟩ := Run_step_tail (τ0 := τ0) (p := nI p) (d := some (pd_i (nI k))) hr ha hz hto ((g1 _ n1).trans e80) ((g1 _ n3).trans e2) ((g1 _ n4).trans e3) ((g1 _ m2).trans e4) (g2 _ m11) ((g1 _ m4).trans e6) ((g1 _ m6).trans e9) (g2 _ m12) ((g1 _ m8).trans e12) (g2 _ m13) (by rw [g1 _ m10, q4, hSR]) (by rw [g3, pk_un (by decide), pk_us, hWW]) (by rw [g3, pk_us, hHT]) (by rw [← hτ0, pu_j2s, pk_uLs, hHN])
    refine ⟨τ, ?_, ?_, ?_, (q5.tr g4).tr t4, fun j hj => ?_, ?_, fun h => absurd hcp h, ?_, fun _ => t6⟩
    · rw [hFD]; exact t1
    · rw [hFD]; exact t2
    · rw [hFD]; exact t3
    · rw [t5 j (by omega), g3, pk_un (by omega), pk_un (by omega), q3, pk_un (by omega), pk_un (by omega)]
    · show τ.1 r 13 = cond (decide (σ.1 (80 + a) 0 = (-1 : Int32))) (-1) _
      rw [decide_eq_true hcp, cond_true, t5 13 (by decide), g3, pk_un (by decide), pk_un (by decide), q3, pk_un (by decide), pk_us]
    · rw [F1, hWW, t5 15 (by decide), g3, pk_un (by decide), pk_us]; rfl
  · have hs : pu_sl (σ.1 (80 + a) 0) := hc.resolve_left hcp
    have nd : ∀ {α : Type} (x y : α), cond (decide (σ.1 (80 + a) 0 = (-1 : Int32))) x y = y := fun x y => by rw [decide_eq_false hcp]; rfl
    generalize hff : c_rdF (σ1.1 2) (σ1.1 3) (σ1.1 (80 + a) 0) (σ1.1 (80 + a) 2) (σ1.1 (80 + a) 1) = f
    have F1 : c_f1 (σ.1 2) (σ.1 3) (x_chg σ a) = f := by
      rw [← hff, e2, e3, e80]
      exact nd 0 _
    rw [Run_pickUp_s hr ha (by rw [e3]; exact hz) (by rw [e80]; exact hs) hff]
    rw [decide_eq_false hcp]
    simp only [cond_false, show decide ((1 : Int32) = 0) = false from rfl]
    by_cases h0 : f = 0
    · simp only [decide_eq_true h0, pd_bI_of, pd_bJ_of, pd_bV_of, pd_bR_of, cond_true, cond_false, pu_u1s, pu_u1n m1, pu_j1, pk_us, pk_un (show 14 ≠ 15 by decide), pk_un (show 14 ≠ 17 by decide), e80, q2, e4, e6]
      have hFD : c_fd (σ.1 2) (σ.1 3) (x_rows σ r) (x_chg σ a) = c_f2 (σ.1 2) (σ.1 3) (x_rows σ r) (x_chg σ a) := by
        show cond (decide (c_f1 (σ.1 2) (σ.1 3) (x_chg σ a) = 0)) _ _ = _
        rw [F1, h0]; rfl
      generalize hτ0 : pd_upI (pd_upJ (pd_upI (pd_upI (pd_upI (pd_upI σ1 r 13 (σ.1 (80 + a) 2)) r 14 f) (r + 14) a (σ.1 (r + 6) (c_cell (σ.1 (80 + a) 0) (σ.1 (80 + a) 1)))) r 17 (cond (decide (σ.1 (80 + a) 2 = 8)) (σ.1 (r + 4) (c_cell (σ.1 (80 + a) 0) (σ.1 (80 + a) 1))) (σ.1 (80 + a) 2))) r 18 (cond (decide (σ.1 (80 + a) 2 = 8)) (σ.2.1 (r + 5) (c_cell (σ.1 (80 + a) 0) (σ.1 (80 + a) 1))) (c_wd (σ.1 (r + 4) (c_cell (σ.1 (80 + a) 0) (σ.1 (80 + a) 1))) (σ.2.1 (r + 5) (c_cell (σ.1 (80 + a) 0) (σ.1 (80 + a) 1))) (σ.1 (80 + a) 2)))) r 15 (cond (decide (σ.1 (80 + a) 2 = 8)) (8 + σ.1 (r + 4) (c_cell (σ.1 (80 + a) 0) (σ.1 (80 + a) 1))) (σ.1 (80 + a) 2)) = τ0
      have g1 : ∀ j, j ≠ r → j ≠ r + 14 → τ0.1 j = σ1.1 j := fun j h1 h2 => by rw [← hτ0, pu_u1n h1, pu_j1, pu_u1n h1, pu_u1n h2, pu_u1n h1, pu_u1n h1]
      have g2 : ∀ j, j ≠ r → τ0.2.1 j = σ.2.1 j := fun j h1 => by rw [← hτ0]; show (pd_upJ _ r 18 _).2.1 j = _; rw [pu_j2n h1]; show σ1.2.1 j = _; rw [q2]
      have g3 : τ0.1 r = upd (upd (upd (upd (σ1.1 r) 13 (σ.1 (80 + a) 2)) 14 f) 17 (c_ht (x_rows σ r) (x_chg σ a))) 15 (c_ww (x_rows σ r) (x_chg σ a)) := by
        rw [← hτ0, pu_u1s, pu_j1, pu_u1s, pu_u1n m1, pu_u1s, pu_u1s]
        rw [show c_ht (x_rows σ r) (x_chg σ a) = _ from nd _ _, show c_ww (x_rows σ r) (x_chg σ a) = _ from nd _ _]
        rfl
      have g5 : τ0.1 (r + 14) = upd (upd (σ.1 (r + 14)) a (-1)) a (c_sr (x_rows σ r) (x_chg σ a)) := by
        rw [← hτ0, pu_u1n m10, pu_j1, pu_u1n m10, pu_u1s, pu_u1n m10, pu_u1n m10, q4]
        rw [show c_sr (x_rows σ r) (x_chg σ a) = _ from nd _ _]
        rfl
      have g6 : τ0.2.1 r 18 = c_hn (x_rows σ r) (x_chg σ a) := by
        rw [← hτ0]; show (pd_upJ _ r 18 _).2.1 r 18 = _; rw [pu_j2s, pk_uLs, show c_hn (x_rows σ r) (x_chg σ a) = _ from nd _ _]
        rfl
      have g4 : pu_fr (x_stK r) σ1 τ0 := by rw [← hτ0]; exact (((((pu_fr.upI K1).tr (pu_fr.upI K1)).tr (pu_fr.upI K2)).tr (pu_fr.upI K1)).tr (pu_fr.upJ K1)).tr (pu_fr.upI K1)
      have tw : ∀ (f : Nat → Int32) (i : Nat) (x y : Int32), upd (upd f i x) i y = upd f i y := fun f i x y => by
        funext j
        by_cases h : j = i
        · subst h; rw [pk_us, pk_us]
        · rw [pk_un h, pk_un h, pk_un h]
      obtain ⟨τ, t1, t2, t3, t4, t5, t6⟩ := Run_step_tail (τ0 := τ0) (p := nI p) (d := some (pd_i (nI k))) hr ha hz hto ((g1 _ n1 n2).trans e80) ((g1 _ n3 n5).trans e2) ((g1 _ n4 n6).trans e3) ((g1 _ m2 m3).trans e4) (g2 _ m11) ((g1 _ m4 m5).trans e6) ((g1 _ m6 m7).trans e9) (g2 _ m12) ((g1 _ m8 m9).trans e12) (g2 _ m13) (by rw [g5, tw]) (by rw [g3, pk_us]) (by rw [g3, pk_un (by decide), pk_us]) g6
      refine ⟨τ, ?_, ?_, ?_, (q5.tr g4).tr t4, fun j hj => ?_, ?_, fun _ => ?_, ?_, fun _ => t6⟩
      · rw [hFD]; exact t1
      · rw [hFD]; exact t2
      · rw [hFD]; exact t3
      · rw [t5 j (by omega), g3, pk_un (by omega), pk_un (by omega), pk_un (by omega), pk_un (by omega), q3, pk_un (by omega), pk_un (by omega)]
      · rw [t5 13 (by decide), g3, pk_un (by decide), pk_un (by decide), pk_un (by decide), pk_us]
        exact (nd _ _).symm
      · rw [t5 14 (by decide), g3, pk_un (by decide), pk_un (by decide), pk_us, F1]
      · rw [t5 15 (by decide), g3, pk_us, F1, decide_eq_true h0]; rfl
    · simp only [decide_eq_false h0, pd_bI_of, pd_bJ_of, pd_bV_of, pd_bR_of, cond_true, cond_false, pu_u1s, pk_us]
      have hFD : c_fd (σ.1 2) (σ.1 3) (x_rows σ r) (x_chg σ a) = f := by
        show cond (decide (c_f1 (σ.1 2) (σ.1 3) (x_chg σ a) = 0)) _ (c_f1 (σ.1 2) (σ.1 3) (x_chg σ a)) = _
        rw [F1, decide_eq_false h0]; rfl
      rw [hFD]
      refine ⟨_, rfl, fun h => absurd h h0, fun _ => ⟨?_, ?_, ?_, ?_, ?_, ?_, ?_, ?_⟩, q5.tr ((pu_fr.upI K1).tr (pu_fr.upI K1)), fun j hj => ?_, ?_, fun _ => ?_, ?_, fun h => ?_⟩
      · show (pd_upI (pd_upI σ1 r 13 _) r 14 f).1 (r + 4) = _; rw [pu_u1n m2, pu_u1n m2, e4]; rfl
      · show σ1.2.1 (r + 5) = _; rw [q2]; rfl
      · show (pd_upI (pd_upI σ1 r 13 _) r 14 f).1 (r + 6) = _; rw [pu_u1n m4, pu_u1n m4, e6]; rfl
      · show (pd_upI (pd_upI σ1 r 13 _) r 14 f).1 (r + 9) = _; rw [pu_u1n m6, pu_u1n m6, e9]; rfl
      · show σ1.2.1 (r + 10) = _; rw [q2]; rfl
      · show (pd_upI (pd_upI σ1 r 13 _) r 14 f).1 (r + 12) = _; rw [pu_u1n m8, pu_u1n m8, e12]; rfl
      · show σ1.2.1 (r + 13) = _; rw [q2]; rfl
      · intro j hj; show (pd_upI (pd_upI σ1 r 13 _) r 14 f).1 (r + 14) j = _; rw [pu_u1n m10, pu_u1n m10, q4, pk_un hj]; rfl
      · rw [pu_u1s, pk_un (by omega), pu_u1s, pk_un (by omega), q3, pk_un (by omega), pk_un (by omega)]
      · rw [pu_u1s, pk_un (by decide), pu_u1s, pk_us, e80]
        exact (nd _ _).symm
      · rw [pu_u1s, pk_us, F1]
      · rw [pu_u1s, pk_un (by decide), pu_u1s, pk_un (by decide), q3, pk_us, F1, decide_eq_false h0]; rfl
      · exact absurd (F1 ▸ h) h0
end STEP
