/-! A change is done: canonical, and by the desk. -/
abbrev cC : Type := Int32 × Int32 × Int32 × Int32 × Int32 × Int32
/-- types and numbers of the cells, writers; before; after; sources -/
abbrev cR : Type := (Nat → Int32) × (Nat → Int64) × (Nat → Int32) × (Nat → Int32) × (Nat → Int64) × (Nat → Int32) × (Nat → Int64) × (Nat → Int32)
def c_cp (c : cC) : Bool := !decide (c.1 = (-1 : Int32))
def c_fc (c : cC) : Nat := c_cell c.1 c.2.1
def c_tc (c : cC) : Nat := c_cell c.2.2.2.1 c.2.2.2.2.1
def c_f1 (kd sz : Nat → Int32) (c : cC) : Int32 := cond (decide (c.1 = (-1 : Int32))) 0 (c_rdF kd sz c.1 c.2.2.1 c.2.1)
def c_ww (R : cR) (c : cC) : Int32 := cond (decide (c.1 = (-1 : Int32))) c.2.2.1 (cond (decide (c.2.2.1 = 8)) (8 + R.1 (c_fc c)) c.2.2.1)
def c_ht (R : cR) (c : cC) : Int32 := cond (decide (c.1 = (-1 : Int32))) (c_tyW c.2.2.1) (cond (decide (c.2.2.1 = 8)) (R.1 (c_fc c)) c.2.2.1)
def c_hn (R : cR) (c : cC) : Int64 := cond (decide (c.1 = (-1 : Int32))) (c_mk (c_tyW c.2.2.1) c.2.2.2.2.2) (cond (decide (c.2.2.1 = 8)) (R.2.1 (c_fc c)) (c_wd (R.1 (c_fc c)) (R.2.1 (c_fc c)) c.2.2.1))
def c_f2 (kd sz : Nat → Int32) (R : cR) (c : cC) : Int32 := c_wrF kd sz c.2.2.2.1 (c_ww R c) c.2.2.2.2.1
def c_fd (kd sz : Nat → Int32) (R : cR) (c : cC) : Int32 := cond (decide (c_f1 kd sz c = 0)) (c_f2 kd sz R c) (c_f1 kd sz c)
def c_nt (kd : Nat → Int32) (R : cR) (c : cC) : Int32 := cond (decide (7 < kd c.2.2.2.1.toNatClampNeg)) (c_ht R c) (kd c.2.2.2.1.toNatClampNeg)
def c_nn (kd : Nat → Int32) (R : cR) (c : cC) : Int64 := cond (decide (7 < kd c.2.2.2.1.toNatClampNeg)) (c_hn R c) (c_wd (c_ht R c) (c_hn R c) (kd c.2.2.2.1.toNatClampNeg))
def c_sr (R : cR) (c : cC) : Int32 := cond (decide (c.1 = (-1 : Int32))) (-1) (R.2.2.1 (c_fc c))
/-- the rows behind a change that has no finding -/
def c_one (kd : Nat → Int32) (p : Int32) (a : Nat) (c : cC) (R : cR) : cR :=
  (upd R.1 (c_tc c) (c_nt kd R c), vp_updL R.2.1 (c_tc c) (c_nn kd R c), upd R.2.2.1 (c_tc c) p, upd R.2.2.2.1 a (R.1 (c_tc c)), vp_updL R.2.2.2.2.1 a (R.2.1 (c_tc c)), upd R.2.2.2.2.2.1 a (c_nt kd R c), vp_updL R.2.2.2.2.2.2.1 a (c_nn kd R c), upd R.2.2.2.2.2.2.2 a (c_sr R c))
/-- a change as the desk holds it; a run's rows -/
def x_chg (σ : pd_H) (a : Nat) : cC := (σ.1 (80 + a) 0, σ.1 (80 + a) 1, σ.1 (80 + a) 2, σ.1 (80 + a) 3, σ.1 (80 + a) 4, σ.1 (80 + a) 5)
def x_rows (σ : pd_H) (r : Nat) : cR := (σ.1 (r + 4), σ.2.1 (r + 5), σ.1 (r + 6), σ.1 (r + 9), σ.2.1 (r + 10), σ.1 (r + 12), σ.2.1 (r + 13), σ.1 (r + 14))
/-- sizes are at most 12 -/
def c_szok (sz : Nat → Int32) : Prop := ∀ s, s < 6 → sz s ≤ (12 : Int32)
/-- a change of slots -/
def c_ok (c : cC) : Prop := (c.1 = -1 ∨ pu_sl c.1) ∧ pu_sl c.2.2.2.1
theorem c_idxF_0 {sz : Nat → Int32} {s i : Int32} (hz : c_szok sz) (hs : pu_sl s) (h : c_idxF sz s i = 0) : ∃ j : Nat, j < 12 ∧ i = nI j ∧ i < sz s.toNatClampNeg := by
  unfold c_idxF at h
  by_cases h0 : i < 0
  · rw [decide_eq_true h0] at h; exact absurd (show (5 : Int32) = 0 from h) (by decide)
  · rw [decide_eq_false h0, cond_false] at h
    by_cases h1 : i < sz s.toNatClampNeg
    · obtain ⟨j, h2, rfl⟩ := nI_of h0
      refine ⟨j, ?_, rfl, h1⟩
      have h3 := Int32.lt_of_lt_of_le h1 (hz _ (pu_sl_cl hs))
      rw [show (12 : Int32) = nI 12 from rfl, nI_ltI h2 (by decide)] at h3
      exact h3
    · rw [decide_eq_false h1] at h; exact absurd (show (5 : Int32) = 0 from h) (by decide)
theorem c_rdF_idx {kd sz : Nat → Int32} {s w i : Int32} (h : c_rdF kd sz s w i = 0) : c_idxF sz s i = 0 := by
  unfold c_rdF at h
  cases h1 : decide (c_arrF kd s = 0) with
  | false => rw [h1, cond_false] at h; rw [h] at h1; exact absurd h1 (by decide)
  | true =>
    rw [h1, cond_true] at h
    cases h2 : decide (w = 8) with
    | true => rw [h2] at h; exact h
    | false =>
      rw [h2, cond_false] at h
      cases h3 : decide (kd s.toNatClampNeg ≤ 7) with
      | false => rw [h3] at h; exact absurd (show (3 : Int32) = 0 from h) (by decide)
      | true =>
        rw [h3, cond_true] at h
        cases h4 : decide (c_wid (kd s.toNatClampNeg) w = 0) with
        | true => rw [h4] at h; exact absurd (show (4 : Int32) = 0 from h) (by decide)
        | false => rw [h4] at h; exact h
theorem c_wrF_idx {kd sz : Nat → Int32} {s w i : Int32} (h : c_wrF kd sz s w i = 0) : c_idxF sz s i = 0 := by
  unfold c_wrF at h
  cases h1 : decide (c_arrF kd s = 0) with
  | false => rw [h1, cond_false] at h; rw [h] at h1; exact absurd h1 (by decide)
  | true =>
    rw [h1, cond_true] at h
    have k : cond (decide (c_tak (kd s.toNatClampNeg) (c_tyW w) = 0)) 4 (c_idxF sz s i) = 0 → c_idxF sz s i = 0 := by
      intro h
      cases h4 : decide (c_tak (kd s.toNatClampNeg) (c_tyW w) = 0) with
      | true => rw [h4] at h; exact absurd (show (4 : Int32) = 0 from h) (by decide)
      | false => rw [h4] at h; exact h
    cases h3 : decide (kd s.toNatClampNeg ≤ 7) with
    | true => rw [h3] at h; exact k h
    | false =>
      rw [h3, cond_false] at h
      cases h2 : decide (8 ≤ w) with
      | true => rw [h2] at h; exact k h
      | false => rw [h2] at h; exact absurd (show (3 : Int32) = 0 from h) (by decide)
/-- a cell that there is -/
theorem c_cell_ok {sz : Nat → Int32} {s i : Int32} (hz : c_szok sz) (hs : pu_sl s) (h : c_idxF sz s i = 0) : s * 12 + i = nI (c_cell s i) ∧ c_cell s i < 72 := by
  obtain ⟨j, h1, rfl, -⟩ := c_idxF_0 hz hs h
  obtain ⟨k, h2, rfl⟩ := pu_sl_nI hs
  rw [c_cell_nI h2 h1, c_cell_eq h2 h1]
  exact ⟨rfl, by omega⟩
theorem Change_isCopy_s (o : Nat) (σ : pd_H) : Change_isCopy o σ = some (σ, some (pd_i (cond (decide (σ.1 o 0 = (-1 : Int32))) 0 1))) := by
  rw [Change_isCopy_eq]; simp only [pu_cs]
section STEP
variable {r a : Nat} {σ : pd_H}
set_option maxHeartbeats 4000000 in
theorem Run_pickUp_s (hr : r = 32 ∨ r = 48 ∨ r = 64) (ha : a < 150) (hz : c_szok (σ.1 3)) (hs : pu_sl (σ.1 (80 + a) 0)) {f : Int32} (hf : c_rdF (σ.1 2) (σ.1 3) (σ.1 (80 + a) 0) (σ.1 (80 + a) 2) (σ.1 (80 + a) 1) = f) :
    Run_pickUp r (80 + a) (nI a) σ = cond (decide (f = 0)) (some (pd_upI (pd_upJ (pd_upI (pd_upI (pd_upI (pd_upI σ r 13 (σ.1 (80 + a) 2)) r 14 f) (r + 14) a (σ.1 (r + 6) (c_cell (σ.1 (80 + a) 0) (σ.1 (80 + a) 1)))) r 17 (cond (decide (σ.1 (80 + a) 2 = 8)) (σ.1 (r + 4) (c_cell (σ.1 (80 + a) 0) (σ.1 (80 + a) 1))) (σ.1 (80 + a) 2))) r 18 (cond (decide (σ.1 (80 + a) 2 = 8)) (σ.2.1 (r + 5) (c_cell (σ.1 (80 + a) 0) (σ.1 (80 + a) 1))) (c_wd (σ.1 (r + 4) (c_cell (σ.1 (80 + a) 0) (σ.1 (80 + a) 1))) (σ.2.1 (r + 5) (c_cell (σ.1 (80 + a) 0) (σ.1 (80 + a) 1))) (σ.1 (80 + a) 2)))) r 15 (cond (decide (σ.1 (80 + a) 2 = 8)) (8 + σ.1 (r + 4) (c_cell (σ.1 (80 + a) 0) (σ.1 (80 + a) 1))) (σ.1 (80 + a) 2)), none)) (some (pd_upI (pd_upI σ r 13 (σ.1 (80 + a) 2)) r 14 f, none)) := by
  obtain ⟨L2, L4, L5, L6, L7, L9, L10, L12, L13, L14, L15⟩ := pu_len_run hr
  have n1 : 80 + a ≠ r := by omega
  have n2 : 80 + a ≠ r + 14 := by omega
  have n3 : 2 ≠ r := by omega
  have n4 : 3 ≠ r := by omega
  have n5 : r + 6 ≠ r := by omega
  have n6 : r + 4 ≠ r := by omega
  have n7 : r + 4 ≠ r + 14 := by omega
  have n8 : r ≠ r + 14 := by omega
  rw [Run_pickUp_eq]
  simp only [pu_u1n n1, pu_u1s, pk_us, pk_un (show 13 ≠ 14 by decide)]
  rw [Shelf_readingFinding_s hs]
  simp only [pu_u1n n3, pu_u1n n4, pd_bI_of, pd_bJ_of, pd_bV_of, pd_bR_of, cond_true, cond_false, hf, X_cellOf_s, pu_u1n n1]
  by_cases h0 : f = 0
  · have hi := c_rdF_idx (h0 ▸ hf)
    obtain ⟨e1, e2⟩ := c_cell_ok hz hs hi
    simp only [decide_eq_true h0, pd_bI_of, pd_bJ_of, pd_bV_of, pd_bR_of, cond_true, cond_false, e1, L6, L14, L4, L5, pu_obN e2 (show 72 < 2 ^ 31 by decide), pu_obN ha (show 150 < 2 ^ 31 by decide), nI_clamp (show a < 2 ^ 31 by omega), nI_clamp (show c_cell (σ.1 (80 + a) 0) (σ.1 (80 + a) 1) < 2 ^ 31 by omega), pu_u1n n5, pu_u1n n6, pu_u1n n7, pu_u1n n8, pu_u1n n1, pu_u1n n2, pu_u1s, pk_us, pk_un (show 13 ≠ 14 by decide), pk_un (show 13 ≠ 17 by decide), pk_un (show 17 ≠ 13 by decide), pu_u2, pu_j1, X_widened_s]
    by_cases h8 : σ.1 (80 + a) 2 = 8
    · simp only [decide_eq_true h8, pd_bI_of, pd_bJ_of, pd_bV_of, pd_bR_of, cond_true, cond_false]
    · simp only [decide_eq_false h8, pd_bI_of, pd_bJ_of, pd_bV_of, pd_bR_of, cond_true, cond_false, pu_u1s, pu_u1n n8, pk_us, pk_un (show 13 ≠ 14 by decide), pk_un (show 13 ≠ 17 by decide)]
  · simp only [decide_eq_false h0, pd_bI_of, pd_bJ_of, pd_bV_of, pd_bR_of, cond_true, cond_false]
/-- what putDown leaves -/
def x_put (σ : pd_H) (r a tc : Nat) (nt : Int32) (nn : Int64) : pd_H := pd_upJ (pd_upI (pd_upJ (pd_upI (pd_upJ (pd_upI σ (r + 9) a (σ.1 (r + 4) tc)) (r + 10) a (σ.2.1 (r + 5) tc)) (r + 4) tc nt) (r + 5) tc nn) (r + 12) a nt) (r + 13) a nn
set_option maxHeartbeats 4000000 in
theorem Run_putDown_s (hr : r = 32 ∨ r = 48 ∨ r = 64) (ha : a < 150) (hz : c_szok (σ.1 3)) (hs : pu_sl (σ.1 (80 + a) 3)) (hi : c_idxF (σ.1 3) (σ.1 (80 + a) 3) (σ.1 (80 + a) 4) = 0) :
    Run_putDown r (80 + a) (nI a) σ = some (x_put σ r a (c_cell (σ.1 (80 + a) 3) (σ.1 (80 + a) 4)) (cond (decide (7 < σ.1 2 (σ.1 (80 + a) 3).toNatClampNeg)) (σ.1 r 17) (σ.1 2 (σ.1 (80 + a) 3).toNatClampNeg)) (cond (decide (7 < σ.1 2 (σ.1 (80 + a) 3).toNatClampNeg)) (σ.2.1 r 18) (c_wd (σ.1 r 17) (σ.2.1 r 18) (σ.1 2 (σ.1 (80 + a) 3).toNatClampNeg))), none) := by
  obtain ⟨L2, L4, L5, L6, L7, L9, L10, L12, L13, L14, L15⟩ := pu_len_run hr
  obtain ⟨e1, e2⟩ := c_cell_ok hz hs hi
  generalize htc : c_cell (σ.1 (80 + a) 3) (σ.1 (80 + a) 4) = tc at e1 e2
  have n1 : 80 + a ≠ r + 8 + 1 := by omega
  have n2 : 2 ≠ r + 8 + 1 := by omega
  have n3 : r ≠ r + 8 + 1 := by omega
  have n4 : r ≠ r + 8 + 2 := by omega
  have n5 : r + 4 ≠ r + 8 + 1 := by omega
  have n6 : r + 5 ≠ r + 8 + 2 := by omega
  have s1 := pu_sl_ob hs
  have b72 : ∀ {i : Nat}, i < 72 → pd_ob (nI i) 72 = false := fun h => pu_obN h (by decide)
  have P1 := fun (b : Int32) (c : Int64) (τ : pd_H) => Values_put_s (o := r + 8) (b := b) (c := c) τ L9 L10 ha (by decide)
  have P2 := fun (b : Int32) (c : Int64) (τ : pd_H) => Values_put_s (o := r + 3) (b := b) (c := c) τ L4 L5 e2 (by decide)
  have P3 := fun (b : Int32) (c : Int64) (τ : pd_H) => Values_put_s (o := r + 11) (b := b) (c := c) τ L12 L13 ha (by decide)
  rw [Run_putDown_eq]
  simp only [X_cellOf_s, pd_bI_of, pd_bJ_of, pd_bV_of, pd_bR_of, cond_true, cond_false, e1, L4, L5, b72 e2, nI_clamp (show tc < 2 ^ 31 by omega), P1, pu_j1, pu_u1n n1, pu_u1n n2, pu_u1n n3, s1, show pd_len 2 = 6 from rfl, X_widened_s, P2, pu_j2n n4, pu_u2, Run_putDown_L101_eq, P3]
  by_cases h7 : 7 < σ.1 2 (σ.1 (80 + a) 3).toNatClampNeg
  · simp only [decide_eq_true h7, pd_bI_of, pd_bJ_of, pd_bV_of, pd_bR_of, cond_true, cond_false, pu_j1, pu_u1s, pk_us, pu_j2s, pk_uLs, x_put]
  · simp only [decide_eq_false h7, pd_bI_of, pd_bJ_of, pd_bV_of, pd_bR_of, cond_true, cond_false, pu_j1, pu_u1s, pk_us, pu_j2s, pk_uLs, x_put]
end STEP
