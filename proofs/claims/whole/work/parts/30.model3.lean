/-! The model does a change; what is met. -/
def c_rng (x : Int32) : Prop := ∃ g : Nat, g < 6 ∧ x = nI g
theorem c_rng_cond {b : Bool} {x y : Int32} (hx : c_rng x) (hy : c_rng y) : c_rng (cond b x y) := by cases b <;> assumption
theorem c_arrF_rng (kd : Nat → Int32) (s : Int32) : c_rng (c_arrF kd s) := by rcases c_arrF_cases kd s with h | h | h <;> rw [h] <;> exact ⟨_, by decide, rfl⟩
theorem c_rng0 : c_rng 0 := ⟨0, by decide, rfl⟩
theorem c_rng3 : c_rng 3 := ⟨3, by decide, rfl⟩
theorem c_rng4 : c_rng 4 := ⟨4, by decide, rfl⟩
theorem c_rng5 : c_rng 5 := ⟨5, by decide, rfl⟩
theorem c_idxF_rng (sz : Nat → Int32) (s i : Int32) : c_rng (c_idxF sz s i) := by
  unfold c_idxF
  repeat' first | exact c_rng5 | exact c_rng0 | apply c_rng_cond
theorem c_rdF_rng (kd sz : Nat → Int32) (s w i : Int32) : c_rng (c_rdF kd sz s w i) := by
  unfold c_rdF
  repeat' first | exact c_rng4 | exact c_rng3 | exact c_idxF_rng _ _ _ | exact c_arrF_rng _ _ | apply c_rng_cond
theorem c_wrF_rng (kd sz : Nat → Int32) (s w i : Int32) : c_rng (c_wrF kd sz s w i) := by
  unfold c_wrF
  repeat' first | exact c_rng4 | exact c_rng3 | exact c_idxF_rng _ _ _ | exact c_arrF_rng _ _ | apply c_rng_cond
theorem c_f1_rng (kd sz : Nat → Int32) (c : cC) : c_rng (c_f1 kd sz c) := by
  unfold c_f1
  exact c_rng_cond c_rng0 (c_rdF_rng _ _ _ _ _)
theorem c_fd_rng (kd sz : Nat → Int32) (R : cR) (c : cC) : c_rng (c_fd kd sz R c) := by
  unfold c_fd c_f2
  exact c_rng_cond (c_wrF_rng _ _ _ _ _) (c_f1_rng _ _ _)
theorem c_rng_le {x : Int32} (h : c_rng x) : decide (x ≤ 0) = decide (x = 0) := by
  obtain ⟨g, h1, rfl⟩ := h
  have : ∀ g, g < 6 → decide (nI g ≤ 0) = decide (nI g = 0) := by decide +kernel
  exact this g h1
/-- one more is met -/
def c_bmp (m : Nat → Int32) (row f : Int32) : Nat → Int32 := upd m (row * 6 + f).toNatClampNeg (m (row * 6 + f).toNatClampNeg + 1)
def c_ta1 (m : Nat → Int32) (c : cC) (f1 : Int32) : Nat → Int32 := cond (decide (c.1 = (-1 : Int32))) m (c_bmp m c.2.2.1 f1)
def c_ta2 (m : Nat → Int32) (ww f2 : Int32) : Nat → Int32 := cond (decide (20 ≤ ww)) m (c_bmp m (cond (decide (8 ≤ ww)) 17 (9 + ww)) f2)
def c_tal (m : Nat → Int32) (c : cC) (f1 ww f2 : Int32) : Nat → Int32 := cond (decide (f1 = 0)) (c_ta2 (c_ta1 m c f1) ww f2) (c_ta1 m c f1)
theorem c_row_ok {w : Nat} {f : Int32} (hw : w < 18) (hf : c_rng f) : ∃ j : Nat, j < 108 ∧ nI w * 6 + f = nI j := by
  obtain ⟨g, h1, rfl⟩ := hf
  exact ⟨6 * w + g, by omega, c_step_nI w g⟩
theorem M_meets_s {w : Nat} {f : Int32} (hw : w < 18) (hf : c_rng f) (σ : pd_H) : M_meets (nI w) f σ = some (pu_rwI σ 256 (c_bmp (σ.1 256) (nI w) f), none) := by
  obtain ⟨j, h1, h2⟩ := c_row_ok hw hf
  rw [M_meets_eq, Int32.mul_comm]
  unfold c_bmp
  rw [h2]
  simp only [show pd_len 256 = 108 from rfl, pu_obN h1 (show 108 < 2 ^ 31 by decide), pd_bI_of, pd_bJ_of, pd_bV_of, pd_bR_of, cond_true, cond_false]
  rfl
/-- the held value is one of its type; the canonical way -/
theorem c_held_ok {kd sz : Nat → Int32} {R : cR} {c : cC} (hk : c_kok kd) (hz : c_zok sz) (hc : c_cells kd sz R.1 R.2.1) (h : c_chok c) (h1 : c_f1 kd sz c = 0) : ∃ t : Nat, t < 12 ∧ c_ht R c = nI t ∧ c_tyW (c_ww R c) = nI t ∧ c_okv (nI t) (c_hn R c) ∧ (∃ w : Nat, w < 22 ∧ c_ww R c = nI w ∧ (c.1 ≠ -1 → w < 20)) := by
  obtain ⟨⟨hf, ht⟩, w, hw, hw1, hw2⟩ := h
  have tyW8 : ∀ t, t < 12 → c_tyW (nI (8 + t)) = nI t := by decide +kernel
  have tyWl : ∀ w, w < 8 → c_tyW (nI w) = nI w := by decide +kernel
  have tyWr : ∀ w, w < 22 → ∃ t, t < 12 ∧ c_tyW (nI w) = nI t := by
    have : ∀ w, w < 22 → (c_tyW (nI w)).toNatClampNeg < 12 ∧ c_tyW (nI w) = nI (c_tyW (nI w)).toNatClampNeg := by decide +kernel
    exact fun w h => ⟨_, (this w h).1, (this w h).2⟩
  by_cases hcp : c.1 = -1
  · have nd : ∀ {α : Type} (x y : α), cond (decide (c.1 = (-1 : Int32))) x y = x := fun x y => by rw [decide_eq_true hcp]; rfl
    obtain ⟨t, t1, t2⟩ := tyWr w (hw1 hcp)
    have e1 : c_ht R c = c_tyW c.2.2.1 := nd _ _
    have e2 : c_ww R c = c.2.2.1 := nd _ _
    have e3 : c_hn R c = c_mk (c_tyW c.2.2.1) c.2.2.2.2.2 := nd _ _
    refine ⟨t, t1, by rw [e1, hw, t2], by rw [e2, hw, t2], ?_, w, hw1 hcp, by rw [e2, hw], fun h => absurd hcp h⟩
    rw [e3, hw, t2]
    exact c_mk_ok t1 _
  · have nd : ∀ {α : Type} (x y : α), cond (decide (c.1 = (-1 : Int32))) x y = y := fun x y => by rw [decide_eq_false hcp]; rfl
    have hs := hf.resolve_left hcp
    have h1 : c_rdF kd sz c.1 c.2.2.1 c.2.1 = 0 := by
      have : c_f1 kd sz c = c_rdF kd sz c.1 c.2.2.1 c.2.1 := nd _ _
      rw [← this]; exact h1
    have harr := c_rdF_arr h1
    have hidx := c_rdF_idx h1
    obtain ⟨v1, v2⟩ := c_cells_at hc hz hs harr hidx
    have e1 : c_ht R c = cond (decide (c.2.2.1 = 8)) (R.1 (c_fc c)) c.2.2.1 := nd _ _
    have e2 : c_ww R c = cond (decide (c.2.2.1 = 8)) (8 + R.1 (c_fc c)) c.2.2.1 := nd _ _
    have e3 : c_hn R c = cond (decide (c.2.2.1 = 8)) (R.2.1 (c_fc c)) (c_wd (R.1 (c_fc c)) (R.2.1 (c_fc c)) c.2.2.1) := nd _ _
    have v1 : c_okv (R.1 (c_fc c)) (R.2.1 (c_fc c)) := v1
    have v2 : kd c.1.toNatClampNeg ≤ 7 → R.1 (c_fc c) = kd c.1.toNatClampNeg := v2
    by_cases h8 : c.2.2.1 = 8
    · rw [decide_eq_true h8, cond_true] at e1 e2 e3
      obtain ⟨t, t1, t2⟩ := v1.1
      have e4 : 8 + R.1 (c_fc c) = nI (8 + t) := by rw [t2]; exact nI_add 8 t
      refine ⟨t, t1, by rw [e1, t2], by rw [e2, e4, tyW8 t t1], ?_, 8 + t, by omega, by rw [e2, e4], fun _ => by omega⟩
      rw [e3, ← t2]; exact v1
    · rw [decide_eq_false h8, cond_false] at e1 e2 e3
      have hw8 : w < 8 := by
        have := hw2 hcp
        rcases Nat.lt_or_ge w 8 with q | q
        · exact q
        · exact absurd (by rw [hw, show w = 8 by omega]; rfl) h8
      have hrd : kd c.1.toNatClampNeg ≤ 7 ∧ c_wid (kd c.1.toNatClampNeg) c.2.2.1 ≠ 0 := by
        unfold c_rdF at h1
        rw [decide_eq_true harr, cond_true, decide_eq_false h8, cond_false] at h1
        by_cases h7 : kd c.1.toNatClampNeg ≤ 7
        · rw [decide_eq_true h7, cond_true] at h1
          refine ⟨h7, fun h0 => ?_⟩
          rw [decide_eq_true h0] at h1
          exact absurd (show (4 : Int32) = 0 from h1) (by decide)
        · rw [decide_eq_false h7] at h1
          exact absurd (show (3 : Int32) = 0 from h1) (by decide)
      obtain ⟨k, k1, k2⟩ := c_arrF_0 hk hs harr
      have hk8 : k < 8 := by
        have := hrd.1
        rw [k2, show (7 : Int32) = nI 7 from rfl, nI_leI (by omega) (by decide)] at this
        omega
      have hty : R.1 (c_fc c) = nI k := by rw [v2 hrd.1, k2]
      refine ⟨w, by omega, by rw [e1, hw], by rw [e2, hw, tyWl w hw8], ?_, w, by omega, by rw [e2, hw], fun _ => by omega⟩
      rw [e3, hty, hw]
      rw [hty] at v1
      have hwd := hrd.2
      rw [k2, hw] at hwd
      exact c_wd_ok hk8 hw8 v1 hwd
