/-! (whole, 30.model3) -/
/-! The model does a change; what is met. -/
def c_rng (x : Int32) : Prop := ∃ g : Nat, g < 6 ∧ x = nI g
theorem c_rng_cond {b : Bool} {x y : Int32} (hx : c_rng x) (hy : c_rng y) : c_rng (cond b x y) := by cases b <;> assumption
theorem c_arrF_rng (kd : Nat → Int32) (s : Int32) : c_rng (c_arrF kd s) := by rcases c_arrF_cases kd s with h | h | h <;> rw [h] <;> exact ⟨_, by decide, rfl⟩
theorem c_rng0 : c_rng 0 := ⟨0, by decide, rfl⟩
theorem c_rng3 : c_rng 3 := ⟨3, by decide, rfl⟩
theorem c_rng4 : c_rng 4 := ⟨4, by decide, rfl⟩
theorem c_rng5 : c_rng 5 := ⟨5, by decide, rfl⟩
theorem c_idxF_rng (sz : Nat → Int32) (s i : Int32) : c_rng (c_idxF sz s i) := by
  unfold c_idxF
  repeat' first | exact c_rng5 | exact c_rng0 | apply c_rng_cond
theorem c_rdF_rng (kd sz : Nat → Int32) (s w i : Int32) : c_rng (c_rdF kd sz s w i) := by
  unfold c_rdF
  repeat' first | exact c_rng4 | exact c_rng3 | exact c_idxF_rng _ _ _ | exact c_arrF_rng _ _ | apply c_rng_cond
theorem c_wrF_rng (kd sz : Nat → Int32) (s w i : Int32) : c_rng (c_wrF kd sz s w i) := by
  unfold c_wrF
  repeat' first | exact c_rng4 | exact c_rng3 | exact c_idxF_rng _ _ _ | exact c_arrF_rng _ _ | apply c_rng_cond
theorem c_f1_rng (kd sz : Nat → Int32) (c : cC) : c_rng (c_f1 kd sz c) := by
  unfold c_f1
  exact c_rng_cond c_rng0 (c_rdF_rng _ _ _ _ _)
theorem c_fd_rng (kd sz : Nat → Int32) (R : cR) (c : cC) : c_rng (c_fd kd sz R c) := by
  unfold c_fd c_f2
  exact c_rng_cond (c_wrF_rng _ _ _ _ _) (c_f1_rng _ _ _)
/-- one more is met -/
def c_bmp (m : Nat → Int32) (row f : Int32) : Nat → Int32 := upd m (row * 6 + f).toNatClampNeg (m (row * 6 + f).toNatClampNeg + 1)
def c_ta1 (m : Nat → Int32) (c : cC) (f1 : Int32) : Nat → Int32 := cond (decide (c.1 = (-1 : Int32))) m (c_bmp m c.2.2.1 f1)
def c_ta2 (m : Nat → Int32) (ww f2 : Int32) : Nat → Int32 := cond (decide (20 ≤ ww)) m (c_bmp m (cond (decide (8 ≤ ww)) 17 (9 + ww)) f2)
def c_tal (m : Nat → Int32) (c : cC) (f1 ww f2 : Int32) : Nat → Int32 := cond (decide (f1 = 0)) (c_ta2 (c_ta1 m c f1) ww f2) (c_ta1 m c f1)
theorem c_row_ok {w : Nat} {f : Int32} (hw : w < 18) (hf : c_rng f) : ∃ j : Nat, j < 108 ∧ nI w * 6 + f = nI j := by
  obtain ⟨g, h1, rfl⟩ := hf
  exact ⟨6 * w + g, by omega, c_step_nI w g⟩
/-- the held value is one of its type; the canonical way -/
theorem c_held_ok {kd sz : Nat → Int32} {R : cR} {c : cC} (hk : c_kok kd) (hz : c_zok sz) (hc : c_cells kd sz R.1 R.2.1) (h : c_chok c) (h1 : c_f1 kd sz c = 0) : ∃ t : Nat, t < 12 ∧ c_ht R c = nI t ∧ c_tyW (c_ww R c) = nI t ∧ c_okv (nI t) (c_hn R c) ∧ (∃ w : Nat, w < 22 ∧ c_ww R c = nI w ∧ (c.1 ≠ -1 → w < 20)) := by
  obtain ⟨⟨hf, ht⟩, w, hw, hw1, hw2⟩ := h
  have tyW8 : ∀ t, t < 12 → c_tyW (nI (8 + t)) = nI t := by decide +kernel
  have tyWl : ∀ w, w < 8 → c_tyW (nI w) = nI w := by decide +kernel
  have tyWr : ∀ w, w < 22 → ∃ t, t < 12 ∧ c_tyW (nI w) = nI t := by
    have : ∀ w, w < 22 → (c_tyW (nI w)).toNatClampNeg < 12 ∧ c_tyW (nI w) = nI (c_tyW (nI w)).toNatClampNeg := by decide +kernel
    exact fun w h => ⟨_, (this w h).1, (this w h).2⟩
  by_cases hcp : c.1 = -1
  · have nd : ∀ {α : Type} (x y : α), cond (decide (c.1 = (-1 : Int32))) x y = x := fun x y => by rw [decide_eq_true hcp]; rfl
    obtain ⟨t, t1, t2⟩ := tyWr w (hw1 hcp)
    have e1 : c_ht R c = c_tyW c.2.2.1 := nd _ _
    have e2 : c_ww R c = c.2.2.1 := nd _ _
    have e3 : c_hn R c = c_mk (c_tyW c.2.2.1) c.2.2.2.2.2 := nd _ _
    refine ⟨t, t1, by rw [e1, hw, t2], by rw [e2, hw, t2], ?_, w, hw1 hcp, by rw [e2, hw], fun h => absurd hcp h⟩
    rw [e3, hw, t2]
    exact c_mk_ok t1 _
  · have nd : ∀ {α : Type} (x y : α), cond (decide (c.1 = (-1 : Int32))) x y = y := fun x y => by rw [decide_eq_false hcp]; rfl
    have hs := hf.resolve_left hcp
    have h1 : c_rdF kd sz c.1 c.2.2.1 c.2.1 = 0 := by
      have : c_f1 kd sz c = c_rdF kd sz c.1 c.2.2.1 c.2.1 := nd _ _
      rw [← this]; exact h1
    have harr := c_rdF_arr h1
    have hidx := c_rdF_idx h1
    obtain ⟨v1, v2⟩ := c_cells_at hc hz hs harr hidx
    have e1 : c_ht R c = cond (decide (c.2.2.1 = 8)) (R.1 (c_fc c)) c.2.2.1 := nd _ _
    have e2 : c_ww R c = cond (decide (c.2.2.1 = 8)) (8 + R.1 (c_fc c)) c.2.2.1 := nd _ _
    have e3 : c_hn R c = cond (decide (c.2.2.1 = 8)) (R.2.1 (c_fc c)) (c_wd (R.1 (c_fc c)) (R.2.1 (c_fc c)) c.2.2.1) := nd _ _
    have v1 : c_okv (R.1 (c_fc c)) (R.2.1 (c_fc c)) := v1
    have v2 : kd c.1.toNatClampNeg ≤ 7 → R.1 (c_fc c) = kd c.1.toNatClampNeg := v2
    by_cases h8 : c.2.2.1 = 8
    · rw [decide_eq_true h8, cond_true] at e1 e2 e3
      obtain ⟨t, t1, t2⟩ := v1.1
      have e4 : 8 + R.1 (c_fc c) = nI (8 + t) := by rw [t2]; exact nI_add 8 t
      refine ⟨t, t1, by rw [e1, t2], by rw [e2, e4, tyW8 t t1], ?_, 8 + t, by omega, by rw [e2, e4], fun _ => by omega⟩
      rw [e3, ← t2]; exact v1
    · rw [decide_eq_false h8, cond_false] at e1 e2 e3
      have hw8 : w < 8 := by
        have := hw2 hcp
        rcases Nat.lt_or_ge w 8 with q | q
        · exact q
        · exact absurd (by rw [hw, show w = 8 by omega]; rfl) h8
      have hrd : kd c.1.toNatClampNeg ≤ 7 ∧ c_wid (kd c.1.toNatClampNeg) c.2.2.1 ≠ 0 := by
        unfold c_rdF at h1
        rw [decide_eq_true harr, cond_true, decide_eq_false h8, cond_false] at h1
        by_cases h7 : kd c.1.toNatClampNeg ≤ 7
        · rw [decide_eq_true h7, cond_true] at h1
          refine ⟨h7, fun h0 => ?_⟩
          rw [decide_eq_true h0] at h1
          exact absurd (show (4 : Int32) = 0 from h1) (by decide)
        · rw [decide_eq_false h7] at h1
          exact absurd (show (3 : Int32) = 0 from h1) (by decide)
      obtain ⟨k, k1, k2⟩ := c_arrF_0 hk hs harr
      have hk8 : k < 8 := by
        have := hrd.1
        rw [k2, show (7 : Int32) = nI 7 from rfl, nI_leI (by omega) (by decide)] at this
        omega
      have hty : R.1 (c_fc c) = nI k := by rw [v2 hrd.1, k2]
      refine ⟨w, by omega, by rw [e1, hw], by rw [e2, hw, tyWl w hw8], ?_, w, by omega, by rw [e2, hw], fun _ => by omega⟩
      rw [e3, hty, hw]
      rw [hty] at v1
      have hwd := hrd.2
      rw [k2, hw] at hwd
      exact c_wd_ok hk8 hw8 v1 hwd
/-! (whole, 32.mplay) -/
/-! The model's plays. -/
theorem c_tc_eq {s i : Int32} (hs : pu_sl s) {j k : Nat} (hj : j < 6) (hk : k < 12) (hi : ∃ m : Nat, m < 12 ∧ i = nI m) (h : 12 * j + k = c_cell s i) : s = nI j ∧ i = nI k := by
  obtain ⟨m, h1, rfl⟩ := hi
  obtain ⟨q, h2, rfl⟩ := pu_sl_nI hs
  rw [c_cell_eq h2 h1] at h
  exact ⟨by rw [show q = j by omega], by rw [show m = k by omega]⟩
/-- cells stay good -/
theorem c_one_cells {kd sz : Nat → Int32} {R : cR} {c : cC} {p : Int32} {a : Nat} (hk : c_kok kd) (hz : c_zok sz) (hc : c_cells kd sz R.1 R.2.1) (h : c_chok c) (h0 : c_fd kd sz R c = 0) : c_cells kd sz (c_one kd p a c R).1 (c_one kd p a c R).2.1 := by
  have h1 : c_f1 kd sz c = 0 := by
    unfold c_fd at h0
    by_cases q : c_f1 kd sz c = 0
    · exact q
    · rw [decide_eq_false q, cond_false] at h0; exact absurd h0 q
  have h2 : c_f2 kd sz R c = 0 := by
    unfold c_fd at h0
    rw [h1] at h0; exact h0
  obtain ⟨t, t1, t2, t3, t4, w, w1, w2, w3⟩ := c_held_ok hk hz hc h h1
  have hs : pu_sl c.2.2.2.1 := h.1.2
  have harr := c_wrF_arr h2
  have hidx := c_wrF_idx h2
  obtain ⟨k, k1, k2⟩ := c_arrF_0 hk hs harr
  -- the new value
  have hnew : c_okv (c_nt kd R c) (c_nn kd R c) ∧ (kd c.2.2.2.1.toNatClampNeg ≤ 7 → c_nt kd R c = kd c.2.2.2.1.toNatClampNeg) := by
    unfold c_nt c_nn
    by_cases h7 : 7 < kd c.2.2.2.1.toNatClampNeg
    · rw [decide_eq_true h7, cond_true, cond_true, t2]
      exact ⟨t4, fun q => absurd (Int32.lt_of_lt_of_le h7 q) (Int32.lt_irrefl)⟩
    · rw [decide_eq_false h7, cond_false, cond_false]
      refine ⟨?_, fun _ => rfl⟩
      have h7' : kd c.2.2.2.1.toNatClampNeg ≤ 7 := Int32.not_lt.mp h7
      have hk8 : k < 8 := by
        rw [k2, show (7 : Int32) = nI 7 from rfl, nI_leI (by omega) (by decide)] at h7'
        omega
      have htk : c_tak (nI k) (nI t) ≠ 0 := by
        intro e
        unfold c_f2 c_wrF at h2
        rw [decide_eq_true harr, cond_true, decide_eq_true h7', cond_true, t3, k2, decide_eq_true e, cond_true] at h2
        exact absurd h2 (by decide)
      obtain ⟨e1, e2⟩ := c_tak_wid k hk8 t t1 htk
      rw [k2, t2]
      exact c_wd_ok e1 hk8 t4 e2
  intro j hj ha i hi hsz
  show c_okv (upd R.1 (c_tc c) (c_nt kd R c) (12 * j + i)) (vp_updL R.2.1 (c_tc c) (c_nn kd R c) (12 * j + i)) ∧ (kd j ≤ 7 → upd R.1 (c_tc c) (c_nt kd R c) (12 * j + i) = kd j)
  by_cases e : 12 * j + i = c_tc c
  · obtain ⟨e1, e2⟩ := c_tc_eq hs hj hi (by obtain ⟨m, m1, m2, -⟩ := c_idxF_0 hz.sz hs hidx; exact ⟨m, m1, m2⟩) e
    rw [e, pk_us, pk_uLs]
    refine ⟨hnew.1, fun q => ?_⟩
    have := hnew.2
    rw [e1, nI_clamp (by omega)] at this
    exact this q
  · rw [pk_un e, pk_uLn e]
    exact hc j hj ha i hi hsz
/-! (whole, 33.agr) -/
/-! What is not there makes no difference. -/
def c_kz (kd sz kd' sz' : Nat → Int32) : Prop := ∀ s, s < 6 → kd s = kd' s ∧ (c_arrF kd (nI s) = 0 → sz s = sz' s)
def c_vc (kd sz : Nat → Int32) (c : Nat) : Prop := ∃ j i, j < 6 ∧ i < 12 ∧ c_arrF kd (nI j) = 0 ∧ nI i < sz j ∧ c = 12 * j + i
def c_lgs (R T : cR) (a : Nat) : Prop := R.2.2.2.1 a = T.2.2.2.1 a ∧ R.2.2.2.2.1 a = T.2.2.2.2.1 a ∧ R.2.2.2.2.2.1 a = T.2.2.2.2.2.1 a ∧ R.2.2.2.2.2.2.1 a = T.2.2.2.2.2.2.1 a ∧ R.2.2.2.2.2.2.2 a = T.2.2.2.2.2.2.2 a
def c_agr (V D : Nat → Prop) (R T : cR) : Prop := (∀ c, V c → R.1 c = T.1 c ∧ R.2.1 c = T.2.1 c ∧ R.2.2.1 c = T.2.2.1 c) ∧ ∀ a, D a → c_lgs R T a
theorem c_agr.mono {V D W F : Nat → Prop} {R T : cR} (h : c_agr V D R T) (h1 : ∀ c, W c → V c) (h2 : ∀ c, F c → D c) : c_agr W F R T := ⟨fun c hc => h.1 c (h1 c hc), fun a ha => h.2 a (h2 a ha)⟩
theorem c_agr.symm {V D : Nat → Prop} {R T : cR} (h : c_agr V D R T) : c_agr V D T R := ⟨fun c hc => ⟨(h.1 c hc).1.symm, (h.1 c hc).2.1.symm, (h.1 c hc).2.2.symm⟩, fun a ha => ⟨(h.2 a ha).1.symm, (h.2 a ha).2.1.symm, (h.2 a ha).2.2.1.symm, (h.2 a ha).2.2.2.1.symm, (h.2 a ha).2.2.2.2.symm⟩⟩
theorem c_agr.trans {V D : Nat → Prop} {R T U : cR} (h : c_agr V D R T) (g : c_agr V D T U) : c_agr V D R U := ⟨fun c hc => ⟨(h.1 c hc).1.trans (g.1 c hc).1, (h.1 c hc).2.1.trans (g.1 c hc).2.1, (h.1 c hc).2.2.trans (g.1 c hc).2.2⟩, fun a ha => ⟨(h.2 a ha).1.trans (g.2 a ha).1, (h.2 a ha).2.1.trans (g.2 a ha).2.1, (h.2 a ha).2.2.1.trans (g.2 a ha).2.2.1, (h.2 a ha).2.2.2.1.trans (g.2 a ha).2.2.2.1, (h.2 a ha).2.2.2.2.trans (g.2 a ha).2.2.2.2⟩⟩
theorem c_agr.rf {V D : Nat → Prop} {R : cR} : c_agr V D R R := ⟨fun _ _ => ⟨rfl, rfl, rfl⟩, fun _ _ => ⟨rfl, rfl, rfl, rfl, rfl⟩⟩
theorem c_kz.rf {kd sz : Nat → Int32} : c_kz kd sz kd sz := fun _ _ => ⟨rfl, fun _ => rfl⟩
theorem c_vc_72 {kd sz : Nat → Int32} {c : Nat} (h : c_vc kd sz c) : c < 72 := by
  obtain ⟨j, i, h1, h2, -, -, rfl⟩ := h
  omega
theorem c_vc_at {kd sz : Nat → Int32} {s i : Int32} (hz : c_szok sz) (hs : pu_sl s) (ha : c_arrF kd s = 0) (hi : c_idxF sz s i = 0) : c_vc kd sz (c_cell s i) := by
  obtain ⟨k, h1, rfl, h2⟩ := c_idxF_0 hz hs hi
  obtain ⟨j, h3, rfl⟩ := pu_sl_nI hs
  rw [nI_clamp (by omega)] at h2
  exact ⟨j, k, h3, h1, ha, h2, c_cell_eq h3 h1⟩
section AGR
variable {kd sz kd' sz' : Nat → Int32}
theorem c_kz_kd (h : c_kz kd sz kd' sz') {s : Int32} (hs : pu_sl s) : kd s.toNatClampNeg = kd' s.toNatClampNeg := (h _ (pu_sl_cl hs)).1
theorem c_kz_arr (h : c_kz kd sz kd' sz') {s : Int32} (hs : pu_sl s) : c_arrF kd s = c_arrF kd' s := by unfold c_arrF; rw [c_kz_kd h hs]
theorem c_kz_sz (h : c_kz kd sz kd' sz') {s : Int32} (hs : pu_sl s) (ha : c_arrF kd s = 0) : sz s.toNatClampNeg = sz' s.toNatClampNeg := by
  obtain ⟨j, h1, rfl⟩ := pu_sl_nI hs
  rw [nI_clamp (by omega)]
  exact (h j h1).2 ha
theorem c_kz_idx (h : c_kz kd sz kd' sz') {s : Int32} (hs : pu_sl s) (ha : c_arrF kd s = 0) (i : Int32) : c_idxF sz s i = c_idxF sz' s i := by unfold c_idxF; rw [c_kz_sz h hs ha]
theorem c_kz_rd (h : c_kz kd sz kd' sz') {s : Int32} (hs : pu_sl s) (w i : Int32) : c_rdF kd sz s w i = c_rdF kd' sz' s w i := by
  unfold c_rdF
  rw [← c_kz_arr h hs, ← c_kz_kd h hs]
  by_cases ha : c_arrF kd s = 0
  · rw [c_kz_idx h hs ha]
  · simp only [decide_eq_false ha, cond_false]
theorem c_kz_wr (h : c_kz kd sz kd' sz') {s : Int32} (hs : pu_sl s) (w i : Int32) : c_wrF kd sz s w i = c_wrF kd' sz' s w i := by
  unfold c_wrF
  rw [← c_kz_arr h hs, ← c_kz_kd h hs]
  by_cases ha : c_arrF kd s = 0
  · rw [c_kz_idx h hs ha]
  · simp only [decide_eq_false ha, cond_false]
theorem c_kz_f1 (h : c_kz kd sz kd' sz') {c : cC} (hc : c_ok c) : c_f1 kd sz c = c_f1 kd' sz' c := by
  unfold c_f1
  by_cases e : c.1 = -1
  · simp only [decide_eq_true e, cond_true]
  · rw [decide_eq_false e, cond_false, cond_false]
    exact c_kz_rd h (hc.1.resolve_left e) _ _
/-- the held value and the way are of cells that there are -/
theorem c_held_agr {V D : Nat → Prop} (hV : ∀ c, c_vc kd sz c → V c) (hz : c_szok sz) {R T : cR} (h : c_agr V D R T) {c : cC} (hc : c_ok c) (h1 : c_f1 kd sz c = 0) : c_ww R c = c_ww T c ∧ c_ht R c = c_ht T c ∧ c_hn R c = c_hn T c ∧ c_sr R c = c_sr T c := by
  unfold c_ww c_ht c_hn c_sr
  by_cases e : c.1 = -1
  · simp only [decide_eq_true e, cond_true]; exact ⟨trivial, trivial, trivial, trivial⟩
  · have hs := hc.1.resolve_left e
    have h1' : c_rdF kd sz c.1 c.2.2.1 c.2.1 = 0 := by
      unfold c_f1 at h1; rw [decide_eq_false e, cond_false] at h1; exact h1
    obtain ⟨g1, g2, g3⟩ := h.1 (c_fc c) (hV _ (c_vc_at hz hs (c_rdF_arr h1') (c_rdF_idx h1')))
    rw [decide_eq_false e]
    simp only [cond_false]
    rw [g1, g2, g3]
    exact ⟨rfl, rfl, rfl, rfl⟩
theorem c_fd_agr {V D : Nat → Prop} (hk : c_kz kd sz kd' sz') (hV : ∀ c, c_vc kd sz c → V c) (hz : c_szok sz) {R T : cR} (h : c_agr V D R T) {c : cC} (hc : c_ok c) : c_fd kd sz R c = c_fd kd' sz' T c := by
  unfold c_fd
  rw [← c_kz_f1 hk hc]
  by_cases h1 : c_f1 kd sz c = 0
  · rw [decide_eq_true h1, cond_true, cond_true]
    unfold c_f2
    rw [(c_held_agr hV hz h hc h1).1, c_kz_wr hk hc.2]
  · simp only [decide_eq_false h1, cond_false]
theorem c_one_agr {V D : Nat → Prop} (hk : c_kz kd sz kd' sz') (hV : ∀ c, c_vc kd sz c → V c) (hz : c_szok sz) {R T : cR} (h : c_agr V D R T) {c : cC} (hc : c_ok c) (h0 : c_fd kd sz R c = 0) (p : Int32) (a : Nat) : c_agr V (fun b => D b ∨ b = a) (c_one kd p a c R) (c_one kd' p a c T) := by
  have h1 : c_f1 kd sz c = 0 := by
    unfold c_fd at h0
    by_cases q : c_f1 kd sz c = 0
    · exact q
    · rw [decide_eq_false q, cond_false] at h0; exact absurd h0 q
  have h2 : c_f2 kd sz R c = 0 := by
    unfold c_fd at h0
    rw [h1] at h0; exact h0
  obtain ⟨e1, e2, e3, e4⟩ := c_held_agr hV hz h hc h1
  have e5 : c_nt kd R c = c_nt kd' T c := by unfold c_nt; rw [e2, c_kz_kd hk hc.2]
  have e6 : c_nn kd R c = c_nn kd' T c := by unfold c_nn; rw [e2, e3, c_kz_kd hk hc.2]
  obtain ⟨g1, g2, g3⟩ := h.1 (c_tc c) (hV _ (c_vc_at hz hc.2 (c_wrF_arr h2) (c_wrF_idx h2)))
  refine ⟨fun x hx => ?_, fun b hb => ?_⟩
  · obtain ⟨q1, q2, q3⟩ := h.1 x hx
    show upd R.1 (c_tc c) (c_nt kd R c) x = upd T.1 (c_tc c) (c_nt kd' T c) x ∧ vp_updL R.2.1 (c_tc c) (c_nn kd R c) x = vp_updL T.2.1 (c_tc c) (c_nn kd' T c) x ∧ upd R.2.2.1 (c_tc c) p x = upd T.2.2.1 (c_tc c) p x
    by_cases e : x = c_tc c
    · rw [e, pk_us, pk_us, pk_uLs, pk_uLs, pk_us, pk_us]; exact ⟨e5, e6, rfl⟩
    · rw [pk_un e, pk_un e, pk_uLn e, pk_uLn e, pk_un e, pk_un e]; exact ⟨q1, q2, q3⟩
  · show upd R.2.2.2.1 a (R.1 (c_tc c)) b = upd T.2.2.2.1 a (T.1 (c_tc c)) b ∧ vp_updL R.2.2.2.2.1 a (R.2.1 (c_tc c)) b = vp_updL T.2.2.2.2.1 a (T.2.1 (c_tc c)) b ∧ upd R.2.2.2.2.2.1 a (c_nt kd R c) b = upd T.2.2.2.2.2.1 a (c_nt kd' T c) b ∧ vp_updL R.2.2.2.2.2.2.1 a (c_nn kd R c) b = vp_updL T.2.2.2.2.2.2.1 a (c_nn kd' T c) b ∧ upd R.2.2.2.2.2.2.2 a (c_sr R c) b = upd T.2.2.2.2.2.2.2 a (c_sr T c) b
    by_cases e : b = a
    · rw [e]; simp only [pk_us, pk_uLs]; exact ⟨g1, g2, e5, e6, e4⟩
    · simp only [pk_un e, pk_uLn e]
      exact h.2 b (hb.resolve_right e)
theorem c_ply_agr {V : Nat → Prop} (hk : c_kz kd sz kd' sz') (hV : ∀ c, c_vc kd sz c → V c) (hz : c_szok sz) {chg chg' : Nat → cC} : ∀ {t : List Nat} {D : Nat → Prop} {R T : cR}, c_agr V D R T → (∀ a ∈ t, c_ok (chg a) ∧ chg a = chg' a) → (c_ply kd sz chg t R).1 = (c_ply kd' sz' chg' t T).1 ∧ ((c_ply kd sz chg t R).1 = none → c_agr V (fun b => D b ∨ b ∈ t) (c_ply kd sz chg t R).2 (c_ply kd' sz' chg' t T).2) := by
  intro t
  induction t with
  | nil => intro D R T h _; exact ⟨rfl, fun _ => h.mono (fun _ q => q) (fun b hb => hb.resolve_right List.not_mem_nil)⟩
  | cons a t ih =>
    intro D R T h hc
    obtain ⟨h1, h2⟩ := hc a List.mem_cons_self
    have hfd := c_fd_agr hk hV hz h h1
    by_cases h0 : c_fd kd sz R (chg a) = 0
    · rw [c_ply_ok h0, c_ply_ok (chg := chg') (R := T) (by rw [← h2, ← hfd]; exact h0)]
      have := ih (c_one_agr hk hV hz h h1 h0 (nI (a / 6)) a) (fun b hb => hc b (List.mem_cons_of_mem _ hb))
      rw [h2] at this ⊢
      refine ⟨this.1, fun q => (this.2 q).mono (fun _ r => r) (fun b hb => ?_)⟩
      rcases hb with hb | hb
      · exact Or.inl (Or.inl hb)
      · rcases List.mem_cons.mp hb with rfl | hb
        · exact Or.inl (Or.inr rfl)
        · exact Or.inr hb
    · rw [c_ply_bad h0, c_ply_bad (chg := chg') (R := T) (by rw [← h2, ← hfd]; exact h0)]
      exact ⟨by rw [← h2, ← hfd], fun q => by cases q⟩
end AGR
/-- the rows at first -/
def c_r0 (bt : Nat → Int32) (bn : Nat → Int64) : cR := (bt, bn, fun _ => -1, fun _ => 0, fun _ => 0, fun _ => 0, fun _ => 0, fun _ => -1)
/-- patches done on the bases -/
def c_play (kd sz bt : Nat → Int32) (bn : Nat → Int64) (chg : Nat → cC) (len : Nat → Nat) (l : List Nat) : Option (Nat × Int32) × cR := c_ply kd sz chg (c_line len l) (c_r0 bt bn)
/-! (whole, 34.state) -/
/-! What both hold, as one value: kinds, sizes, bases, changes, lengths, patches, the order, undone, versions, the tape, the fault, what is met. -/
abbrev cS : Type := (Nat → Int32) × (Nat → Int32) × (Nat → Int32) × (Nat → Int64) × (Nat → cC) × (Nat → Nat) × Nat × List Nat × List Nat × List (List Nat) × List Nat × (Int32 × Int32 × Int32) × (Nat → Int32)
abbrev s_kd (S : cS) : Nat → Int32 := S.1
abbrev s_sz (S : cS) : Nat → Int32 := S.2.1
abbrev s_bt (S : cS) : Nat → Int32 := S.2.2.1
abbrev s_bn (S : cS) : Nat → Int64 := S.2.2.2.1
abbrev s_ch (S : cS) : Nat → cC := S.2.2.2.2.1
abbrev s_ln (S : cS) : Nat → Nat := S.2.2.2.2.2.1
abbrev s_pc (S : cS) : Nat := S.2.2.2.2.2.2.1
abbrev s_or (S : cS) : List Nat := S.2.2.2.2.2.2.2.1
abbrev s_un (S : cS) : List Nat := S.2.2.2.2.2.2.2.2.1
abbrev s_vr (S : cS) : List (List Nat) := S.2.2.2.2.2.2.2.2.2.1
abbrev s_tp (S : cS) : List Nat := S.2.2.2.2.2.2.2.2.2.2.1
abbrev s_fl (S : cS) : Int32 × Int32 × Int32 := S.2.2.2.2.2.2.2.2.2.2.2.1
abbrev s_mt (S : cS) : Nat → Int32 := S.2.2.2.2.2.2.2.2.2.2.2.2
/-- the play of an order -/
def s_play (S : cS) (l : List Nat) : Option (Nat × Int32) × cR := c_play (s_kd S) (s_sz S) (s_bt S) (s_bn S) (s_ch S) (s_ln S) l
/-- a patch, or the draft -/
def s_is (S : cS) (p : Nat) : Prop := p < s_pc S ∨ p = 24
/-- an order: patches, each once -/
def s_ord (S : cS) (l : List Nat) : Prop := l.Nodup ∧ ∀ p ∈ l, p < s_pc S
/-- a change is written in one way -/
def c_nrm (c : cC) : Prop := (c.1 = -1 → c.2.1 = 0) ∧ (c.1 ≠ -1 → c.2.2.2.2.2 = 0)
def s_wf (S : cS) : Prop :=
  (c_kok (s_kd S) ∧ c_zok (s_sz S) ∧ c_cells (s_kd S) (s_sz S) (s_bt S) (s_bn S)) ∧
  (s_pc S ≤ 24 ∧ (∀ p, p < 25 → s_ln S p ≤ 6) ∧ ∀ p k, s_is S p → k < s_ln S p → c_chok (s_ch S (6 * p + k)) ∧ c_nrm (s_ch S (6 * p + k))) ∧
  (s_ord S (s_or S) ∧ s_ord S (s_un S) ∧ (∀ p ∈ s_un S, p ∉ s_or S) ∧ (s_vr S).length ≤ 6 ∧ ∀ l ∈ s_vr S, s_ord S l) ∧
  (s_play S (s_or S)).1 = none ∧
  ((s_tp S).length ≤ 80 ∧ ∀ b ∈ s_tp S, b < 256)
/-- the now run and the trial's -/
def x_two (r t : Nat) : Prop := (r = 32 ∧ t = 48) ∨ (r = 48 ∧ t = 32)
def x_sh (σ : pd_H) (S : cS) : Prop := σ.1 2 = s_kd S ∧ σ.1 3 = s_sz S ∧ σ.1 5 = s_bt S ∧ σ.2.1 6 = s_bn S
def x_bk (σ : pd_H) (S : cS) : Prop := (∀ p k, s_is S p → k < s_ln S p → x_chg σ (6 * p + k) = s_ch S (6 * p + k)) ∧ x_lens σ (s_ln S) ∧ σ.1 7 2 = nI (s_pc S)
/-- no row is laid and nothing applied: a run's writers may be older than its first play -/
def s_no (S : cS) : Prop := s_or S = [] ∧ ∀ s, s < 6 → s_kd S s = -1
noncomputable def s_wr (S : cS) (f : Nat → Int32) : Nat → Int32 := @ite _ (s_no S) (Classical.propDecidable _) (fun _ => -1) f
noncomputable def x_rw (S : cS) (σ : pd_H) (r : Nat) : cR := (σ.1 (r + 4), σ.2.1 (r + 5), s_wr S (σ.1 (r + 6)), σ.1 (r + 9), σ.2.1 (r + 10), σ.1 (r + 12), σ.2.1 (r + 13), σ.1 (r + 14))
theorem s_wr_ne {S : cS} (h : ¬ s_no S) (f : Nat → Int32) : s_wr S f = f := if_neg h
theorem s_no_kd {S : cS} {s : Nat} (hs : s < 6) (h : ¬ s_kd S s = -1) : ¬ s_no S := fun q => h (q.2 s hs)
theorem s_no_arr {S : cS} {a : Int32} (ha : pu_sl a) (h : c_arrF (s_kd S) a = 0) : ¬ s_no S := s_no_kd (pu_sl_cl ha) (fun q => by
  unfold c_arrF at h
  rw [decide_eq_true q, cond_true] at h
  exact absurd h (by decide))
theorem x_rw_of {S : cS} {σ : pd_H} {r : Nat} {V D : Nat → Prop} (h : c_agr V D (x_rows σ r) (s_play S (s_or S)).2) : c_agr V D (x_rw S σ r) (s_play S (s_or S)).2 := by
  refine ⟨fun c hc => ⟨(h.1 c hc).1, (h.1 c hc).2.1, ?_⟩, fun a ha => h.2 a ha⟩
  show s_wr S (σ.1 (r + 6)) c = _
  by_cases q : s_no S
  · rw [show s_wr S (σ.1 (r + 6)) = fun _ => -1 from if_pos q, q.1]
    rfl
  · rw [s_wr_ne q]
    exact (h.1 c hc).2.2
def x_rn (σ : pd_H) (S : cS) (r : Nat) : Prop := pu_seq σ (r + 1) (s_or S) ∧ c_agr (fun c => c < 72) (fun a => a ∈ c_line (s_ln S) (s_or S)) (x_rw S σ r) (s_play S (s_or S)).2 ∧ ∀ p ∈ s_or S, σ.1 (r + 15) p = c_mask (s_ch S) (c_line (s_ln S) (s_or S)) p
def x_ot (σ : pd_H) (S : cS) : Prop := (pu_seq σ 17 (s_un S) ∧ σ.1 0 7 = nI (s_vr S).length ∧ ∀ (v : Nat) (l : List Nat), (s_vr S)[v]? = some l → pu_seq σ (20 + 2 * v) l) ∧ (σ.1 10 2 = nI (s_tp S).length ∧ ∀ (i b : Nat), (s_tp S)[i]? = some b → σ.1 11 i = nI b) ∧ (σ.1 0 11 = (s_fl S).1 ∧ σ.1 0 12 = (s_fl S).2.1 ∧ σ.1 0 13 = (s_fl S).2.2) ∧ σ.1 16 = s_mt S
/-- the desk holds S -/
def RX (σ : pd_H) (S : cS) : Prop := x_sh σ S ∧ x_bk σ S ∧ x_two (σ.2.2 0) (σ.2.2 1) ∧ x_rn σ S (σ.2.2 0) ∧ x_ot σ S
/-- what the desk's calls leave alone; the model's -/
def XF (σ τ : pd_H) : Prop := ∀ k, 230 ≤ k → τ.1 k = σ.1 k ∧ τ.2.1 k = σ.2.1 k
theorem XF.rf {σ : pd_H} : XF σ σ := fun _ _ => ⟨rfl, rfl⟩
theorem XF.tr {σ τ υ : pd_H} (h : XF σ τ) (g : XF τ υ) : XF σ υ := fun k hk => ⟨(g k hk).1.trans (h k hk).1, (g k hk).2.trans (h k hk).2⟩
theorem XF.of {σ τ : pd_H} {K : Nat → Prop} (h : pu_fr K σ τ) (hK : ∀ k, K k → k < 230) : XF σ τ := fun k hk => ⟨h.1 k (fun q => by have := hK k q; omega), h.2.1 k (fun q => by have := hK k q; omega)⟩
/-- the law's script -/
def LF (σ τ : pd_H) : Prop := τ.1 265 = σ.1 265 ∧ τ.1 266 = σ.1 266
/-! (whole, 40.calls1) -/
/-! The calls, one by one: what only tells, what is simple. -/
def c_slv (a : Int32) : Int32 := cond (decide (a < 0)) 0 (cond (decide (6 ≤ a)) 0 1)
theorem c_slv_cases (a : Int32) : (pu_sl a ∧ c_slv a = 1) ∨ (c_slv a = 0 ∧ ¬ pu_sl a) := by
  unfold c_slv
  by_cases h0 : a < 0
  · rw [decide_eq_true h0]; exact Or.inr ⟨rfl, fun h => h.1 h0⟩
  · rw [decide_eq_false h0, cond_false]
    by_cases h1 : 6 ≤ a
    · rw [decide_eq_true h1]; exact Or.inr ⟨rfl, fun h => h.2 h1⟩
    · rw [decide_eq_false h1]; exact Or.inl ⟨⟨h0, h1⟩, rfl⟩
theorem X_slot (a : Int32) (σ : pd_H) : X_isSlot a σ = some (σ, some (pd_i (c_slv a))) := X_isSlot_s a σ
theorem pu_out {a : Int32} {n : Nat} {α : Type} (h : a < 0 ∨ nI n ≤ a) (A B : α) : cond (decide (a < 0)) A (cond (decide (nI n ≤ a)) A B) = A := by
  rcases h with h | h
  · rw [decide_eq_true h]; rfl
  · rw [decide_eq_true h, cond_true, Bool.cond_self]
theorem pu_at {j n : Nat} {α : Type} (h : j < n) (hn : n < 2 ^ 31) (A B : α) : cond (decide (nI j < 0)) A (cond (decide (nI n ≤ nI j)) A B) = B := by
  rw [decide_eq_false (nI_pos (by omega)), cond_false, decide_eq_false (nI_ge h hn)]; rfl
section CALLS1
variable {σ : pd_H} {S : cS}
theorem x_arrF (h : RX σ S) {a : Int32} (ha : pu_sl a) : Shelf_arrayFinding a σ = some (σ, some (pd_i (c_arrF (s_kd S) a))) := by rw [Shelf_arrayFinding_s ha, h.1.1]
theorem x_eltF (h : RX σ S) {a : Int32} (ha : pu_sl a) (i : Int32) : Shelf_elementFinding a i σ = some (σ, some (pd_i (c_eltF (s_kd S) (s_sz S) a i))) := by rw [Shelf_elementFinding_s ha, h.1.1, h.1.2.1]
theorem x_rdF (h : RX σ S) {a : Int32} (ha : pu_sl a) (w i : Int32) : Shelf_readingFinding a w i σ = some (σ, some (pd_i (c_rdF (s_kd S) (s_sz S) a w i))) := by rw [Shelf_readingFinding_s ha, h.1.1, h.1.2.1]
/-! elements -/
theorem x_run3 (h : RX σ S) : σ.2.2 0 = 32 ∨ σ.2.2 0 = 48 ∨ σ.2.2 0 = 64 := by rcases h.2.2.1 with q | q <;> omega
theorem X_elementError_s (h : RX σ S) {a : Int32} (ha : pu_sl a) (i : Int32) : X_elementError a i σ = some (σ, some (pd_i (cond (decide (c_eltF (s_kd S) (s_sz S) a i = 0)) 0 (-10 - c_eltF (s_kd S) (s_sz S) a i)))) := by
  rw [X_elementError_eq, X_slot]
  rcases c_slv_cases a with ⟨-, e⟩ | ⟨-, e⟩
  · rw [e]
    simp only [pd_bI_of, pd_bJ_of, pd_bV_of, pd_bR_of, cond_true, cond_false, show decide ((1 : Int32) = 0) = false from rfl, x_eltF h ha, X_findingCode_s, pu_cs]
  · exact absurd ha e
theorem X_elementError_0 (h : RX σ S) {a : Int32} (ha : pu_sl a) {i : Int32} (h0 : c_eltF (s_kd S) (s_sz S) a i = 0) : X_elementError a i σ = some (σ, some (pd_i 0)) := by
  rw [X_elementError_s h ha, decide_eq_true h0, cond_true]
theorem X_elementError_1 (h : RX σ S) {a : Int32} (ha : pu_sl a) {i : Int32} (h0 : c_eltF (s_kd S) (s_sz S) a i ≠ 0) : X_elementError a i σ = some (σ, some (pd_i (-10 - c_eltF (s_kd S) (s_sz S) a i))) := by
  rw [X_elementError_s h ha, decide_eq_false h0, cond_false]
theorem c_eltF_rng (kd sz : Nat → Int32) (s i : Int32) : c_rng (c_eltF kd sz s i) := by
  unfold c_eltF
  exact c_rng_cond (c_idxF_rng _ _ _) (c_arrF_rng _ _)
theorem c_elt_ne {kd sz : Nat → Int32} {s i : Int32} (h : c_eltF kd sz s i ≠ 0) : -10 - c_eltF kd sz s i ≠ 0 := by
  obtain ⟨g, h1, h2⟩ := c_eltF_rng kd sz s i
  rw [h2]
  have : ∀ g, g < 6 → (-10 : Int32) - nI g ≠ 0 := by decide +kernel
  exact this g h1
theorem c_elt_0 {kd sz : Nat → Int32} {s i : Int32} (h : c_eltF kd sz s i = 0) : c_arrF kd s = 0 ∧ c_idxF sz s i = 0 := by
  unfold c_eltF at h
  by_cases h0 : c_arrF kd s = 0
  · rw [decide_eq_true h0] at h; exact ⟨h0, h⟩
  · rw [decide_eq_false h0, cond_false] at h; exact absurd h h0
/-- the now run's cells -/
theorem x_cell (h : RX σ S) {c : Nat} (hc : c < 72) : σ.1 (σ.2.2 0 + 4) c = (s_play S (s_or S)).2.1 c ∧ σ.2.1 (σ.2.2 0 + 5) c = (s_play S (s_or S)).2.2.1 c ∧ (¬ s_no S → σ.1 (σ.2.2 0 + 6) c = (s_play S (s_or S)).2.2.2.1 c) := ⟨(h.2.2.2.1.2.1.1 c hc).1, (h.2.2.2.1.2.1.1 c hc).2.1, fun q => by
  have g := (h.2.2.2.1.2.1.1 c hc).2.2
  rw [show (x_rw S σ (σ.2.2 0)).2.2.1 = σ.1 (σ.2.2 0 + 6) from s_wr_ne q _] at g
  exact g⟩
def c_what (S : cS) (a i : Int32) : Int32 := cond (decide (c_eltF (s_kd S) (s_sz S) a i = 0)) ((s_play S (s_or S)).2.1 (c_cell a i)) (-10 - c_eltF (s_kd S) (s_sz S) a i)
theorem X_what_s (hw : s_wf S) (h : RX σ S) {a : Int32} (ha : pu_sl a) (i : Int32) : X_what a i σ = some (σ, some (pd_i (c_what S a i))) := by
  obtain ⟨L2, L4, L5, L6, L7, L9, L10, L12, L13, L14, L15⟩ := pu_len_run (x_run3 h)
  unfold c_what
  rw [X_what_eq]
  by_cases h0 : c_eltF (s_kd S) (s_sz S) a i = 0
  · obtain ⟨q1, q2⟩ := c_elt_0 h0
    obtain ⟨e1, e2⟩ := c_cell_ok hw.1.2.1.sz ha q2
    rw [X_elementError_0 h ha h0, decide_eq_true h0, cond_true, pd_bI_of, decide_eq_true (rfl : (0 : Int32) = 0), cond_true, X_cellOf_s, pd_bI_of, e1]
    rw [show σ.2.2 0 + 3 + 1 = σ.2.2 0 + 4 from rfl, L4, pu_obN e2 (by decide), cond_false, nI_clamp (by omega), (x_cell h e2).1]
  · rw [X_elementError_1 h ha h0, decide_eq_false h0, cond_false, pd_bI_of, decide_eq_false (c_elt_ne h0), cond_false]
/-! blame -/
def c_blame (S : cS) (a i : Int32) : Int32 := cond (decide (c_eltF (s_kd S) (s_sz S) a i = 0)) ((s_play S (s_or S)).2.2.2.1 (c_cell a i)) (-10 - c_eltF (s_kd S) (s_sz S) a i)
theorem X_blame_s (hw : s_wf S) (h : RX σ S) {a : Int32} (ha : pu_sl a) (i : Int32) : X_blame a i σ = some (σ, some (pd_i (c_blame S a i))) := by
  obtain ⟨L2, L4, L5, L6, L7, L9, L10, L12, L13, L14, L15⟩ := pu_len_run (x_run3 h)
  unfold c_blame
  rw [X_blame_eq]
  by_cases h0 : c_eltF (s_kd S) (s_sz S) a i = 0
  · obtain ⟨q1, q2⟩ := c_elt_0 h0
    obtain ⟨e1, e2⟩ := c_cell_ok hw.1.2.1.sz ha q2
    rw [X_elementError_0 h ha h0, decide_eq_true h0, cond_true, pd_bI_of, decide_eq_true (rfl : (0 : Int32) = 0), cond_true, X_cellOf_s, pd_bI_of, e1]
    rw [L6, pu_obN e2 (by decide), cond_false, nI_clamp (by omega), (x_cell h e2).2.2 (s_no_arr ha q1)]
  · rw [X_elementError_1 h ha h0, decide_eq_false h0, cond_false, pd_bI_of, decide_eq_false (c_elt_ne h0), cond_false]
end CALLS1
