/-! What is not there makes no difference. -/
def c_kz (kd sz kd' sz' : Nat → Int32) : Prop := ∀ s, s < 6 → kd s = kd' s ∧ (c_arrF kd (nI s) = 0 → sz s = sz' s)
def c_vc (kd sz : Nat → Int32) (c : Nat) : Prop := ∃ j i, j < 6 ∧ i < 12 ∧ c_arrF kd (nI j) = 0 ∧ nI i < sz j ∧ c = 12 * j + i
def c_lgs (R T : cR) (a : Nat) : Prop := R.2.2.2.1 a = T.2.2.2.1 a ∧ R.2.2.2.2.1 a = T.2.2.2.2.1 a ∧ R.2.2.2.2.2.1 a = T.2.2.2.2.2.1 a ∧ R.2.2.2.2.2.2.1 a = T.2.2.2.2.2.2.1 a ∧ R.2.2.2.2.2.2.2 a = T.2.2.2.2.2.2.2 a
def c_agr (V D : Nat → Prop) (R T : cR) : Prop := (∀ c, V c → R.1 c = T.1 c ∧ R.2.1 c = T.2.1 c ∧ R.2.2.1 c = T.2.2.1 c) ∧ ∀ a, D a → c_lgs R T a
theorem c_agr.mono {V D W F : Nat → Prop} {R T : cR} (h : c_agr V D R T) (h1 : ∀ c, W c → V c) (h2 : ∀ c, F c → D c) : c_agr W F R T := ⟨fun c hc => h.1 c (h1 c hc), fun a ha => h.2 a (h2 a ha)⟩
theorem c_agr.symm {V D : Nat → Prop} {R T : cR} (h : c_agr V D R T) : c_agr V D T R := ⟨fun c hc => ⟨(h.1 c hc).1.symm, (h.1 c hc).2.1.symm, (h.1 c hc).2.2.symm⟩, fun a ha => ⟨(h.2 a ha).1.symm, (h.2 a ha).2.1.symm, (h.2 a ha).2.2.1.symm, (h.2 a ha).2.2.2.1.symm, (h.2 a ha).2.2.2.2.symm⟩⟩
theorem c_agr.trans {V D : Nat → Prop} {R T U : cR} (h : c_agr V D R T) (g : c_agr V D T U) : c_agr V D R U := ⟨fun c hc => ⟨(h.1 c hc).1.trans (g.1 c hc).1, (h.1 c hc).2.1.trans (g.1 c hc).2.1, (h.1 c hc).2.2.trans (g.1 c hc).2.2⟩, fun a ha => ⟨(h.2 a ha).1.trans (g.2 a ha).1, (h.2 a ha).2.1.trans (g.2 a ha).2.1, (h.2 a ha).2.2.1.trans (g.2 a ha).2.2.1, (h.2 a ha).2.2.2.1.trans (g.2 a ha).2.2.2.1, (h.2 a ha).2.2.2.2.trans (g.2 a ha).2.2.2.2⟩⟩
theorem c_agr.rf {V D : Nat → Prop} {R : cR} : c_agr V D R R := ⟨fun _ _ => ⟨rfl, rfl, rfl⟩, fun _ _ => ⟨rfl, rfl, rfl, rfl, rfl⟩⟩
theorem c_kz.rf {kd sz : Nat → Int32} : c_kz kd sz kd sz := fun _ _ => ⟨rfl, fun _ => rfl⟩
theorem c_vc_72 {kd sz : Nat → Int32} {c : Nat} (h : c_vc kd sz c) : c < 72 := by
  obtain ⟨j, i, h1, h2, -, -, rfl⟩ := h
  omega
theorem c_vc_at {kd sz : Nat → Int32} {s i : Int32} (hz : c_szok sz) (hs : pu_sl s) (ha : c_arrF kd s = 0) (hi : c_idxF sz s i = 0) : c_vc kd sz (c_cell s i) := by
  obtain ⟨k, h1, rfl, h2⟩ := c_idxF_0 hz hs hi
  obtain ⟨j, h3, rfl⟩ := pu_sl_nI hs
  rw [nI_clamp (by omega)] at h2
  exact ⟨j, k, h3, h1, ha, h2, c_cell_eq h3 h1⟩
section AGR
variable {kd sz kd' sz' : Nat → Int32}
theorem c_kz_kd (h : c_kz kd sz kd' sz') {s : Int32} (hs : pu_sl s) : kd s.toNatClampNeg = kd' s.toNatClampNeg := (h _ (pu_sl_cl hs)).1
theorem c_kz_arr (h : c_kz kd sz kd' sz') {s : Int32} (hs : pu_sl s) : c_arrF kd s = c_arrF kd' s := by unfold c_arrF; rw [c_kz_kd h hs]
theorem c_kz_sz (h : c_kz kd sz kd' sz') {s : Int32} (hs : pu_sl s) (ha : c_arrF kd s = 0) : sz s.toNatClampNeg = sz' s.toNatClampNeg := by
  obtain ⟨j, h1, rfl⟩ := pu_sl_nI hs
  rw [nI_clamp (by omega)]
  exact (h j h1).2 ha
theorem c_kz_idx (h : c_kz kd sz kd' sz') {s : Int32} (hs : pu_sl s) (ha : c_arrF kd s = 0) (i : Int32) : c_idxF sz s i = c_idxF sz' s i := by unfold c_idxF; rw [c_kz_sz h hs ha]
theorem c_kz_elt (h : c_kz kd sz kd' sz') {s : Int32} (hs : pu_sl s) (i : Int32) : c_eltF kd sz s i = c_eltF kd' sz' s i := by
  unfold c_eltF
  rw [← c_kz_arr h hs]
  by_cases ha : c_arrF kd s = 0
  · rw [c_kz_idx h hs ha]
  · simp only [decide_eq_false ha, cond_false]
theorem c_kz_rd (h : c_kz kd sz kd' sz') {s : Int32} (hs : pu_sl s) (w i : Int32) : c_rdF kd sz s w i = c_rdF kd' sz' s w i := by
  unfold c_rdF
  rw [← c_kz_arr h hs, ← c_kz_kd h hs]
  by_cases ha : c_arrF kd s = 0
  · rw [c_kz_idx h hs ha]
  · simp only [decide_eq_false ha, cond_false]
theorem c_kz_wr (h : c_kz kd sz kd' sz') {s : Int32} (hs : pu_sl s) (w i : Int32) : c_wrF kd sz s w i = c_wrF kd' sz' s w i := by
  unfold c_wrF
  rw [← c_kz_arr h hs, ← c_kz_kd h hs]
  by_cases ha : c_arrF kd s = 0
  · rw [c_kz_idx h hs ha]
  · simp only [decide_eq_false ha, cond_false]
theorem c_kz_f1 (h : c_kz kd sz kd' sz') {c : cC} (hc : c_ok c) : c_f1 kd sz c = c_f1 kd' sz' c := by
  unfold c_f1
  by_cases e : c.1 = -1
  · simp only [decide_eq_true e, cond_true]
  · rw [decide_eq_false e, cond_false, cond_false]
    exact c_kz_rd h (hc.1.resolve_left e) _ _
/-- the held value and the way are of cells that there are -/
theorem c_held_agr {V D : Nat → Prop} (hV : ∀ c, c_vc kd sz c → V c) (hz : c_szok sz) {R T : cR} (h : c_agr V D R T) {c : cC} (hc : c_ok c) (h1 : c_f1 kd sz c = 0) : c_ww R c = c_ww T c ∧ c_ht R c = c_ht T c ∧ c_hn R c = c_hn T c ∧ c_sr R c = c_sr T c := by
  unfold c_ww c_ht c_hn c_sr
  by_cases e : c.1 = -1
  · simp only [decide_eq_true e, cond_true]; exact ⟨trivial, trivial, trivial, trivial⟩
  · have hs := hc.1.resolve_left e
    have h1' : c_rdF kd sz c.1 c.2.2.1 c.2.1 = 0 := by
      unfold c_f1 at h1; rw [decide_eq_false e, cond_false] at h1; exact h1
    obtain ⟨g1, g2, g3⟩ := h.1 (c_fc c) (hV _ (c_vc_at hz hs (c_rdF_arr h1') (c_rdF_idx h1')))
    rw [decide_eq_false e]
    simp only [cond_false]
    rw [g1, g2, g3]
    exact ⟨rfl, rfl, rfl, rfl⟩
theorem c_fd_agr {V D : Nat → Prop} (hk : c_kz kd sz kd' sz') (hV : ∀ c, c_vc kd sz c → V c) (hz : c_szok sz) {R T : cR} (h : c_agr V D R T) {c : cC} (hc : c_ok c) : c_fd kd sz R c = c_fd kd' sz' T c := by
  unfold c_fd
  rw [← c_kz_f1 hk hc]
  by_cases h1 : c_f1 kd sz c = 0
  · rw [decide_eq_true h1, cond_true, cond_true]
    unfold c_f2
    rw [(c_held_agr hV hz h hc h1).1, c_kz_wr hk hc.2]
  · simp only [decide_eq_false h1, cond_false]
theorem c_one_agr {V D : Nat → Prop} (hk : c_kz kd sz kd' sz') (hV : ∀ c, c_vc kd sz c → V c) (hz : c_szok sz) {R T : cR} (h : c_agr V D R T) {c : cC} (hc : c_ok c) (h0 : c_fd kd sz R c = 0) (p : Int32) (a : Nat) : c_agr V (fun b => D b ∨ b = a) (c_one kd p a c R) (c_one kd' p a c T) := by
  have h1 : c_f1 kd sz c = 0 := by
    unfold c_fd at h0
    by_cases q : c_f1 kd sz c = 0
    · exact q
    · rw [decide_eq_false q, cond_false] at h0; exact absurd h0 q
  have h2 : c_f2 kd sz R c = 0 := by
    unfold c_fd at h0
    rw [h1] at h0; exact h0
  obtain ⟨e1, e2, e3, e4⟩ := c_held_agr hV hz h hc h1
  have e5 : c_nt kd R c = c_nt kd' T c := by unfold c_nt; rw [e2, c_kz_kd hk hc.2]
  have e6 : c_nn kd R c = c_nn kd' T c := by unfold c_nn; rw [e2, e3, c_kz_kd hk hc.2]
  obtain ⟨g1, g2, g3⟩ := h.1 (c_tc c) (hV _ (c_vc_at hz hc.2 (c_wrF_arr h2) (c_wrF_idx h2)))
  refine ⟨fun x hx => ?_, fun b hb => ?_⟩
  · obtain ⟨q1, q2, q3⟩ := h.1 x hx
    show upd R.1 (c_tc c) (c_nt kd R c) x = upd T.1 (c_tc c) (c_nt kd' T c) x ∧ vp_updL R.2.1 (c_tc c) (c_nn kd R c) x = vp_updL T.2.1 (c_tc c) (c_nn kd' T c) x ∧ upd R.2.2.1 (c_tc c) p x = upd T.2.2.1 (c_tc c) p x
    by_cases e : x = c_tc c
    · rw [e, pk_us, pk_us, pk_uLs, pk_uLs, pk_us, pk_us]; exact ⟨e5, e6, rfl⟩
    · rw [pk_un e, pk_un e, pk_uLn e, pk_uLn e, pk_un e, pk_un e]; exact ⟨q1, q2, q3⟩
  · show upd R.2.2.2.1 a (R.1 (c_tc c)) b = upd T.2.2.2.1 a (T.1 (c_tc c)) b ∧ vp_updL R.2.2.2.2.1 a (R.2.1 (c_tc c)) b = vp_updL T.2.2.2.2.1 a (T.2.1 (c_tc c)) b ∧ upd R.2.2.2.2.2.1 a (c_nt kd R c) b = upd T.2.2.2.2.2.1 a (c_nt kd' T c) b ∧ vp_updL R.2.2.2.2.2.2.1 a (c_nn kd R c) b = vp_updL T.2.2.2.2.2.2.1 a (c_nn kd' T c) b ∧ upd R.2.2.2.2.2.2.2 a (c_sr R c) b = upd T.2.2.2.2.2.2.2 a (c_sr T c) b
    by_cases e : b = a
    · rw [e]; simp only [pk_us, pk_uLs]; exact ⟨g1, g2, e5, e6, e4⟩
    · simp only [pk_un e, pk_uLn e]
      exact h.2 b (hb.resolve_right e)
theorem c_ply_agr {V : Nat → Prop} (hk : c_kz kd sz kd' sz') (hV : ∀ c, c_vc kd sz c → V c) (hz : c_szok sz) {chg chg' : Nat → cC} : ∀ {t : List Nat} {D : Nat → Prop} {R T : cR}, c_agr V D R T → (∀ a ∈ t, c_ok (chg a) ∧ chg a = chg' a) → (c_ply kd sz chg t R).1 = (c_ply kd' sz' chg' t T).1 ∧ ((c_ply kd sz chg t R).1 = none → c_agr V (fun b => D b ∨ b ∈ t) (c_ply kd sz chg t R).2 (c_ply kd' sz' chg' t T).2) := by
  intro t
  induction t with
  | nil => intro D R T h _; exact ⟨rfl, fun _ => h.mono (fun _ q => q) (fun b hb => hb.resolve_right List.not_mem_nil)⟩
  | cons a t ih =>
    intro D R T h hc
    obtain ⟨h1, h2⟩ := hc a List.mem_cons_self
    have hfd := c_fd_agr hk hV hz h h1
    by_cases h0 : c_fd kd sz R (chg a) = 0
    · rw [c_ply_ok h0, c_ply_ok (chg := chg') (R := T) (by rw [← h2, ← hfd]; exact h0)]
      have := ih (c_one_agr hk hV hz h h1 h0 (nI (a / 6)) a) (fun b hb => hc b (List.mem_cons_of_mem _ hb))
      rw [h2] at this ⊢
      refine ⟨this.1, fun q => (this.2 q).mono (fun _ r => r) (fun b hb => ?_)⟩
      rcases hb with hb | hb
      · exact Or.inl (Or.inl hb)
      · rcases List.mem_cons.mp hb with rfl | hb
        · exact Or.inl (Or.inr rfl)
        · exact Or.inr hb
    · rw [c_ply_bad h0, c_ply_bad (chg := chg') (R := T) (by rw [← h2, ← hfd]; exact h0)]
      exact ⟨by rw [← h2, ← hfd], fun q => by cases q⟩
end AGR
/-- the rows at first -/
def c_r0 (bt : Nat → Int32) (bn : Nat → Int64) : cR := (bt, bn, fun _ => -1, fun _ => 0, fun _ => 0, fun _ => 0, fun _ => 0, fun _ => -1)
/-- patches done on the bases -/
def c_play (kd sz bt : Nat → Int32) (bn : Nat → Int64) (chg : Nat → cC) (len : Nat → Nat) (l : List Nat) : Option (Nat × Int32) × cR := c_ply kd sz chg (c_line len l) (c_r0 bt bn)
