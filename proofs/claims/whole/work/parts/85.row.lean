/-! Another array in a slot that is not in use. -/
section ROW
variable {kd sz kd' sz' : Nat → Int32} {chg : Nat → cC}
/-- a change that has nothing to do with a slot -/
def c_off (j : Nat) (c : cC) : Prop := c.2.2.2.1 ≠ nI j ∧ c.1 ≠ nI j
theorem c_sl_ne {s : Int32} (hs : pu_sl s) {j : Nat} (hj : j < 6) (h : s ≠ nI j) : s.toNatClampNeg ≠ j := by
  obtain ⟨x, x1, rfl⟩ := pu_sl_nI hs
  rw [nI_clamp (by omega)]
  exact fun q => h (by rw [q])
theorem c_rdF_kd {s w i : Int32} (h1 : kd s.toNatClampNeg = kd' s.toNatClampNeg) (h2 : sz s.toNatClampNeg = sz' s.toNatClampNeg) : c_rdF kd sz s w i = c_rdF kd' sz' s w i := by
  unfold c_rdF c_arrF c_idxF
  rw [h1, h2]
theorem c_wrF_kd {s w i : Int32} (h1 : kd s.toNatClampNeg = kd' s.toNatClampNeg) (h2 : sz s.toNatClampNeg = sz' s.toNatClampNeg) : c_wrF kd sz s w i = c_wrF kd' sz' s w i := by
  unfold c_wrF c_arrF c_idxF
  rw [h1, h2]
variable {j : Nat} (hj : j < 6) (hk : ∀ x, x ≠ j → kd x = kd' x ∧ sz x = sz' x)
theorem c_f1_kd (hj : j < 6) (hk : ∀ x, x ≠ j → kd x = kd' x ∧ sz x = sz' x) {c : cC} (hc : c_ok c) (ho : c_off j c) : c_f1 kd sz c = c_f1 kd' sz' c := by
  unfold c_f1
  by_cases q : c.1 = -1
  · rw [decide_eq_true q, cond_true, cond_true]
  · have h := hk _ (c_sl_ne (hc.1.resolve_left q) hj ho.2)
    rw [decide_eq_false q, cond_false, cond_false]
    exact c_rdF_kd h.1 h.2
theorem c_fd_kd (hj : j < 6) (hk : ∀ x, x ≠ j → kd x = kd' x ∧ sz x = sz' x) {c : cC} (hc : c_ok c) (ho : c_off j c) (R : cR) : c_fd kd sz R c = c_fd kd' sz' R c := by
  have h := hk _ (c_sl_ne hc.2 hj ho.1)
  unfold c_fd c_f2
  rw [c_f1_kd hj hk hc ho, c_wrF_kd h.1 h.2]
theorem c_one_kd (hj : j < 6) (hk : ∀ x, x ≠ j → kd x = kd' x ∧ sz x = sz' x) {c : cC} (hc : c_ok c) (ho : c_off j c) (R : cR) (p : Int32) (a : Nat) : c_one kd p a c R = c_one kd' p a c R := by
  have h := hk _ (c_sl_ne hc.2 hj ho.1)
  unfold c_one c_nt c_nn
  rw [h.1]
theorem c_ply_kd (hj : j < 6) (hk : ∀ x, x ≠ j → kd x = kd' x ∧ sz x = sz' x) : ∀ {t : List Nat} {R : cR}, (∀ a ∈ t, c_ok (chg a) ∧ c_off j (chg a)) → c_ply kd sz chg t R = c_ply kd' sz' chg t R := by
  intro t
  induction t with
  | nil => intro R _; rfl
  | cons a t ih =>
    intro R h
    obtain ⟨h1, h2⟩ := h a List.mem_cons_self
    have hf := c_fd_kd hj hk h1 h2 R
    by_cases h0 : c_fd kd sz R (chg a) = 0
    · rw [c_ply_ok h0, c_ply_ok (by rw [← hf]; exact h0), c_one_kd hj hk h1 h2]
      exact ih (fun b hb => h b (List.mem_cons_of_mem _ hb))
    · rw [c_ply_bad h0, c_ply_bad (by rw [← hf]; exact h0), hf]
/-- the cells of a slot -/
def c_in_s (j c : Nat) : Prop := 12 * j ≤ c ∧ c < 12 * j + 12
theorem c_fd_wr {R : cR} {c : cC} (h : c_fd kd sz R c = 0) : c_wrF kd sz c.2.2.2.1 (c_ww R c) c.2.2.2.2.1 = 0 := by
  unfold c_fd at h
  by_cases q : c_f1 kd sz c = 0
  · rw [decide_eq_true q, cond_true] at h; exact h
  · rw [decide_eq_false q, cond_false] at h; exact absurd h q
theorem c_wrF_0 {s w i : Int32} (h : c_wrF kd sz s w i = 0) : c_arrF kd s = 0 ∧ c_idxF sz s i = 0 := by
  unfold c_wrF at h
  by_cases q : c_arrF kd s = 0
  · refine ⟨q, ?_⟩
    rw [decide_eq_true q, cond_true] at h
    by_cases q7 : kd s.toNatClampNeg ≤ 7
    · rw [decide_eq_true q7, cond_true] at h
      by_cases q3 : c_tak (kd s.toNatClampNeg) (c_tyW w) = 0
      · rw [decide_eq_true q3] at h; exact absurd (show (4 : Int32) = 0 from h) (by decide)
      · rw [decide_eq_false q3, cond_false] at h; exact h
    · rw [decide_eq_false q7, cond_false] at h
      by_cases q8 : 8 ≤ w
      · rw [decide_eq_true q8, cond_true] at h
        by_cases q3 : c_tak (kd s.toNatClampNeg) (c_tyW w) = 0
        · rw [decide_eq_true q3] at h; exact absurd (show (4 : Int32) = 0 from h) (by decide)
        · rw [decide_eq_false q3, cond_false] at h; exact h
      · rw [decide_eq_false q8] at h; exact absurd (show (3 : Int32) = 0 from h) (by decide)
  · rw [decide_eq_false q, cond_false] at h; exact absurd h q
theorem c_ply_out (hj : j < 6) (hz : c_szok sz) : ∀ {t : List Nat} {R : cR}, (∀ a ∈ t, c_ok (chg a) ∧ c_off j (chg a)) → ∀ c, c_in_s j c → (c_ply kd sz chg t R).2.1 c = R.1 c ∧ (c_ply kd sz chg t R).2.2.1 c = R.2.1 c ∧ (c_ply kd sz chg t R).2.2.2.1 c = R.2.2.1 c := by
  intro t
  induction t with
  | nil => intro R _ c _; exact ⟨rfl, rfl, rfl⟩
  | cons a t ih =>
    intro R h c hc
    obtain ⟨h1, h2⟩ := h a List.mem_cons_self
    by_cases h0 : c_fd kd sz R (chg a) = 0
    · rw [c_ply_ok h0]
      obtain ⟨g1, g2, g3⟩ := ih (R := c_one kd (nI (a / 6)) a (chg a) R) (fun b hb => h b (List.mem_cons_of_mem _ hb)) c hc
      have hne : c ≠ c_tc (chg a) := by
        obtain ⟨-, e2⟩ := c_wrF_0 (c_fd_wr h0)
        obtain ⟨i, i1, i2, -⟩ := c_idxF_0 hz h1.2 e2
        obtain ⟨x, x1, x2⟩ := pu_sl_nI h1.2
        unfold c_tc
        rw [i2, x2, c_cell_eq x1 i1]
        have : x ≠ j := fun q => h2.1 (by rw [x2, q])
        have hc1 := hc.1
        have hc2 := hc.2
        omega
      rw [g1, g2, g3]
      exact ⟨pk_un hne, pk_uLn hne, pk_un hne⟩
    · rw [c_ply_bad h0]; exact ⟨rfl, rfl, rfl⟩
end ROW
