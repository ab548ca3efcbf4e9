/-! PURE: what the programs do, as functions. Words for conditions, rows, runs of a loop. -/
theorem pu_cs {b : Bool} {σ : pd_H} {x y : Int32} : cond b (some (σ, some (pd_i x))) (some (σ, some (pd_i y))) = some (σ, some (pd_i (cond b x y))) := by cases b <;> rfl
theorem pu_csj {b : Bool} {σ : pd_H} {x y : Int64} : cond b (some (σ, some (pd_j x))) (some (σ, some (pd_j y))) = some (σ, some (pd_j (cond b x y))) := by cases b <;> rfl
/-- 0 or 1 -/
def pu_z (x : Int32) : Prop := x = 0 ∨ x = 1
theorem pu_z0 : pu_z 0 := Or.inl rfl
theorem pu_z1 : pu_z 1 := Or.inr rfl
theorem pu_zc {b : Bool} {x y : Int32} (hx : pu_z x) (hy : pu_z y) : pu_z (cond b x y) := by cases b <;> assumption
theorem pu_c01 {α : Type} {x : Int32} {A B : α} (h : pu_z x) : cond (decide (x = 0 ∨ x = 1)) A B = A := by rw [decide_eq_true (show x = 0 ∨ x = 1 from h)]; rfl
theorem pu_u1s {σ : pd_H} {k i : Nat} {x : Int32} : (pd_upI σ k i x).1 k = upd (σ.1 k) i x := if_pos rfl
theorem pu_u1n {σ : pd_H} {k i q : Nat} {x : Int32} (h : q ≠ k) : (pd_upI σ k i x).1 q = σ.1 q := if_neg h
theorem pu_u2 {σ : pd_H} {k i : Nat} {x : Int32} : (pd_upI σ k i x).2 = σ.2 := rfl
theorem pu_j1 {σ : pd_H} {k i : Nat} {x : Int64} : (pd_upJ σ k i x).1 = σ.1 := rfl
theorem pu_j2s {σ : pd_H} {k i : Nat} {x : Int64} : (pd_upJ σ k i x).2.1 k = vp_updL (σ.2.1 k) i x := if_pos rfl
theorem pu_j2n {σ : pd_H} {k i q : Nat} {x : Int64} (h : q ≠ k) : (pd_upJ σ k i x).2.1 q = σ.2.1 q := if_neg h
theorem pu_j3 {σ : pd_H} {k i : Nat} {x : Int64} : (pd_upJ σ k i x).2.2 = σ.2.2 := rfl
theorem pu_r1 {σ : pd_H} {k o : Nat} : (pd_upR σ k o).1 = σ.1 := rfl
theorem pu_r2 {σ : pd_H} {k o : Nat} : (pd_upR σ k o).2.1 = σ.2.1 := rfl
theorem pu_obN {i N : Nat} (h : i < N) (hN : N < 2 ^ 31) : pd_ob (nI i) N = false := decide_eq_false (nI_in h hN)
theorem pu_ob_in {i : Int32} {N : Nat} (h0 : ¬ i < 0) (h1 : i.toNatClampNeg < N) : pd_ob i N = false := decide_eq_false (fun h => h.elim h0 (fun h => absurd h1 (Nat.not_lt.mpr h)))
/-- a slot -/
def pu_sl (s : Int32) : Prop := ¬ s < 0 ∧ ¬ 6 ≤ s
theorem pu_sl_nI {s : Int32} (h : pu_sl s) : ∃ j : Nat, j < 6 ∧ s = nI j := by
  obtain ⟨j, h1, rfl⟩ := nI_of h.1
  refine ⟨j, ?_, rfl⟩
  have h2 := h.2
  rw [show (6 : Int32) = nI 6 from rfl, nI_leI (by decide) h1] at h2
  omega
theorem pu_sl_of {j : Nat} (h : j < 6) : pu_sl (nI j) := by
  refine ⟨nI_pos (by omega), ?_⟩
  rw [show (6 : Int32) = nI 6 from rfl, nI_leI (by decide) (by omega)]
  omega
theorem pu_sl_cl {s : Int32} (h : pu_sl s) : s.toNatClampNeg < 6 := by
  obtain ⟨j, h1, rfl⟩ := pu_sl_nI h
  rw [nI_clamp (by omega)]; exact h1
theorem pu_sl_ob {s : Int32} (h : pu_sl s) : pd_ob s 6 = false := pu_ob_in h.1 (pu_sl_cl h)
/-- the number of a cell -/
def c_cell (s i : Int32) : Nat := (s * 12 + i).toNatClampNeg
theorem c_cell_nI {j i : Nat} (hj : j < 6) (hi : i < 12) : nI j * 12 + nI i = nI (12 * j + i) := by
  rw [show (12 : Int32) = nI 12 from rfl, pk_mul, nI_add, Nat.mul_comm]
theorem c_cell_eq {j i : Nat} (hj : j < 6) (hi : i < 12) : c_cell (nI j) (nI i) = 12 * j + i := by
  unfold c_cell
  rw [c_cell_nI hj hi, nI_clamp (by omega)]
theorem c_step_nI (p k : Nat) : nI p * 6 + nI k = nI (6 * p + k) := by
  rw [show (6 : Int32) = nI 6 from rfl, pk_mul, nI_add, Nat.mul_comm]
/-! The canonical words: findings, values. -/
def c_arrF (kd : Nat → Int32) (s : Int32) : Int32 := cond (decide (kd s.toNatClampNeg = (-1 : Int32))) 1 (cond (decide (kd s.toNatClampNeg ≤ (12 : Int32))) 0 2)
def c_idxF (sz : Nat → Int32) (s i : Int32) : Int32 := cond (decide (i < 0)) 5 (cond (decide (i < sz s.toNatClampNeg)) 0 5)
def c_eltF (kd sz : Nat → Int32) (s i : Int32) : Int32 := cond (decide (c_arrF kd s = 0)) (c_idxF sz s i) (c_arrF kd s)
def c_wid (a b : Int32) : Int32 := cond (decide (a = 0)) (cond (decide (b = 0)) 1 0) (cond (decide (a = 1)) (cond (decide (b = 1)) 1 (cond (decide (b < 3)) 0 1)) (cond (decide (a = 2)) (cond (decide (b = a)) 1 (cond (decide (b < 4)) 0 1)) (cond (decide (a = 3)) (cond (decide (b = a)) 1 (cond (decide (b < 4)) 0 1)) (cond (decide (b < a)) 0 1))))
def c_rdF (kd sz : Nat → Int32) (s w i : Int32) : Int32 := cond (decide (c_arrF kd s = 0)) (cond (decide (w = 8)) (c_idxF sz s i) (cond (decide (kd s.toNatClampNeg ≤ 7)) (cond (decide (c_wid (kd s.toNatClampNeg) w = 0)) 4 (c_idxF sz s i)) 3)) (c_arrF kd s)
def c_tyW (w : Int32) : Int32 := cond (decide (8 ≤ w)) (cond (decide (20 ≤ w)) (w - 11) (w - 8)) w
def c_tak (a b : Int32) : Int32 := cond (decide (b = 8)) (cond (decide (a = 8)) 1 (cond (decide (a = 12)) 1 0)) (cond (decide (b = 9)) (cond (decide (a = 9)) 1 0) (cond (decide (b = 10)) (cond (decide (a = 9)) 1 (cond (decide (a = 10)) 1 0)) (cond (decide (b = 11)) (cond (decide (a ≤ 7)) 0 1) (cond (decide (7 < a)) (cond (decide (a = 12)) 1 (cond (decide (a = 11)) (cond (decide (b = 4)) 1 0) 0)) (c_wid b a)))))
def c_wrF (kd sz : Nat → Int32) (s w i : Int32) : Int32 := cond (decide (c_arrF kd s = 0)) (cond (decide (kd s.toNatClampNeg ≤ 7)) (cond (decide (c_tak (kd s.toNatClampNeg) (c_tyW w) = 0)) 4 (c_idxF sz s i)) (cond (decide (8 ≤ w)) (cond (decide (c_tak (kd s.toNatClampNeg) (c_tyW w) = 0)) 4 (c_idxF sz s i)) 3)) (c_arrF kd s)
def c_wd (a : Int32) (b : Int64) (c : Int32) : Int64 := cond (decide (c < 6)) b (cond (decide (a < 6)) (cond (decide (c = 6)) (8 * FP.f2l (FP.l2f b)) (8 * FP.d2l (FP.l2d b))) b)
def c_mk (a b : Int32) : Int64 := cond (decide (a = 0)) (b &&& 1).toInt64 (cond (decide (a = 1)) b.toInt8.toInt32.toInt64 (cond (decide (a = 2)) (b.toUInt32 % 65536).toInt32.toInt64 (cond (decide (a = 3)) b.toInt16.toInt32.toInt64 (cond (decide (a = 4)) b.toInt64 (cond (decide (a = 5)) (b.toInt64 * 100000007) (cond (decide (a = 6)) (FP.f2l (FP.i2f b)) (cond (decide (a = 7)) b.toInt64 (cond (decide (a = 8)) ((b &&& 2147483647) - (b &&& 2147483647) / 78 * 78).toInt64 (cond (decide (a = 9)) b.toInt64 (cond (decide (a = 10)) b.toInt64 (cond (decide (a = 11)) 0 b.toInt64)))))))))))
theorem c_wid_z (a b : Int32) : pu_z (c_wid a b) := by
  unfold c_wid
  repeat' first | exact pu_z0 | exact pu_z1 | apply pu_zc
theorem c_tak_z (a b : Int32) : pu_z (c_tak a b) := by
  unfold c_tak
  repeat' first | exact pu_z0 | exact pu_z1 | exact c_wid_z _ _ | apply pu_zc
/-! The desk's own words. -/
theorem X_isSlot_s (a : Int32) (σ : pd_H) : X_isSlot a σ = some (σ, some (pd_i (cond (decide (a < 0)) 0 (cond (decide (6 ≤ a)) 0 1)))) := by
  rw [X_isSlot_eq]; simp only [pu_cs, pu_csj, pu_c01]
theorem X_findingCode_s (a : Int32) (σ : pd_H) : X_findingCode a σ = some (σ, some (pd_i (-10 - a))) := X_findingCode_eq a σ
theorem X_longError_s (a : Int32) (σ : pd_H) : X_longError a σ = some (σ, some (pd_j (-9223372036854775808 - a.toInt64))) := X_longError_eq a σ
theorem X_cellOf_s (a b : Int32) (σ : pd_H) : X_cellOf a b σ = some (σ, some (pd_i (a * 12 + b))) := X_cellOf_eq a b σ
theorem X_stepOf_s (a b : Int32) (σ : pd_H) : X_stepOf a b σ = some (σ, some (pd_i (a * 6 + b))) := X_stepOf_eq a b σ
theorem X_widens_s (a b : Int32) (σ : pd_H) : X_widens a b σ = some (σ, some (pd_i (c_wid a b))) := by
  rw [X_widens_eq]; simp only [pu_cs, pu_csj, pu_c01]; rfl
theorem X_widened_s (a : Int32) (b : Int64) (c : Int32) (σ : pd_H) : X_widened a b c σ = some (σ, some (pd_j (c_wd a b c))) := by
  rw [X_widened_eq]; simp only [pu_cs, pu_csj, pu_c01]; rfl
theorem X_numberMade_s (a b : Int32) (σ : pd_H) : X_numberMade a b σ = some (σ, some (pd_j (c_mk a b))) := by
  rw [X_numberMade_eq]; simp only [pu_cs, pu_csj, pu_c01]; rfl
theorem X_typeWritten_s (a : Int32) (σ : pd_H) : X_typeWritten a σ = some (σ, some (pd_i (c_tyW a))) := by
  rw [X_typeWritten_eq]; simp only [pu_cs, pu_csj, pu_c01]; rfl
theorem Shelf_arrayFinding_s {a : Int32} (h : pu_sl a) (σ : pd_H) : Shelf_arrayFinding a σ = some (σ, some (pd_i (c_arrF (σ.1 2) a))) := by
  rw [Shelf_arrayFinding_eq]
  have h1 : pd_ob a (pd_len 2) = false := pu_sl_ob h
  simp only [h1, pu_cs, pu_csj, pu_c01, pd_bI_of, pd_bJ_of, pd_bV_of, pd_bR_of, cond_true, cond_false]; rfl
theorem Shelf_indexFinding_s {a : Int32} (h : pu_sl a) (b : Int32) (σ : pd_H) : Shelf_indexFinding a b σ = some (σ, some (pd_i (c_idxF (σ.1 3) a b))) := by
  rw [Shelf_indexFinding_eq]
  have h1 : pd_ob a (pd_len 3) = false := pu_sl_ob h
  simp only [h1, pu_cs, pu_csj, pu_c01, pd_bI_of, pd_bJ_of, pd_bV_of, pd_bR_of, cond_true, cond_false]; rfl
theorem Shelf_elementFinding_s {a : Int32} (h : pu_sl a) (b : Int32) (σ : pd_H) : Shelf_elementFinding a b σ = some (σ, some (pd_i (c_eltF (σ.1 2) (σ.1 3) a b))) := by
  rw [Shelf_elementFinding_eq]
  simp only [Shelf_arrayFinding_s h, Shelf_indexFinding_s h, pu_cs, pu_csj, pu_c01, pd_bI_of, pd_bJ_of, pd_bV_of, pd_bR_of, cond_true, cond_false]; rfl
theorem Shelf_readingFinding_s {a : Int32} (h : pu_sl a) (b c : Int32) (σ : pd_H) : Shelf_readingFinding a b c σ = some (σ, some (pd_i (c_rdF (σ.1 2) (σ.1 3) a b c))) := by
  rw [Shelf_readingFinding_eq]
  have h1 : pd_ob a (pd_len 2) = false := pu_sl_ob h
  simp only [h1, Shelf_arrayFinding_s h, Shelf_indexFinding_s h, X_widens_s, pu_cs, pu_csj, pu_c01, pd_bI_of, pd_bJ_of, pd_bV_of, pd_bR_of, cond_true, cond_false]; rfl
theorem Shelf_takes_s (a b : Int32) (σ : pd_H) : Shelf_takes a b σ = some (σ, some (pd_i (c_tak a b))) := by
  rw [Shelf_takes_eq]
  simp only [X_widens_s, pu_c01 (c_wid_z _ _), pd_bI_of, pd_bJ_of, pd_bV_of, pd_bR_of, cond_true, cond_false, pu_cs]; rfl
theorem Shelf_writingFinding_s {a : Int32} (h : pu_sl a) (b c : Int32) (σ : pd_H) : Shelf_writingFinding a b c σ = some (σ, some (pd_i (c_wrF (σ.1 2) (σ.1 3) a b c))) := by
  rw [Shelf_writingFinding_eq]
  have h1 : pd_ob a (pd_len 2) = false := pu_sl_ob h
  simp only [h1, Shelf_arrayFinding_s h, Shelf_writingFinding_L34_eq, Shelf_indexFinding_s h, X_typeWritten_s, Shelf_takes_s, pu_cs, pu_csj, pu_c01, pd_bI_of, pd_bJ_of, pd_bV_of, pd_bR_of, cond_true, cond_false]; rfl
