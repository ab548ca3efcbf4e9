/-! (whole, 20.base) -/
/-! PURE: what the programs do, as functions. Words for conditions, rows, runs of a loop. -/
theorem pu_cs {b : Bool} {σ : pd_H} {x y : Int32} : cond b (some (σ, some (pd_i x))) (some (σ, some (pd_i y))) = some (σ, some (pd_i (cond b x y))) := by cases b <;> rfl
theorem pu_csj {b : Bool} {σ : pd_H} {x y : Int64} : cond b (some (σ, some (pd_j x))) (some (σ, some (pd_j y))) = some (σ, some (pd_j (cond b x y))) := by cases b <;> rfl
/-- 0 or 1 -/
def pu_z (x : Int32) : Prop := x = 0 ∨ x = 1
theorem pu_z0 : pu_z 0 := Or.inl rfl
theorem pu_z1 : pu_z 1 := Or.inr rfl
theorem pu_zc {b : Bool} {x y : Int32} (hx : pu_z x) (hy : pu_z y) : pu_z (cond b x y) := by cases b <;> assumption
theorem pu_c01 {α : Type} {x : Int32} {A B : α} (h : pu_z x) : cond (decide (x = 0 ∨ x = 1)) A B = A := by rw [decide_eq_true (show x = 0 ∨ x = 1 from h)]; rfl
theorem pu_u1s {σ : pd_H} {k i : Nat} {x : Int32} : (pd_upI σ k i x).1 k = upd (σ.1 k) i x := if_pos rfl
theorem pu_u1n {σ : pd_H} {k i q : Nat} {x : Int32} (h : q ≠ k) : (pd_upI σ k i x).1 q = σ.1 q := if_neg h
theorem pu_u2 {σ : pd_H} {k i : Nat} {x : Int32} : (pd_upI σ k i x).2 = σ.2 := rfl
theorem pu_j1 {σ : pd_H} {k i : Nat} {x : Int64} : (pd_upJ σ k i x).1 = σ.1 := rfl
theorem pu_j2s {σ : pd_H} {k i : Nat} {x : Int64} : (pd_upJ σ k i x).2.1 k = vp_updL (σ.2.1 k) i x := if_pos rfl
theorem pu_j2n {σ : pd_H} {k i q : Nat} {x : Int64} (h : q ≠ k) : (pd_upJ σ k i x).2.1 q = σ.2.1 q := if_neg h
theorem pu_r1 {σ : pd_H} {k o : Nat} : (pd_upR σ k o).1 = σ.1 := rfl
theorem pu_obN {i N : Nat} (h : i < N) (hN : N < 2 ^ 31) : pd_ob (nI i) N = false := decide_eq_false (nI_in h hN)
theorem pu_ob_in {i : Int32} {N : Nat} (h0 : ¬ i < 0) (h1 : i.toNatClampNeg < N) : pd_ob i N = false := decide_eq_false (fun h => h.elim h0 (fun h => absurd h1 (Nat.not_lt.mpr h)))
/-- a slot -/
def pu_sl (s : Int32) : Prop := ¬ s < 0 ∧ ¬ 6 ≤ s
theorem pu_sl_nI {s : Int32} (h : pu_sl s) : ∃ j : Nat, j < 6 ∧ s = nI j := by
  obtain ⟨j, h1, rfl⟩ := nI_of h.1
  refine ⟨j, ?_, rfl⟩
  have h2 := h.2
  rw [show (6 : Int32) = nI 6 from rfl, nI_leI (by decide) h1] at h2
  omega
theorem pu_sl_of {j : Nat} (h : j < 6) : pu_sl (nI j) := by
  refine ⟨nI_pos (by omega), ?_⟩
  rw [show (6 : Int32) = nI 6 from rfl, nI_leI (by decide) (by omega)]
  omega
theorem pu_sl_cl {s : Int32} (h : pu_sl s) : s.toNatClampNeg < 6 := by
  obtain ⟨j, h1, rfl⟩ := pu_sl_nI h
  rw [nI_clamp (by omega)]; exact h1
theorem pu_sl_ob {s : Int32} (h : pu_sl s) : pd_ob s 6 = false := pu_ob_in h.1 (pu_sl_cl h)
/-- the number of a cell -/
def c_cell (s i : Int32) : Nat := (s * 12 + i).toNatClampNeg
theorem c_cell_nI {j i : Nat} (hj : j < 6) (hi : i < 12) : nI j * 12 + nI i = nI (12 * j + i) := by
  rw [show (12 : Int32) = nI 12 from rfl, pk_mul, nI_add, Nat.mul_comm]
theorem c_cell_eq {j i : Nat} (hj : j < 6) (hi : i < 12) : c_cell (nI j) (nI i) = 12 * j + i := by
  unfold c_cell
  rw [c_cell_nI hj hi, nI_clamp (by omega)]
theorem c_step_nI (p k : Nat) : nI p * 6 + nI k = nI (6 * p + k) := by
  rw [show (6 : Int32) = nI 6 from rfl, pk_mul, nI_add, Nat.mul_comm]
/-! The canonical words: findings, values. -/
def c_arrF (kd : Nat → Int32) (s : Int32) : Int32 := cond (decide (kd s.toNatClampNeg = (-1 : Int32))) 1 (cond (decide (kd s.toNatClampNeg ≤ (12 : Int32))) 0 2)
def c_idxF (sz : Nat → Int32) (s i : Int32) : Int32 := cond (decide (i < 0)) 5 (cond (decide (i < sz s.toNatClampNeg)) 0 5)
def c_eltF (kd sz : Nat → Int32) (s i : Int32) : Int32 := cond (decide (c_arrF kd s = 0)) (c_idxF sz s i) (c_arrF kd s)
def c_wid (a b : Int32) : Int32 := cond (decide (a = 0)) (cond (decide (b = 0)) 1 0) (cond (decide (a = 1)) (cond (decide (b = 1)) 1 (cond (decide (b < 3)) 0 1)) (cond (decide (a = 2)) (cond (decide (b = a)) 1 (cond (decide (b < 4)) 0 1)) (cond (decide (a = 3)) (cond (decide (b = a)) 1 (cond (decide (b < 4)) 0 1)) (cond (decide (b < a)) 0 1))))
def c_rdF (kd sz : Nat → Int32) (s w i : Int32) : Int32 := cond (decide (c_arrF kd s = 0)) (cond (decide (w = 8)) (c_idxF sz s i) (cond (decide (kd s.toNatClampNeg ≤ 7)) (cond (decide (c_wid (kd s.toNatClampNeg) w = 0)) 4 (c_idxF sz s i)) 3)) (c_arrF kd s)
def c_tyW (w : Int32) : Int32 := cond (decide (8 ≤ w)) (cond (decide (20 ≤ w)) (w - 11) (w - 8)) w
def c_tak (a b : Int32) : Int32 := cond (decide (b = 8)) (cond (decide (a = 8)) 1 (cond (decide (a = 12)) 1 0)) (cond (decide (b = 9)) (cond (decide (a = 9)) 1 0) (cond (decide (b = 10)) (cond (decide (a = 9)) 1 (cond (decide (a = 10)) 1 0)) (cond (decide (b = 11)) (cond (decide (a ≤ 7)) 0 1) (cond (decide (7 < a)) (cond (decide (a = 12)) 1 (cond (decide (a = 11)) (cond (decide (b = 4)) 1 0) 0)) (c_wid b a)))))
def c_wrF (kd sz : Nat → Int32) (s w i : Int32) : Int32 := cond (decide (c_arrF kd s = 0)) (cond (decide (kd s.toNatClampNeg ≤ 7)) (cond (decide (c_tak (kd s.toNatClampNeg) (c_tyW w) = 0)) 4 (c_idxF sz s i)) (cond (decide (8 ≤ w)) (cond (decide (c_tak (kd s.toNatClampNeg) (c_tyW w) = 0)) 4 (c_idxF sz s i)) 3)) (c_arrF kd s)
def c_wd (a : Int32) (b : Int64) (c : Int32) : Int64 := cond (decide (c < 6)) b (cond (decide (a < 6)) (cond (decide (c = 6)) (8 * FP.f2l (FP.l2f b)) (8 * FP.d2l (FP.l2d b))) b)
def c_mk (a b : Int32) : Int64 := cond (decide (a = 0)) (b &&& 1).toInt64 (cond (decide (a = 1)) b.toInt8.toInt32.toInt64 (cond (decide (a = 2)) (b.toUInt32 % 65536).toInt32.toInt64 (cond (decide (a = 3)) b.toInt16.toInt32.toInt64 (cond (decide (a = 4)) b.toInt64 (cond (decide (a = 5)) (b.toInt64 * 100000007) (cond (decide (a = 6)) (FP.f2l (FP.i2f b)) (cond (decide (a = 7)) b.toInt64 (cond (decide (a = 8)) ((b &&& 2147483647) - (b &&& 2147483647) / 78 * 78).toInt64 (cond (decide (a = 9)) b.toInt64 (cond (decide (a = 10)) b.toInt64 (cond (decide (a = 11)) 0 b.toInt64)))))))))))
theorem c_wid_z (a b : Int32) : pu_z (c_wid a b) := by
  unfold c_wid
  repeat' first | exact pu_z0 | exact pu_z1 | apply pu_zc
/-! The desk's own words. -/
theorem X_isSlot_s (a : Int32) (σ : pd_H) : X_isSlot a σ = some (σ, some (pd_i (cond (decide (a < 0)) 0 (cond (decide (6 ≤ a)) 0 1)))) := by
  rw [X_isSlot_eq]; simp only [pu_cs, pu_csj, pu_c01]
theorem X_findingCode_s (a : Int32) (σ : pd_H) : X_findingCode a σ = some (σ, some (pd_i (-10 - a))) := X_findingCode_eq a σ
theorem X_cellOf_s (a b : Int32) (σ : pd_H) : X_cellOf a b σ = some (σ, some (pd_i (a * 12 + b))) := X_cellOf_eq a b σ
theorem X_stepOf_s (a b : Int32) (σ : pd_H) : X_stepOf a b σ = some (σ, some (pd_i (a * 6 + b))) := X_stepOf_eq a b σ
theorem X_widens_s (a b : Int32) (σ : pd_H) : X_widens a b σ = some (σ, some (pd_i (c_wid a b))) := by
  rw [X_widens_eq]; simp only [pu_cs, pu_csj, pu_c01]; rfl
theorem X_widened_s (a : Int32) (b : Int64) (c : Int32) (σ : pd_H) : X_widened a b c σ = some (σ, some (pd_j (c_wd a b c))) := by
  rw [X_widened_eq]; simp only [pu_cs, pu_csj, pu_c01]; rfl
theorem X_numberMade_s (a b : Int32) (σ : pd_H) : X_numberMade a b σ = some (σ, some (pd_j (c_mk a b))) := by
  rw [X_numberMade_eq]; simp only [pu_cs, pu_csj, pu_c01]; rfl
theorem X_typeWritten_s (a : Int32) (σ : pd_H) : X_typeWritten a σ = some (σ, some (pd_i (c_tyW a))) := by
  rw [X_typeWritten_eq]; simp only [pu_cs, pu_csj, pu_c01]; rfl
theorem Shelf_arrayFinding_s {a : Int32} (h : pu_sl a) (σ : pd_H) : Shelf_arrayFinding a σ = some (σ, some (pd_i (c_arrF (σ.1 2) a))) := by
  rw [Shelf_arrayFinding_eq]
  have h1 : pd_ob a (pd_len 2) = false := pu_sl_ob h
  simp only [h1, pu_cs, pu_csj, pu_c01, pd_bI_of, pd_bJ_of, pd_bV_of, pd_bR_of, cond_true, cond_false]; rfl
theorem Shelf_indexFinding_s {a : Int32} (h : pu_sl a) (b : Int32) (σ : pd_H) : Shelf_indexFinding a b σ = some (σ, some (pd_i (c_idxF (σ.1 3) a b))) := by
  rw [Shelf_indexFinding_eq]
  have h1 : pd_ob a (pd_len 3) = false := pu_sl_ob h
  simp only [h1, pu_cs, pu_csj, pu_c01, pd_bI_of, pd_bJ_of, pd_bV_of, pd_bR_of, cond_true, cond_false]; rfl
theorem Shelf_elementFinding_s {a : Int32} (h : pu_sl a) (b : Int32) (σ : pd_H) : Shelf_elementFinding a b σ = some (σ, some (pd_i (c_eltF (σ.1 2) (σ.1 3) a b))) := by
  rw [Shelf_elementFinding_eq]
  simp only [Shelf_arrayFinding_s h, Shelf_indexFinding_s h, pu_cs, pu_csj, pu_c01, pd_bI_of, pd_bJ_of, pd_bV_of, pd_bR_of, cond_true, cond_false]; rfl
theorem Shelf_readingFinding_s {a : Int32} (h : pu_sl a) (b c : Int32) (σ : pd_H) : Shelf_readingFinding a b c σ = some (σ, some (pd_i (c_rdF (σ.1 2) (σ.1 3) a b c))) := by
  rw [Shelf_readingFinding_eq]
  have h1 : pd_ob a (pd_len 2) = false := pu_sl_ob h
  simp only [h1, Shelf_arrayFinding_s h, Shelf_indexFinding_s h, X_widens_s, pu_cs, pu_csj, pu_c01, pd_bI_of, pd_bJ_of, pd_bV_of, pd_bR_of, cond_true, cond_false]; rfl
theorem Shelf_takes_s (a b : Int32) (σ : pd_H) : Shelf_takes a b σ = some (σ, some (pd_i (c_tak a b))) := by
  rw [Shelf_takes_eq]
  simp only [X_widens_s, pu_c01 (c_wid_z _ _), pd_bI_of, pd_bJ_of, pd_bV_of, pd_bR_of, cond_true, cond_false, pu_cs]; rfl
theorem Shelf_writingFinding_s {a : Int32} (h : pu_sl a) (b c : Int32) (σ : pd_H) : Shelf_writingFinding a b c σ = some (σ, some (pd_i (c_wrF (σ.1 2) (σ.1 3) a b c))) := by
  rw [Shelf_writingFinding_eq]
  have h1 : pd_ob a (pd_len 2) = false := pu_sl_ob h
  simp only [h1, Shelf_arrayFinding_s h, Shelf_writingFinding_L34_eq, Shelf_indexFinding_s h, X_typeWritten_s, Shelf_takes_s, pu_cs, pu_csj, pu_c01, pd_bI_of, pd_bJ_of, pd_bV_of, pd_bR_of, cond_true, cond_false]; rfl
/-! (whole, 21.desk1) -/
/-! The desk's rows of values, and its sequences. -/
theorem pu_len_run {r : Nat} (h : r = 32 ∨ r = 48 ∨ r = 64) : pd_len (r + 2) = 24 ∧ pd_len (r + 4) = 72 ∧ pd_len (r + 5) = 72 ∧ pd_len (r + 6) = 72 ∧ pd_len (r + 7) = 72 ∧ pd_len (r + 9) = 150 ∧ pd_len (r + 10) = 150 ∧ pd_len (r + 12) = 150 ∧ pd_len (r + 13) = 150 ∧ pd_len (r + 14) = 150 ∧ pd_len (r + 15) = 25 := by
  rcases h with rfl | rfl | rfl <;> decide
theorem Values_put_s {o n N : Nat} {b : Int32} {c : Int64} (σ : pd_H) (h1 : pd_len (o + 1) = N) (h2 : pd_len (o + 2) = N) (hn : n < N) (hN : N < 2 ^ 31) : Values_put o (nI n) b c σ = some (pd_upJ (pd_upI σ (o + 1) n b) (o + 2) n c, none) := by
  rw [Values_put_eq, h1, h2]
  simp only [pu_obN hn hN, pd_bI_of, pd_bJ_of, pd_bV_of, pd_bR_of, cond_true, cond_false, nI_clamp (Nat.lt_trans hn hN)]
theorem pu_cmp0 (x y : Int64) : decide (lg_cmp x y = 0) = decide (x = y) := by
  unfold lg_cmp
  by_cases h1 : x > y
  · have h2 : x ≠ y := fun e => by subst e; exact Int64.lt_irrefl h1
    rw [if_pos h1, decide_eq_false h2]
    rfl
  · rw [if_neg h1]
    by_cases h2 : x = y
    · rw [if_pos h2, decide_eq_true h2]; rfl
    · rw [if_neg h2, decide_eq_false h2]; rfl
theorem Values_isAt_s {o n N : Nat} {b : Int32} {c : Int64} (σ : pd_H) (h1 : pd_len (o + 1) = N) (h2 : pd_len (o + 2) = N) (hn : n < N) (hN : N < 2 ^ 31) : Values_isAt o (nI n) b c σ = some (σ, some (pd_i (cond (decide (σ.1 (o + 1) n = b)) (cond (decide (σ.2.1 (o + 2) n = c)) 1 0) 0))) := by
  rw [Values_isAt_eq, h1, h2]
  simp only [pu_obN hn hN, pd_bI_of, pd_bJ_of, pd_bV_of, pd_bR_of, cond_true, cond_false, nI_clamp (Nat.lt_trans hn hN), pu_cmp0, pu_cs, pu_csj, pu_c01]
theorem Values_equalAt_s {o q n N : Nat} (σ : pd_H) (h1 : pd_len (o + 1) = N) (h2 : pd_len (o + 2) = N) (g1 : pd_len (q + 1) = N) (g2 : pd_len (q + 2) = N) (hn : n < N) (hN : N < 2 ^ 31) : Values_equalAt o (nI n) q σ = some (σ, some (pd_i (cond (decide (σ.1 (o + 1) n = σ.1 (q + 1) n)) (cond (decide (σ.2.1 (o + 2) n = σ.2.1 (q + 2) n)) 1 0) 0))) := by
  rw [Values_equalAt_eq, g1, g2]
  simp only [pu_obN hn hN, pd_bI_of, pd_bJ_of, pd_bV_of, pd_bR_of, cond_true, cond_false, nI_clamp (Nat.lt_trans hn hN), Values_isAt_s σ h1 h2 hn hN]
  rw [pu_c01]
  repeat' first | exact pu_z0 | exact pu_z1 | apply pu_zc
/-- one row in place of another -/
def pu_rwI (σ : pd_H) (k : Nat) (f : Nat → Int32) : pd_H := (fun q => if q = k then f else σ.1 q, σ.2)
def pu_rwJ (σ : pd_H) (k : Nat) (f : Nat → Int64) : pd_H := (σ.1, fun q => if q = k then f else σ.2.1 q, σ.2.2)
theorem pu_w1s {σ : pd_H} {k : Nat} {f : Nat → Int32} : (pu_rwI σ k f).1 k = f := if_pos rfl
theorem pu_w1n {σ : pd_H} {k q : Nat} {f : Nat → Int32} (h : q ≠ k) : (pu_rwI σ k f).1 q = σ.1 q := if_neg h
theorem pu_w2 {σ : pd_H} {k : Nat} {f : Nat → Int32} : (pu_rwI σ k f).2 = σ.2 := rfl
theorem pu_x1 {σ : pd_H} {k : Nat} {f : Nat → Int64} : (pu_rwJ σ k f).1 = σ.1 := rfl
theorem pu_x2s {σ : pd_H} {k : Nat} {f : Nat → Int64} : (pu_rwJ σ k f).2.1 k = f := if_pos rfl
theorem pu_x2n {σ : pd_H} {k q : Nat} {f : Nat → Int64} (h : q ≠ k) : (pu_rwJ σ k f).2.1 q = σ.2.1 q := if_neg h
theorem pu_H_ext {σ τ : pd_H} (h1 : ∀ k, σ.1 k = τ.1 k) (h2 : ∀ k, σ.2.1 k = τ.2.1 k) (h3 : σ.2.2 = τ.2.2) : σ = τ := by
  obtain ⟨a, b, c⟩ := σ
  obtain ⟨a', b', c'⟩ := τ
  have e1 : a = a' := funext h1
  have e2 : b = b' := funext h2
  have e3 : c = c' := h3
  rw [e1, e2, e3]
/-- what is copied up to n -/
def pu_cp (f g : Nat → Int32) (n : Nat) : Nat → Int32 := fun i => if i < n then f i else g i
def pu_cpL (f g : Nat → Int64) (n : Nat) : Nat → Int64 := fun i => if i < n then f i else g i
theorem pu_cp_up {f g : Nat → Int32} {n : Nat} : upd (pu_cp f g n) n (f n) = pu_cp f g (n + 1) := by
  funext i
  unfold pu_cp upd
  dsimp only
  by_cases h : i = n
  · subst h; simp
  · rw [if_neg h]
    by_cases h2 : i < n
    · rw [if_pos h2, if_pos (by omega)]
    · rw [if_neg h2, if_neg (by omega)]
theorem pu_cpL_up {f g : Nat → Int64} {n : Nat} : vp_updL (pu_cpL f g n) n (f n) = pu_cpL f g (n + 1) := by
  funext i
  unfold pu_cpL vp_updL
  dsimp only
  by_cases h : i = n
  · subst h; simp
  · rw [if_neg h]
    by_cases h2 : i < n
    · rw [if_pos h2, if_pos (by omega)]
    · rw [if_neg h2, if_neg (by omega)]
theorem pu_cp0 {f g : Nat → Int32} : pu_cp f g 0 = g := by funext i; unfold pu_cp; simp
theorem pu_cpL0 {f g : Nat → Int64} : pu_cpL f g 0 = g := by funext i; unfold pu_cpL; simp
theorem J_min_s {a b : Nat} (ha : a < 2 ^ 31) (hb : b < 2 ^ 31) (σ : pd_H) (hab : a = b) : J_min (nI a) (nI b) σ = some (σ, some (pd_i (nI a))) := by
  subst hab
  rw [J_min_eq]
  simp only [nI_ltI ha ha, Nat.lt_irrefl, decide_false, pd_bI_of, pd_bJ_of, pd_bV_of, pd_bR_of, cond_true, cond_false]
theorem Values_becomeLike_L16_s {o q N : Nat} (h1 : pd_len (o + 1) = N) (h2 : pd_len (o + 2) = N) (g1 : pd_len (q + 1) = N) (g2 : pd_len (q + 2) = N) (hN : N < 2 ^ 31) (a1 : q + 1 ≠ o + 1) (σ : pd_H) : ∀ d n, n + d = N → Values_becomeLike_L16 o q (nI N) (nI n) (pu_rwJ (pu_rwI σ (o + 1) (pu_cp (σ.1 (q + 1)) (σ.1 (o + 1)) n)) (o + 2) (pu_cpL (σ.2.1 (q + 2)) (σ.2.1 (o + 2)) n)) = some (pu_rwJ (pu_rwI σ (o + 1) (pu_cp (σ.1 (q + 1)) (σ.1 (o + 1)) N)) (o + 2) (pu_cpL (σ.2.1 (q + 2)) (σ.2.1 (o + 2)) N), none) := by
  intro d
  induction d with
  | zero =>
    intro n hn
    have : n = N := by omega
    subst this
    rw [Values_becomeLike_L16_eq]
    simp only [nI_leI hN hN, Nat.le_refl, decide_true, pd_bI_of, pd_bJ_of, pd_bV_of, pd_bR_of, cond_true, cond_false]
  | succ d ih =>
    intro n hn
    rw [Values_becomeLike_L16_eq]
    have hlt : n < N := by omega
    have hn2 : n < 2 ^ 31 := by omega
    have a2 : q + 2 ≠ o + 2 := by omega
    simp only [nI_leI hN hn2, show ¬ N ≤ n by omega, decide_false, pd_bI_of, pd_bJ_of, pd_bV_of, pd_bR_of, cond_true, cond_false, g1, g2, pu_obN hlt hN, nI_clamp hn2, Values_put_s _ h1 h2 hlt hN]
    rw [nI_1]
    have e := ih (n + 1) (by omega)
    rw [← e]
    congr 1
    refine pu_H_ext (fun k => ?_) (fun k => ?_) rfl
    · by_cases hk : k = o + 1
      · subst hk
        simp only [pu_j1, pu_x1, pu_u1s, pu_w1s, pu_w1n a1]
        rw [← pu_cp_up]
      · simp only [pu_j1, pu_x1, pu_u1n hk, pu_w1n hk]
    · by_cases hk : k = o + 2
      · subst hk
        simp only [pu_j2s, pu_x2s, pu_u2, pu_x2n a2, pu_w2]
        rw [← pu_cpL_up]
      · simp only [pu_j2n hk, pu_x2n hk, pu_u2, pu_w2]
theorem Values_becomeLike_s {o q N : Nat} (h1 : pd_len (o + 1) = N) (h2 : pd_len (o + 2) = N) (g1 : pd_len (q + 1) = N) (g2 : pd_len (q + 2) = N) (hN : N < 2 ^ 31) (a1 : q + 1 ≠ o + 1) (σ : pd_H) : Values_becomeLike o q σ = some (pu_rwJ (pu_rwI σ (o + 1) (pu_cp (σ.1 (q + 1)) (σ.1 (o + 1)) N)) (o + 2) (pu_cpL (σ.2.1 (q + 2)) (σ.2.1 (o + 2)) N), none) := by
  rw [Values_becomeLike_eq, h1, g1]
  rw [show (Int32.ofNat N) = nI N from rfl, J_min_s hN hN σ rfl]
  simp only [pd_bI_of, pd_bJ_of, pd_bV_of, pd_bR_of, cond_true, cond_false]
  have e := Values_becomeLike_L16_s h1 h2 g1 g2 hN a1 σ N 0 (by omega)
  rw [pu_cp0, pu_cpL0] at e
  rw [← e]
  show Values_becomeLike_L16 o q (nI N) (nI 0) σ = _
  congr 1
  refine pu_H_ext (fun k => ?_) (fun k => ?_) rfl
  · by_cases hk : k = o + 1
    · subst hk; simp only [pu_x1, pu_w1s]
    · simp only [pu_x1, pu_w1n hk]
  · by_cases hk : k = o + 2
    · subst hk; simp only [pu_x2s]
    · simp only [pu_x2n hk, pu_w2]
/-! Sequences: a list in a row and its length. -/
def pu_seq (σ : pd_H) (o : Nat) (l : List Nat) : Prop := σ.1 o 1 = nI l.length ∧ l.length ≤ 24 ∧ ∀ (i x : Nat), l[i]? = some x → σ.1 (o + 1) i = nI x
theorem pu_seq.of {σ τ : pd_H} {o : Nat} {l : List Nat} (h : pu_seq σ o l) (h1 : τ.1 o 1 = σ.1 o 1) (h2 : τ.1 (o + 1) = σ.1 (o + 1)) : pu_seq τ o l := ⟨by rw [h1]; exact h.1, h.2.1, fun i x hx => by rw [h2]; exact h.2.2 i x hx⟩
/-- the place of the first that is it; of the length if none -/
def c_ix (l : List Nat) (p : Nat) : Nat := match l with
  | [] => 0
  | x :: r => cond (Nat.beq x p) 0 (c_ix r p + 1)
theorem c_ix_le (l : List Nat) (p : Nat) : c_ix l p ≤ l.length := by
  induction l with
  | nil => exact Nat.le_refl 0
  | cons x r ih =>
    unfold c_ix
    cases Nat.beq x p with
    | true => exact Nat.zero_le _
    | false => exact Nat.succ_le_succ ih
theorem c_ix_mem {l : List Nat} {p : Nat} : c_ix l p < l.length ↔ p ∈ l := by
  induction l with
  | nil => simp [c_ix]
  | cons x r ih =>
    unfold c_ix
    cases h : Nat.beq x p with
    | true =>
      have := Nat.eq_of_beq_eq_true h
      subst this
      simp
    | false =>
      have hne : x ≠ p := fun e => by subst e; rw [Nat.beq_refl] at h; cases h
      simp only [cond_false, List.length_cons, List.mem_cons, Nat.add_lt_add_iff_right, ih]
      constructor
      · exact Or.inr
      · rintro (e | e)
        · exact absurd e.symm hne
        · exact e
def c_ixI (l : List Nat) (p : Nat) : Int32 := cond (Nat.ble l.length (c_ix l p)) (-1) (nI (c_ix l p))
theorem Seq_indexOf_L2_s {σ : pd_H} {o : Nat} {l : List Nat} (h : pu_seq σ o l) (ho : pd_len (o + 1) = 24) {p : Nat} (hp : p < 2 ^ 31) (hl : ∀ x ∈ l, x < 2 ^ 31) : ∀ (m : List Nat) (i : Nat), l.drop i = m → i ≤ l.length → Seq_indexOf_L2 o (nI p) (nI i) σ = some (σ, some (pd_i (cond (Nat.ble m.length (c_ix m p)) (-1) (nI (i + c_ix m p))))) := by
  intro m
  induction m with
  | nil =>
    intro i hd hi
    have : l.length ≤ i := List.drop_eq_nil_iff.mp hd
    have h24 := h.2.1
    rw [Seq_indexOf_L2_eq, h.1]
    simp only [nI_leI (show l.length < 2 ^ 31 by omega) (show i < 2 ^ 31 by omega), this, decide_true, pd_bI_of, pd_bJ_of, pd_bV_of, pd_bR_of, cond_true, cond_false]
    rfl
  | cons x r ih =>
    intro i hd hi
    have hlt : i < l.length := by
      rcases Nat.lt_or_ge i l.length with q | q
      · exact q
      · rw [List.drop_eq_nil_iff.mpr q] at hd; cases hd
    have hx : l[i]? = some x := by
      have : (l.drop i)[0]? = some x := by rw [hd]; rfl
      rw [List.getElem?_drop] at this
      simpa using this
    have hd2 : l.drop (i + 1) = r := by rw [← List.drop_drop, hd]; rfl
    have h24 := h.2.1
    rw [Seq_indexOf_L2_eq, h.1, ho]
    simp only [nI_leI (show l.length < 2 ^ 31 by omega) (show i < 2 ^ 31 by omega), show ¬ l.length ≤ i by omega, decide_false, pd_bI_of, pd_bJ_of, pd_bV_of, pd_bR_of, cond_true, cond_false, pu_obN (show i < 24 by omega) (show 24 < 2 ^ 31 by decide), nI_clamp (show i < 2 ^ 31 by omega), h.2.2 i x hx, nI_1]
    rw [ih (i + 1) hd2 hlt]
    have hxl := hl x (List.mem_of_getElem? hx)
    by_cases e : x = p
    · subst e
      simp only [decide_true, cond_true, c_ix, Nat.beq_refl, List.length_cons]
      rfl
    · have hb : Nat.beq x p = false := by
        cases hb : Nat.beq x p with
        | false => rfl
        | true => exact absurd (Nat.eq_of_beq_eq_true hb) e
      simp only [nI_eq hxl hp, e, decide_false, cond_false, c_ix, hb, List.length_cons]
      rw [show Nat.ble (r.length + 1) (c_ix r p + 1) = Nat.ble r.length (c_ix r p) from rfl, show i + 1 + c_ix r p = i + (c_ix r p + 1) by omega]
theorem Seq_indexOf_s {σ : pd_H} {o : Nat} {l : List Nat} (h : pu_seq σ o l) (ho : pd_len (o + 1) = 24) {p : Nat} (hp : p < 2 ^ 31) (hl : ∀ x ∈ l, x < 2 ^ 31) : Seq_indexOf o (nI p) σ = some (σ, some (pd_i (c_ixI l p))) := by
  rw [Seq_indexOf_eq]
  show Seq_indexOf_L2 o (nI p) (nI 0) σ = _
  rw [Seq_indexOf_L2_s h ho hp hl l 0 rfl (Nat.zero_le _), Nat.zero_add]
  rfl
/-- all but the things of K stands -/
def pu_fr (K : Nat → Prop) (σ τ : pd_H) : Prop := (∀ k, ¬ K k → τ.1 k = σ.1 k) ∧ (∀ k, ¬ K k → τ.2.1 k = σ.2.1 k) ∧ τ.2.2 = σ.2.2
theorem pu_fr.rf {K : Nat → Prop} {σ : pd_H} : pu_fr K σ σ := ⟨fun _ _ => rfl, fun _ _ => rfl, rfl⟩
theorem pu_fr.tr {K : Nat → Prop} {σ τ υ : pd_H} (h : pu_fr K σ τ) (g : pu_fr K τ υ) : pu_fr K σ υ := ⟨fun k hk => (g.1 k hk).trans (h.1 k hk), fun k hk => (g.2.1 k hk).trans (h.2.1 k hk), g.2.2.trans h.2.2⟩
theorem pu_fr.mono {K L : Nat → Prop} {σ τ : pd_H} (h : pu_fr K σ τ) (hK : ∀ k, K k → L k) : pu_fr L σ τ := ⟨fun k hk => h.1 k (fun q => hk (hK k q)), fun k hk => h.2.1 k (fun q => hk (hK k q)), h.2.2⟩
theorem pu_fr.upI {K : Nat → Prop} {σ : pd_H} {k i : Nat} {x : Int32} (h : K k) : pu_fr K σ (pd_upI σ k i x) := ⟨fun q hq => pu_u1n (fun e => hq (e ▸ h)), fun _ _ => rfl, rfl⟩
theorem pu_fr.upJ {K : Nat → Prop} {σ : pd_H} {k i : Nat} {x : Int64} (h : K k) : pu_fr K σ (pd_upJ σ k i x) := ⟨fun _ _ => rfl, fun q hq => pu_j2n (fun e => hq (e ▸ h)), rfl⟩
theorem pu_fr.rwI {K : Nat → Prop} {σ : pd_H} {k : Nat} {f : Nat → Int32} (h : K k) : pu_fr K σ (pu_rwI σ k f) := ⟨fun q hq => pu_w1n (fun e => hq (e ▸ h)), fun _ _ => rfl, rfl⟩
theorem pu_fr.rwJ {K : Nat → Prop} {σ : pd_H} {k : Nat} {f : Nat → Int64} (h : K k) : pu_fr K σ (pu_rwJ σ k f) := ⟨fun _ _ => rfl, fun q hq => pu_x2n (fun e => hq (e ▸ h)), rfl⟩
theorem Seq_append_s {σ : pd_H} {o : Nat} {l : List Nat} (h : pu_seq σ o l) (ho : pd_len (o + 1) = 24) (p : Nat) (hl : l.length < 24) : ∃ τ, Seq_append o (nI p) σ = some (τ, none) ∧ pu_seq τ o (l ++ [p]) ∧ pu_fr (fun k => k = o ∨ k = o + 1) σ τ := by
  refine ⟨pd_upI (pd_upI σ (o + 1) l.length (nI p)) o 1 (nI (l.length + 1)), ?_, ⟨?_, ?_, ?_⟩, (pu_fr.upI (Or.inr rfl)).tr (pu_fr.upI (Or.inl rfl))⟩
  · rw [Seq_append_eq, h.1, ho, show (24 : Int32) = nI 24 from rfl]
    simp only [nI_leI (show 24 < 2 ^ 31 by decide) (show l.length < 2 ^ 31 by omega), show ¬ 24 ≤ l.length by omega, decide_false, pd_bI_of, pd_bJ_of, pd_bV_of, pd_bR_of, cond_true, cond_false, pu_obN hl (show 24 < 2 ^ 31 by decide), nI_clamp (show l.length < 2 ^ 31 by omega), pu_u1n (show o ≠ o + 1 by omega), h.1, nI_1]
  · simp only [pu_u1s, pk_us, List.length_append, List.length_singleton]
  · simp only [List.length_append, List.length_singleton]; omega
  · intro i x hx
    simp only [pu_u1n (show o + 1 ≠ o by omega), pu_u1s]
    rw [List.getElem?_append] at hx
    by_cases hi : i < l.length
    · rw [if_pos hi] at hx
      rw [pk_un (by omega)]
      exact h.2.2 i x hx
    · rw [if_neg hi] at hx
      rcases Nat.eq_or_lt_of_le (Nat.not_lt.mp hi) with e | e
      · subst e
        rw [Nat.sub_self] at hx
        rw [pk_us]
        cases hx; rfl
      · rw [List.getElem?_eq_none (by simp only [List.length_singleton]; omega)] at hx
        cases hx
theorem Seq_remove_L4_s {o n p : Nat} (ho : pd_len (o + 1) = 24) (hp : p < 2 ^ 31) (hn : n ≤ 24) : ∀ (m : List Nat) (i j : Nat) (σ : pd_H), (∀ x ∈ m, x < 2 ^ 31) → σ.1 o 1 = nI n → j ≤ i → i + m.length = n → (∀ (t x : Nat), m[t]? = some x → σ.1 (o + 1) (i + t) = nI x) →
    ∃ τ, Seq_remove_L4 o (nI p) (nI j) (nI i) σ = some (τ, none) ∧ τ.1 o 1 = nI (j + (m.filter (fun x => !Nat.beq x p)).length) ∧ (∀ t, t < j → τ.1 (o + 1) t = σ.1 (o + 1) t) ∧ (∀ (t x : Nat), (m.filter (fun x => !Nat.beq x p))[t]? = some x → τ.1 (o + 1) (j + t) = nI x) ∧ pu_fr (fun k => k = o ∨ k = o + 1) σ τ := by
  intro m
  induction m with
  | nil =>
    intro i j σ _ h1 hj hi hm
    refine ⟨pd_upI σ o 1 (nI j), ?_, ?_, ?_, ?_, pu_fr.upI (Or.inl rfl)⟩
    · have hi : i = n := hi
      subst hi
      rw [Seq_remove_L4_eq, h1]
      simp only [nI_leI (show i < 2 ^ 31 by omega) (show i < 2 ^ 31 by omega), Nat.le_refl, decide_true, pd_bI_of, pd_bJ_of, pd_bV_of, pd_bR_of, cond_true, cond_false]
    · simp only [pu_u1s, pk_us, List.filter_nil, List.length_nil, Nat.add_zero]
    · intro t _; simp only [pu_u1n (show o + 1 ≠ o by omega)]
    · intro t x hx; cases hx
  | cons y r ih =>
    intro i j σ hs h1 hj hi hm
    have hi : i + (r.length + 1) = n := hi
    have hy : σ.1 (o + 1) i = nI y := hm 0 y rfl
    have hyl := hs y List.mem_cons_self
    have hr : ∀ (t x : Nat), r[t]? = some x → σ.1 (o + 1) (i + 1 + t) = nI x := fun t x hx => by
      rw [show i + 1 + t = i + (t + 1) by omega]; exact hm (t + 1) x hx
    have hsr : ∀ x ∈ r, x < 2 ^ 31 := fun x hx => hs x (List.mem_cons_of_mem _ hx)
    rw [Seq_remove_L4_eq, h1, ho]
    simp only [nI_leI (show n < 2 ^ 31 by omega) (show i < 2 ^ 31 by omega), show ¬ n ≤ i by omega, decide_false, pd_bI_of, pd_bJ_of, pd_bV_of, pd_bR_of, cond_true, cond_false, pu_obN (show i < 24 by omega) (show 24 < 2 ^ 31 by decide), pu_obN (show j < 24 by omega) (show 24 < 2 ^ 31 by decide), nI_clamp (show i < 2 ^ 31 by omega), nI_clamp (show j < 2 ^ 31 by omega), hy, nI_1]
    by_cases e : y = p
    · have hb : Nat.beq y p = true := by rw [e]; exact Nat.beq_refl p
      simp only [nI_eq hyl hp, e, decide_true, pd_bI_of, pd_bJ_of, pd_bV_of, pd_bR_of, cond_true, cond_false]
      obtain ⟨τ, k1, k2, k3, k4, k5⟩ := ih (i + 1) j σ hsr h1 (by omega) (by omega) hr
      refine ⟨τ, k1, ?_, k3, ?_, k5⟩
      · rw [List.filter_cons, Nat.beq_refl]; exact k2
      · rw [List.filter_cons, Nat.beq_refl]; exact k4
    · have hb : Nat.beq y p = false := by
        cases hb : Nat.beq y p with
        | false => rfl
        | true => exact absurd (Nat.eq_of_beq_eq_true hb) e
      simp only [nI_eq hyl hp, e, decide_false, pd_bI_of, pd_bJ_of, pd_bV_of, pd_bR_of, cond_true, cond_false]
      obtain ⟨τ, k1, k2, k3, k4, k5⟩ := ih (i + 1) (j + 1) (pd_upI σ (o + 1) j (nI y)) hsr (by rw [pu_u1n (show o ≠ o + 1 by omega)]; exact h1) (by omega) (by omega) (fun t x hx => by rw [pu_u1s, pk_un (by omega)]; exact hr t x hx)
      refine ⟨τ, k1, ?_, ?_, ?_, (pu_fr.upI (Or.inr rfl)).tr k5⟩
      · rw [List.filter_cons, hb]
        rw [k2]
        simp only [Bool.not_false, if_true, List.length_cons]
        rw [show j + 1 + (r.filter (fun x => !Nat.beq x p)).length = j + ((r.filter (fun x => !Nat.beq x p)).length + 1) by omega]
      · intro t ht
        rw [k3 t (by omega), pu_u1s, pk_un (by omega)]
      · intro t x hx
        rw [List.filter_cons, hb] at hx
        simp only [Bool.not_false, if_true] at hx
        cases t with
        | zero =>
          cases hx
          show τ.1 (o + 1) j = nI y
          rw [k3 j (by omega), pu_u1s, pk_us]
        | succ t =>
          rw [show j + (t + 1) = j + 1 + t by omega]
          exact k4 t x hx
/-- a list without one -/
def c_rm (l : List Nat) (p : Nat) : List Nat := l.filter (fun x => !Nat.beq x p)
theorem Seq_remove_s {σ : pd_H} {o : Nat} {l : List Nat} (h : pu_seq σ o l) (ho : pd_len (o + 1) = 24) {p : Nat} (hp : p < 2 ^ 31) (hl : ∀ x ∈ l, x < 2 ^ 31) : ∃ τ, Seq_remove o (nI p) σ = some (τ, none) ∧ pu_seq τ o (c_rm l p) ∧ pu_fr (fun k => k = o ∨ k = o + 1) σ τ := by
  obtain ⟨τ, k1, k2, k3, k4, k5⟩ := Seq_remove_L4_s ho hp h.2.1 l 0 0 σ hl h.1 (Nat.le_refl 0) (Nat.zero_add _) (fun t x hx => by rw [Nat.zero_add]; exact h.2.2 t x hx)
  refine ⟨τ, ?_, ⟨?_, Nat.le_trans (List.length_filter_le _ _) h.2.1, fun t x hx => ?_⟩, k5⟩
  · rw [Seq_remove_eq]; exact k1
  · rw [k2, Nat.zero_add]; rfl
  · have := k4 t x hx
    rwa [Nat.zero_add] at this
theorem Seq_becomeLike_L10_s {o a n : Nat} (ho : pd_len (o + 1) = 24) (ha : pd_len (a + 1) = 24) (hn : n ≤ 24) (hoa : a + 1 ≠ o + 1) {σ : pd_H} (h1 : σ.1 o 1 = nI n) : ∀ d i, i + d = n → Seq_becomeLike_L10 o a (nI i) (pu_rwI σ (o + 1) (pu_cp (σ.1 (a + 1)) (σ.1 (o + 1)) i)) = some (pu_rwI σ (o + 1) (pu_cp (σ.1 (a + 1)) (σ.1 (o + 1)) n), none) := by
  intro d
  induction d with
  | zero =>
    intro i hi
    have : i = n := by omega
    subst this
    rw [Seq_becomeLike_L10_eq, pu_w1n (show o ≠ o + 1 by omega), h1]
    simp only [nI_leI (show i < 2 ^ 31 by omega) (show i < 2 ^ 31 by omega), Nat.le_refl, decide_true, pd_bI_of, pd_bJ_of, pd_bV_of, pd_bR_of, cond_true, cond_false]
  | succ d ih =>
    intro i hi
    rw [Seq_becomeLike_L10_eq, pu_w1n (show o ≠ o + 1 by omega), h1, ho, ha]
    simp only [nI_leI (show n < 2 ^ 31 by omega) (show i < 2 ^ 31 by omega), show ¬ n ≤ i by omega, decide_false, pd_bI_of, pd_bJ_of, pd_bV_of, pd_bR_of, cond_true, cond_false, pu_obN (show i < 24 by omega) (show 24 < 2 ^ 31 by decide), nI_clamp (show i < 2 ^ 31 by omega), nI_1, pu_w1n hoa]
    rw [← ih (i + 1) (by omega)]
    congr 1
    refine pu_H_ext (fun k => ?_) (fun k => rfl) rfl
    by_cases hk : k = o + 1
    · subst hk
      simp only [pu_u1s, pu_w1s]
      exact pu_cp_up
    · simp only [pu_u1n hk, pu_w1n hk]
theorem Seq_becomeLike_s {σ : pd_H} {o a : Nat} {l : List Nat} (h : pu_seq σ a l) (ho : pd_len (o + 1) = 24) (ha : pd_len (a + 1) = 24) (h1 : a ≠ o) (h2 : a + 1 ≠ o) : ∃ τ, Seq_becomeLike o a σ = some (τ, none) ∧ pu_seq τ o l ∧ pu_fr (fun k => k = o ∨ k = o + 1) σ τ := by
  have e0 : (pd_upI σ o 1 (σ.1 a 1)).1 o 1 = nI l.length := by rw [pu_u1s, pk_us]; exact h.1
  have e := Seq_becomeLike_L10_s (σ := pd_upI σ o 1 (σ.1 a 1)) ho ha h.2.1 (show a + 1 ≠ o + 1 by omega) e0 l.length 0 (Nat.zero_add _)
  rw [pu_cp0] at e
  have e2 : pu_rwI (pd_upI σ o 1 (σ.1 a 1)) (o + 1) ((pd_upI σ o 1 (σ.1 a 1)).1 (o + 1)) = pd_upI σ o 1 (σ.1 a 1) := by
    refine pu_H_ext (fun k => ?_) (fun k => rfl) rfl
    by_cases hk : k = o + 1
    · subst hk; exact pu_w1s
    · exact pu_w1n hk
  rw [e2] at e
  refine ⟨_, by rw [Seq_becomeLike_eq]; exact e, ⟨?_, h.2.1, fun i x hx => ?_⟩, (pu_fr.upI (Or.inl rfl)).tr (pu_fr.rwI (Or.inr rfl))⟩
  · rw [pu_w1n (show o ≠ o + 1 by omega)]; exact e0
  · rw [pu_w1s]
    have hi : i < l.length := (List.getElem?_eq_some_iff.mp hx).1
    unfold pu_cp
    rw [if_pos hi, pu_u1n h2]
    exact h.2.2 i x hx
