/-! The heap at first: what the four constructors made, as the abstract machine holds it. -/
def k0_P1 (cA : Nat → ClassId) (q0 : Nat) (u : kc_S) : va_W := [(q0, .inr (9, [.ref (u.1 1), .ref (u.1 7), .ref (u.1 10), .ref (u.1 13), .ref (u.1 15), .ref (u.1 17), .ref (u.1 19), .int 0, .ref (u.1 32), .ref (u.1 48), .ref (u.1 64), .int (-1), .int (-1), .int (-1)])), (u.1 19, .inl (cA 4, 6, .inr (.inr (.inr (.inr (fun i => some (u.1 (20 + 2 * i)))))))), (u.1 1, .inr (5, [.ref (u.1 2), .ref (u.1 3), .ref (u.1 4)])), (u.1 2, .inl (cA 0, 6, .inl (fun _ => -1))), (u.1 3, .inl (cA 0, 6, .inl (fun _ => 0))), (u.1 4, .inr (8, [.ref (u.1 5), .ref (u.1 6)])), (u.1 5, .inl (cA 0, 72, .inl (fun _ => 0))), (u.1 6, .inl (cA 1, 72, .inr (.inl (fun _ => 0)))), (u.1 7, .inr (0, [.ref (u.1 8), .ref (u.1 9), .int 0])), (u.1 8, .inl (cA 3, 150, .inr (.inr (.inr (.inr (fun i => some (u.2 i))))))), (u.1 9, .inl (cA 0, 25, .inl (fun _ => 0)))]
def k0_P2 (cA : Nat → ClassId) (u : kc_S) : va_W := [(u.1 10, .inr (7, [.ref (u.1 11), .ref (u.1 12), .int 0, .int 0, .int 0, .int 0, .int 0])), (u.1 11, .inl (cA 0, 80, .inl (fun _ => 0))), (u.1 12, .inr (1, [.int (-1), .int 0, .int 0, .int 0, .int 0, .int 0])), (u.1 13, .inr (3, [.ref (u.1 14), .int 0])), (u.1 14, .inl (cA 0, 167, .inl (fun _ => 0))), (u.1 15, .inr (6, [.ref (u.1 16)])), (u.1 16, .inl (cA 0, 108, .inl (fun _ => 0))), (u.1 17, .inr (4, [.ref (u.1 18), .int 0])), (u.1 18, .inl (cA 0, 24, .inl (fun _ => 0))), (u.1 32, .inr (2, [.ref (u.1 1), .ref (u.1 7), .ref (u.1 33), .ref (u.1 35), .ref (u.1 38), .ref (u.1 39), .ref (u.1 40), .ref (u.1 43), .ref (u.1 46), .ref (u.1 47), .int 0, .int (-1), .int (-1), .int (-1), .int 0, .int (-1), .int 0, .int 11, .long 0])), (u.1 33, .inr (4, [.ref (u.1 34), .int 0])), (u.1 34, .inl (cA 0, 24, .inl (fun _ => 0))), (u.1 35, .inr (8, [.ref (u.1 36), .ref (u.1 37)])), (u.1 36, .inl (cA 0, 72, .inl (fun _ => 0))), (u.1 37, .inl (cA 1, 72, .inr (.inl (fun _ => 0)))), (u.1 38, .inl (cA 0, 72, .inl (fun _ => 0))), (u.1 39, .inl (cA 2, 72, .inl (fun _ => 0))), (u.1 40, .inr (8, [.ref (u.1 41), .ref (u.1 42)])), (u.1 41, .inl (cA 0, 150, .inl (fun _ => 0))), (u.1 42, .inl (cA 1, 150, .inr (.inl (fun _ => 0)))), (u.1 43, .inr (8, [.ref (u.1 44), .ref (u.1 45)])), (u.1 44, .inl (cA 0, 150, .inl (fun _ => 0))), (u.1 45, .inl (cA 1, 150, .inr (.inl (fun _ => 0)))), (u.1 46, .inl (cA 0, 150, .inl (fun _ => 0))), (u.1 47, .inl (cA 0, 25, .inl (fun _ => 0))), (u.1 48, .inr (2, [.ref (u.1 1), .ref (u.1 7), .ref (u.1 49), .ref (u.1 51), .ref (u.1 54), .ref (u.1 55), .ref (u.1 56), .ref (u.1 59), .ref (u.1 62), .ref (u.1 63), .int 0, .int (-1), .int (-1), .int (-1), .int 0, .int (-1), .int 0, .int 11, .long 0])), (u.1 49, .inr (4, [.ref (u.1 50), .int 0])), (u.1 50, .inl (cA 0, 24, .inl (fun _ => 0))), (u.1 51, .inr (8, [.ref (u.1 52), .ref (u.1 53)])), (u.1 52, .inl (cA 0, 72, .inl (fun _ => 0))), (u.1 53, .inl (cA 1, 72, .inr (.inl (fun _ => 0)))), (u.1 54, .inl (cA 0, 72, .inl (fun _ => 0))), (u.1 55, .inl (cA 2, 72, .inl (fun _ => 0))), (u.1 56, .inr (8, [.ref (u.1 57), .ref (u.1 58)])), (u.1 57, .inl (cA 0, 150, .inl (fun _ => 0))), (u.1 58, .inl (cA 1, 150, .inr (.inl (fun _ => 0)))), (u.1 59, .inr (8, [.ref (u.1 60), .ref (u.1 61)])), (u.1 60, .inl (cA 0, 150, .inl (fun _ => 0))), (u.1 61, .inl (cA 1, 150, .inr (.inl (fun _ => 0)))), (u.1 62, .inl (cA 0, 150, .inl (fun _ => 0))), (u.1 63, .inl (cA 0, 25, .inl (fun _ => 0))), (u.1 64, .inr (2, [.ref (u.1 1), .ref (u.1 7), .ref (u.1 65), .ref (u.1 67), .ref (u.1 70), .ref (u.1 71), .ref (u.1 72), .ref (u.1 75), .ref (u.1 78), .ref (u.1 79), .int 0, .int (-1), .int (-1), .int (-1), .int 0, .int (-1), .int 0, .int 11, .long 0])), (u.1 65, .inr (4, [.ref (u.1 66), .int 0])), (u.1 66, .inl (cA 0, 24, .inl (fun _ => 0))), (u.1 67, .inr (8, [.ref (u.1 68), .ref (u.1 69)])), (u.1 68, .inl (cA 0, 72, .inl (fun _ => 0))), (u.1 69, .inl (cA 1, 72, .inr (.inl (fun _ => 0)))), (u.1 70, .inl (cA 0, 72, .inl (fun _ => 0))), (u.1 71, .inl (cA 2, 72, .inl (fun _ => 0))), (u.1 72, .inr (8, [.ref (u.1 73), .ref (u.1 74)])), (u.1 73, .inl (cA 0, 150, .inl (fun _ => 0))), (u.1 74, .inl (cA 1, 150, .inr (.inl (fun _ => 0)))), (u.1 75, .inr (8, [.ref (u.1 76), .ref (u.1 77)])), (u.1 76, .inl (cA 0, 150, .inl (fun _ => 0))), (u.1 77, .inl (cA 1, 150, .inr (.inl (fun _ => 0)))), (u.1 78, .inl (cA 0, 150, .inl (fun _ => 0))), (u.1 79, .inl (cA 0, 25, .inl (fun _ => 0))), (u.1 20, .inr (4, [.ref (u.1 21), .int 0])), (u.1 21, .inl (cA 0, 24, .inl (fun _ => 0))), (u.1 22, .inr (4, [.ref (u.1 23), .int 0])), (u.1 23, .inl (cA 0, 24, .inl (fun _ => 0))), (u.1 24, .inr (4, [.ref (u.1 25), .int 0])), (u.1 25, .inl (cA 0, 24, .inl (fun _ => 0))), (u.1 26, .inr (4, [.ref (u.1 27), .int 0])), (u.1 27, .inl (cA 0, 24, .inl (fun _ => 0))), (u.1 28, .inr (4, [.ref (u.1 29), .int 0])), (u.1 29, .inl (cA 0, 24, .inl (fun _ => 0))), (u.1 30, .inr (4, [.ref (u.1 31), .int 0])), (u.1 31, .inl (cA 0, 24, .inl (fun _ => 0)))]
def k0_F (u : kc_S) : va_W := (List.range 150).map (fun i => (u.2 i, .inr (1, [.int (-1), .int 0, .int 0, .int 0, .int 0, .int 0])))
def k0_I (k i : Nat) : Int32 := if 80 ≤ k ∧ k < 230 then (if i = 0 then -1 else 0) else cond (Nat.beq k 2) (-1) (cond (Nat.beq k 0) (cond (Nat.beq i 11 || Nat.beq i 12 || Nat.beq i 13) (-1) 0) (cond (Nat.beq k 12) (cond (Nat.beq i 0) (-1) 0) (cond (Nat.beq k 32 || Nat.beq k 48 || Nat.beq k 64) (cond (Nat.beq i 11 || Nat.beq i 12 || Nat.beq i 13 || Nat.beq i 15) (-1) (cond (Nat.beq i 17) 11 0)) 0)))
/-- one desk at first -/
def k0_D : pd_H := (k0_I, fun _ _ => 0, fun y => cond (Nat.beq y 0) 32 48)
/-- the law's own things at first -/
def k0_T (xs : Nat → Int32) (L : Nat) : pd_H := (fun k i => cond (Nat.beq k 2) (xs i) (cond (Nat.beq k 3) (nI L) 0), fun _ _ => 0, fun _ => 0)
def k0_s (xs : Nat → Int32) (L d : Nat) : pd_H := cond (Nat.ble d 3) k0_D (k0_T xs L)
def k0_ad (q0 : Nat) (u : kc_S) (k : Nat) : Nat := if 80 ≤ k ∧ k < 230 then u.2 (k - 80) else cond (Nat.beq k 0) q0 (u.1 k)
def k0_pos (k : Nat) : Nat := if 80 ≤ k ∧ k < 230 then k else if k = 0 then 0 else if k = 19 then 1 else if k < 10 then k + 1 else if k < 19 then k + 1 else if k < 32 then k + 48 else k - 12
/-- where what stands so in P1, P2, F stands in P1, F, P2 -/
def k0_pm (n : Nat) : Nat := if n < 11 then n else if n < 80 then n + 150 else n - 69
theorem k0_pos_lt {i : Nat} (hi : i < 230) : k0_pm (k0_pos i) < 230 := by
  unfold k0_pm k0_pos
  repeat' split
  all_goals omega
theorem k0_pos_80 {i : Nat} (hi : i < 230) : k0_pos i < 230 := by
  unfold k0_pos
  repeat' split
  all_goals omega
theorem k0_pos_inj {i j : Nat} (hi : i < 230) (hj : j < 230) (h : k0_pm (k0_pos i) = k0_pm (k0_pos j)) : i = j := by
  have f : ∀ n, n < 230 → ∀ m, m < 230 → k0_pm n = k0_pm m → n = m := by
    intro n hn m hm h
    unfold k0_pm at h
    repeat' split at h
    all_goals omega
  have h := f _ (k0_pos_80 hi) _ (k0_pos_80 hj) h
  unfold k0_pos at h
  repeat' split at h
  all_goals omega
theorem k0_F_len (u : kc_S) : (k0_F u).length = 150 := by simp [k0_F]
theorem k0_at {cA : Nat → ClassId} {q0 : Nat} {u : kc_S} {n : Nat} {x : Nat × va_E} (h : (k0_P1 cA q0 u ++ (k0_P2 cA u ++ k0_F u))[n]? = some x) : (k0_P1 cA q0 u ++ (k0_F u ++ k0_P2 cA u))[k0_pm n]? = some x := by
  have l1 : (k0_P1 cA q0 u).length = 11 := rfl
  have l2 : (k0_P2 cA u).length = 69 := rfl
  have l3 := k0_F_len u
  have hn : n < 230 := by
    have := (List.getElem?_eq_some_iff.mp h).1
    rw [List.length_append, List.length_append, l1, l2, l3] at this
    exact this
  unfold k0_pm
  rcases Nat.lt_or_ge n 11 with h1 | h1
  · rw [if_pos h1, List.getElem?_append_left (by omega)]
    rw [List.getElem?_append_left (by omega)] at h
    exact h
  rw [List.getElem?_append_right (by omega)] at h
  rw [if_neg (by omega)]
  rcases Nat.lt_or_ge n 80 with h2 | h2
  · rw [if_pos h2, List.getElem?_append_right (by omega), List.getElem?_append_right (by omega)]
    rw [List.getElem?_append_left (by omega)] at h
    rw [l1, l3, show n + 150 - 11 - 150 = n - 11 by omega]
    rw [l1] at h
    exact h
  · rw [if_neg (by omega), List.getElem?_append_right (by omega), List.getElem?_append_left (by omega)]
    rw [List.getElem?_append_right (by omega)] at h
    rw [l1, show n - 69 - 11 = n - 11 - 69 by omega]
    rw [l1, l2] at h
    exact h
theorem k0_X9 (cA : Nat → ClassId) (q0 : Nat) (u : kc_S) : kh_X9 cA q0 u = k0_P1 cA q0 u ++ (k0_F u ++ k0_P2 cA u) := by
  have e1 : (List.range 150).flatMap (fun i => kh_X1 cA ((kc_sub u 7).2 i) (kc_sub u 7)) = k0_F u := List.map_eq_flatMap.symm
  have e2 : kh_X0 cA (u.1 7) (kc_sub u 7) = [(u.1 7, .inr (0, [.ref (u.1 8), .ref (u.1 9), .int 0])), (u.1 8, .inl (cA 3, 150, .inr (.inr (.inr (.inr (fun i => some (u.2 i))))))), (u.1 9, .inl (cA 0, 25, .inl (fun _ => 0)))] ++ k0_F u := by
    rw [← e1]; rfl
  unfold kh_X9
  rw [e2]
  generalize k0_F u = F
  simp only [kh_X5, kh_X7, kh_X3, kh_X6, kh_X4, kh_X2, kh_X8_72, kh_X8_150, kh_X1, List.nil_append, List.cons_append, List.append_assoc]
  rfl
theorem k0_X9_len (cA : Nat → ClassId) (q0 : Nat) (u : kc_S) : (kh_X9 cA q0 u).length = 230 := by
  have l1 : (k0_P1 cA q0 u).length = 11 := rfl
  have l2 : (k0_P2 cA u).length = 69 := rfl
  rw [k0_X9, List.length_append, List.length_append, l1, l2, k0_F_len]
/-! One desk's things, by numbers of its own. -/
def k0_fv (ad : Nat → Nat) (S : pd_H) (o : Nat) (e : Nat × Nat × Nat) : Value := match e with
  | (0, y, _) => .int (S.1 o y)
  | (1, y, _) => .long (S.2.1 o y)
  | (2, y, _) => .ref (ad (o + y))
  | (3, y, _) => .ref (ad y)
  | (_, y, _) => .ref (ad (S.2.2 y))
def k0_el (ad : Nat → Nat) (cA : Nat → ClassId) (S : pd_H) (o t : Nat) : va_E := match t with
  | 20 => .inl (cA 0, pd_len o, .inl (S.1 o))
  | 21 => .inl (cA 1, pd_len o, .inr (.inl (S.2.1 o)))
  | 22 => .inl (cA 2, pd_len o, .inl (S.1 o))
  | 23 => .inl (cA 3, pd_len o, .inr (.inr (.inr (.inr (fun i => some (ad (80 + i)))))))
  | 24 => .inl (cA 4, pd_len o, .inr (.inr (.inr (.inr (fun i => some (ad (20 + 2 * i)))))))
  | t => .inr (t, (List.range (pd_nf t)).map fun s => k0_fv ad S o (pd_fkd t s))
theorem k0_fk3 : ∀ t, t < 10 → ∀ s, s < pd_nf t → (pd_fkd t s).1 = 3 → (pd_fkd t s).2.1 < 230 := by decide +kernel
theorem k0_tags : ∀ k, k < 230 → pd_tag k < 10 ∨ (20 ≤ pd_tag k ∧ pd_tag k ≤ 24) := by decide +kernel
theorem k0_tag23 : ∀ k, k < 230 → pd_tag k = 23 → pd_len k = 150 := by decide +kernel
theorem k0_tag24 : ∀ k, k < 230 → pd_tag k = 24 → pd_len k = 6 := by decide +kernel
section K0
variable {D : va_G} {cA : Nat → ClassId} {q0 : Nat} {u : kc_S}
def k0_Z (D : va_G) (cA : Nat → ClassId) (q0 : Nat) (u : kc_S) (k : Nat) : Prop := ∃ e : va_E, (k0_P1 cA q0 u ++ (k0_P2 cA u ++ k0_F u))[k0_pos k]? = some (k0_ad q0 u k, e) ∧ ∀ H : Heap, va_at D vwCl (k0_ad q0 u k, e) H → va_at D vwCl (k0_ad q0 u k, k0_el (k0_ad q0 u) cA k0_D k (pd_tag k)) H
theorem k0_z0 : k0_Z D cA q0 u 0 := ⟨_, rfl, fun _ h => h⟩
theorem k0_z1 : k0_Z D cA q0 u 1 := ⟨_, rfl, fun _ h => h⟩
theorem k0_z2 : k0_Z D cA q0 u 2 := ⟨_, rfl, fun _ h => h⟩
theorem k0_z3 : k0_Z D cA q0 u 3 := ⟨_, rfl, fun _ h => h⟩
theorem k0_z4 : k0_Z D cA q0 u 4 := ⟨_, rfl, fun _ h => h⟩
theorem k0_z5 : k0_Z D cA q0 u 5 := ⟨_, rfl, fun _ h => h⟩
theorem k0_z6 : k0_Z D cA q0 u 6 := ⟨_, rfl, fun _ h => h⟩
theorem k0_z7 : k0_Z D cA q0 u 7 := ⟨_, rfl, fun _ h => h⟩
theorem k0_z9 : k0_Z D cA q0 u 9 := ⟨_, rfl, fun _ h => h⟩
theorem k0_z10 : k0_Z D cA q0 u 10 := ⟨_, rfl, fun _ h => h⟩
theorem k0_z11 : k0_Z D cA q0 u 11 := ⟨_, rfl, fun _ h => h⟩
theorem k0_z12 : k0_Z D cA q0 u 12 := ⟨_, rfl, fun _ h => h⟩
theorem k0_z13 : k0_Z D cA q0 u 13 := ⟨_, rfl, fun _ h => h⟩
theorem k0_z14 : k0_Z D cA q0 u 14 := ⟨_, rfl, fun _ h => h⟩
theorem k0_z15 : k0_Z D cA q0 u 15 := ⟨_, rfl, fun _ h => h⟩
theorem k0_z16 : k0_Z D cA q0 u 16 := ⟨_, rfl, fun _ h => h⟩
theorem k0_z17 : k0_Z D cA q0 u 17 := ⟨_, rfl, fun _ h => h⟩
theorem k0_z18 : k0_Z D cA q0 u 18 := ⟨_, rfl, fun _ h => h⟩
theorem k0_z32 : k0_Z D cA q0 u 32 := ⟨_, rfl, fun _ h => h⟩
theorem k0_z33 : k0_Z D cA q0 u 33 := ⟨_, rfl, fun _ h => h⟩
theorem k0_z34 : k0_Z D cA q0 u 34 := ⟨_, rfl, fun _ h => h⟩
theorem k0_z35 : k0_Z D cA q0 u 35 := ⟨_, rfl, fun _ h => h⟩
theorem k0_z36 : k0_Z D cA q0 u 36 := ⟨_, rfl, fun _ h => h⟩
theorem k0_z37 : k0_Z D cA q0 u 37 := ⟨_, rfl, fun _ h => h⟩
theorem k0_z38 : k0_Z D cA q0 u 38 := ⟨_, rfl, fun _ h => h⟩
theorem k0_z39 : k0_Z D cA q0 u 39 := ⟨_, rfl, fun _ h => h⟩
theorem k0_z40 : k0_Z D cA q0 u 40 := ⟨_, rfl, fun _ h => h⟩
theorem k0_z41 : k0_Z D cA q0 u 41 := ⟨_, rfl, fun _ h => h⟩
theorem k0_z42 : k0_Z D cA q0 u 42 := ⟨_, rfl, fun _ h => h⟩
theorem k0_z43 : k0_Z D cA q0 u 43 := ⟨_, rfl, fun _ h => h⟩
theorem k0_z44 : k0_Z D cA q0 u 44 := ⟨_, rfl, fun _ h => h⟩
theorem k0_z45 : k0_Z D cA q0 u 45 := ⟨_, rfl, fun _ h => h⟩
theorem k0_z46 : k0_Z D cA q0 u 46 := ⟨_, rfl, fun _ h => h⟩
theorem k0_z47 : k0_Z D cA q0 u 47 := ⟨_, rfl, fun _ h => h⟩
theorem k0_z48 : k0_Z D cA q0 u 48 := ⟨_, rfl, fun _ h => h⟩
theorem k0_z49 : k0_Z D cA q0 u 49 := ⟨_, rfl, fun _ h => h⟩
theorem k0_z50 : k0_Z D cA q0 u 50 := ⟨_, rfl, fun _ h => h⟩
theorem k0_z51 : k0_Z D cA q0 u 51 := ⟨_, rfl, fun _ h => h⟩
theorem k0_z52 : k0_Z D cA q0 u 52 := ⟨_, rfl, fun _ h => h⟩
theorem k0_z53 : k0_Z D cA q0 u 53 := ⟨_, rfl, fun _ h => h⟩
theorem k0_z54 : k0_Z D cA q0 u 54 := ⟨_, rfl, fun _ h => h⟩
theorem k0_z55 : k0_Z D cA q0 u 55 := ⟨_, rfl, fun _ h => h⟩
theorem k0_z56 : k0_Z D cA q0 u 56 := ⟨_, rfl, fun _ h => h⟩
theorem k0_z57 : k0_Z D cA q0 u 57 := ⟨_, rfl, fun _ h => h⟩
theorem k0_z58 : k0_Z D cA q0 u 58 := ⟨_, rfl, fun _ h => h⟩
theorem k0_z59 : k0_Z D cA q0 u 59 := ⟨_, rfl, fun _ h => h⟩
theorem k0_z60 : k0_Z D cA q0 u 60 := ⟨_, rfl, fun _ h => h⟩
theorem k0_z61 : k0_Z D cA q0 u 61 := ⟨_, rfl, fun _ h => h⟩
theorem k0_z62 : k0_Z D cA q0 u 62 := ⟨_, rfl, fun _ h => h⟩
theorem k0_z63 : k0_Z D cA q0 u 63 := ⟨_, rfl, fun _ h => h⟩
theorem k0_z64 : k0_Z D cA q0 u 64 := ⟨_, rfl, fun _ h => h⟩
theorem k0_z65 : k0_Z D cA q0 u 65 := ⟨_, rfl, fun _ h => h⟩
theorem k0_z66 : k0_Z D cA q0 u 66 := ⟨_, rfl, fun _ h => h⟩
theorem k0_z67 : k0_Z D cA q0 u 67 := ⟨_, rfl, fun _ h => h⟩
theorem k0_z68 : k0_Z D cA q0 u 68 := ⟨_, rfl, fun _ h => h⟩
theorem k0_z69 : k0_Z D cA q0 u 69 := ⟨_, rfl, fun _ h => h⟩
theorem k0_z70 : k0_Z D cA q0 u 70 := ⟨_, rfl, fun _ h => h⟩
theorem k0_z71 : k0_Z D cA q0 u 71 := ⟨_, rfl, fun _ h => h⟩
theorem k0_z72 : k0_Z D cA q0 u 72 := ⟨_, rfl, fun _ h => h⟩
theorem k0_z73 : k0_Z D cA q0 u 73 := ⟨_, rfl, fun _ h => h⟩
theorem k0_z74 : k0_Z D cA q0 u 74 := ⟨_, rfl, fun _ h => h⟩
theorem k0_z75 : k0_Z D cA q0 u 75 := ⟨_, rfl, fun _ h => h⟩
theorem k0_z76 : k0_Z D cA q0 u 76 := ⟨_, rfl, fun _ h => h⟩
theorem k0_z77 : k0_Z D cA q0 u 77 := ⟨_, rfl, fun _ h => h⟩
theorem k0_z78 : k0_Z D cA q0 u 78 := ⟨_, rfl, fun _ h => h⟩
theorem k0_z79 : k0_Z D cA q0 u 79 := ⟨_, rfl, fun _ h => h⟩
theorem k0_z20 : k0_Z D cA q0 u 20 := ⟨_, rfl, fun _ h => h⟩
theorem k0_z21 : k0_Z D cA q0 u 21 := ⟨_, rfl, fun _ h => h⟩
theorem k0_z22 : k0_Z D cA q0 u 22 := ⟨_, rfl, fun _ h => h⟩
theorem k0_z23 : k0_Z D cA q0 u 23 := ⟨_, rfl, fun _ h => h⟩
theorem k0_z24 : k0_Z D cA q0 u 24 := ⟨_, rfl, fun _ h => h⟩
theorem k0_z25 : k0_Z D cA q0 u 25 := ⟨_, rfl, fun _ h => h⟩
theorem k0_z26 : k0_Z D cA q0 u 26 := ⟨_, rfl, fun _ h => h⟩
theorem k0_z27 : k0_Z D cA q0 u 27 := ⟨_, rfl, fun _ h => h⟩
theorem k0_z28 : k0_Z D cA q0 u 28 := ⟨_, rfl, fun _ h => h⟩
theorem k0_z29 : k0_Z D cA q0 u 29 := ⟨_, rfl, fun _ h => h⟩
theorem k0_z30 : k0_Z D cA q0 u 30 := ⟨_, rfl, fun _ h => h⟩
theorem k0_z31 : k0_Z D cA q0 u 31 := ⟨_, rfl, fun _ h => h⟩
theorem k0_z8 : k0_Z D cA q0 u 8 := ⟨_, rfl, fun H h => by
  show H[_]? = some (vp_cell (cA 3) (150, .inr (.inr (.inr (.inr (fun i => some (k0_ad q0 u (80 + i))))))))
  rw [show H[k0_ad q0 u 8]? = some (vp_cell (cA 3) (150, .inr (.inr (.inr (.inr (fun i => some (u.2 i))))))) from h, vp_cell_q, vp_cell_q]
  refine congrArg some (kc_arrV (fun i hi => ?_))
  show va_rf (some (u.2 i)) = va_rf (some (k0_ad q0 u (80 + i)))
  unfold k0_ad
  rw [if_pos (show 80 ≤ 80 + i ∧ 80 + i < 230 by omega), show 80 + i - 80 = i by omega]⟩
theorem k0_z19 : k0_Z D cA q0 u 19 := ⟨_, rfl, fun H h => by
  show H[_]? = some (vp_cell (cA 4) (6, .inr (.inr (.inr (.inr (fun i => some (k0_ad q0 u (20 + 2 * i))))))))
  rw [show H[k0_ad q0 u 19]? = some (vp_cell (cA 4) (6, .inr (.inr (.inr (.inr (fun i => some (u.1 (20 + 2 * i)))))))) from h, vp_cell_q, vp_cell_q]
  refine congrArg some (kc_arrV (fun i hi => ?_))
  rcases (show i = 0 ∨ i = 1 ∨ i = 2 ∨ i = 3 ∨ i = 4 ∨ i = 5 by omega) with rfl | rfl | rfl | rfl | rfl | rfl <;> rfl⟩
theorem k0_tgc : ∀ i, i < 150 → pd_tag (80 + i) = 1 := by decide +kernel
theorem k0_zc {i : Nat} (hi : i < 150) : k0_Z D cA q0 u (80 + i) := by
  refine ⟨.inr (1, [.int (-1), .int 0, .int 0, .int 0, .int 0, .int 0]), ?_, fun H h => ?_⟩
  · unfold k0_pos k0_ad
    rw [if_pos (show 80 ≤ 80 + i ∧ 80 + i < 230 by omega), if_pos (show 80 ≤ 80 + i ∧ 80 + i < 230 by omega), show 80 + i - 80 = i by omega, List.getElem?_append_right (show (k0_P1 cA q0 u).length ≤ 80 + i from Nat.le_trans (show 11 ≤ 80 by decide) (by omega)), List.getElem?_append_right (show (k0_P2 cA u).length ≤ 80 + i - (k0_P1 cA q0 u).length from Nat.le_trans (show 69 ≤ 69 + i by omega) (show 69 + i ≤ 80 + i - 11 by omega)), show 80 + i - (k0_P1 cA q0 u).length - (k0_P2 cA u).length = i from (show 80 + i - 11 - 69 = i by omega)]
    unfold k0_F
    rw [List.getElem?_map, List.getElem?_range hi]
    rfl
  · rw [k0_tgc i hi]
    have e : ∀ s, k0_D.1 (80 + i) s = if s = 0 then -1 else 0 := fun s => if_pos (show 80 ≤ 80 + i ∧ 80 + i < 230 by omega)
    have g : k0_el (k0_ad q0 u) cA k0_D (80 + i) 1 = .inr (1, [.int (-1), .int 0, .int 0, .int 0, .int 0, .int 0]) := by
      show (.inr (1, [.int (k0_D.1 (80 + i) 0), .int (k0_D.1 (80 + i) 1), .int (k0_D.1 (80 + i) 2), .int (k0_D.1 (80 + i) 3), .int (k0_D.1 (80 + i) 4), .int (k0_D.1 (80 + i) 5)]) : va_E) = _
      rw [e, e, e, e, e, e]
      rfl
    rw [g]; exact h
def k0_all (P : Nat → Prop) : Nat → Prop
  | 0 => True
  | n + 1 => k0_all P n ∧ P n
theorem k0_all_of {P : Nat → Prop} : ∀ {n : Nat}, k0_all P n → ∀ k, k < n → P k
  | 0, _, k, h => absurd h (Nat.not_lt_zero k)
  | n + 1, h, k, hk => by
    rcases Nat.lt_or_ge k n with q | q
    · exact k0_all_of h.1 k q
    · rw [show k = n by omega]; exact h.2
theorem k0_ca : k0_all (fun k => k0_Z D cA q0 u (0 + k)) 20 := ⟨⟨⟨⟨⟨⟨⟨⟨⟨⟨⟨⟨⟨⟨⟨⟨⟨⟨⟨⟨trivial, k0_z0⟩, k0_z1⟩, k0_z2⟩, k0_z3⟩, k0_z4⟩, k0_z5⟩, k0_z6⟩, k0_z7⟩, k0_z8⟩, k0_z9⟩, k0_z10⟩, k0_z11⟩, k0_z12⟩, k0_z13⟩, k0_z14⟩, k0_z15⟩, k0_z16⟩, k0_z17⟩, k0_z18⟩, k0_z19⟩
theorem k0_cb : k0_all (fun k => k0_Z D cA q0 u (20 + k)) 20 := ⟨⟨⟨⟨⟨⟨⟨⟨⟨⟨⟨⟨⟨⟨⟨⟨⟨⟨⟨⟨trivial, k0_z20⟩, k0_z21⟩, k0_z22⟩, k0_z23⟩, k0_z24⟩, k0_z25⟩, k0_z26⟩, k0_z27⟩, k0_z28⟩, k0_z29⟩, k0_z30⟩, k0_z31⟩, k0_z32⟩, k0_z33⟩, k0_z34⟩, k0_z35⟩, k0_z36⟩, k0_z37⟩, k0_z38⟩, k0_z39⟩
theorem k0_cc : k0_all (fun k => k0_Z D cA q0 u (40 + k)) 20 := ⟨⟨⟨⟨⟨⟨⟨⟨⟨⟨⟨⟨⟨⟨⟨⟨⟨⟨⟨⟨trivial, k0_z40⟩, k0_z41⟩, k0_z42⟩, k0_z43⟩, k0_z44⟩, k0_z45⟩, k0_z46⟩, k0_z47⟩, k0_z48⟩, k0_z49⟩, k0_z50⟩, k0_z51⟩, k0_z52⟩, k0_z53⟩, k0_z54⟩, k0_z55⟩, k0_z56⟩, k0_z57⟩, k0_z58⟩, k0_z59⟩
theorem k0_cd : k0_all (fun k => k0_Z D cA q0 u (60 + k)) 20 := ⟨⟨⟨⟨⟨⟨⟨⟨⟨⟨⟨⟨⟨⟨⟨⟨⟨⟨⟨⟨trivial, k0_z60⟩, k0_z61⟩, k0_z62⟩, k0_z63⟩, k0_z64⟩, k0_z65⟩, k0_z66⟩, k0_z67⟩, k0_z68⟩, k0_z69⟩, k0_z70⟩, k0_z71⟩, k0_z72⟩, k0_z73⟩, k0_z74⟩, k0_z75⟩, k0_z76⟩, k0_z77⟩, k0_z78⟩, k0_z79⟩
theorem k0_z (k : Nat) (hk : k < 230) : k0_Z D cA q0 u k := by
  rcases Nat.lt_or_ge k 20 with h | h
  · have := k0_all_of (k0_ca (D := D) (cA := cA) (q0 := q0) (u := u)) k h
    rwa [Nat.zero_add] at this
  rcases Nat.lt_or_ge k 40 with h1 | h1
  · have := k0_all_of (k0_cb (D := D) (cA := cA) (q0 := q0) (u := u)) (k - 20) (by omega)
    rwa [show 20 + (k - 20) = k by omega] at this
  rcases Nat.lt_or_ge k 60 with h2 | h2
  · have := k0_all_of (k0_cc (D := D) (cA := cA) (q0 := q0) (u := u)) (k - 40) (by omega)
    rwa [show 40 + (k - 40) = k by omega] at this
  rcases Nat.lt_or_ge k 80 with h3 | h3
  · have := k0_all_of (k0_cd (D := D) (cA := cA) (q0 := q0) (u := u)) (k - 60) (by omega)
    rwa [show 60 + (k - 60) = k by omega] at this
  · have := k0_zc (D := D) (cA := cA) (q0 := q0) (u := u) (show k - 80 < 150 by omega)
    rwa [show 80 + (k - 80) = k by omega] at this
end K0
/-! All four side by side. -/
/-- the addresses of all: q, u the desks', q4, q5 the law's rows, b the script -/
def k0_AD (q : Nat → Nat) (u : Nat → kc_S) (q4 q5 b k : Nat) : Nat := cond (Nat.ble k 919) (k0_ad (q (k / 230)) (u (k / 230)) (k % 230)) (cond (Nat.beq k 920) q4 (cond (Nat.beq k 921) q5 b))
def k0_W (cA : Nat → ClassId) (q : Nat → Nat) (u : Nat → kc_S) (q4 q5 : Nat) : va_W := ((((([] ++ kh_X9 cA (q 0) (u 0)) ++ kh_X9 cA (q 1) (u 1)) ++ kh_X9 cA (q 2) (u 2)) ++ kh_X9 cA (q 3) (u 3)) ++ [(q4, .inl (cA 0, 20, .inl (fun _ => 0)))]) ++ [(q5, .inl (cA 1, 24, .inr (.inl (fun _ => 0))))]
theorem k0_gH : p4_gH k0_D := fun y hy => by
  rcases (show y = 0 ∨ y = 1 by omega) with rfl | rfl
  · exact ⟨show 32 < 230 by decide, show pd_tag 32 = 2 from rfl⟩
  · exact ⟨show 48 < 230 by decide, show pd_tag 48 = 2 from rfl⟩
section K4
variable {D : va_G} {cA : Nat → ClassId} {q : Nat → Nat} {u : Nat → kc_S} {q4 q5 b L : Nat} {xs : Nat → Int32} {d j : Nat}
theorem k0_sd (hd : d < 4) : k0_s xs L d = k0_D := by
  unfold k0_s
  rw [Nat.ble_eq_true_of_le (show d ≤ 3 by omega)]
  rfl
theorem k0_ADd (hd : d < 4) (hj : j < 230) : k0_AD q u q4 q5 b (230 * d + j) = k0_ad (q d) (u d) j := by
  unfold k0_AD
  rw [Nat.ble_eq_true_of_le (show 230 * d + j ≤ 919 by omega), cond_true, show (230 * d + j) / 230 = d by omega, show (230 * d + j) % 230 = j by omega]
theorem k0_j1 (hd : d < 4) (hj : j < 230) : (p4_jn (k0_s xs L)).1 (230 * d + j) = k0_D.1 j := by
  show (k0_s xs L ((230 * d + j) / 230)).1 ((230 * d + j) % 230) = _
  rw [show (230 * d + j) / 230 = d by omega, show (230 * d + j) % 230 = j by omega, k0_sd hd]
theorem k0_j2 (hd : d < 4) (hj : j < 230) : (p4_jn (k0_s xs L)).2.1 (230 * d + j) = k0_D.2.1 j := by
  show (k0_s xs L ((230 * d + j) / 230)).2.1 ((230 * d + j) % 230) = _
  rw [show (230 * d + j) / 230 = d by omega, show (230 * d + j) % 230 = j by omega, k0_sd hd]
theorem k0_j3 (hd : d < 4) (hj : j < 230) : (p4_jn (k0_s xs L)).2.2 (230 * d + j) = 230 * d + k0_D.2.2 j := by
  show 230 * ((230 * d + j) / 230) + (k0_s xs L ((230 * d + j) / 230)).2.2 ((230 * d + j) % 230) = _
  rw [show (230 * d + j) / 230 = d by omega, show (230 * d + j) % 230 = j by omega, k0_sd hd]
theorem k0_dy : p4_dy (p4_jn (k0_s xs L)) := fun k hk y hy => by
  have hb : p4_bs k + y = 230 * (k / 230) + y := rfl
  rw [hb, k0_j3 (by omega) (by omega), p4_tagd (by omega) (k0_gH y hy).1]
  exact (k0_gH y hy).2
theorem k0_fval (hd : d < 4) (hj : j < 230) (ht : pd_tag j < 10) {s : Nat} (hs : s < pd_nf (pd_tag j)) : pd_fval (k0_AD q u q4 q5 b) (p4_jn (k0_s xs L)) (230 * d + j) (pd_fkd (pd_tag j) s) = k0_fv (k0_ad (q d) (u d)) k0_D j (pd_fkd (pd_tag j) s) := by
  have h2 := pd_fk_rel1 j hj s hs ht
  have h3 := k0_fk3 _ ht s hs
  have h4 := pd_fk_max _ ht s hs
  generalize pd_fkd (pd_tag j) s = e at h2 h3 h4
  obtain ⟨k, y, z⟩ := e
  match k, h2, h3, h4 with
  | 0, _, _, _ =>
    show Value.int ((p4_jn (k0_s xs L)).1 (230 * d + j) y) = Value.int (k0_D.1 j y)
    rw [k0_j1 hd hj]
  | 1, _, _, _ =>
    show Value.long ((p4_jn (k0_s xs L)).2.1 (230 * d + j) y) = Value.long (k0_D.2.1 j y)
    rw [k0_j2 hd hj]
  | 2, h2, _, _ =>
    show Value.ref (k0_AD q u q4 q5 b (230 * d + j + y)) = Value.ref (k0_ad (q d) (u d) (j + y))
    rw [Nat.add_assoc, k0_ADd hd (h2 rfl).1.1]
  | 3, _, h3, _ =>
    show Value.ref (k0_AD q u q4 q5 b (p4_bs (230 * d + j) + y)) = Value.ref (k0_ad (q d) (u d) y)
    rw [p4_bsd hj, k0_ADd hd (h3 rfl)]
  | 4, _, _, h4 =>
    have hy := (h4.2 rfl).1
    have hy : y < 2 := hy
    show Value.ref (k0_AD q u q4 q5 b ((p4_jn (k0_s xs L)).2.2 (p4_bs (230 * d + j) + y))) = Value.ref (k0_ad (q d) (u d) (k0_D.2.2 y))
    rw [p4_bsd hj, k0_j3 hd (by omega), k0_ADd hd (k0_gH y hy).1]
  | n + 5, _, _, h4 => exact absurd h4.1 (by show ¬ n + 5 ≤ 4; omega)
theorem k0_fds (hd : d < 4) (hj : j < 230) (ht : pd_tag j < 10) : pd_fds (k0_AD q u q4 q5 b) (p4_jn (k0_s xs L)) (230 * d + j) (pd_tag j) = (List.range (pd_nf (pd_tag j))).map fun s => k0_fv (k0_ad (q d) (u d)) k0_D j (pd_fkd (pd_tag j) s) :=
  List.map_congr_left fun s hs => k0_fval hd hj ht (List.mem_range.mp hs)
theorem k0_elt (hd : d < 4) (hj : j < 230) {H : Heap} {a : Nat} (h : va_at D vwCl (a, k0_el (k0_ad (q d) (u d)) cA k0_D j (pd_tag j)) H) : va_at D vwCl (a, pd_el (k0_AD q u q4 q5 b) cA (p4_jn (k0_s xs L)) (230 * d + j) (p4_tag (230 * d + j))) H := by
  rw [p4_tagd hd hj]
  have hl := p4_lend hd hj
  rcases k0_tags j hj with ht | ⟨t1, t2⟩
  · have e1 : ∀ t, t < 10 → pd_el (k0_AD q u q4 q5 b) cA (p4_jn (k0_s xs L)) (230 * d + j) t = .inr (t, pd_fds (k0_AD q u q4 q5 b) (p4_jn (k0_s xs L)) (230 * d + j) t) := fun t ht => by
      rcases (show t = 0 ∨ t = 1 ∨ t = 2 ∨ t = 3 ∨ t = 4 ∨ t = 5 ∨ t = 6 ∨ t = 7 ∨ t = 8 ∨ t = 9 by omega) with rfl | rfl | rfl | rfl | rfl | rfl | rfl | rfl | rfl | rfl <;> rfl
    have e2 : ∀ t, t < 10 → k0_el (k0_ad (q d) (u d)) cA k0_D j t = .inr (t, (List.range (pd_nf t)).map fun s => k0_fv (k0_ad (q d) (u d)) k0_D j (pd_fkd t s)) := fun t ht => by
      rcases (show t = 0 ∨ t = 1 ∨ t = 2 ∨ t = 3 ∨ t = 4 ∨ t = 5 ∨ t = 6 ∨ t = 7 ∨ t = 8 ∨ t = 9 by omega) with rfl | rfl | rfl | rfl | rfl | rfl | rfl | rfl | rfl | rfl <;> rfl
    rw [e1 _ ht, k0_fds hd hj ht, ← e2 _ ht]
    exact h
  · have h23 := k0_tag23 j hj
    have h24 := k0_tag24 j hj
    generalize pd_tag j = t at h t1 t2 h23 h24
    rcases (show t = 20 ∨ t = 21 ∨ t = 22 ∨ t = 23 ∨ t = 24 by omega) with rfl | rfl | rfl | rfl | rfl
    · have e : pd_el (k0_AD q u q4 q5 b) cA (p4_jn (k0_s xs L)) (230 * d + j) 20 = k0_el (k0_ad (q d) (u d)) cA k0_D j 20 := by
        show (.inl (cA 0, p4_len (230 * d + j), .inl ((p4_jn (k0_s xs L)).1 (230 * d + j))) : va_E) = .inl (cA 0, pd_len j, .inl (k0_D.1 j))
        rw [hl, k0_j1 hd hj]
      rw [e]; exact h
    · have e : pd_el (k0_AD q u q4 q5 b) cA (p4_jn (k0_s xs L)) (230 * d + j) 21 = k0_el (k0_ad (q d) (u d)) cA k0_D j 21 := by
        show (.inl (cA 1, p4_len (230 * d + j), .inr (.inl ((p4_jn (k0_s xs L)).2.1 (230 * d + j)))) : va_E) = .inl (cA 1, pd_len j, .inr (.inl (k0_D.2.1 j)))
        rw [hl, k0_j2 hd hj]
      rw [e]; exact h
    · have e : pd_el (k0_AD q u q4 q5 b) cA (p4_jn (k0_s xs L)) (230 * d + j) 22 = k0_el (k0_ad (q d) (u d)) cA k0_D j 22 := by
        show (.inl (cA 2, p4_len (230 * d + j), .inl ((p4_jn (k0_s xs L)).1 (230 * d + j))) : va_E) = .inl (cA 2, pd_len j, .inl (k0_D.1 j))
        rw [hl, k0_j1 hd hj]
      rw [e]; exact h
    · rw [h23 rfl] at hl
      have h : H[a]? = some (vp_cell (cA 3) (pd_len j, .inr (.inr (.inr (.inr (fun i => some (k0_ad (q d) (u d) (80 + i)))))))) := h
      show H[a]? = some (vp_cell (cA 3) (p4_len (230 * d + j), .inr (.inr (.inr (.inr (fun i => some (k0_AD q u q4 q5 b (p4_bs (230 * d + j) + 80 + i))))))))
      rw [h, h23 rfl, hl, vp_cell_q, vp_cell_q]
      refine congrArg some (kc_arrV (fun i hi => ?_))
      show va_rf (some (k0_ad (q d) (u d) (80 + i))) = va_rf (some (k0_AD q u q4 q5 b (p4_bs (230 * d + j) + 80 + i)))
      rw [p4_bsd hj, Nat.add_assoc, k0_ADd hd (by omega)]
    · rw [h24 rfl] at hl
      have h : H[a]? = some (vp_cell (cA 4) (pd_len j, .inr (.inr (.inr (.inr (fun i => some (k0_ad (q d) (u d) (20 + 2 * i)))))))) := h
      show H[a]? = some (vp_cell (cA 4) (p4_len (230 * d + j), .inr (.inr (.inr (.inr (fun i => some (k0_AD q u q4 q5 b (p4_bs (230 * d + j) + 20 + 2 * i))))))))
      rw [h, h24 rfl, hl, vp_cell_q, vp_cell_q]
      refine congrArg some (kc_arrV (fun i hi => ?_))
      show va_rf (some (k0_ad (q d) (u d) (20 + 2 * i))) = va_rf (some (k0_AD q u q4 q5 b (p4_bs (230 * d + j) + 20 + 2 * i)))
      rw [p4_bsd hj, Nat.add_assoc, k0_ADd hd (by omega)]
theorem k0_Wat (hd : d < 4) {n : Nat} {x : Nat × va_E} (hn : n < 230) (h : (kh_X9 cA (q d) (u d))[n]? = some x) : (k0_W cA q u q4 q5)[230 * d + n]? = some x := by
  have l0 : ([] ++ kh_X9 cA (q 0) (u 0)).length = 230 := by rw [List.length_append, k0_X9_len]; rfl
  have l1 : (([] ++ kh_X9 cA (q 0) (u 0)) ++ kh_X9 cA (q 1) (u 1)).length = 460 := by rw [List.length_append, l0, k0_X9_len]
  have l2 : ((([] ++ kh_X9 cA (q 0) (u 0)) ++ kh_X9 cA (q 1) (u 1)) ++ kh_X9 cA (q 2) (u 2)).length = 690 := by rw [List.length_append, l1, k0_X9_len]
  have l3 : (((([] ++ kh_X9 cA (q 0) (u 0)) ++ kh_X9 cA (q 1) (u 1)) ++ kh_X9 cA (q 2) (u 2)) ++ kh_X9 cA (q 3) (u 3)).length = 920 := by rw [List.length_append, l2, k0_X9_len]
  unfold k0_W
  rw [List.getElem?_append_left (by rw [List.length_append, l3]; omega), List.getElem?_append_left (by rw [l3]; omega)]
  rcases (show d = 0 ∨ d = 1 ∨ d = 2 ∨ d = 3 by omega) with rfl | rfl | rfl | rfl
  · rw [List.getElem?_append_left (by rw [l2]; omega), List.getElem?_append_left (by rw [l1]; omega), List.getElem?_append_left (by rw [l0]; omega), List.nil_append, show 230 * 0 + n = n by omega]
    exact h
  · rw [List.getElem?_append_left (by rw [l2]; omega), List.getElem?_append_left (by rw [l1]; omega), List.getElem?_append_right (by rw [l0]; omega), l0, show 230 * 1 + n - 230 = n by omega]
    exact h
  · rw [List.getElem?_append_left (by rw [l2]; omega), List.getElem?_append_right (by rw [l1]; omega), l1, show 230 * 2 + n - 460 = n by omega]
    exact h
  · rw [List.getElem?_append_right (by rw [l2]; omega), l2, show 230 * 3 + n - 690 = n by omega]
    exact h
theorem k0_W20 : (k0_W cA q u q4 q5)[920]? = some (q4, .inl (cA 0, 20, .inl (fun _ => 0))) ∧ (k0_W cA q u q4 q5)[921]? = some (q5, .inl (cA 1, 24, .inr (.inl (fun _ => 0)))) := by
  have l0 : ([] ++ kh_X9 cA (q 0) (u 0)).length = 230 := by rw [List.length_append, k0_X9_len]; rfl
  have l1 : (([] ++ kh_X9 cA (q 0) (u 0)) ++ kh_X9 cA (q 1) (u 1)).length = 460 := by rw [List.length_append, l0, k0_X9_len]
  have l2 : ((([] ++ kh_X9 cA (q 0) (u 0)) ++ kh_X9 cA (q 1) (u 1)) ++ kh_X9 cA (q 2) (u 2)).length = 690 := by rw [List.length_append, l1, k0_X9_len]
  have l3 : (((([] ++ kh_X9 cA (q 0) (u 0)) ++ kh_X9 cA (q 1) (u 1)) ++ kh_X9 cA (q 2) (u 2)) ++ kh_X9 cA (q 3) (u 3)).length = 920 := by rw [List.length_append, l2, k0_X9_len]
  unfold k0_W
  constructor
  · rw [List.getElem?_append_left (by rw [List.length_append, l3]; exact Nat.lt_succ_self 920), List.getElem?_append_right (by rw [l3]; exact Nat.le_refl _), l3]
    rfl
  · rw [List.getElem?_append_right (by rw [List.length_append, l3]; exact Nat.le_refl _), List.length_append, l3]
    rfl
/-- where a thing stands -/
def k0_PO (k : Nat) : Nat := cond (Nat.ble k 919) (230 * (k / 230) + k0_pm (k0_pos (k % 230))) k
theorem k0_PO_inj {i k : Nat} (h : k0_PO i = k0_PO k) : i = k := by
  have f : ∀ n, k0_PO n = (if n < 920 then 230 * (n / 230) + k0_pm (k0_pos (n % 230)) else n) := fun n => by
    unfold k0_PO
    rcases Nat.lt_or_ge n 920 with w | w
    · rw [if_pos w, Nat.ble_eq_true_of_le (show n ≤ 919 by omega), cond_true]
    · rw [if_neg (by omega)]
      cases hb : Nat.ble n 919 with
      | true => have := Nat.le_of_ble_eq_true hb; omega
      | false => rfl
  rw [f, f] at h
  have hi := k0_pos_lt (Nat.mod_lt i (show 0 < 230 by decide))
  have hk := k0_pos_lt (Nat.mod_lt k (show 0 < 230 by decide))
  have hx := k0_pos_inj (Nat.mod_lt i (show 0 < 230 by decide)) (Nat.mod_lt k (show 0 < 230 by decide))
  generalize k0_pm (k0_pos (i % 230)) = a at h hi hx
  generalize k0_pm (k0_pos (k % 230)) = c at h hk hx
  split at h <;> split at h
  · have h1 : a = c := by omega
    have := hx h1
    omega
  · omega
  · omega
  · exact h
theorem k0_YY (k : Nat) (hk : k < 922) : ∃ e : va_E, (k0_W cA q u q4 q5)[k0_PO k]? = some (k0_AD q u q4 q5 b k, e) ∧ ∀ H : Heap, va_at D vwCl (k0_AD q u q4 q5 b k, e) H → va_at D vwCl (k0_AD q u q4 q5 b k, pd_el (k0_AD q u q4 q5 b) cA (p4_jn (k0_s xs L)) k (p4_tag k)) H := by
  rcases Nat.lt_or_ge k 920 with h | h
  · obtain ⟨d, j, hd, hj, rfl⟩ : ∃ d j, d < 4 ∧ j < 230 ∧ k = 230 * d + j := ⟨k / 230, k % 230, by omega, by omega, by omega⟩
    obtain ⟨e, h1, h2⟩ := k0_z (D := D) (cA := cA) (q0 := q d) (u := u d) j hj
    refine ⟨e, ?_, fun H hH => ?_⟩
    · unfold k0_PO
      rw [Nat.ble_eq_true_of_le (show 230 * d + j ≤ 919 by omega), cond_true, show (230 * d + j) / 230 = d by omega, show (230 * d + j) % 230 = j by omega, k0_ADd hd hj]
      refine k0_Wat hd (k0_pos_lt hj) ?_
      rw [k0_X9]
      exact k0_at h1
    · rw [k0_ADd hd hj] at hH ⊢
      exact k0_elt hd hj (h2 H hH)
  · rcases (show k = 920 ∨ k = 921 by omega) with rfl | rfl
    · exact ⟨_, k0_W20.1, fun H hH => hH⟩
    · exact ⟨_, k0_W20.2, fun H hH => hH⟩
theorem k0_world {A : Nat → Prop} {H0 H : Heap} {locs : List Loc} (h : kc_St D A H0 (k0_W cA q u q4 q5) H locs) (hb : ¬ A b) (hL : L < 2 ^ 31) : pd_E (k0_AD q u q4 q5 b) A b L ∧ va_P D vwCl (pd_ws (k0_AD q u q4 q5 b) cA (p4_jn (k0_s xs L))) H := by
  obtain ⟨hP, hD, -⟩ := h
  refine ⟨⟨fun i hi j hj e => ?_, fun i hi => ?_, rfl, hb, hL⟩, fun k x hx => ?_⟩
  · obtain ⟨x, h1, -⟩ := k0_YY (D := D) (cA := cA) (q := q) (u := u) (q4 := q4) (q5 := q5) (b := b) (L := L) (xs := xs) i hi
    obtain ⟨y, h2, -⟩ := k0_YY (D := D) (cA := cA) (q := q) (u := u) (q4 := q4) (q5 := q5) (b := b) (L := L) (xs := xs) j hj
    exact k0_PO_inj (hD.1 _ _ _ _ h1 h2 e)
  · obtain ⟨x, h1, -⟩ := k0_YY (D := D) (cA := cA) (q := q) (u := u) (q4 := q4) (q5 := q5) (b := b) (L := L) (xs := xs) i hi
    exact hD.2 _ _ h1
  · obtain ⟨hk, rfl⟩ := pd_ws_of hx
    obtain ⟨x, h1, h2⟩ := k0_YY (D := D) (cA := cA) (q := q) (u := u) (q4 := q4) (q5 := q5) (b := b) (L := L) (xs := xs) k hk
    exact h2 H (hP _ _ h1)
end K4
