/-! The heap at first: what the constructors made, as the abstract machine holds it. -/
def k0_P1 (cA : Nat → ClassId) (q0 : Nat) (u : kc_S) : va_W := [(q0, .inr (9, [.ref (u.1 1), .ref (u.1 7), .ref (u.1 10), .ref (u.1 13), .ref (u.1 15), .ref (u.1 17), .ref (u.1 19), .int 0, .ref (u.1 32), .ref (u.1 48), .ref (u.1 64), .int (-1), .int (-1), .int (-1)])), (u.1 19, .inl (cA 4, 6, .inr (.inr (.inr (.inr (fun i => some (u.1 (20 + 2 * i)))))))), (u.1 1, .inr (5, [.ref (u.1 2), .ref (u.1 3), .ref (u.1 4)])), (u.1 2, .inl (cA 0, 6, .inl (fun _ => -1))), (u.1 3, .inl (cA 0, 6, .inl (fun _ => 0))), (u.1 4, .inr (8, [.ref (u.1 5), .ref (u.1 6)])), (u.1 5, .inl (cA 0, 72, .inl (fun _ => 0))), (u.1 6, .inl (cA 1, 72, .inr (.inl (fun _ => 0)))), (u.1 7, .inr (0, [.ref (u.1 8), .ref (u.1 9), .int 0])), (u.1 8, .inl (cA 3, 150, .inr (.inr (.inr (.inr (fun i => some (u.2 i))))))), (u.1 9, .inl (cA 0, 25, .inl (fun _ => 0)))]
def k0_P2 (cA : Nat → ClassId) (q8 : Nat) (u w : kc_S) : va_W := [(u.1 10, .inr (7, [.ref (u.1 11), .ref (u.1 12), .int 0, .int 0, .int 0, .int 0, .int 0])), (u.1 11, .inl (cA 0, 80, .inl (fun _ => 0))), (u.1 12, .inr (1, [.int (-1), .int 0, .int 0, .int 0, .int 0, .int 0])), (u.1 13, .inr (3, [.ref (u.1 14), .int 0])), (u.1 14, .inl (cA 0, 167, .inl (fun _ => 0))), (u.1 15, .inr (6, [.ref (u.1 16)])), (u.1 16, .inl (cA 0, 108, .inl (fun _ => 0))), (u.1 17, .inr (4, [.ref (u.1 18), .int 0])), (u.1 18, .inl (cA 0, 24, .inl (fun _ => 0))), (u.1 32, .inr (2, [.ref (u.1 1), .ref (u.1 7), .ref (u.1 33), .ref (u.1 35), .ref (u.1 38), .ref (u.1 39), .ref (u.1 40), .ref (u.1 43), .ref (u.1 46), .ref (u.1 47), .int 0, .int (-1), .int (-1), .int (-1), .int 0, .int (-1), .int 0, .int 11, .long 0])), (u.1 33, .inr (4, [.ref (u.1 34), .int 0])), (u.1 34, .inl (cA 0, 24, .inl (fun _ => 0))), (u.1 35, .inr (8, [.ref (u.1 36), .ref (u.1 37)])), (u.1 36, .inl (cA 0, 72, .inl (fun _ => 0))), (u.1 37, .inl (cA 1, 72, .inr (.inl (fun _ => 0)))), (u.1 38, .inl (cA 0, 72, .inl (fun _ => 0))), (u.1 39, .inl (cA 2, 72, .inl (fun _ => 0))), (u.1 40, .inr (8, [.ref (u.1 41), .ref (u.1 42)])), (u.1 41, .inl (cA 0, 150, .inl (fun _ => 0))), (u.1 42, .inl (cA 1, 150, .inr (.inl (fun _ => 0)))), (u.1 43, .inr (8, [.ref (u.1 44), .ref (u.1 45)])), (u.1 44, .inl (cA 0, 150, .inl (fun _ => 0))), (u.1 45, .inl (cA 1, 150, .inr (.inl (fun _ => 0)))), (u.1 46, .inl (cA 0, 150, .inl (fun _ => 0))), (u.1 47, .inl (cA 0, 25, .inl (fun _ => 0))), (u.1 48, .inr (2, [.ref (u.1 1), .ref (u.1 7), .ref (u.1 49), .ref (u.1 51), .ref (u.1 54), .ref (u.1 55), .ref (u.1 56), .ref (u.1 59), .ref (u.1 62), .ref (u.1 63), .int 0, .int (-1), .int (-1), .int (-1), .int 0, .int (-1), .int 0, .int 11, .long 0])), (u.1 49, .inr (4, [.ref (u.1 50), .int 0])), (u.1 50, .inl (cA 0, 24, .inl (fun _ => 0))), (u.1 51, .inr (8, [.ref (u.1 52), .ref (u.1 53)])), (u.1 52, .inl (cA 0, 72, .inl (fun _ => 0))), (u.1 53, .inl (cA 1, 72, .inr (.inl (fun _ => 0)))), (u.1 54, .inl (cA 0, 72, .inl (fun _ => 0))), (u.1 55, .inl (cA 2, 72, .inl (fun _ => 0))), (u.1 56, .inr (8, [.ref (u.1 57), .ref (u.1 58)])), (u.1 57, .inl (cA 0, 150, .inl (fun _ => 0))), (u.1 58, .inl (cA 1, 150, .inr (.inl (fun _ => 0)))), (u.1 59, .inr (8, [.ref (u.1 60), .ref (u.1 61)])), (u.1 60, .inl (cA 0, 150, .inl (fun _ => 0))), (u.1 61, .inl (cA 1, 150, .inr (.inl (fun _ => 0)))), (u.1 62, .inl (cA 0, 150, .inl (fun _ => 0))), (u.1 63, .inl (cA 0, 25, .inl (fun _ => 0))), (u.1 64, .inr (2, [.ref (u.1 1), .ref (u.1 7), .ref (u.1 65), .ref (u.1 67), .ref (u.1 70), .ref (u.1 71), .ref (u.1 72), .ref (u.1 75), .ref (u.1 78), .ref (u.1 79), .int 0, .int (-1), .int (-1), .int (-1), .int 0, .int (-1), .int 0, .int 11, .long 0])), (u.1 65, .inr (4, [.ref (u.1 66), .int 0])), (u.1 66, .inl (cA 0, 24, .inl (fun _ => 0))), (u.1 67, .inr (8, [.ref (u.1 68), .ref (u.1 69)])), (u.1 68, .inl (cA 0, 72, .inl (fun _ => 0))), (u.1 69, .inl (cA 1, 72, .inr (.inl (fun _ => 0)))), (u.1 70, .inl (cA 0, 72, .inl (fun _ => 0))), (u.1 71, .inl (cA 2, 72, .inl (fun _ => 0))), (u.1 72, .inr (8, [.ref (u.1 73), .ref (u.1 74)])), (u.1 73, .inl (cA 0, 150, .inl (fun _ => 0))), (u.1 74, .inl (cA 1, 150, .inr (.inl (fun _ => 0)))), (u.1 75, .inr (8, [.ref (u.1 76), .ref (u.1 77)])), (u.1 76, .inl (cA 0, 150, .inl (fun _ => 0))), (u.1 77, .inl (cA 1, 150, .inr (.inl (fun _ => 0)))), (u.1 78, .inl (cA 0, 150, .inl (fun _ => 0))), (u.1 79, .inl (cA 0, 25, .inl (fun _ => 0))), (u.1 20, .inr (4, [.ref (u.1 21), .int 0])), (u.1 21, .inl (cA 0, 24, .inl (fun _ => 0))), (u.1 22, .inr (4, [.ref (u.1 23), .int 0])), (u.1 23, .inl (cA 0, 24, .inl (fun _ => 0))), (u.1 24, .inr (4, [.ref (u.1 25), .int 0])), (u.1 25, .inl (cA 0, 24, .inl (fun _ => 0))), (u.1 26, .inr (4, [.ref (u.1 27), .int 0])), (u.1 27, .inl (cA 0, 24, .inl (fun _ => 0))), (u.1 28, .inr (4, [.ref (u.1 29), .int 0])), (u.1 29, .inl (cA 0, 24, .inl (fun _ => 0))), (u.1 30, .inr (4, [.ref (u.1 31), .int 0])), (u.1 31, .inl (cA 0, 24, .inl (fun _ => 0))), (q8, .inr (10, [.ref (w.1 1), .ref (w.1 2), .ref (w.1 3), .ref (w.1 4), .ref (w.1 5), .ref (w.1 6), .ref (w.1 7), .ref (w.1 8), .ref (w.1 9), .ref (w.1 10), .ref (w.1 11), .ref (w.1 12), .ref (w.1 13), .ref (w.1 14), .ref (w.1 15), .ref (w.1 16), .ref (w.1 17), .ref (w.1 18), .ref (w.1 19), .int 0, .ref (w.1 20), .int 0, .ref (w.1 21), .int 0, .ref (w.1 22), .int 0, .ref (w.1 23), .ref (w.1 24), .int 0, .ref (w.1 25), .ref (w.1 26), .int 0, .long 0, .int 0, .int 0, .ref (w.1 27), .ref (w.1 28), .int 0, .ref (w.1 29), .int 0, .int 0, .int 0, .int 0, .long 0, .ref (w.1 30), .int 0, .ref (w.1 31), .ref (w.1 32), .int 0, .ref (w.1 33), .ref (w.1 34)])), (w.1 1, .inl (cA 0, 6, .inl (fun _ => -1))), (w.1 2, .inl (cA 0, 6, .inl (fun _ => 0))), (w.1 3, .inl (cA 0, 72, .inl (fun _ => 0))), (w.1 4, .inl (cA 1, 72, .inr (.inl (fun _ => 0)))), (w.1 5, .inl (cA 0, 72, .inl (fun _ => 0))), (w.1 6, .inl (cA 1, 72, .inr (.inl (fun _ => 0)))), (w.1 7, .inl (cA 0, 72, .inl (fun _ => -1))), (w.1 8, .inl (cA 2, 150, .inl (fun _ => 0))), (w.1 9, .inl (cA 0, 150, .inl (fun _ => 0))), (w.1 10, .inl (cA 0, 150, .inl (fun _ => 0))), (w.1 11, .inl (cA 0, 150, .inl (fun _ => 0))), (w.1 12, .inl (cA 0, 150, .inl (fun _ => 0))), (w.1 13, .inl (cA 0, 150, .inl (fun _ => 0))), (w.1 14, .inl (cA 0, 25, .inl (fun _ => 0))), (w.1 15, .inl (cA 0, 150, .inl (fun _ => 0))), (w.1 16, .inl (cA 1, 150, .inr (.inl (fun _ => 0)))), (w.1 17, .inl (cA 0, 150, .inl (fun _ => 0))), (w.1 18, .inl (cA 1, 150, .inr (.inl (fun _ => 0)))), (w.1 19, .inl (cA 0, 150, .inl (fun _ => 0))), (w.1 20, .inl (cA 0, 24, .inl (fun _ => 0))), (w.1 21, .inl (cA 0, 24, .inl (fun _ => 0))), (w.1 22, .inl (cA 0, 24, .inl (fun _ => 0))), (w.1 23, .inl (cA 0, 144, .inl (fun _ => 0))), (w.1 24, .inl (cA 0, 6, .inl (fun _ => 0))), (w.1 25, .inl (cA 0, 3, .inl (fun _ => -1))), (w.1 26, .inl (cA 0, 108, .inl (fun _ => 0))), (w.1 27, .inl (cA 0, 150, .inl (fun _ => 0))), (w.1 28, .inl (cA 1, 150, .inr (.inl (fun _ => 0)))), (w.1 29, .inl (cA 0, 80, .inl (fun _ => 0))), (w.1 30, .inl (cA 0, 200, .inl (fun _ => 0))), (w.1 31, .inl (cA 0, 144, .inl (fun _ => 0))), (w.1 32, .inl (cA 2, 144, .inl (fun _ => 0))), (w.1 33, .inl (cA 0, 72, .inl (fun _ => 0))), (w.1 34, .inl (cA 1, 72, .inr (.inl (fun _ => 0))))]
def k0_F (u : kc_S) : va_W := (List.range 150).map (fun i => (u.2 i, .inr (1, [.int (-1), .int 0, .int 0, .int 0, .int 0, .int 0])))
def k0_I (xs : Nat → Int32) (L : Nat) (k i : Nat) : Int32 := if 80 ≤ k ∧ k < 230 then (if i = 0 then -1 else 0) else cond (Nat.beq k 2 || Nat.beq k 231 || Nat.beq k 237 || Nat.beq k 255) (-1) (cond (Nat.beq k 0) (cond (Nat.beq i 11 || Nat.beq i 12 || Nat.beq i 13) (-1) 0) (cond (Nat.beq k 12) (cond (Nat.beq i 0) (-1) 0) (cond (Nat.beq k 32 || Nat.beq k 48 || Nat.beq k 64) (cond (Nat.beq i 11 || Nat.beq i 12 || Nat.beq i 13 || Nat.beq i 15) (-1) (cond (Nat.beq i 17) 11 0)) (cond (Nat.beq k 265) (xs i) (cond (Nat.beq k 266) (nI L) 0)))))
def k0_H (xs : Nat → Int32) (L : Nat) : pd_H := (k0_I xs L, fun _ _ => 0, fun y => cond (Nat.beq y 0) 32 48)
def k0_ad (q0 q8 b : Nat) (u w : kc_S) (k : Nat) : Nat := if 80 ≤ k ∧ k < 230 then u.2 (k - 80) else cond (Nat.beq k 0) q0 (cond (Nat.ble k 79) (u.1 k) (cond (Nat.beq k 230) q8 (cond (Nat.ble k 264) (w.1 (k - 230)) b)))
def k0_pos (k : Nat) : Nat := if 80 ≤ k ∧ k < 230 then k + 35 else if k = 0 then 0 else if k = 19 then 1 else if k < 10 then k + 1 else if k < 19 then k + 1 else if k < 32 then k + 48 else if k < 80 then k - 12 else k - 150
theorem k0_pos_inj {i j : Nat} (hi : i < 265) (hj : j < 265) (h : k0_pos i = k0_pos j) : i = j := by
  unfold k0_pos at h
  repeat' split at h
  all_goals omega
theorem k0_split {D : va_G} {cA : Nat → ClassId} {A : Nat → Prop} {H0 H : Heap} {q0 q8 : Nat} {u w : kc_S} {locs : List Loc} (h : kc_St D A H0 (([] ++ kh_X9 cA q0 u) ++ kh_X10 cA q8 w) H locs) : kc_St D A H0 (k0_P1 cA q0 u ++ (k0_P2 cA q8 u w ++ k0_F u)) H locs := by
  refine kc_swap (a := k0_P1 cA q0 u) (b := k0_F u) (c := k0_P2 cA q8 u w) ?_
  have e : ([] ++ kh_X9 cA q0 u) ++ kh_X10 cA q8 w = (k0_P1 cA q0 u ++ k0_F u) ++ k0_P2 cA q8 u w := by
    have e1 : (List.range 150).flatMap (fun i => kh_X1 cA ((kc_sub u 7).2 i) (kc_sub u 7)) = k0_F u := List.map_eq_flatMap.symm
    have e2 : kh_X0 cA (u.1 7) (kc_sub u 7) = [(u.1 7, .inr (0, [.ref (u.1 8), .ref (u.1 9), .int 0])), (u.1 8, .inl (cA 3, 150, .inr (.inr (.inr (.inr (fun i => some (u.2 i))))))), (u.1 9, .inl (cA 0, 25, .inl (fun _ => 0)))] ++ k0_F u := by
      rw [← e1]; rfl
    unfold kh_X9
    rw [e2]
    generalize k0_F u = F
    simp only [kh_X5, kh_X7, kh_X3, kh_X6, kh_X4, kh_X2, kh_X8_72, kh_X8_150, kh_X1, kh_X10, List.nil_append, List.cons_append, List.append_assoc]
    rfl
  rw [← e]
  exact h
section K0
variable {D : va_G} {cA : Nat → ClassId} {q0 q8 b L : Nat} {u w : kc_S} {xs : Nat → Int32}
def k0_Z (D : va_G) (cA : Nat → ClassId) (q0 q8 b L : Nat) (u w : kc_S) (xs : Nat → Int32) (k : Nat) : Prop := ∃ e : va_E, (k0_P1 cA q0 u ++ (k0_P2 cA q8 u w ++ k0_F u))[k0_pos k]? = some (k0_ad q0 q8 b u w k, e) ∧ ∀ H : Heap, va_at D vwCl (k0_ad q0 q8 b u w k, e) H → va_at D vwCl (k0_ad q0 q8 b u w k, pd_el (k0_ad q0 q8 b u w) cA (k0_H xs L) k (pd_tag k)) H
theorem k0_z0 : k0_Z D cA q0 q8 b L u w xs 0 := ⟨_, rfl, fun _ h => h⟩
theorem k0_z1 : k0_Z D cA q0 q8 b L u w xs 1 := ⟨_, rfl, fun _ h => h⟩
theorem k0_z2 : k0_Z D cA q0 q8 b L u w xs 2 := ⟨_, rfl, fun _ h => h⟩
theorem k0_z3 : k0_Z D cA q0 q8 b L u w xs 3 := ⟨_, rfl, fun _ h => h⟩
theorem k0_z4 : k0_Z D cA q0 q8 b L u w xs 4 := ⟨_, rfl, fun _ h => h⟩
theorem k0_z5 : k0_Z D cA q0 q8 b L u w xs 5 := ⟨_, rfl, fun _ h => h⟩
theorem k0_z6 : k0_Z D cA q0 q8 b L u w xs 6 := ⟨_, rfl, fun _ h => h⟩
theorem k0_z7 : k0_Z D cA q0 q8 b L u w xs 7 := ⟨_, rfl, fun _ h => h⟩
theorem k0_z9 : k0_Z D cA q0 q8 b L u w xs 9 := ⟨_, rfl, fun _ h => h⟩
theorem k0_z10 : k0_Z D cA q0 q8 b L u w xs 10 := ⟨_, rfl, fun _ h => h⟩
theorem k0_z11 : k0_Z D cA q0 q8 b L u w xs 11 := ⟨_, rfl, fun _ h => h⟩
theorem k0_z12 : k0_Z D cA q0 q8 b L u w xs 12 := ⟨_, rfl, fun _ h => h⟩
theorem k0_z13 : k0_Z D cA q0 q8 b L u w xs 13 := ⟨_, rfl, fun _ h => h⟩
theorem k0_z14 : k0_Z D cA q0 q8 b L u w xs 14 := ⟨_, rfl, fun _ h => h⟩
theorem k0_z15 : k0_Z D cA q0 q8 b L u w xs 15 := ⟨_, rfl, fun _ h => h⟩
theorem k0_z16 : k0_Z D cA q0 q8 b L u w xs 16 := ⟨_, rfl, fun _ h => h⟩
theorem k0_z17 : k0_Z D cA q0 q8 b L u w xs 17 := ⟨_, rfl, fun _ h => h⟩
theorem k0_z18 : k0_Z D cA q0 q8 b L u w xs 18 := ⟨_, rfl, fun _ h => h⟩
theorem k0_z32 : k0_Z D cA q0 q8 b L u w xs 32 := ⟨_, rfl, fun _ h => h⟩
theorem k0_z33 : k0_Z D cA q0 q8 b L u w xs 33 := ⟨_, rfl, fun _ h => h⟩
theorem k0_z34 : k0_Z D cA q0 q8 b L u w xs 34 := ⟨_, rfl, fun _ h => h⟩
theorem k0_z35 : k0_Z D cA q0 q8 b L u w xs 35 := ⟨_, rfl, fun _ h => h⟩
theorem k0_z36 : k0_Z D cA q0 q8 b L u w xs 36 := ⟨_, rfl, fun _ h => h⟩
theorem k0_z37 : k0_Z D cA q0 q8 b L u w xs 37 := ⟨_, rfl, fun _ h => h⟩
theorem k0_z38 : k0_Z D cA q0 q8 b L u w xs 38 := ⟨_, rfl, fun _ h => h⟩
theorem k0_z39 : k0_Z D cA q0 q8 b L u w xs 39 := ⟨_, rfl, fun _ h => h⟩
theorem k0_z40 : k0_Z D cA q0 q8 b L u w xs 40 := ⟨_, rfl, fun _ h => h⟩
theorem k0_z41 : k0_Z D cA q0 q8 b L u w xs 41 := ⟨_, rfl, fun _ h => h⟩
theorem k0_z42 : k0_Z D cA q0 q8 b L u w xs 42 := ⟨_, rfl, fun _ h => h⟩
theorem k0_z43 : k0_Z D cA q0 q8 b L u w xs 43 := ⟨_, rfl, fun _ h => h⟩
theorem k0_z44 : k0_Z D cA q0 q8 b L u w xs 44 := ⟨_, rfl, fun _ h => h⟩
theorem k0_z45 : k0_Z D cA q0 q8 b L u w xs 45 := ⟨_, rfl, fun _ h => h⟩
theorem k0_z46 : k0_Z D cA q0 q8 b L u w xs 46 := ⟨_, rfl, fun _ h => h⟩
theorem k0_z47 : k0_Z D cA q0 q8 b L u w xs 47 := ⟨_, rfl, fun _ h => h⟩
theorem k0_z48 : k0_Z D cA q0 q8 b L u w xs 48 := ⟨_, rfl, fun _ h => h⟩
theorem k0_z49 : k0_Z D cA q0 q8 b L u w xs 49 := ⟨_, rfl, fun _ h => h⟩
theorem k0_z50 : k0_Z D cA q0 q8 b L u w xs 50 := ⟨_, rfl, fun _ h => h⟩
theorem k0_z51 : k0_Z D cA q0 q8 b L u w xs 51 := ⟨_, rfl, fun _ h => h⟩
theorem k0_z52 : k0_Z D cA q0 q8 b L u w xs 52 := ⟨_, rfl, fun _ h => h⟩
theorem k0_z53 : k0_Z D cA q0 q8 b L u w xs 53 := ⟨_, rfl, fun _ h => h⟩
theorem k0_z54 : k0_Z D cA q0 q8 b L u w xs 54 := ⟨_, rfl, fun _ h => h⟩
theorem k0_z55 : k0_Z D cA q0 q8 b L u w xs 55 := ⟨_, rfl, fun _ h => h⟩
theorem k0_z56 : k0_Z D cA q0 q8 b L u w xs 56 := ⟨_, rfl, fun _ h => h⟩
theorem k0_z57 : k0_Z D cA q0 q8 b L u w xs 57 := ⟨_, rfl, fun _ h => h⟩
theorem k0_z58 : k0_Z D cA q0 q8 b L u w xs 58 := ⟨_, rfl, fun _ h => h⟩
theorem k0_z59 : k0_Z D cA q0 q8 b L u w xs 59 := ⟨_, rfl, fun _ h => h⟩
theorem k0_z60 : k0_Z D cA q0 q8 b L u w xs 60 := ⟨_, rfl, fun _ h => h⟩
theorem k0_z61 : k0_Z D cA q0 q8 b L u w xs 61 := ⟨_, rfl, fun _ h => h⟩
theorem k0_z62 : k0_Z D cA q0 q8 b L u w xs 62 := ⟨_, rfl, fun _ h => h⟩
theorem k0_z63 : k0_Z D cA q0 q8 b L u w xs 63 := ⟨_, rfl, fun _ h => h⟩
theorem k0_z64 : k0_Z D cA q0 q8 b L u w xs 64 := ⟨_, rfl, fun _ h => h⟩
theorem k0_z65 : k0_Z D cA q0 q8 b L u w xs 65 := ⟨_, rfl, fun _ h => h⟩
theorem k0_z66 : k0_Z D cA q0 q8 b L u w xs 66 := ⟨_, rfl, fun _ h => h⟩
theorem k0_z67 : k0_Z D cA q0 q8 b L u w xs 67 := ⟨_, rfl, fun _ h => h⟩
theorem k0_z68 : k0_Z D cA q0 q8 b L u w xs 68 := ⟨_, rfl, fun _ h => h⟩
theorem k0_z69 : k0_Z D cA q0 q8 b L u w xs 69 := ⟨_, rfl, fun _ h => h⟩
theorem k0_z70 : k0_Z D cA q0 q8 b L u w xs 70 := ⟨_, rfl, fun _ h => h⟩
theorem k0_z71 : k0_Z D cA q0 q8 b L u w xs 71 := ⟨_, rfl, fun _ h => h⟩
theorem k0_z72 : k0_Z D cA q0 q8 b L u w xs 72 := ⟨_, rfl, fun _ h => h⟩
theorem k0_z73 : k0_Z D cA q0 q8 b L u w xs 73 := ⟨_, rfl, fun _ h => h⟩
theorem k0_z74 : k0_Z D cA q0 q8 b L u w xs 74 := ⟨_, rfl, fun _ h => h⟩
theorem k0_z75 : k0_Z D cA q0 q8 b L u w xs 75 := ⟨_, rfl, fun _ h => h⟩
theorem k0_z76 : k0_Z D cA q0 q8 b L u w xs 76 := ⟨_, rfl, fun _ h => h⟩
theorem k0_z77 : k0_Z D cA q0 q8 b L u w xs 77 := ⟨_, rfl, fun _ h => h⟩
theorem k0_z78 : k0_Z D cA q0 q8 b L u w xs 78 := ⟨_, rfl, fun _ h => h⟩
theorem k0_z79 : k0_Z D cA q0 q8 b L u w xs 79 := ⟨_, rfl, fun _ h => h⟩
theorem k0_z20 : k0_Z D cA q0 q8 b L u w xs 20 := ⟨_, rfl, fun _ h => h⟩
theorem k0_z21 : k0_Z D cA q0 q8 b L u w xs 21 := ⟨_, rfl, fun _ h => h⟩
theorem k0_z22 : k0_Z D cA q0 q8 b L u w xs 22 := ⟨_, rfl, fun _ h => h⟩
theorem k0_z23 : k0_Z D cA q0 q8 b L u w xs 23 := ⟨_, rfl, fun _ h => h⟩
theorem k0_z24 : k0_Z D cA q0 q8 b L u w xs 24 := ⟨_, rfl, fun _ h => h⟩
theorem k0_z25 : k0_Z D cA q0 q8 b L u w xs 25 := ⟨_, rfl, fun _ h => h⟩
theorem k0_z26 : k0_Z D cA q0 q8 b L u w xs 26 := ⟨_, rfl, fun _ h => h⟩
theorem k0_z27 : k0_Z D cA q0 q8 b L u w xs 27 := ⟨_, rfl, fun _ h => h⟩
theorem k0_z28 : k0_Z D cA q0 q8 b L u w xs 28 := ⟨_, rfl, fun _ h => h⟩
theorem k0_z29 : k0_Z D cA q0 q8 b L u w xs 29 := ⟨_, rfl, fun _ h => h⟩
theorem k0_z30 : k0_Z D cA q0 q8 b L u w xs 30 := ⟨_, rfl, fun _ h => h⟩
theorem k0_z31 : k0_Z D cA q0 q8 b L u w xs 31 := ⟨_, rfl, fun _ h => h⟩
theorem k0_z230 : k0_Z D cA q0 q8 b L u w xs 230 := ⟨_, rfl, fun _ h => h⟩
theorem k0_z231 : k0_Z D cA q0 q8 b L u w xs 231 := ⟨_, rfl, fun _ h => h⟩
theorem k0_z232 : k0_Z D cA q0 q8 b L u w xs 232 := ⟨_, rfl, fun _ h => h⟩
theorem k0_z233 : k0_Z D cA q0 q8 b L u w xs 233 := ⟨_, rfl, fun _ h => h⟩
theorem k0_z234 : k0_Z D cA q0 q8 b L u w xs 234 := ⟨_, rfl, fun _ h => h⟩
theorem k0_z235 : k0_Z D cA q0 q8 b L u w xs 235 := ⟨_, rfl, fun _ h => h⟩
theorem k0_z236 : k0_Z D cA q0 q8 b L u w xs 236 := ⟨_, rfl, fun _ h => h⟩
theorem k0_z237 : k0_Z D cA q0 q8 b L u w xs 237 := ⟨_, rfl, fun _ h => h⟩
theorem k0_z238 : k0_Z D cA q0 q8 b L u w xs 238 := ⟨_, rfl, fun _ h => h⟩
theorem k0_z239 : k0_Z D cA q0 q8 b L u w xs 239 := ⟨_, rfl, fun _ h => h⟩
theorem k0_z240 : k0_Z D cA q0 q8 b L u w xs 240 := ⟨_, rfl, fun _ h => h⟩
theorem k0_z241 : k0_Z D cA q0 q8 b L u w xs 241 := ⟨_, rfl, fun _ h => h⟩
theorem k0_z242 : k0_Z D cA q0 q8 b L u w xs 242 := ⟨_, rfl, fun _ h => h⟩
theorem k0_z243 : k0_Z D cA q0 q8 b L u w xs 243 := ⟨_, rfl, fun _ h => h⟩
theorem k0_z244 : k0_Z D cA q0 q8 b L u w xs 244 := ⟨_, rfl, fun _ h => h⟩
theorem k0_z245 : k0_Z D cA q0 q8 b L u w xs 245 := ⟨_, rfl, fun _ h => h⟩
theorem k0_z246 : k0_Z D cA q0 q8 b L u w xs 246 := ⟨_, rfl, fun _ h => h⟩
theorem k0_z247 : k0_Z D cA q0 q8 b L u w xs 247 := ⟨_, rfl, fun _ h => h⟩
theorem k0_z248 : k0_Z D cA q0 q8 b L u w xs 248 := ⟨_, rfl, fun _ h => h⟩
theorem k0_z249 : k0_Z D cA q0 q8 b L u w xs 249 := ⟨_, rfl, fun _ h => h⟩
theorem k0_z250 : k0_Z D cA q0 q8 b L u w xs 250 := ⟨_, rfl, fun _ h => h⟩
theorem k0_z251 : k0_Z D cA q0 q8 b L u w xs 251 := ⟨_, rfl, fun _ h => h⟩
theorem k0_z252 : k0_Z D cA q0 q8 b L u w xs 252 := ⟨_, rfl, fun _ h => h⟩
theorem k0_z253 : k0_Z D cA q0 q8 b L u w xs 253 := ⟨_, rfl, fun _ h => h⟩
theorem k0_z254 : k0_Z D cA q0 q8 b L u w xs 254 := ⟨_, rfl, fun _ h => h⟩
theorem k0_z255 : k0_Z D cA q0 q8 b L u w xs 255 := ⟨_, rfl, fun _ h => h⟩
theorem k0_z256 : k0_Z D cA q0 q8 b L u w xs 256 := ⟨_, rfl, fun _ h => h⟩
theorem k0_z257 : k0_Z D cA q0 q8 b L u w xs 257 := ⟨_, rfl, fun _ h => h⟩
theorem k0_z258 : k0_Z D cA q0 q8 b L u w xs 258 := ⟨_, rfl, fun _ h => h⟩
theorem k0_z259 : k0_Z D cA q0 q8 b L u w xs 259 := ⟨_, rfl, fun _ h => h⟩
theorem k0_z260 : k0_Z D cA q0 q8 b L u w xs 260 := ⟨_, rfl, fun _ h => h⟩
theorem k0_z261 : k0_Z D cA q0 q8 b L u w xs 261 := ⟨_, rfl, fun _ h => h⟩
theorem k0_z262 : k0_Z D cA q0 q8 b L u w xs 262 := ⟨_, rfl, fun _ h => h⟩
theorem k0_z263 : k0_Z D cA q0 q8 b L u w xs 263 := ⟨_, rfl, fun _ h => h⟩
theorem k0_z264 : k0_Z D cA q0 q8 b L u w xs 264 := ⟨_, rfl, fun _ h => h⟩
theorem k0_z8 : k0_Z D cA q0 q8 b L u w xs 8 := ⟨_, rfl, fun H h => by
  show H[_]? = some (vp_cell (cA 3) (150, .inr (.inr (.inr (.inr (fun i => some (k0_ad q0 q8 b u w (80 + i))))))))
  rw [show H[k0_ad q0 q8 b u w 8]? = some (vp_cell (cA 3) (150, .inr (.inr (.inr (.inr (fun i => some (u.2 i))))))) from h, vp_cell_q, vp_cell_q]
  refine congrArg some (kc_arrV (fun i hi => ?_))
  show va_rf (some (u.2 i)) = va_rf (some (k0_ad q0 q8 b u w (80 + i)))
  unfold k0_ad
  rw [if_pos (show 80 ≤ 80 + i ∧ 80 + i < 230 by omega), show 80 + i - 80 = i by omega]⟩
theorem k0_z19 : k0_Z D cA q0 q8 b L u w xs 19 := ⟨_, rfl, fun H h => by
  show H[_]? = some (vp_cell (cA 4) (6, .inr (.inr (.inr (.inr (fun i => some (k0_ad q0 q8 b u w (20 + 2 * i))))))))
  rw [show H[k0_ad q0 q8 b u w 19]? = some (vp_cell (cA 4) (6, .inr (.inr (.inr (.inr (fun i => some (u.1 (20 + 2 * i)))))))) from h, vp_cell_q, vp_cell_q]
  refine congrArg some (kc_arrV (fun i hi => ?_))
  rcases (show i = 0 ∨ i = 1 ∨ i = 2 ∨ i = 3 ∨ i = 4 ∨ i = 5 by omega) with rfl | rfl | rfl | rfl | rfl | rfl <;> rfl⟩
theorem k0_zc {i : Nat} (hi : i < 150) : k0_Z D cA q0 q8 b L u w xs (80 + i) := by
  refine ⟨.inr (1, [.int (-1), .int 0, .int 0, .int 0, .int 0, .int 0]), ?_, fun H h => ?_⟩
  · unfold k0_pos k0_ad
    rw [if_pos (show 80 ≤ 80 + i ∧ 80 + i < 230 by omega), if_pos (show 80 ≤ 80 + i ∧ 80 + i < 230 by omega), show 80 + i - 80 = i by omega, List.getElem?_append_right (show (k0_P1 cA q0 u).length ≤ 80 + i + 35 from Nat.le_trans (show 11 ≤ 80 by decide) (by omega)), List.getElem?_append_right (show (k0_P2 cA q8 u w).length ≤ 80 + i + 35 - (k0_P1 cA q0 u).length from Nat.le_trans (show 104 ≤ 104 + i by omega) (show 104 + i ≤ 80 + i + 35 - 11 by omega)), show 80 + i + 35 - (k0_P1 cA q0 u).length - (k0_P2 cA q8 u w).length = i from (show 80 + i + 35 - 11 - 104 = i by omega)]
    unfold k0_F
    rw [List.getElem?_map, List.getElem?_range hi]
    rfl
  · rw [pd_tag_chg i hi]
    have e : ∀ s, (k0_H xs L).1 (80 + i) s = if s = 0 then -1 else 0 := fun s => if_pos (show 80 ≤ 80 + i ∧ 80 + i < 230 by omega)
    have g : pd_el (k0_ad q0 q8 b u w) cA (k0_H xs L) (80 + i) 1 = .inr (1, [.int (-1), .int 0, .int 0, .int 0, .int 0, .int 0]) := by
      show (.inr (1, [.int ((k0_H xs L).1 (80 + i) 0), .int ((k0_H xs L).1 (80 + i) 1), .int ((k0_H xs L).1 (80 + i) 2), .int ((k0_H xs L).1 (80 + i) 3), .int ((k0_H xs L).1 (80 + i) 4), .int ((k0_H xs L).1 (80 + i) 5)]) : va_E) = _
      rw [e, e, e, e, e, e]
      rfl
    rw [g]; exact h
def k0_all (P : Nat → Prop) : Nat → Prop
  | 0 => True
  | n + 1 => k0_all P n ∧ P n
theorem k0_all_of {P : Nat → Prop} : ∀ {n : Nat}, k0_all P n → ∀ k, k < n → P k
  | 0, _, k, h => absurd h (Nat.not_lt_zero k)
  | n + 1, h, k, hk => by
    rcases Nat.lt_or_ge k n with q | q
    · exact k0_all_of h.1 k q
    · rw [show k = n by omega]; exact h.2
theorem k0_ca : k0_all (fun k => k0_Z D cA q0 q8 b L u w xs (0 + k)) 20 := ⟨⟨⟨⟨⟨⟨⟨⟨⟨⟨⟨⟨⟨⟨⟨⟨⟨⟨⟨⟨trivial, k0_z0⟩, k0_z1⟩, k0_z2⟩, k0_z3⟩, k0_z4⟩, k0_z5⟩, k0_z6⟩, k0_z7⟩, k0_z8⟩, k0_z9⟩, k0_z10⟩, k0_z11⟩, k0_z12⟩, k0_z13⟩, k0_z14⟩, k0_z15⟩, k0_z16⟩, k0_z17⟩, k0_z18⟩, k0_z19⟩
theorem k0_cb : k0_all (fun k => k0_Z D cA q0 q8 b L u w xs (20 + k)) 20 := ⟨⟨⟨⟨⟨⟨⟨⟨⟨⟨⟨⟨⟨⟨⟨⟨⟨⟨⟨⟨trivial, k0_z20⟩, k0_z21⟩, k0_z22⟩, k0_z23⟩, k0_z24⟩, k0_z25⟩, k0_z26⟩, k0_z27⟩, k0_z28⟩, k0_z29⟩, k0_z30⟩, k0_z31⟩, k0_z32⟩, k0_z33⟩, k0_z34⟩, k0_z35⟩, k0_z36⟩, k0_z37⟩, k0_z38⟩, k0_z39⟩
theorem k0_cc : k0_all (fun k => k0_Z D cA q0 q8 b L u w xs (40 + k)) 20 := ⟨⟨⟨⟨⟨⟨⟨⟨⟨⟨⟨⟨⟨⟨⟨⟨⟨⟨⟨⟨trivial, k0_z40⟩, k0_z41⟩, k0_z42⟩, k0_z43⟩, k0_z44⟩, k0_z45⟩, k0_z46⟩, k0_z47⟩, k0_z48⟩, k0_z49⟩, k0_z50⟩, k0_z51⟩, k0_z52⟩, k0_z53⟩, k0_z54⟩, k0_z55⟩, k0_z56⟩, k0_z57⟩, k0_z58⟩, k0_z59⟩
theorem k0_cd : k0_all (fun k => k0_Z D cA q0 q8 b L u w xs (60 + k)) 20 := ⟨⟨⟨⟨⟨⟨⟨⟨⟨⟨⟨⟨⟨⟨⟨⟨⟨⟨⟨⟨trivial, k0_z60⟩, k0_z61⟩, k0_z62⟩, k0_z63⟩, k0_z64⟩, k0_z65⟩, k0_z66⟩, k0_z67⟩, k0_z68⟩, k0_z69⟩, k0_z70⟩, k0_z71⟩, k0_z72⟩, k0_z73⟩, k0_z74⟩, k0_z75⟩, k0_z76⟩, k0_z77⟩, k0_z78⟩, k0_z79⟩
theorem k0_ce : k0_all (fun k => k0_Z D cA q0 q8 b L u w xs (230 + k)) 20 := ⟨⟨⟨⟨⟨⟨⟨⟨⟨⟨⟨⟨⟨⟨⟨⟨⟨⟨⟨⟨trivial, k0_z230⟩, k0_z231⟩, k0_z232⟩, k0_z233⟩, k0_z234⟩, k0_z235⟩, k0_z236⟩, k0_z237⟩, k0_z238⟩, k0_z239⟩, k0_z240⟩, k0_z241⟩, k0_z242⟩, k0_z243⟩, k0_z244⟩, k0_z245⟩, k0_z246⟩, k0_z247⟩, k0_z248⟩, k0_z249⟩
theorem k0_cf : k0_all (fun k => k0_Z D cA q0 q8 b L u w xs (250 + k)) 15 := ⟨⟨⟨⟨⟨⟨⟨⟨⟨⟨⟨⟨⟨⟨⟨trivial, k0_z250⟩, k0_z251⟩, k0_z252⟩, k0_z253⟩, k0_z254⟩, k0_z255⟩, k0_z256⟩, k0_z257⟩, k0_z258⟩, k0_z259⟩, k0_z260⟩, k0_z261⟩, k0_z262⟩, k0_z263⟩, k0_z264⟩
theorem k0_z (k : Nat) (hk : k < 265) : k0_Z D cA q0 q8 b L u w xs k := by
  rcases Nat.lt_or_ge k 20 with h | h
  · have := k0_all_of (k0_ca (D := D) (cA := cA) (q0 := q0) (q8 := q8) (b := b) (L := L) (u := u) (w := w) (xs := xs)) k h
    rwa [Nat.zero_add] at this
  rcases Nat.lt_or_ge k 40 with h1 | h1
  · have := k0_all_of (k0_cb (D := D) (cA := cA) (q0 := q0) (q8 := q8) (b := b) (L := L) (u := u) (w := w) (xs := xs)) (k - 20) (by omega)
    rwa [show 20 + (k - 20) = k by omega] at this
  rcases Nat.lt_or_ge k 60 with h2 | h2
  · have := k0_all_of (k0_cc (D := D) (cA := cA) (q0 := q0) (q8 := q8) (b := b) (L := L) (u := u) (w := w) (xs := xs)) (k - 40) (by omega)
    rwa [show 40 + (k - 40) = k by omega] at this
  rcases Nat.lt_or_ge k 80 with h3 | h3
  · have := k0_all_of (k0_cd (D := D) (cA := cA) (q0 := q0) (q8 := q8) (b := b) (L := L) (u := u) (w := w) (xs := xs)) (k - 60) (by omega)
    rwa [show 60 + (k - 60) = k by omega] at this
  rcases Nat.lt_or_ge k 230 with h4 | h4
  · have := k0_zc (D := D) (cA := cA) (q0 := q0) (q8 := q8) (b := b) (L := L) (u := u) (w := w) (xs := xs) (show k - 80 < 150 by omega)
    rwa [show 80 + (k - 80) = k by omega] at this
  rcases Nat.lt_or_ge k 250 with h5 | h5
  · have := k0_all_of (k0_ce (D := D) (cA := cA) (q0 := q0) (q8 := q8) (b := b) (L := L) (u := u) (w := w) (xs := xs)) (k - 230) (by omega)
    rwa [show 230 + (k - 230) = k by omega] at this
  · have := k0_all_of (k0_cf (D := D) (cA := cA) (q0 := q0) (q8 := q8) (b := b) (L := L) (u := u) (w := w) (xs := xs)) (k - 250) (by omega)
    rwa [show 250 + (k - 250) = k by omega] at this
theorem k0_world {A : Nat → Prop} {H0 H : Heap} {locs : List Loc} (h : kc_St D A H0 (([] ++ kh_X9 cA q0 u) ++ kh_X10 cA q8 w) H locs) (hb : ¬ A b) (hL : L < 2 ^ 31) : pd_E (k0_ad q0 q8 b u w) A b L ∧ va_P D vwCl (pd_ws (k0_ad q0 q8 b u w) cA (k0_H xs L)) H := by
  obtain ⟨hP, hD, -⟩ := k0_split h
  refine ⟨⟨fun i hi j hj e => ?_, fun i hi => ?_, rfl, hb, hL⟩, fun k q hq => ?_⟩
  · obtain ⟨x, h1, -⟩ := k0_z (D := D) (cA := cA) (q0 := q0) (q8 := q8) (b := b) (L := L) (u := u) (w := w) (xs := xs) i hi
    obtain ⟨y, h2, -⟩ := k0_z (D := D) (cA := cA) (q0 := q0) (q8 := q8) (b := b) (L := L) (u := u) (w := w) (xs := xs) j hj
    exact k0_pos_inj hi hj (hD.1 _ _ _ _ h1 h2 e)
  · obtain ⟨x, h1, -⟩ := k0_z (D := D) (cA := cA) (q0 := q0) (q8 := q8) (b := b) (L := L) (u := u) (w := w) (xs := xs) i hi
    exact hD.2 _ _ h1
  · obtain ⟨hk, rfl⟩ := pd_ws_of hq
    obtain ⟨x, h1, h2⟩ := k0_z (D := D) (cA := cA) (q0 := q0) (q8 := q8) (b := b) (L := L) (u := u) (w := w) (xs := xs) k hk
    exact h2 H (hP _ _ h1)
end K0
