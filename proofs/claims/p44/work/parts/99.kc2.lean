/-! The constructors with loops, but the desk's. -/
theorem kd_5_4 : decode cX5_init 4 = .ok (.aload_n 0, 1) := by decide +kernel
theorem kd_5_5 : decode cX5_init 5 = .ok (.bipush 6, 2) := by decide +kernel
theorem kd_5_7 : decode cX5_init 7 = .ok (.newarray .int, 2) := by decide +kernel
theorem kd_5_9 : decode cX5_init 9 = .ok (.putfield 9, 3) := by decide +kernel
theorem kd_5_12 : decode cX5_init 12 = .ok (.aload_n 0, 1) := by decide +kernel
theorem kd_5_13 : decode cX5_init 13 = .ok (.bipush 6, 2) := by decide +kernel
theorem kd_5_15 : decode cX5_init 15 = .ok (.newarray .int, 2) := by decide +kernel
theorem kd_5_17 : decode cX5_init 17 = .ok (.putfield 15, 3) := by decide +kernel
theorem kd_5_20 : decode cX5_init 20 = .ok (.aload_n 0, 1) := by decide +kernel
theorem kd_5_21 : decode cX5_init 21 = .ok (.new 18, 3) := by decide +kernel
theorem kd_5_24 : decode cX5_init 24 = .ok (.dup, 1) := by decide +kernel
theorem kd_5_25 : decode cX5_init 25 = .ok (.bipush 72, 2) := by decide +kernel
theorem kd_5_27 : decode cX5_init 27 = .ok (.invokespecial 20, 3) := by decide +kernel
theorem kd_5_30 : decode cX5_init 30 = .ok (.putfield 23, 3) := by decide +kernel
theorem kd_5_33 : decode cX5_init 33 = .ok (.iconst 0, 1) := by decide +kernel
theorem kd_5_34 : decode cX5_init 34 = .ok (.istore_n 1, 1) := by decide +kernel
theorem kd_5_35 : decode cX5_init 35 = .ok (.iload_n 1, 1) := by decide +kernel
theorem kd_5_36 : decode cX5_init 36 = .ok (.bipush 6, 2) := by decide +kernel
theorem kd_5_38 : decode cX5_init 38 = .ok (.if_icmp .ge 16, 3) := by decide +kernel
theorem kd_5_41 : decode cX5_init 41 = .ok (.aload_n 0, 1) := by decide +kernel
theorem kd_5_42 : decode cX5_init 42 = .ok (.getfield 9, 3) := by decide +kernel
theorem kd_5_45 : decode cX5_init 45 = .ok (.iload_n 1, 1) := by decide +kernel
theorem kd_5_46 : decode cX5_init 46 = .ok (.iconst (-1), 1) := by decide +kernel
theorem kd_5_47 : decode cX5_init 47 = .ok (.iastore, 1) := by decide +kernel
theorem kd_5_48 : decode cX5_init 48 = .ok (.iinc 1 1, 3) := by decide +kernel
theorem kd_5_51 : decode cX5_init 51 = .ok (.goto (-16), 3) := by decide +kernel
theorem kd_5_54 : decode cX5_init 54 = .ok (.return_, 1) := by decide +kernel
theorem kd_5_0 : decode cX5_init 0 = .ok (.aload_n 0, 1) := by decide +kernel
theorem kd_5_1 : decode cX5_init 1 = .ok (.invokespecial 3, 3) := by decide +kernel
def kh_X5 (cA : Nat → ClassId) (h0 : Nat) (u : kc_S) : va_W := (h0, .inr (5, [.ref (u.1 1), .ref (u.1 2), .ref (u.1 3)])) :: ([] ++ [(u.1 1, .inl (cA 0, 6, .inl (fun _ => -1)))] ++ [(u.1 2, .inl (cA 0, 6, .inl (fun _ => 0)))] ++ kh_X8_72 cA (u.1 3) (kc_sub u 3))
set_option maxHeartbeats 4000000 in
set_option maxRecDepth 100000 in
theorem kc_X5 (l : Launch) (D : va_G) (cA : Nat → ClassId) : kc_Met l D cA 5 yX5_init cX5_init 2 ⟨2, 5, 158, 33⟩ [] (kh_X5 cA) 5 158 := by
  refine kc_of kY_5 kw_ob_5 kw_oi kw_oc kd_5_0 kd_5_1 (Nat.le_of_ble_eq_true rfl) (Nat.le_of_ble_eq_true rfl) (fun _ => Nat.le_of_ble_eq_true rfl) ?_
  intro p e s m args below meth c h0 A Q ls hC hin hSt hl hEnd
  have hx := hC.1
  have hb := hC.2.1
  have hl : lv_has ls 2 [(0, .ref h0)] := hl
  have hSt : kc_St D A s.heap ((h0, .inr (5, [.null, .null, .null])) :: ([])) s.heap [] := hSt
  refine lv_aload_n hx hb kd_5_4 rfl (lv_at hl 0 rfl) ?_
  refine lv_bipush (v := 6) hx hb kd_5_5 (by decide) ?_
  refine kc_newa (a0 := (6, .inl (fun _ => 0))) (N' := 6) hC hSt (atype := .int) (ty := .int) rfl 0 rfl kw_ar_int (fun _ => rfl) (by decide) (by decide) (Nat.le_of_ble_eq_true rfl) (Nat.le_of_ble_eq_true rfl) (Nat.le_of_ble_eq_true rfl) kd_5_7 (fun q7 H hSt => ?_)
  have hSt : kc_St D A s.heap ((h0, .inr (5, [.null, .null, .null])) :: ([(q7, .inl (cA 0, 6, .inl (fun _ => 0)))])) H [] := hSt
  refine kc_put (t := 5) (k := 0) (idx := 9) (v := .ref q7) (fs := [.null, .null, .null]) (fs' := [.ref q7, .null, .null]) hC hin hSt (by decide) (plc := 46) (List.mem_of_getElem? (i := 6) (by decide +kernel)) (Nat.le_of_ble_eq_true rfl) rfl rfl (Nat.le_of_ble_eq_true rfl) rfl kd_5_9 (fun H locs hSt => ?_)
  refine lv_aload_n hx hb kd_5_12 rfl (lv_at hl 0 rfl) ?_
  refine lv_bipush (v := 6) hx hb kd_5_13 (by decide) ?_
  refine kc_newa (a0 := (6, .inl (fun _ => 0))) (N' := 6) hC hSt (atype := .int) (ty := .int) rfl 0 rfl kw_ar_int (fun _ => rfl) (by decide) (by decide) (Nat.le_of_ble_eq_true rfl) (Nat.le_of_ble_eq_true rfl) (Nat.le_of_ble_eq_true rfl) kd_5_15 (fun q15 H hSt => ?_)
  have hSt : kc_St D A s.heap ((h0, .inr (5, [.ref q7, .null, .null])) :: ([(q7, .inl (cA 0, 6, .inl (fun _ => 0))), (q15, .inl (cA 0, 6, .inl (fun _ => 0)))])) H locs := hSt
  refine kc_put (t := 5) (k := 1) (idx := 15) (v := .ref q15) (fs := [.ref q7, .null, .null]) (fs' := [.ref q7, .ref q15, .null]) hC hin hSt (by decide) (plc := 48) (List.mem_of_getElem? (i := 8) (by decide +kernel)) (Nat.le_of_ble_eq_true rfl) rfl rfl (Nat.le_of_ble_eq_true rfl) rfl kd_5_17 (fun H locs hSt => ?_)
  refine lv_aload_n hx hb kd_5_20 rfl (lv_at hl 0 rfl) ?_
  refine kc_new hC hSt 8 (by decide) kw_cl_5_18 kw_in_8 rfl kw_re_8 (Nat.le_of_ble_eq_true rfl) (Nat.le_of_ble_eq_true rfl) kd_5_21 (fun q21 H hSt => ?_)
  refine lv_dup hx hb kd_5_24 rfl ?_
  refine lv_bipush (v := 72) hx hb kd_5_25 (by decide) ?_
  refine kc_call (ws := (h0, .inr (5, [.ref q7, .ref q15, .null])) :: ([(q7, .inl (cA 0, 6, .inl (fun _ => 0))), (q15, .inl (cA 0, 6, .inl (fun _ => 0)))])) (q := q21) (As := [.int 72]) (kc_X8_72 l D cA) hC hSt kY_8 (Or.inl kw_ml_5_20) ⟨Nat.le_of_ble_eq_true rfl, Nat.le_of_ble_eq_true rfl⟩ rfl rfl rfl hl.1 rfl (Nat.le_of_ble_eq_true rfl) kd_5_27 ⟨Nat.le_of_ble_eq_true rfl, Nat.le_of_ble_eq_true rfl⟩ (fun u27 H locs hSt => ?_)
  have hSt : kc_St D A s.heap ((h0, .inr (5, [.ref q7, .ref q15, .null])) :: (([] : va_W) ++ ([(q7, .inl (cA 0, 6, .inl (fun _ => 0)))] : va_W) ++ ([(q15, .inl (cA 0, 6, .inl (fun _ => 0)))] : va_W) ++ kh_X8_72 cA q21 u27)) H locs := hSt
  refine kc_put (t := 5) (k := 2) (idx := 23) (v := .ref q21) (fs := [.ref q7, .ref q15, .null]) (fs' := [.ref q7, .ref q15, .ref q21]) hC hin hSt (by decide) (plc := 50) (List.mem_of_getElem? (i := 10) (by decide +kernel)) (Nat.le_of_ble_eq_true rfl) rfl rfl (Nat.le_of_ble_eq_true rfl) rfl kd_5_30 (fun H locs hSt => ?_)
  refine lv_iconst (v := 0) hx hb kd_5_33 (by decide) ?_
  refine lv_istore_n hx hb kd_5_34 rfl hl (Nat.le_of_ble_eq_true rfl) rfl (fun ls hl => ?_)
  have hl : lv_has ls 2 [(1, .int 0), (0, .ref h0)] := hl
  refine kc_fill hC (t := 5) (k := 0) (idx := 9) (ws := (h0, .inr (5, [.ref q7, .ref q15, .ref q21])) :: (([] : va_W) ++ ([(q7, .inl (cA 0, 6, .inl (fun _ => 0)))] : va_W) ++ ([(q15, .inl (cA 0, 6, .inl (fun _ => 0)))] : va_W) ++ kh_X8_72 cA q21 u27)) (a := h0) (fs := [.ref q7, .ref q15, .ref q21]) (f0 := fun _ => 0) (by decide) (plc := 46) (List.mem_of_getElem? (i := 6) (by decide +kernel)) (Nat.le_of_ble_eq_true rfl) q7 1 6 35 38 54 (by decide) (Nat.le_of_ble_eq_true rfl) rfl rfl rfl (by decide) kd_5_35 (fun H locs ls st z => lv_bipush (v := nI 6) hx hb kd_5_36 (by decide) z) kd_5_38 (by decide) kd_5_41 kd_5_42 kd_5_45 kd_5_46 kd_5_47 kd_5_48 kd_5_51 (by decide) (fun H locs ls hl hSt => ?_) _ _ _ hl hSt
  have hSt : kc_St D A s.heap ((h0, .inr (5, [.ref q7, .ref q15, .ref q21])) :: (([] : va_W) ++ ([(q7, .inl (cA 0, 6, .inl (fun _ => -1)))] : va_W) ++ ([(q15, .inl (cA 0, 6, .inl (fun _ => 0)))] : va_W) ++ kh_X8_72 cA q21 u27)) H locs := hSt
  exact hEnd 54 ls H locs (fun k => [h0, q7, q15, q21, u27.1 1, u27.1 2].getD k 0, fun _ => 0) kd_5_54 hSt
theorem kd_0_4 : decode cX0_init 4 = .ok (.aload_n 0, 1) := by decide +kernel
theorem kd_0_5 : decode cX0_init 5 = .ok (.sipush 150, 3) := by decide +kernel
theorem kd_0_8 : decode cX0_init 8 = .ok (.anewarray 9, 3) := by decide +kernel
theorem kd_0_11 : decode cX0_init 11 = .ok (.putfield 11, 3) := by decide +kernel
theorem kd_0_14 : decode cX0_init 14 = .ok (.aload_n 0, 1) := by decide +kernel
theorem kd_0_15 : decode cX0_init 15 = .ok (.bipush 25, 2) := by decide +kernel
theorem kd_0_17 : decode cX0_init 17 = .ok (.newarray .int, 2) := by decide +kernel
theorem kd_0_19 : decode cX0_init 19 = .ok (.putfield 17, 3) := by decide +kernel
theorem kd_0_22 : decode cX0_init 22 = .ok (.aload_n 0, 1) := by decide +kernel
theorem kd_0_23 : decode cX0_init 23 = .ok (.iconst 0, 1) := by decide +kernel
theorem kd_0_24 : decode cX0_init 24 = .ok (.putfield 21, 3) := by decide +kernel
theorem kd_0_27 : decode cX0_init 27 = .ok (.iconst 0, 1) := by decide +kernel
theorem kd_0_28 : decode cX0_init 28 = .ok (.istore_n 1, 1) := by decide +kernel
theorem kd_0_29 : decode cX0_init 29 = .ok (.iload_n 1, 1) := by decide +kernel
theorem kd_0_30 : decode cX0_init 30 = .ok (.sipush 150, 3) := by decide +kernel
theorem kd_0_33 : decode cX0_init 33 = .ok (.if_icmp .ge 22, 3) := by decide +kernel
theorem kd_0_36 : decode cX0_init 36 = .ok (.aload_n 0, 1) := by decide +kernel
theorem kd_0_37 : decode cX0_init 37 = .ok (.getfield 11, 3) := by decide +kernel
theorem kd_0_40 : decode cX0_init 40 = .ok (.iload_n 1, 1) := by decide +kernel
theorem kd_0_41 : decode cX0_init 41 = .ok (.new 9, 3) := by decide +kernel
theorem kd_0_44 : decode cX0_init 44 = .ok (.dup, 1) := by decide +kernel
theorem kd_0_45 : decode cX0_init 45 = .ok (.invokespecial 25, 3) := by decide +kernel
theorem kd_0_48 : decode cX0_init 48 = .ok (.aastore, 1) := by decide +kernel
theorem kd_0_49 : decode cX0_init 49 = .ok (.iinc 1 1, 3) := by decide +kernel
theorem kd_0_52 : decode cX0_init 52 = .ok (.goto (-23), 3) := by decide +kernel
theorem kd_0_55 : decode cX0_init 55 = .ok (.return_, 1) := by decide +kernel
theorem kd_0_0 : decode cX0_init 0 = .ok (.aload_n 0, 1) := by decide +kernel
theorem kd_0_1 : decode cX0_init 1 = .ok (.invokespecial 3, 3) := by decide +kernel
def kh_X0 (cA : Nat → ClassId) (h0 : Nat) (u : kc_S) : va_W := (h0, .inr (0, [.ref (u.1 1), .ref (u.1 2), .int 0])) :: ([] ++ [(u.1 1, .inl (cA 3, 150, .inr (.inr (.inr (.inr (fun i => some (u.2 i)))))))] ++ [(u.1 2, .inl (cA 0, 25, .inl (fun _ => 0)))] ++ (List.range 150).flatMap (fun i => kh_X1 cA (u.2 i) u))
set_option maxHeartbeats 4000000 in
set_option maxRecDepth 100000 in
theorem kc_X0 (l : Launch) (D : va_G) (cA : Nat → ClassId) : kc_Met l D cA 0 yX0_init cX0_init 2 ⟨2, 152, 1075, 32⟩ [] (kh_X0 cA) 152 1075 := by
  refine kc_of kY_0 kw_ob_0 kw_oi kw_oc kd_0_0 kd_0_1 (Nat.le_of_ble_eq_true rfl) (Nat.le_of_ble_eq_true rfl) (fun _ => Nat.le_of_ble_eq_true rfl) ?_
  intro p e s m args below meth c h0 A Q ls hC hin hSt hl hEnd
  have hx := hC.1
  have hb := hC.2.1
  have hl : lv_has ls 2 [(0, .ref h0)] := hl
  have hSt : kc_St D A s.heap ((h0, .inr (0, [.null, .null, .int 0])) :: ([])) s.heap [] := hSt
  refine lv_aload_n hx hb kd_0_4 rfl (lv_at hl 0 rfl) ?_
  refine lv_sipush (v := 150) hx hb kd_0_5 (by decide) ?_
  refine kc_newq (N' := 150) hC hSt (C := RX1) kw_cl_0_9 hC.2.2.2.2.2.2.2.2.1 3 rfl (by decide) (by decide) (Nat.le_of_ble_eq_true rfl) (Nat.le_of_ble_eq_true rfl) (Nat.le_of_ble_eq_true rfl) kd_0_8 (fun q8 H hSt => ?_)
  have hSt : kc_St D A s.heap ((h0, .inr (0, [.null, .null, .int 0])) :: ([(q8, .inl (cA 3, 150, .inr (.inr (.inr (.inr (fun _ => none))))))])) H [] := hSt
  refine kc_put (t := 0) (k := 0) (idx := 11) (v := .ref q8) (fs := [.null, .null, .int 0]) (fs' := [.ref q8, .null, .int 0]) hC hin hSt (by decide) (plc := 100) (List.mem_of_getElem? (i := 27) (by decide +kernel)) (Nat.le_of_ble_eq_true rfl) rfl rfl (Nat.le_of_ble_eq_true rfl) rfl kd_0_11 (fun H locs hSt => ?_)
  refine lv_aload_n hx hb kd_0_14 rfl (lv_at hl 0 rfl) ?_
  refine lv_bipush (v := 25) hx hb kd_0_15 (by decide) ?_
  refine kc_newa (a0 := (25, .inl (fun _ => 0))) (N' := 25) hC hSt (atype := .int) (ty := .int) rfl 0 rfl kw_ar_int (fun _ => rfl) (by decide) (by decide) (Nat.le_of_ble_eq_true rfl) (Nat.le_of_ble_eq_true rfl) (Nat.le_of_ble_eq_true rfl) kd_0_17 (fun q17 H hSt => ?_)
  have hSt : kc_St D A s.heap ((h0, .inr (0, [.ref q8, .null, .int 0])) :: ([(q8, .inl (cA 3, 150, .inr (.inr (.inr (.inr (fun _ => none)))))), (q17, .inl (cA 0, 25, .inl (fun _ => 0)))])) H locs := hSt
  refine kc_put (t := 0) (k := 1) (idx := 17) (v := .ref q17) (fs := [.ref q8, .null, .int 0]) (fs' := [.ref q8, .ref q17, .int 0]) hC hin hSt (by decide) (plc := 102) (List.mem_of_getElem? (i := 29) (by decide +kernel)) (Nat.le_of_ble_eq_true rfl) rfl rfl (Nat.le_of_ble_eq_true rfl) rfl kd_0_19 (fun H locs hSt => ?_)
  refine lv_aload_n hx hb kd_0_22 rfl (lv_at hl 0 rfl) ?_
  refine lv_iconst (v := 0) hx hb kd_0_23 (by decide) ?_
  refine kc_put (t := 0) (k := 2) (idx := 21) (v := .int 0) (fs := [.ref q8, .ref q17, .int 0]) (fs' := [.ref q8, .ref q17, .int 0]) hC hin hSt (by decide) (plc := 105) (List.mem_of_getElem? (i := 32) (by decide +kernel)) (Nat.le_of_ble_eq_true rfl) rfl rfl (Nat.le_of_ble_eq_true rfl) rfl kd_0_24 (fun H locs hSt => ?_)
  refine lv_iconst (v := 0) hx hb kd_0_27 (by decide) ?_
  refine lv_istore_n hx hb kd_0_28 rfl hl (Nat.le_of_ble_eq_true rfl) rfl (fun ls hl => ?_)
  have hl : lv_has ls 2 [(1, .int 0), (0, .ref h0)] := hl
  refine kc_objs hC (t := 0) (k := 0) (idx := 11) (ws := (h0, .inr (0, [.ref q8, .ref q17, .int 0])) :: ([(q8, .inl (cA 3, 150, .inr (.inr (.inr (.inr (fun _ => none)))))), (q17, .inl (cA 0, 25, .inl (fun _ => 0)))])) (a := h0) (fs := [.ref q8, .ref q17, .int 0]) (by decide) (plc := 100) (List.mem_of_getElem? (i := 27) (by decide +kernel)) (Nat.le_of_ble_eq_true rfl) q8 1 150 29 33 55 3 1 (by decide) (Nat.le_of_ble_eq_true rfl) rfl rfl rfl (by decide) rfl (by decide) (kc_X1 l D cA) kY_1 (fun _ _ => ⟨_, _, rfl⟩) (Or.inr (List.mem_of_getElem? (i := 0) rfl)) kw_cl_0_9 kw_in_1 rfl kw_re_1 ⟨Nat.le_of_ble_eq_true rfl, Nat.le_of_ble_eq_true rfl⟩ rfl rfl (Nat.le_of_ble_eq_true rfl) (Nat.le_of_ble_eq_true rfl) kd_0_29 (fun H locs cells slots ls st z => lv_sipush (v := nI 150) hx hb kd_0_30 (by decide) z) kd_0_33 (by decide) kd_0_36 kd_0_37 kd_0_40 kd_0_41 kd_0_44 kd_0_45 kd_0_48 kd_0_49 kd_0_52 (by decide) (fun H locs ls v us hl hSt => ?_) _ _ _ hl hSt
  exact hEnd 55 ls H locs (fun k => [h0, q8, q17].getD k 0, v) kd_0_55 hSt
