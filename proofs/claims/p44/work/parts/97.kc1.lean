/-! The constructors without loops. -/
def kc_sub (u : kc_S) (o : Nat) : kc_S := (fun k => u.1 (o + k), u.2)
theorem kd_1_4 : decode cX1_init 4 = .ok (.aload_n 0, 1) := by decide +kernel
theorem kd_1_5 : decode cX1_init 5 = .ok (.iconst (-1), 1) := by decide +kernel
theorem kd_1_6 : decode cX1_init 6 = .ok (.putfield 9, 3) := by decide +kernel
theorem kd_1_9 : decode cX1_init 9 = .ok (.aload_n 0, 1) := by decide +kernel
theorem kd_1_10 : decode cX1_init 10 = .ok (.iconst 0, 1) := by decide +kernel
theorem kd_1_11 : decode cX1_init 11 = .ok (.putfield 15, 3) := by decide +kernel
theorem kd_1_14 : decode cX1_init 14 = .ok (.aload_n 0, 1) := by decide +kernel
theorem kd_1_15 : decode cX1_init 15 = .ok (.iconst 0, 1) := by decide +kernel
theorem kd_1_16 : decode cX1_init 16 = .ok (.putfield 18, 3) := by decide +kernel
theorem kd_1_19 : decode cX1_init 19 = .ok (.aload_n 0, 1) := by decide +kernel
theorem kd_1_20 : decode cX1_init 20 = .ok (.iconst 0, 1) := by decide +kernel
theorem kd_1_21 : decode cX1_init 21 = .ok (.putfield 21, 3) := by decide +kernel
theorem kd_1_24 : decode cX1_init 24 = .ok (.aload_n 0, 1) := by decide +kernel
theorem kd_1_25 : decode cX1_init 25 = .ok (.iconst 0, 1) := by decide +kernel
theorem kd_1_26 : decode cX1_init 26 = .ok (.putfield 24, 3) := by decide +kernel
theorem kd_1_29 : decode cX1_init 29 = .ok (.aload_n 0, 1) := by decide +kernel
theorem kd_1_30 : decode cX1_init 30 = .ok (.iconst 0, 1) := by decide +kernel
theorem kd_1_31 : decode cX1_init 31 = .ok (.putfield 27, 3) := by decide +kernel
theorem kd_1_34 : decode cX1_init 34 = .ok (.return_, 1) := by decide +kernel
theorem kd_1_0 : decode cX1_init 0 = .ok (.aload_n 0, 1) := by decide +kernel
theorem kd_1_1 : decode cX1_init 1 = .ok (.invokespecial 3, 3) := by decide +kernel
def kh_X1 (cA : Nat → ClassId) (h0 : Nat) (u : kc_S) : va_W := [(h0, .inr (1, [.int (-1), .int 0, .int 0, .int 0, .int 0, .int 0]))]
set_option maxHeartbeats 4000000 in
set_option maxRecDepth 100000 in
theorem kc_X1 (l : Launch) (D : va_G) (cA : Nat → ClassId) : kc_Met l D cA 1 yX1_init cX1_init 1 ⟨1, 0, 0, 12⟩ [] (kh_X1 cA) 0 0 := by
  refine kc_of kY_1 kw_ob_1 kw_oi kw_oc kd_1_0 kd_1_1 (Nat.le_of_ble_eq_true rfl) (Nat.le_of_ble_eq_true rfl) (fun _ => Nat.le_of_ble_eq_true rfl) ?_
  intro p e s m args below meth c h0 A Q ls hC hin hSt hl hEnd
  have hx := hC.1
  have hb := hC.2.1
  have hl : lv_has ls 1 [(0, .ref h0)] := hl
  have hSt : kc_St D A s.heap ((h0, .inr (1, [.int 0, .int 0, .int 0, .int 0, .int 0, .int 0])) :: ([])) s.heap [] := hSt
  refine lv_aload_n hx hb kd_1_4 rfl (lv_at hl 0 rfl) ?_
  refine lv_iconst (v := (-1)) hx hb kd_1_5 (by decide) ?_
  refine kc_put (t := 1) (k := 0) (idx := 9) (v := .int (-1)) (fs := [.int 0, .int 0, .int 0, .int 0, .int 0, .int 0]) (fs' := [.int (-1), .int 0, .int 0, .int 0, .int 0, .int 0]) hC hin hSt (by decide) (plc := 73) (List.mem_of_getElem? (i := 13) (by decide +kernel)) (Nat.le_of_ble_eq_true rfl) rfl rfl (Nat.le_of_ble_eq_true rfl) rfl kd_1_6 (fun H locs hSt => ?_)
  refine lv_aload_n hx hb kd_1_9 rfl (lv_at hl 0 rfl) ?_
  refine lv_iconst (v := 0) hx hb kd_1_10 (by decide) ?_
  refine kc_put (t := 1) (k := 1) (idx := 15) (v := .int 0) (fs := [.int (-1), .int 0, .int 0, .int 0, .int 0, .int 0]) (fs' := [.int (-1), .int 0, .int 0, .int 0, .int 0, .int 0]) hC hin hSt (by decide) (plc := 76) (List.mem_of_getElem? (i := 16) (by decide +kernel)) (Nat.le_of_ble_eq_true rfl) rfl rfl (Nat.le_of_ble_eq_true rfl) rfl kd_1_11 (fun H locs hSt => ?_)
  refine lv_aload_n hx hb kd_1_14 rfl (lv_at hl 0 rfl) ?_
  refine lv_iconst (v := 0) hx hb kd_1_15 (by decide) ?_
  refine kc_put (t := 1) (k := 2) (idx := 18) (v := .int 0) (fs := [.int (-1), .int 0, .int 0, .int 0, .int 0, .int 0]) (fs' := [.int (-1), .int 0, .int 0, .int 0, .int 0, .int 0]) hC hin hSt (by decide) (plc := 78) (List.mem_of_getElem? (i := 18) (by decide +kernel)) (Nat.le_of_ble_eq_true rfl) rfl rfl (Nat.le_of_ble_eq_true rfl) rfl kd_1_16 (fun H locs hSt => ?_)
  refine lv_aload_n hx hb kd_1_19 rfl (lv_at hl 0 rfl) ?_
  refine lv_iconst (v := 0) hx hb kd_1_20 (by decide) ?_
  refine kc_put (t := 1) (k := 3) (idx := 21) (v := .int 0) (fs := [.int (-1), .int 0, .int 0, .int 0, .int 0, .int 0]) (fs' := [.int (-1), .int 0, .int 0, .int 0, .int 0, .int 0]) hC hin hSt (by decide) (plc := 80) (List.mem_of_getElem? (i := 20) (by decide +kernel)) (Nat.le_of_ble_eq_true rfl) rfl rfl (Nat.le_of_ble_eq_true rfl) rfl kd_1_21 (fun H locs hSt => ?_)
  refine lv_aload_n hx hb kd_1_24 rfl (lv_at hl 0 rfl) ?_
  refine lv_iconst (v := 0) hx hb kd_1_25 (by decide) ?_
  refine kc_put (t := 1) (k := 4) (idx := 24) (v := .int 0) (fs := [.int (-1), .int 0, .int 0, .int 0, .int 0, .int 0]) (fs' := [.int (-1), .int 0, .int 0, .int 0, .int 0, .int 0]) hC hin hSt (by decide) (plc := 83) (List.mem_of_getElem? (i := 23) (by decide +kernel)) (Nat.le_of_ble_eq_true rfl) rfl rfl (Nat.le_of_ble_eq_true rfl) rfl kd_1_26 (fun H locs hSt => ?_)
  refine lv_aload_n hx hb kd_1_29 rfl (lv_at hl 0 rfl) ?_
  refine lv_iconst (v := 0) hx hb kd_1_30 (by decide) ?_
  refine kc_put (t := 1) (k := 5) (idx := 27) (v := .int 0) (fs := [.int (-1), .int 0, .int 0, .int 0, .int 0, .int 0]) (fs' := [.int (-1), .int 0, .int 0, .int 0, .int 0, .int 0]) hC hin hSt (by decide) (plc := 85) (List.mem_of_getElem? (i := 25) (by decide +kernel)) (Nat.le_of_ble_eq_true rfl) rfl rfl (Nat.le_of_ble_eq_true rfl) rfl kd_1_31 (fun H locs hSt => ?_)
  exact hEnd 34 ls H locs (fun k => [h0].getD k 0, fun _ => 0) kd_1_34 hSt
theorem kd_4_4 : decode cX4_init 4 = .ok (.aload_n 0, 1) := by decide +kernel
theorem kd_4_5 : decode cX4_init 5 = .ok (.bipush 24, 2) := by decide +kernel
theorem kd_4_7 : decode cX4_init 7 = .ok (.newarray .int, 2) := by decide +kernel
theorem kd_4_9 : decode cX4_init 9 = .ok (.putfield 9, 3) := by decide +kernel
theorem kd_4_12 : decode cX4_init 12 = .ok (.aload_n 0, 1) := by decide +kernel
theorem kd_4_13 : decode cX4_init 13 = .ok (.iconst 0, 1) := by decide +kernel
theorem kd_4_14 : decode cX4_init 14 = .ok (.putfield 15, 3) := by decide +kernel
theorem kd_4_17 : decode cX4_init 17 = .ok (.return_, 1) := by decide +kernel
theorem kd_4_0 : decode cX4_init 0 = .ok (.aload_n 0, 1) := by decide +kernel
theorem kd_4_1 : decode cX4_init 1 = .ok (.invokespecial 3, 3) := by decide +kernel
def kh_X4 (cA : Nat → ClassId) (h0 : Nat) (u : kc_S) : va_W := [(h0, .inr (4, [.ref (u.1 1), .int 0])), (u.1 1, .inl (cA 0, 24, .inl (fun _ => 0)))]
set_option maxHeartbeats 4000000 in
set_option maxRecDepth 100000 in
theorem kc_X4 (l : Launch) (D : va_G) (cA : Nat → ClassId) : kc_Met l D cA 4 yX4_init cX4_init 1 ⟨1, 1, 24, 12⟩ [] (kh_X4 cA) 1 24 := by
  refine kc_of kY_4 kw_ob_4 kw_oi kw_oc kd_4_0 kd_4_1 (Nat.le_of_ble_eq_true rfl) (Nat.le_of_ble_eq_true rfl) (fun _ => Nat.le_of_ble_eq_true rfl) ?_
  intro p e s m args below meth c h0 A Q ls hC hin hSt hl hEnd
  have hx := hC.1
  have hb := hC.2.1
  have hl : lv_has ls 1 [(0, .ref h0)] := hl
  have hSt : kc_St D A s.heap ((h0, .inr (4, [.null, .int 0])) :: ([])) s.heap [] := hSt
  refine lv_aload_n hx hb kd_4_4 rfl (lv_at hl 0 rfl) ?_
  refine lv_bipush (v := 24) hx hb kd_4_5 (by decide) ?_
  refine kc_newa (a0 := (24, .inl (fun _ => 0))) (N' := 24) hC hSt (atype := .int) (ty := .int) rfl 0 rfl kw_ar_int (fun _ => rfl) (by decide) (by decide) (Nat.le_of_ble_eq_true rfl) (Nat.le_of_ble_eq_true rfl) (Nat.le_of_ble_eq_true rfl) kd_4_7 (fun q7 H hSt => ?_)
  have hSt : kc_St D A s.heap ((h0, .inr (4, [.null, .int 0])) :: ([(q7, .inl (cA 0, 24, .inl (fun _ => 0)))])) H [] := hSt
  refine kc_put (t := 4) (k := 0) (idx := 9) (v := .ref q7) (fs := [.null, .int 0]) (fs' := [.ref q7, .int 0]) hC hin hSt (by decide) (plc := 173) (List.mem_of_getElem? (i := 44) (by decide +kernel)) (Nat.le_of_ble_eq_true rfl) rfl rfl (Nat.le_of_ble_eq_true rfl) rfl kd_4_9 (fun H locs hSt => ?_)
  refine lv_aload_n hx hb kd_4_12 rfl (lv_at hl 0 rfl) ?_
  refine lv_iconst (v := 0) hx hb kd_4_13 (by decide) ?_
  refine kc_put (t := 4) (k := 1) (idx := 15) (v := .int 0) (fs := [.ref q7, .int 0]) (fs' := [.ref q7, .int 0]) hC hin hSt (by decide) (plc := 176) (List.mem_of_getElem? (i := 47) (by decide +kernel)) (Nat.le_of_ble_eq_true rfl) rfl rfl (Nat.le_of_ble_eq_true rfl) rfl kd_4_14 (fun H locs hSt => ?_)
  exact hEnd 17 ls H locs (fun k => [h0, q7].getD k 0, fun _ => 0) kd_4_17 hSt
theorem kd_3_4 : decode cX3_init 4 = .ok (.aload_n 0, 1) := by decide +kernel
theorem kd_3_5 : decode cX3_init 5 = .ok (.sipush 167, 3) := by decide +kernel
theorem kd_3_8 : decode cX3_init 8 = .ok (.newarray .int, 2) := by decide +kernel
theorem kd_3_10 : decode cX3_init 10 = .ok (.putfield 9, 3) := by decide +kernel
theorem kd_3_13 : decode cX3_init 13 = .ok (.aload_n 0, 1) := by decide +kernel
theorem kd_3_14 : decode cX3_init 14 = .ok (.iconst 0, 1) := by decide +kernel
theorem kd_3_15 : decode cX3_init 15 = .ok (.putfield 15, 3) := by decide +kernel
theorem kd_3_18 : decode cX3_init 18 = .ok (.return_, 1) := by decide +kernel
theorem kd_3_0 : decode cX3_init 0 = .ok (.aload_n 0, 1) := by decide +kernel
theorem kd_3_1 : decode cX3_init 1 = .ok (.invokespecial 3, 3) := by decide +kernel
def kh_X3 (cA : Nat → ClassId) (h0 : Nat) (u : kc_S) : va_W := [(h0, .inr (3, [.ref (u.1 1), .int 0])), (u.1 1, .inl (cA 0, 167, .inl (fun _ => 0)))]
set_option maxHeartbeats 4000000 in
set_option maxRecDepth 100000 in
theorem kc_X3 (l : Launch) (D : va_G) (cA : Nat → ClassId) : kc_Met l D cA 3 yX3_init cX3_init 1 ⟨1, 1, 167, 12⟩ [] (kh_X3 cA) 1 167 := by
  refine kc_of kY_3 kw_ob_3 kw_oi kw_oc kd_3_0 kd_3_1 (Nat.le_of_ble_eq_true rfl) (Nat.le_of_ble_eq_true rfl) (fun _ => Nat.le_of_ble_eq_true rfl) ?_
  intro p e s m args below meth c h0 A Q ls hC hin hSt hl hEnd
  have hx := hC.1
  have hb := hC.2.1
  have hl : lv_has ls 1 [(0, .ref h0)] := hl
  have hSt : kc_St D A s.heap ((h0, .inr (3, [.null, .int 0])) :: ([])) s.heap [] := hSt
  refine lv_aload_n hx hb kd_3_4 rfl (lv_at hl 0 rfl) ?_
  refine lv_sipush (v := 167) hx hb kd_3_5 (by decide) ?_
  refine kc_newa (a0 := (167, .inl (fun _ => 0))) (N' := 167) hC hSt (atype := .int) (ty := .int) rfl 0 rfl kw_ar_int (fun _ => rfl) (by decide) (by decide) (Nat.le_of_ble_eq_true rfl) (Nat.le_of_ble_eq_true rfl) (Nat.le_of_ble_eq_true rfl) kd_3_8 (fun q8 H hSt => ?_)
  have hSt : kc_St D A s.heap ((h0, .inr (3, [.null, .int 0])) :: ([(q8, .inl (cA 0, 167, .inl (fun _ => 0)))])) H [] := hSt
  refine kc_put (t := 3) (k := 0) (idx := 9) (v := .ref q8) (fs := [.null, .int 0]) (fs' := [.ref q8, .int 0]) hC hin hSt (by decide) (plc := 150) (List.mem_of_getElem? (i := 41) (by decide +kernel)) (Nat.le_of_ble_eq_true rfl) rfl rfl (Nat.le_of_ble_eq_true rfl) rfl kd_3_10 (fun H locs hSt => ?_)
  refine lv_aload_n hx hb kd_3_13 rfl (lv_at hl 0 rfl) ?_
  refine lv_iconst (v := 0) hx hb kd_3_14 (by decide) ?_
  refine kc_put (t := 3) (k := 1) (idx := 15) (v := .int 0) (fs := [.ref q8, .int 0]) (fs' := [.ref q8, .int 0]) hC hin hSt (by decide) (plc := 151) (List.mem_of_getElem? (i := 42) (by decide +kernel)) (Nat.le_of_ble_eq_true rfl) rfl rfl (Nat.le_of_ble_eq_true rfl) rfl kd_3_15 (fun H locs hSt => ?_)
  exact hEnd 18 ls H locs (fun k => [h0, q8].getD k 0, fun _ => 0) kd_3_18 hSt
theorem kd_6_4 : decode cX6_init 4 = .ok (.aload_n 0, 1) := by decide +kernel
theorem kd_6_5 : decode cX6_init 5 = .ok (.bipush 108, 2) := by decide +kernel
theorem kd_6_7 : decode cX6_init 7 = .ok (.newarray .int, 2) := by decide +kernel
theorem kd_6_9 : decode cX6_init 9 = .ok (.putfield 9, 3) := by decide +kernel
theorem kd_6_12 : decode cX6_init 12 = .ok (.return_, 1) := by decide +kernel
theorem kd_6_0 : decode cX6_init 0 = .ok (.aload_n 0, 1) := by decide +kernel
theorem kd_6_1 : decode cX6_init 1 = .ok (.invokespecial 3, 3) := by decide +kernel
def kh_X6 (cA : Nat → ClassId) (h0 : Nat) (u : kc_S) : va_W := [(h0, .inr (6, [.ref (u.1 1)])), (u.1 1, .inl (cA 0, 108, .inl (fun _ => 0)))]
set_option maxHeartbeats 4000000 in
set_option maxRecDepth 100000 in
theorem kc_X6 (l : Launch) (D : va_G) (cA : Nat → ClassId) : kc_Met l D cA 6 yX6_init cX6_init 1 ⟨1, 1, 108, 12⟩ [] (kh_X6 cA) 1 108 := by
  refine kc_of kY_6 kw_ob_6 kw_oi kw_oc kd_6_0 kd_6_1 (Nat.le_of_ble_eq_true rfl) (Nat.le_of_ble_eq_true rfl) (fun _ => Nat.le_of_ble_eq_true rfl) ?_
  intro p e s m args below meth c h0 A Q ls hC hin hSt hl hEnd
  have hx := hC.1
  have hb := hC.2.1
  have hl : lv_has ls 1 [(0, .ref h0)] := hl
  have hSt : kc_St D A s.heap ((h0, .inr (6, [.null])) :: ([])) s.heap [] := hSt
  refine lv_aload_n hx hb kd_6_4 rfl (lv_at hl 0 rfl) ?_
  refine lv_bipush (v := 108) hx hb kd_6_5 (by decide) ?_
  refine kc_newa (a0 := (108, .inl (fun _ => 0))) (N' := 108) hC hSt (atype := .int) (ty := .int) rfl 0 rfl kw_ar_int (fun _ => rfl) (by decide) (by decide) (Nat.le_of_ble_eq_true rfl) (Nat.le_of_ble_eq_true rfl) (Nat.le_of_ble_eq_true rfl) kd_6_7 (fun q7 H hSt => ?_)
  have hSt : kc_St D A s.heap ((h0, .inr (6, [.null])) :: ([(q7, .inl (cA 0, 108, .inl (fun _ => 0)))])) H [] := hSt
  refine kc_put (t := 6) (k := 0) (idx := 9) (v := .ref q7) (fs := [.null]) (fs' := [.ref q7]) hC hin hSt (by decide) (plc := 163) (List.mem_of_getElem? (i := 43) (by decide +kernel)) (Nat.le_of_ble_eq_true rfl) rfl rfl (Nat.le_of_ble_eq_true rfl) rfl kd_6_9 (fun H locs hSt => ?_)
  exact hEnd 12 ls H locs (fun k => [h0, q7].getD k 0, fun _ => 0) kd_6_12 hSt
theorem kd_8_4 : decode cX8_init 4 = .ok (.aload_n 0, 1) := by decide +kernel
theorem kd_8_5 : decode cX8_init 5 = .ok (.iload_n 1, 1) := by decide +kernel
theorem kd_8_6 : decode cX8_init 6 = .ok (.newarray .int, 2) := by decide +kernel
theorem kd_8_8 : decode cX8_init 8 = .ok (.putfield 7, 3) := by decide +kernel
theorem kd_8_11 : decode cX8_init 11 = .ok (.aload_n 0, 1) := by decide +kernel
theorem kd_8_12 : decode cX8_init 12 = .ok (.iload_n 1, 1) := by decide +kernel
theorem kd_8_13 : decode cX8_init 13 = .ok (.newarray .long, 2) := by decide +kernel
theorem kd_8_15 : decode cX8_init 15 = .ok (.putfield 13, 3) := by decide +kernel
theorem kd_8_18 : decode cX8_init 18 = .ok (.return_, 1) := by decide +kernel
theorem kd_8_0 : decode cX8_init 0 = .ok (.aload_n 0, 1) := by decide +kernel
theorem kd_8_1 : decode cX8_init 1 = .ok (.invokespecial 1, 3) := by decide +kernel
def kh_X8_72 (cA : Nat → ClassId) (h0 : Nat) (u : kc_S) : va_W := [(h0, .inr (8, [.ref (u.1 1), .ref (u.1 2)])), (u.1 1, .inl (cA 0, 72, .inl (fun _ => 0))), (u.1 2, .inl (cA 1, 72, .inr (.inl (fun _ => 0))))]
set_option maxHeartbeats 4000000 in
set_option maxRecDepth 100000 in
theorem kc_X8_72 (l : Launch) (D : va_G) (cA : Nat → ClassId) : kc_Met l D cA 8 yX8_init cX8_init 2 ⟨1, 2, 144, 12⟩ [.int 72] (kh_X8_72 cA) 2 144 := by
  refine kc_of kY_8 kw_ob_8 kw_oi kw_oc kd_8_0 kd_8_1 (Nat.le_of_ble_eq_true rfl) (Nat.le_of_ble_eq_true rfl) (fun _ => Nat.le_of_ble_eq_true rfl) ?_
  intro p e s m args below meth c h0 A Q ls hC hin hSt hl hEnd
  have hx := hC.1
  have hb := hC.2.1
  have hl : lv_has ls 2 [(0, .ref h0), (1, .int 72)] := hl
  have hSt : kc_St D A s.heap ((h0, .inr (8, [.null, .null])) :: ([])) s.heap [] := hSt
  refine lv_aload_n hx hb kd_8_4 rfl (lv_at hl 0 rfl) ?_
  refine lv_iload_n hx hb kd_8_5 rfl (lv_at hl 1 rfl) ?_
  refine kc_newa (a0 := (72, .inl (fun _ => 0))) (N' := 72) hC hSt (atype := .int) (ty := .int) rfl 0 rfl kw_ar_int (fun _ => rfl) (by decide) (by decide) (Nat.le_of_ble_eq_true rfl) (Nat.le_of_ble_eq_true rfl) (Nat.le_of_ble_eq_true rfl) kd_8_6 (fun q6 H hSt => ?_)
  have hSt : kc_St D A s.heap ((h0, .inr (8, [.null, .null])) :: ([(q6, .inl (cA 0, 72, .inl (fun _ => 0)))])) H [] := hSt
  refine kc_put (t := 8) (k := 0) (idx := 7) (v := .ref q6) (fs := [.null, .null]) (fs' := [.ref q6, .null]) hC hin hSt (by decide) (plc := 33) (List.mem_of_getElem? (i := 0) (by decide +kernel)) (Nat.le_of_ble_eq_true rfl) rfl rfl (Nat.le_of_ble_eq_true rfl) rfl kd_8_8 (fun H locs hSt => ?_)
  refine lv_aload_n hx hb kd_8_11 rfl (lv_at hl 0 rfl) ?_
  refine lv_iload_n hx hb kd_8_12 rfl (lv_at hl 1 rfl) ?_
  refine kc_newa (a0 := (72, .inr (.inl (fun _ => 0)))) (N' := 72) hC hSt (atype := .long) (ty := .long) rfl 1 rfl kw_ar_long (fun _ => rfl) (by decide) (by decide) (Nat.le_of_ble_eq_true rfl) (Nat.le_of_ble_eq_true rfl) (Nat.le_of_ble_eq_true rfl) kd_8_13 (fun q13 H hSt => ?_)
  have hSt : kc_St D A s.heap ((h0, .inr (8, [.ref q6, .null])) :: ([(q6, .inl (cA 0, 72, .inl (fun _ => 0))), (q13, .inl (cA 1, 72, .inr (.inl (fun _ => 0))))])) H locs := hSt
  refine kc_put (t := 8) (k := 1) (idx := 13) (v := .ref q13) (fs := [.ref q6, .null]) (fs' := [.ref q6, .ref q13]) hC hin hSt (by decide) (plc := 36) (List.mem_of_getElem? (i := 3) (by decide +kernel)) (Nat.le_of_ble_eq_true rfl) rfl rfl (Nat.le_of_ble_eq_true rfl) rfl kd_8_15 (fun H locs hSt => ?_)
  exact hEnd 18 ls H locs (fun k => [h0, q6, q13].getD k 0, fun _ => 0) kd_8_18 hSt
def kh_X8_150 (cA : Nat → ClassId) (h0 : Nat) (u : kc_S) : va_W := [(h0, .inr (8, [.ref (u.1 1), .ref (u.1 2)])), (u.1 1, .inl (cA 0, 150, .inl (fun _ => 0))), (u.1 2, .inl (cA 1, 150, .inr (.inl (fun _ => 0))))]
set_option maxHeartbeats 4000000 in
set_option maxRecDepth 100000 in
theorem kc_X8_150 (l : Launch) (D : va_G) (cA : Nat → ClassId) : kc_Met l D cA 8 yX8_init cX8_init 2 ⟨1, 2, 300, 12⟩ [.int 150] (kh_X8_150 cA) 2 300 := by
  refine kc_of kY_8 kw_ob_8 kw_oi kw_oc kd_8_0 kd_8_1 (Nat.le_of_ble_eq_true rfl) (Nat.le_of_ble_eq_true rfl) (fun _ => Nat.le_of_ble_eq_true rfl) ?_
  intro p e s m args below meth c h0 A Q ls hC hin hSt hl hEnd
  have hx := hC.1
  have hb := hC.2.1
  have hl : lv_has ls 2 [(0, .ref h0), (1, .int 150)] := hl
  have hSt : kc_St D A s.heap ((h0, .inr (8, [.null, .null])) :: ([])) s.heap [] := hSt
  refine lv_aload_n hx hb kd_8_4 rfl (lv_at hl 0 rfl) ?_
  refine lv_iload_n hx hb kd_8_5 rfl (lv_at hl 1 rfl) ?_
  refine kc_newa (a0 := (150, .inl (fun _ => 0))) (N' := 150) hC hSt (atype := .int) (ty := .int) rfl 0 rfl kw_ar_int (fun _ => rfl) (by decide) (by decide) (Nat.le_of_ble_eq_true rfl) (Nat.le_of_ble_eq_true rfl) (Nat.le_of_ble_eq_true rfl) kd_8_6 (fun q6 H hSt => ?_)
  have hSt : kc_St D A s.heap ((h0, .inr (8, [.null, .null])) :: ([(q6, .inl (cA 0, 150, .inl (fun _ => 0)))])) H [] := hSt
  refine kc_put (t := 8) (k := 0) (idx := 7) (v := .ref q6) (fs := [.null, .null]) (fs' := [.ref q6, .null]) hC hin hSt (by decide) (plc := 33) (List.mem_of_getElem? (i := 0) (by decide +kernel)) (Nat.le_of_ble_eq_true rfl) rfl rfl (Nat.le_of_ble_eq_true rfl) rfl kd_8_8 (fun H locs hSt => ?_)
  refine lv_aload_n hx hb kd_8_11 rfl (lv_at hl 0 rfl) ?_
  refine lv_iload_n hx hb kd_8_12 rfl (lv_at hl 1 rfl) ?_
  refine kc_newa (a0 := (150, .inr (.inl (fun _ => 0)))) (N' := 150) hC hSt (atype := .long) (ty := .long) rfl 1 rfl kw_ar_long (fun _ => rfl) (by decide) (by decide) (Nat.le_of_ble_eq_true rfl) (Nat.le_of_ble_eq_true rfl) (Nat.le_of_ble_eq_true rfl) kd_8_13 (fun q13 H hSt => ?_)
  have hSt : kc_St D A s.heap ((h0, .inr (8, [.ref q6, .null])) :: ([(q6, .inl (cA 0, 150, .inl (fun _ => 0))), (q13, .inl (cA 1, 150, .inr (.inl (fun _ => 0))))])) H locs := hSt
  refine kc_put (t := 8) (k := 1) (idx := 13) (v := .ref q13) (fs := [.ref q6, .null]) (fs' := [.ref q6, .ref q13]) hC hin hSt (by decide) (plc := 36) (List.mem_of_getElem? (i := 3) (by decide +kernel)) (Nat.le_of_ble_eq_true rfl) rfl rfl (Nat.le_of_ble_eq_true rfl) rfl kd_8_15 (fun H locs hSt => ?_)
  exact hEnd 18 ls H locs (fun k => [h0, q6, q13].getD k 0, fun _ => 0) kd_8_18 hSt
theorem kd_7_4 : decode cX7_init 4 = .ok (.aload_n 0, 1) := by decide +kernel
theorem kd_7_5 : decode cX7_init 5 = .ok (.bipush 80, 2) := by decide +kernel
theorem kd_7_7 : decode cX7_init 7 = .ok (.newarray .int, 2) := by decide +kernel
theorem kd_7_9 : decode cX7_init 9 = .ok (.putfield 9, 3) := by decide +kernel
theorem kd_7_12 : decode cX7_init 12 = .ok (.aload_n 0, 1) := by decide +kernel
theorem kd_7_13 : decode cX7_init 13 = .ok (.new 15, 3) := by decide +kernel
theorem kd_7_16 : decode cX7_init 16 = .ok (.dup, 1) := by decide +kernel
theorem kd_7_17 : decode cX7_init 17 = .ok (.invokespecial 17, 3) := by decide +kernel
theorem kd_7_20 : decode cX7_init 20 = .ok (.putfield 18, 3) := by decide +kernel
theorem kd_7_23 : decode cX7_init 23 = .ok (.aload_n 0, 1) := by decide +kernel
theorem kd_7_24 : decode cX7_init 24 = .ok (.iconst 0, 1) := by decide +kernel
theorem kd_7_25 : decode cX7_init 25 = .ok (.putfield 22, 3) := by decide +kernel
theorem kd_7_28 : decode cX7_init 28 = .ok (.aload_n 0, 1) := by decide +kernel
theorem kd_7_29 : decode cX7_init 29 = .ok (.iconst 0, 1) := by decide +kernel
theorem kd_7_30 : decode cX7_init 30 = .ok (.putfield 26, 3) := by decide +kernel
theorem kd_7_33 : decode cX7_init 33 = .ok (.aload_n 0, 1) := by decide +kernel
theorem kd_7_34 : decode cX7_init 34 = .ok (.iconst 0, 1) := by decide +kernel
theorem kd_7_35 : decode cX7_init 35 = .ok (.putfield 29, 3) := by decide +kernel
theorem kd_7_38 : decode cX7_init 38 = .ok (.aload_n 0, 1) := by decide +kernel
theorem kd_7_39 : decode cX7_init 39 = .ok (.iconst 0, 1) := by decide +kernel
theorem kd_7_40 : decode cX7_init 40 = .ok (.putfield 32, 3) := by decide +kernel
theorem kd_7_43 : decode cX7_init 43 = .ok (.aload_n 0, 1) := by decide +kernel
theorem kd_7_44 : decode cX7_init 44 = .ok (.iconst 0, 1) := by decide +kernel
theorem kd_7_45 : decode cX7_init 45 = .ok (.putfield 35, 3) := by decide +kernel
theorem kd_7_48 : decode cX7_init 48 = .ok (.return_, 1) := by decide +kernel
theorem kd_7_0 : decode cX7_init 0 = .ok (.aload_n 0, 1) := by decide +kernel
theorem kd_7_1 : decode cX7_init 1 = .ok (.invokespecial 3, 3) := by decide +kernel
def kh_X7 (cA : Nat → ClassId) (h0 : Nat) (u : kc_S) : va_W := (h0, .inr (7, [.ref (u.1 1), .ref (u.1 2), .int 0, .int 0, .int 0, .int 0, .int 0])) :: ([] ++ [(u.1 1, .inl (cA 0, 80, .inl (fun _ => 0)))] ++ kh_X1 cA (u.1 2) (kc_sub u 2))
set_option maxHeartbeats 4000000 in
set_option maxRecDepth 100000 in
theorem kc_X7 (l : Launch) (D : va_G) (cA : Nat → ClassId) : kc_Met l D cA 7 yX7_init cX7_init 1 ⟨2, 2, 86, 32⟩ [] (kh_X7 cA) 2 86 := by
  refine kc_of kY_7 kw_ob_7 kw_oi kw_oc kd_7_0 kd_7_1 (Nat.le_of_ble_eq_true rfl) (Nat.le_of_ble_eq_true rfl) (fun _ => Nat.le_of_ble_eq_true rfl) ?_
  intro p e s m args below meth c h0 A Q ls hC hin hSt hl hEnd
  have hx := hC.1
  have hb := hC.2.1
  have hl : lv_has ls 1 [(0, .ref h0)] := hl
  have hSt : kc_St D A s.heap ((h0, .inr (7, [.null, .null, .int 0, .int 0, .int 0, .int 0, .int 0])) :: ([])) s.heap [] := hSt
  refine lv_aload_n hx hb kd_7_4 rfl (lv_at hl 0 rfl) ?_
  refine lv_bipush (v := 80) hx hb kd_7_5 (by decide) ?_
  refine kc_newa (a0 := (80, .inl (fun _ => 0))) (N' := 80) hC hSt (atype := .int) (ty := .int) rfl 0 rfl kw_ar_int (fun _ => rfl) (by decide) (by decide) (Nat.le_of_ble_eq_true rfl) (Nat.le_of_ble_eq_true rfl) (Nat.le_of_ble_eq_true rfl) kd_7_7 (fun q7 H hSt => ?_)
  have hSt : kc_St D A s.heap ((h0, .inr (7, [.null, .null, .int 0, .int 0, .int 0, .int 0, .int 0])) :: ([(q7, .inl (cA 0, 80, .inl (fun _ => 0)))])) H [] := hSt
  refine kc_put (t := 7) (k := 0) (idx := 9) (v := .ref q7) (fs := [.null, .null, .int 0, .int 0, .int 0, .int 0, .int 0]) (fs' := [.ref q7, .null, .int 0, .int 0, .int 0, .int 0, .int 0]) hC hin hSt (by decide) (plc := 122) (List.mem_of_getElem? (i := 34) (by decide +kernel)) (Nat.le_of_ble_eq_true rfl) rfl rfl (Nat.le_of_ble_eq_true rfl) rfl kd_7_9 (fun H locs hSt => ?_)
  refine lv_aload_n hx hb kd_7_12 rfl (lv_at hl 0 rfl) ?_
  refine kc_new hC hSt 1 (by decide) kw_cl_7_15 kw_in_1 rfl kw_re_1 (Nat.le_of_ble_eq_true rfl) (Nat.le_of_ble_eq_true rfl) kd_7_13 (fun q13 H hSt => ?_)
  refine lv_dup hx hb kd_7_16 rfl ?_
  refine kc_call (ws := (h0, .inr (7, [.ref q7, .null, .int 0, .int 0, .int 0, .int 0, .int 0])) :: ([(q7, .inl (cA 0, 80, .inl (fun _ => 0)))])) (q := q13) (As := []) (kc_X1 l D cA) hC hSt kY_1 (Or.inr (List.mem_of_getElem? (i := 2) rfl)) ⟨Nat.le_of_ble_eq_true rfl, Nat.le_of_ble_eq_true rfl⟩ rfl rfl rfl hl.1 rfl (Nat.le_of_ble_eq_true rfl) kd_7_17 ⟨Nat.le_of_ble_eq_true rfl, Nat.le_of_ble_eq_true rfl⟩ (fun u17 H locs hSt => ?_)
  have hSt : kc_St D A s.heap ((h0, .inr (7, [.ref q7, .null, .int 0, .int 0, .int 0, .int 0, .int 0])) :: (([] : va_W) ++ ([(q7, .inl (cA 0, 80, .inl (fun _ => 0)))] : va_W) ++ kh_X1 cA q13 u17)) H locs := hSt
  refine kc_put (t := 7) (k := 1) (idx := 18) (v := .ref q13) (fs := [.ref q7, .null, .int 0, .int 0, .int 0, .int 0, .int 0]) (fs' := [.ref q7, .ref q13, .int 0, .int 0, .int 0, .int 0, .int 0]) hC hin hSt (by decide) (plc := 123) (List.mem_of_getElem? (i := 35) (by decide +kernel)) (Nat.le_of_ble_eq_true rfl) rfl rfl (Nat.le_of_ble_eq_true rfl) rfl kd_7_20 (fun H locs hSt => ?_)
  refine lv_aload_n hx hb kd_7_23 rfl (lv_at hl 0 rfl) ?_
  refine lv_iconst (v := 0) hx hb kd_7_24 (by decide) ?_
  refine kc_put (t := 7) (k := 2) (idx := 22) (v := .int 0) (fs := [.ref q7, .ref q13, .int 0, .int 0, .int 0, .int 0, .int 0]) (fs' := [.ref q7, .ref q13, .int 0, .int 0, .int 0, .int 0, .int 0]) hC hin hSt (by decide) (plc := 124) (List.mem_of_getElem? (i := 36) (by decide +kernel)) (Nat.le_of_ble_eq_true rfl) rfl rfl (Nat.le_of_ble_eq_true rfl) rfl kd_7_25 (fun H locs hSt => ?_)
  refine lv_aload_n hx hb kd_7_28 rfl (lv_at hl 0 rfl) ?_
  refine lv_iconst (v := 0) hx hb kd_7_29 (by decide) ?_
  refine kc_put (t := 7) (k := 3) (idx := 26) (v := .int 0) (fs := [.ref q7, .ref q13, .int 0, .int 0, .int 0, .int 0, .int 0]) (fs' := [.ref q7, .ref q13, .int 0, .int 0, .int 0, .int 0, .int 0]) hC hin hSt (by decide) (plc := 125) (List.mem_of_getElem? (i := 37) (by decide +kernel)) (Nat.le_of_ble_eq_true rfl) rfl rfl (Nat.le_of_ble_eq_true rfl) rfl kd_7_30 (fun H locs hSt => ?_)
  refine lv_aload_n hx hb kd_7_33 rfl (lv_at hl 0 rfl) ?_
  refine lv_iconst (v := 0) hx hb kd_7_34 (by decide) ?_
  refine kc_put (t := 7) (k := 4) (idx := 29) (v := .int 0) (fs := [.ref q7, .ref q13, .int 0, .int 0, .int 0, .int 0, .int 0]) (fs' := [.ref q7, .ref q13, .int 0, .int 0, .int 0, .int 0, .int 0]) hC hin hSt (by decide) (plc := 126) (List.mem_of_getElem? (i := 38) (by decide +kernel)) (Nat.le_of_ble_eq_true rfl) rfl rfl (Nat.le_of_ble_eq_true rfl) rfl kd_7_35 (fun H locs hSt => ?_)
  refine lv_aload_n hx hb kd_7_38 rfl (lv_at hl 0 rfl) ?_
  refine lv_iconst (v := 0) hx hb kd_7_39 (by decide) ?_
  refine kc_put (t := 7) (k := 5) (idx := 32) (v := .int 0) (fs := [.ref q7, .ref q13, .int 0, .int 0, .int 0, .int 0, .int 0]) (fs' := [.ref q7, .ref q13, .int 0, .int 0, .int 0, .int 0, .int 0]) hC hin hSt (by decide) (plc := 127) (List.mem_of_getElem? (i := 39) (by decide +kernel)) (Nat.le_of_ble_eq_true rfl) rfl rfl (Nat.le_of_ble_eq_true rfl) rfl kd_7_40 (fun H locs hSt => ?_)
  refine lv_aload_n hx hb kd_7_43 rfl (lv_at hl 0 rfl) ?_
  refine lv_iconst (v := 0) hx hb kd_7_44 (by decide) ?_
  refine kc_put (t := 7) (k := 6) (idx := 35) (v := .int 0) (fs := [.ref q7, .ref q13, .int 0, .int 0, .int 0, .int 0, .int 0]) (fs' := [.ref q7, .ref q13, .int 0, .int 0, .int 0, .int 0, .int 0]) hC hin hSt (by decide) (plc := 128) (List.mem_of_getElem? (i := 40) (by decide +kernel)) (Nat.le_of_ble_eq_true rfl) rfl rfl (Nat.le_of_ble_eq_true rfl) rfl kd_7_45 (fun H locs hSt => ?_)
  exact hEnd 48 ls H locs (fun k => [h0, q7, q13].getD k 0, fun _ => 0) kd_7_48 hSt
theorem kd_2_4 : decode cX2_init 4 = .ok (.aload_n 0, 1) := by decide +kernel
theorem kd_2_5 : decode cX2_init 5 = .ok (.new 9, 3) := by decide +kernel
theorem kd_2_8 : decode cX2_init 8 = .ok (.dup, 1) := by decide +kernel
theorem kd_2_9 : decode cX2_init 9 = .ok (.invokespecial 11, 3) := by decide +kernel
theorem kd_2_12 : decode cX2_init 12 = .ok (.putfield 12, 3) := by decide +kernel
theorem kd_2_15 : decode cX2_init 15 = .ok (.aload_n 0, 1) := by decide +kernel
theorem kd_2_16 : decode cX2_init 16 = .ok (.new 18, 3) := by decide +kernel
theorem kd_2_19 : decode cX2_init 19 = .ok (.dup, 1) := by decide +kernel
theorem kd_2_20 : decode cX2_init 20 = .ok (.bipush 72, 2) := by decide +kernel
theorem kd_2_22 : decode cX2_init 22 = .ok (.invokespecial 20, 3) := by decide +kernel
theorem kd_2_25 : decode cX2_init 25 = .ok (.putfield 23, 3) := by decide +kernel
theorem kd_2_28 : decode cX2_init 28 = .ok (.aload_n 0, 1) := by decide +kernel
theorem kd_2_29 : decode cX2_init 29 = .ok (.bipush 72, 2) := by decide +kernel
theorem kd_2_31 : decode cX2_init 31 = .ok (.newarray .int, 2) := by decide +kernel
theorem kd_2_33 : decode cX2_init 33 = .ok (.putfield 27, 3) := by decide +kernel
theorem kd_2_36 : decode cX2_init 36 = .ok (.aload_n 0, 1) := by decide +kernel
theorem kd_2_37 : decode cX2_init 37 = .ok (.bipush 72, 2) := by decide +kernel
theorem kd_2_39 : decode cX2_init 39 = .ok (.newarray .boolean, 2) := by decide +kernel
theorem kd_2_41 : decode cX2_init 41 = .ok (.putfield 31, 3) := by decide +kernel
theorem kd_2_44 : decode cX2_init 44 = .ok (.aload_n 0, 1) := by decide +kernel
theorem kd_2_45 : decode cX2_init 45 = .ok (.new 18, 3) := by decide +kernel
theorem kd_2_48 : decode cX2_init 48 = .ok (.dup, 1) := by decide +kernel
theorem kd_2_49 : decode cX2_init 49 = .ok (.sipush 150, 3) := by decide +kernel
theorem kd_2_52 : decode cX2_init 52 = .ok (.invokespecial 20, 3) := by decide +kernel
theorem kd_2_55 : decode cX2_init 55 = .ok (.putfield 35, 3) := by decide +kernel
theorem kd_2_58 : decode cX2_init 58 = .ok (.aload_n 0, 1) := by decide +kernel
theorem kd_2_59 : decode cX2_init 59 = .ok (.new 18, 3) := by decide +kernel
theorem kd_2_62 : decode cX2_init 62 = .ok (.dup, 1) := by decide +kernel
theorem kd_2_63 : decode cX2_init 63 = .ok (.sipush 150, 3) := by decide +kernel
theorem kd_2_66 : decode cX2_init 66 = .ok (.invokespecial 20, 3) := by decide +kernel
theorem kd_2_69 : decode cX2_init 69 = .ok (.putfield 38, 3) := by decide +kernel
theorem kd_2_72 : decode cX2_init 72 = .ok (.aload_n 0, 1) := by decide +kernel
theorem kd_2_73 : decode cX2_init 73 = .ok (.sipush 150, 3) := by decide +kernel
theorem kd_2_76 : decode cX2_init 76 = .ok (.newarray .int, 2) := by decide +kernel
theorem kd_2_78 : decode cX2_init 78 = .ok (.putfield 41, 3) := by decide +kernel
theorem kd_2_81 : decode cX2_init 81 = .ok (.aload_n 0, 1) := by decide +kernel
theorem kd_2_82 : decode cX2_init 82 = .ok (.bipush 25, 2) := by decide +kernel
theorem kd_2_84 : decode cX2_init 84 = .ok (.newarray .int, 2) := by decide +kernel
theorem kd_2_86 : decode cX2_init 86 = .ok (.putfield 44, 3) := by decide +kernel
theorem kd_2_89 : decode cX2_init 89 = .ok (.aload_n 0, 1) := by decide +kernel
theorem kd_2_90 : decode cX2_init 90 = .ok (.iconst 0, 1) := by decide +kernel
theorem kd_2_91 : decode cX2_init 91 = .ok (.putfield 47, 3) := by decide +kernel
theorem kd_2_94 : decode cX2_init 94 = .ok (.aload_n 0, 1) := by decide +kernel
theorem kd_2_95 : decode cX2_init 95 = .ok (.iconst (-1), 1) := by decide +kernel
theorem kd_2_96 : decode cX2_init 96 = .ok (.putfield 51, 3) := by decide +kernel
theorem kd_2_99 : decode cX2_init 99 = .ok (.aload_n 0, 1) := by decide +kernel
theorem kd_2_100 : decode cX2_init 100 = .ok (.iconst (-1), 1) := by decide +kernel
theorem kd_2_101 : decode cX2_init 101 = .ok (.putfield 54, 3) := by decide +kernel
theorem kd_2_104 : decode cX2_init 104 = .ok (.aload_n 0, 1) := by decide +kernel
theorem kd_2_105 : decode cX2_init 105 = .ok (.iconst (-1), 1) := by decide +kernel
theorem kd_2_106 : decode cX2_init 106 = .ok (.putfield 57, 3) := by decide +kernel
theorem kd_2_109 : decode cX2_init 109 = .ok (.aload_n 0, 1) := by decide +kernel
theorem kd_2_110 : decode cX2_init 110 = .ok (.iconst 0, 1) := by decide +kernel
theorem kd_2_111 : decode cX2_init 111 = .ok (.putfield 60, 3) := by decide +kernel
theorem kd_2_114 : decode cX2_init 114 = .ok (.aload_n 0, 1) := by decide +kernel
theorem kd_2_115 : decode cX2_init 115 = .ok (.iconst (-1), 1) := by decide +kernel
theorem kd_2_116 : decode cX2_init 116 = .ok (.putfield 63, 3) := by decide +kernel
theorem kd_2_119 : decode cX2_init 119 = .ok (.aload_n 0, 1) := by decide +kernel
theorem kd_2_120 : decode cX2_init 120 = .ok (.iconst 0, 1) := by decide +kernel
theorem kd_2_121 : decode cX2_init 121 = .ok (.putfield 66, 3) := by decide +kernel
theorem kd_2_124 : decode cX2_init 124 = .ok (.aload_n 0, 1) := by decide +kernel
theorem kd_2_125 : decode cX2_init 125 = .ok (.bipush 11, 2) := by decide +kernel
theorem kd_2_127 : decode cX2_init 127 = .ok (.putfield 69, 3) := by decide +kernel
theorem kd_2_130 : decode cX2_init 130 = .ok (.aload_n 0, 1) := by decide +kernel
theorem kd_2_131 : decode cX2_init 131 = .ok (.lconst 0, 1) := by decide +kernel
theorem kd_2_132 : decode cX2_init 132 = .ok (.putfield 72, 3) := by decide +kernel
theorem kd_2_135 : decode cX2_init 135 = .ok (.aload_n 0, 1) := by decide +kernel
theorem kd_2_136 : decode cX2_init 136 = .ok (.aload_n 1, 1) := by decide +kernel
theorem kd_2_137 : decode cX2_init 137 = .ok (.putfield 76, 3) := by decide +kernel
theorem kd_2_140 : decode cX2_init 140 = .ok (.aload_n 0, 1) := by decide +kernel
theorem kd_2_141 : decode cX2_init 141 = .ok (.aload_n 2, 1) := by decide +kernel
theorem kd_2_142 : decode cX2_init 142 = .ok (.putfield 80, 3) := by decide +kernel
theorem kd_2_145 : decode cX2_init 145 = .ok (.return_, 1) := by decide +kernel
theorem kd_2_0 : decode cX2_init 0 = .ok (.aload_n 0, 1) := by decide +kernel
theorem kd_2_1 : decode cX2_init 1 = .ok (.invokespecial 3, 3) := by decide +kernel
def kh_X2 (cA : Nat → ClassId) (a1 a2 h0 : Nat) (u : kc_S) : va_W := (h0, .inr (2, [.ref a1, .ref a2, .ref (u.1 1), .ref (u.1 3), .ref (u.1 6), .ref (u.1 7), .ref (u.1 8), .ref (u.1 11), .ref (u.1 14), .ref (u.1 15), .int 0, .int (-1), .int (-1), .int (-1), .int 0, .int (-1), .int 0, .int 11, .long 0])) :: ([] ++ kh_X4 cA (u.1 1) (kc_sub u 1) ++ kh_X8_72 cA (u.1 3) (kc_sub u 3) ++ [(u.1 6, .inl (cA 0, 72, .inl (fun _ => 0)))] ++ [(u.1 7, .inl (cA 2, 72, .inl (fun _ => 0)))] ++ kh_X8_150 cA (u.1 8) (kc_sub u 8) ++ kh_X8_150 cA (u.1 11) (kc_sub u 11) ++ [(u.1 14, .inl (cA 0, 150, .inl (fun _ => 0)))] ++ [(u.1 15, .inl (cA 0, 25, .inl (fun _ => 0)))])
set_option maxHeartbeats 4000000 in
set_option maxRecDepth 100000 in
theorem kc_X2 (l : Launch) (D : va_G) (cA : Nat → ClassId) (a1 a2 : Nat) : kc_Met l D cA 2 yX2_init cX2_init 3 ⟨2, 15, 1095, 33⟩ [.ref a1, .ref a2] (kh_X2 cA a1 a2) 15 1095 := by
  refine kc_of kY_2 kw_ob_2 kw_oi kw_oc kd_2_0 kd_2_1 (Nat.le_of_ble_eq_true rfl) (Nat.le_of_ble_eq_true rfl) (fun _ => Nat.le_of_ble_eq_true rfl) ?_
  intro p e s m args below meth c h0 A Q ls hC hin hSt hl hEnd
  have hx := hC.1
  have hb := hC.2.1
  have hl : lv_has ls 3 [(0, .ref h0), (1, .ref a1), (2, .ref a2)] := hl
  have hSt : kc_St D A s.heap ((h0, .inr (2, [.null, .null, .null, .null, .null, .null, .null, .null, .null, .null, .int 0, .int 0, .int 0, .int 0, .int 0, .int 0, .int 0, .int 0, .long 0])) :: ([])) s.heap [] := hSt
  refine lv_aload_n hx hb kd_2_4 rfl (lv_at hl 0 rfl) ?_
  refine kc_new hC hSt 4 (by decide) kw_cl_2_9 kw_in_4 rfl kw_re_4 (Nat.le_of_ble_eq_true rfl) (Nat.le_of_ble_eq_true rfl) kd_2_5 (fun q5 H hSt => ?_)
  refine lv_dup hx hb kd_2_8 rfl ?_
  refine kc_call (ws := (h0, .inr (2, [.null, .null, .null, .null, .null, .null, .null, .null, .null, .null, .int 0, .int 0, .int 0, .int 0, .int 0, .int 0, .int 0, .int 0, .long 0])) :: ([])) (q := q5) (As := []) (kc_X4 l D cA) hC hSt kY_4 (Or.inr (List.mem_of_getElem? (i := 6) rfl)) ⟨Nat.le_of_ble_eq_true rfl, Nat.le_of_ble_eq_true rfl⟩ rfl rfl rfl hl.1 rfl (Nat.le_of_ble_eq_true rfl) kd_2_9 ⟨Nat.le_of_ble_eq_true rfl, Nat.le_of_ble_eq_true rfl⟩ (fun u9 H locs hSt => ?_)
  have hSt : kc_St D A s.heap ((h0, .inr (2, [.null, .null, .null, .null, .null, .null, .null, .null, .null, .null, .int 0, .int 0, .int 0, .int 0, .int 0, .int 0, .int 0, .int 0, .long 0])) :: (([] : va_W) ++ kh_X4 cA q5 u9)) H locs := hSt
  refine kc_put (t := 2) (k := 2) (idx := 12) (v := .ref q5) (fs := [.null, .null, .null, .null, .null, .null, .null, .null, .null, .null, .int 0, .int 0, .int 0, .int 0, .int 0, .int 0, .int 0, .int 0, .long 0]) (fs' := [.null, .null, .ref q5, .null, .null, .null, .null, .null, .null, .null, .int 0, .int 0, .int 0, .int 0, .int 0, .int 0, .int 0, .int 0, .long 0]) hC hin hSt (by decide) (plc := 197) (List.mem_of_getElem? (i := 52) (by decide +kernel)) (Nat.le_of_ble_eq_true rfl) rfl rfl (Nat.le_of_ble_eq_true rfl) rfl kd_2_12 (fun H locs hSt => ?_)
  refine lv_aload_n hx hb kd_2_15 rfl (lv_at hl 0 rfl) ?_
  refine kc_new hC hSt 8 (by decide) kw_cl_2_18 kw_in_8 rfl kw_re_8 (Nat.le_of_ble_eq_true rfl) (Nat.le_of_ble_eq_true rfl) kd_2_16 (fun q16 H hSt => ?_)
  refine lv_dup hx hb kd_2_19 rfl ?_
  refine lv_bipush (v := 72) hx hb kd_2_20 (by decide) ?_
  refine kc_call (ws := (h0, .inr (2, [.null, .null, .ref q5, .null, .null, .null, .null, .null, .null, .null, .int 0, .int 0, .int 0, .int 0, .int 0, .int 0, .int 0, .int 0, .long 0])) :: (([] : va_W) ++ kh_X4 cA q5 u9)) (q := q16) (As := [.int 72]) (kc_X8_72 l D cA) hC hSt kY_8 (Or.inl kw_ml_2_20) ⟨Nat.le_of_ble_eq_true rfl, Nat.le_of_ble_eq_true rfl⟩ rfl rfl rfl hl.1 rfl (Nat.le_of_ble_eq_true rfl) kd_2_22 ⟨Nat.le_of_ble_eq_true rfl, Nat.le_of_ble_eq_true rfl⟩ (fun u22 H locs hSt => ?_)
  have hSt : kc_St D A s.heap ((h0, .inr (2, [.null, .null, .ref q5, .null, .null, .null, .null, .null, .null, .null, .int 0, .int 0, .int 0, .int 0, .int 0, .int 0, .int 0, .int 0, .long 0])) :: (([] : va_W) ++ kh_X4 cA q5 u9 ++ kh_X8_72 cA q16 u22)) H locs := hSt
  refine kc_put (t := 2) (k := 3) (idx := 23) (v := .ref q16) (fs := [.null, .null, .ref q5, .null, .null, .null, .null, .null, .null, .null, .int 0, .int 0, .int 0, .int 0, .int 0, .int 0, .int 0, .int 0, .long 0]) (fs' := [.null, .null, .ref q5, .ref q16, .null, .null, .null, .null, .null, .null, .int 0, .int 0, .int 0, .int 0, .int 0, .int 0, .int 0, .int 0, .long 0]) hC hin hSt (by decide) (plc := 199) (List.mem_of_getElem? (i := 54) (by decide +kernel)) (Nat.le_of_ble_eq_true rfl) rfl rfl (Nat.le_of_ble_eq_true rfl) rfl kd_2_25 (fun H locs hSt => ?_)
  refine lv_aload_n hx hb kd_2_28 rfl (lv_at hl 0 rfl) ?_
  refine lv_bipush (v := 72) hx hb kd_2_29 (by decide) ?_
  refine kc_newa (a0 := (72, .inl (fun _ => 0))) (N' := 72) hC hSt (atype := .int) (ty := .int) rfl 0 rfl kw_ar_int (fun _ => rfl) (by decide) (by decide) (Nat.le_of_ble_eq_true rfl) (Nat.le_of_ble_eq_true rfl) (Nat.le_of_ble_eq_true rfl) kd_2_31 (fun q31 H hSt => ?_)
  have hSt : kc_St D A s.heap ((h0, .inr (2, [.null, .null, .ref q5, .ref q16, .null, .null, .null, .null, .null, .null, .int 0, .int 0, .int 0, .int 0, .int 0, .int 0, .int 0, .int 0, .long 0])) :: (([] : va_W) ++ kh_X4 cA q5 u9 ++ kh_X8_72 cA q16 u22 ++ ([(q31, .inl (cA 0, 72, .inl (fun _ => 0)))] : va_W))) H locs := hSt
  refine kc_put (t := 2) (k := 4) (idx := 27) (v := .ref q31) (fs := [.null, .null, .ref q5, .ref q16, .null, .null, .null, .null, .null, .null, .int 0, .int 0, .int 0, .int 0, .int 0, .int 0, .int 0, .int 0, .long 0]) (fs' := [.null, .null, .ref q5, .ref q16, .ref q31, .null, .null, .null, .null, .null, .int 0, .int 0, .int 0, .int 0, .int 0, .int 0, .int 0, .int 0, .long 0]) hC hin hSt (by decide) (plc := 201) (List.mem_of_getElem? (i := 56) (by decide +kernel)) (Nat.le_of_ble_eq_true rfl) rfl rfl (Nat.le_of_ble_eq_true rfl) rfl kd_2_33 (fun H locs hSt => ?_)
  refine lv_aload_n hx hb kd_2_36 rfl (lv_at hl 0 rfl) ?_
  refine lv_bipush (v := 72) hx hb kd_2_37 (by decide) ?_
  refine kc_newa (a0 := (72, .inl (fun _ => 0))) (N' := 72) hC hSt (atype := .boolean) (ty := .boolean) rfl 2 rfl kw_ar_boolean (fun _ => rfl) (by decide) (by decide) (Nat.le_of_ble_eq_true rfl) (Nat.le_of_ble_eq_true rfl) (Nat.le_of_ble_eq_true rfl) kd_2_39 (fun q39 H hSt => ?_)
  have hSt : kc_St D A s.heap ((h0, .inr (2, [.null, .null, .ref q5, .ref q16, .ref q31, .null, .null, .null, .null, .null, .int 0, .int 0, .int 0, .int 0, .int 0, .int 0, .int 0, .int 0, .long 0])) :: (([] : va_W) ++ kh_X4 cA q5 u9 ++ kh_X8_72 cA q16 u22 ++ ([(q31, .inl (cA 0, 72, .inl (fun _ => 0)))] : va_W) ++ ([(q39, .inl (cA 2, 72, .inl (fun _ => 0)))] : va_W))) H locs := hSt
  refine kc_put (t := 2) (k := 5) (idx := 31) (v := .ref q39) (fs := [.null, .null, .ref q5, .ref q16, .ref q31, .null, .null, .null, .null, .null, .int 0, .int 0, .int 0, .int 0, .int 0, .int 0, .int 0, .int 0, .long 0]) (fs' := [.null, .null, .ref q5, .ref q16, .ref q31, .ref q39, .null, .null, .null, .null, .int 0, .int 0, .int 0, .int 0, .int 0, .int 0, .int 0, .int 0, .long 0]) hC hin hSt (by decide) (plc := 203) (List.mem_of_getElem? (i := 58) (by decide +kernel)) (Nat.le_of_ble_eq_true rfl) rfl rfl (Nat.le_of_ble_eq_true rfl) rfl kd_2_41 (fun H locs hSt => ?_)
  refine lv_aload_n hx hb kd_2_44 rfl (lv_at hl 0 rfl) ?_
  refine kc_new hC hSt 8 (by decide) kw_cl_2_18 kw_in_8 rfl kw_re_8 (Nat.le_of_ble_eq_true rfl) (Nat.le_of_ble_eq_true rfl) kd_2_45 (fun q45 H hSt => ?_)
  refine lv_dup hx hb kd_2_48 rfl ?_
  refine lv_sipush (v := 150) hx hb kd_2_49 (by decide) ?_
  refine kc_call (ws := (h0, .inr (2, [.null, .null, .ref q5, .ref q16, .ref q31, .ref q39, .null, .null, .null, .null, .int 0, .int 0, .int 0, .int 0, .int 0, .int 0, .int 0, .int 0, .long 0])) :: (([] : va_W) ++ kh_X4 cA q5 u9 ++ kh_X8_72 cA q16 u22 ++ ([(q31, .inl (cA 0, 72, .inl (fun _ => 0)))] : va_W) ++ ([(q39, .inl (cA 2, 72, .inl (fun _ => 0)))] : va_W))) (q := q45) (As := [.int 150]) (kc_X8_150 l D cA) hC hSt kY_8 (Or.inl kw_ml_2_20) ⟨Nat.le_of_ble_eq_true rfl, Nat.le_of_ble_eq_true rfl⟩ rfl rfl rfl hl.1 rfl (Nat.le_of_ble_eq_true rfl) kd_2_52 ⟨Nat.le_of_ble_eq_true rfl, Nat.le_of_ble_eq_true rfl⟩ (fun u52 H locs hSt => ?_)
  have hSt : kc_St D A s.heap ((h0, .inr (2, [.null, .null, .ref q5, .ref q16, .ref q31, .ref q39, .null, .null, .null, .null, .int 0, .int 0, .int 0, .int 0, .int 0, .int 0, .int 0, .int 0, .long 0])) :: (([] : va_W) ++ kh_X4 cA q5 u9 ++ kh_X8_72 cA q16 u22 ++ ([(q31, .inl (cA 0, 72, .inl (fun _ => 0)))] : va_W) ++ ([(q39, .inl (cA 2, 72, .inl (fun _ => 0)))] : va_W) ++ kh_X8_150 cA q45 u52)) H locs := hSt
  refine kc_put (t := 2) (k := 6) (idx := 35) (v := .ref q45) (fs := [.null, .null, .ref q5, .ref q16, .ref q31, .ref q39, .null, .null, .null, .null, .int 0, .int 0, .int 0, .int 0, .int 0, .int 0, .int 0, .int 0, .long 0]) (fs' := [.null, .null, .ref q5, .ref q16, .ref q31, .ref q39, .ref q45, .null, .null, .null, .int 0, .int 0, .int 0, .int 0, .int 0, .int 0, .int 0, .int 0, .long 0]) hC hin hSt (by decide) (plc := 204) (List.mem_of_getElem? (i := 59) (by decide +kernel)) (Nat.le_of_ble_eq_true rfl) rfl rfl (Nat.le_of_ble_eq_true rfl) rfl kd_2_55 (fun H locs hSt => ?_)
  refine lv_aload_n hx hb kd_2_58 rfl (lv_at hl 0 rfl) ?_
  refine kc_new hC hSt 8 (by decide) kw_cl_2_18 kw_in_8 rfl kw_re_8 (Nat.le_of_ble_eq_true rfl) (Nat.le_of_ble_eq_true rfl) kd_2_59 (fun q59 H hSt => ?_)
  refine lv_dup hx hb kd_2_62 rfl ?_
  refine lv_sipush (v := 150) hx hb kd_2_63 (by decide) ?_
  refine kc_call (ws := (h0, .inr (2, [.null, .null, .ref q5, .ref q16, .ref q31, .ref q39, .ref q45, .null, .null, .null, .int 0, .int 0, .int 0, .int 0, .int 0, .int 0, .int 0, .int 0, .long 0])) :: (([] : va_W) ++ kh_X4 cA q5 u9 ++ kh_X8_72 cA q16 u22 ++ ([(q31, .inl (cA 0, 72, .inl (fun _ => 0)))] : va_W) ++ ([(q39, .inl (cA 2, 72, .inl (fun _ => 0)))] : va_W) ++ kh_X8_150 cA q45 u52)) (q := q59) (As := [.int 150]) (kc_X8_150 l D cA) hC hSt kY_8 (Or.inl kw_ml_2_20) ⟨Nat.le_of_ble_eq_true rfl, Nat.le_of_ble_eq_true rfl⟩ rfl rfl rfl hl.1 rfl (Nat.le_of_ble_eq_true rfl) kd_2_66 ⟨Nat.le_of_ble_eq_true rfl, Nat.le_of_ble_eq_true rfl⟩ (fun u66 H locs hSt => ?_)
  have hSt : kc_St D A s.heap ((h0, .inr (2, [.null, .null, .ref q5, .ref q16, .ref q31, .ref q39, .ref q45, .null, .null, .null, .int 0, .int 0, .int 0, .int 0, .int 0, .int 0, .int 0, .int 0, .long 0])) :: (([] : va_W) ++ kh_X4 cA q5 u9 ++ kh_X8_72 cA q16 u22 ++ ([(q31, .inl (cA 0, 72, .inl (fun _ => 0)))] : va_W) ++ ([(q39, .inl (cA 2, 72, .inl (fun _ => 0)))] : va_W) ++ kh_X8_150 cA q45 u52 ++ kh_X8_150 cA q59 u66)) H locs := hSt
  refine kc_put (t := 2) (k := 7) (idx := 38) (v := .ref q59) (fs := [.null, .null, .ref q5, .ref q16, .ref q31, .ref q39, .ref q45, .null, .null, .null, .int 0, .int 0, .int 0, .int 0, .int 0, .int 0, .int 0, .int 0, .long 0]) (fs' := [.null, .null, .ref q5, .ref q16, .ref q31, .ref q39, .ref q45, .ref q59, .null, .null, .int 0, .int 0, .int 0, .int 0, .int 0, .int 0, .int 0, .int 0, .long 0]) hC hin hSt (by decide) (plc := 206) (List.mem_of_getElem? (i := 61) (by decide +kernel)) (Nat.le_of_ble_eq_true rfl) rfl rfl (Nat.le_of_ble_eq_true rfl) rfl kd_2_69 (fun H locs hSt => ?_)
  refine lv_aload_n hx hb kd_2_72 rfl (lv_at hl 0 rfl) ?_
  refine lv_sipush (v := 150) hx hb kd_2_73 (by decide) ?_
  refine kc_newa (a0 := (150, .inl (fun _ => 0))) (N' := 150) hC hSt (atype := .int) (ty := .int) rfl 0 rfl kw_ar_int (fun _ => rfl) (by decide) (by decide) (Nat.le_of_ble_eq_true rfl) (Nat.le_of_ble_eq_true rfl) (Nat.le_of_ble_eq_true rfl) kd_2_76 (fun q76 H hSt => ?_)
  have hSt : kc_St D A s.heap ((h0, .inr (2, [.null, .null, .ref q5, .ref q16, .ref q31, .ref q39, .ref q45, .ref q59, .null, .null, .int 0, .int 0, .int 0, .int 0, .int 0, .int 0, .int 0, .int 0, .long 0])) :: (([] : va_W) ++ kh_X4 cA q5 u9 ++ kh_X8_72 cA q16 u22 ++ ([(q31, .inl (cA 0, 72, .inl (fun _ => 0)))] : va_W) ++ ([(q39, .inl (cA 2, 72, .inl (fun _ => 0)))] : va_W) ++ kh_X8_150 cA q45 u52 ++ kh_X8_150 cA q59 u66 ++ ([(q76, .inl (cA 0, 150, .inl (fun _ => 0)))] : va_W))) H locs := hSt
  refine kc_put (t := 2) (k := 8) (idx := 41) (v := .ref q76) (fs := [.null, .null, .ref q5, .ref q16, .ref q31, .ref q39, .ref q45, .ref q59, .null, .null, .int 0, .int 0, .int 0, .int 0, .int 0, .int 0, .int 0, .int 0, .long 0]) (fs' := [.null, .null, .ref q5, .ref q16, .ref q31, .ref q39, .ref q45, .ref q59, .ref q76, .null, .int 0, .int 0, .int 0, .int 0, .int 0, .int 0, .int 0, .int 0, .long 0]) hC hin hSt (by decide) (plc := 208) (List.mem_of_getElem? (i := 63) (by decide +kernel)) (Nat.le_of_ble_eq_true rfl) rfl rfl (Nat.le_of_ble_eq_true rfl) rfl kd_2_78 (fun H locs hSt => ?_)
  refine lv_aload_n hx hb kd_2_81 rfl (lv_at hl 0 rfl) ?_
  refine lv_bipush (v := 25) hx hb kd_2_82 (by decide) ?_
  refine kc_newa (a0 := (25, .inl (fun _ => 0))) (N' := 25) hC hSt (atype := .int) (ty := .int) rfl 0 rfl kw_ar_int (fun _ => rfl) (by decide) (by decide) (Nat.le_of_ble_eq_true rfl) (Nat.le_of_ble_eq_true rfl) (Nat.le_of_ble_eq_true rfl) kd_2_84 (fun q84 H hSt => ?_)
  have hSt : kc_St D A s.heap ((h0, .inr (2, [.null, .null, .ref q5, .ref q16, .ref q31, .ref q39, .ref q45, .ref q59, .ref q76, .null, .int 0, .int 0, .int 0, .int 0, .int 0, .int 0, .int 0, .int 0, .long 0])) :: (([] : va_W) ++ kh_X4 cA q5 u9 ++ kh_X8_72 cA q16 u22 ++ ([(q31, .inl (cA 0, 72, .inl (fun _ => 0)))] : va_W) ++ ([(q39, .inl (cA 2, 72, .inl (fun _ => 0)))] : va_W) ++ kh_X8_150 cA q45 u52 ++ kh_X8_150 cA q59 u66 ++ ([(q76, .inl (cA 0, 150, .inl (fun _ => 0)))] : va_W) ++ ([(q84, .inl (cA 0, 25, .inl (fun _ => 0)))] : va_W))) H locs := hSt
  refine kc_put (t := 2) (k := 9) (idx := 44) (v := .ref q84) (fs := [.null, .null, .ref q5, .ref q16, .ref q31, .ref q39, .ref q45, .ref q59, .ref q76, .null, .int 0, .int 0, .int 0, .int 0, .int 0, .int 0, .int 0, .int 0, .long 0]) (fs' := [.null, .null, .ref q5, .ref q16, .ref q31, .ref q39, .ref q45, .ref q59, .ref q76, .ref q84, .int 0, .int 0, .int 0, .int 0, .int 0, .int 0, .int 0, .int 0, .long 0]) hC hin hSt (by decide) (plc := 209) (List.mem_of_getElem? (i := 64) (by decide +kernel)) (Nat.le_of_ble_eq_true rfl) rfl rfl (Nat.le_of_ble_eq_true rfl) rfl kd_2_86 (fun H locs hSt => ?_)
  refine lv_aload_n hx hb kd_2_89 rfl (lv_at hl 0 rfl) ?_
  refine lv_iconst (v := 0) hx hb kd_2_90 (by decide) ?_
  refine kc_put (t := 2) (k := 10) (idx := 47) (v := .int 0) (fs := [.null, .null, .ref q5, .ref q16, .ref q31, .ref q39, .ref q45, .ref q59, .ref q76, .ref q84, .int 0, .int 0, .int 0, .int 0, .int 0, .int 0, .int 0, .int 0, .long 0]) (fs' := [.null, .null, .ref q5, .ref q16, .ref q31, .ref q39, .ref q45, .ref q59, .ref q76, .ref q84, .int 0, .int 0, .int 0, .int 0, .int 0, .int 0, .int 0, .int 0, .long 0]) hC hin hSt (by decide) (plc := 211) (List.mem_of_getElem? (i := 66) (by decide +kernel)) (Nat.le_of_ble_eq_true rfl) rfl rfl (Nat.le_of_ble_eq_true rfl) rfl kd_2_91 (fun H locs hSt => ?_)
  refine lv_aload_n hx hb kd_2_94 rfl (lv_at hl 0 rfl) ?_
  refine lv_iconst (v := (-1)) hx hb kd_2_95 (by decide) ?_
  refine kc_put (t := 2) (k := 11) (idx := 51) (v := .int (-1)) (fs := [.null, .null, .ref q5, .ref q16, .ref q31, .ref q39, .ref q45, .ref q59, .ref q76, .ref q84, .int 0, .int 0, .int 0, .int 0, .int 0, .int 0, .int 0, .int 0, .long 0]) (fs' := [.null, .null, .ref q5, .ref q16, .ref q31, .ref q39, .ref q45, .ref q59, .ref q76, .ref q84, .int 0, .int (-1), .int 0, .int 0, .int 0, .int 0, .int 0, .int 0, .long 0]) hC hin hSt (by decide) (plc := 213) (List.mem_of_getElem? (i := 68) (by decide +kernel)) (Nat.le_of_ble_eq_true rfl) rfl rfl (Nat.le_of_ble_eq_true rfl) rfl kd_2_96 (fun H locs hSt => ?_)
  refine lv_aload_n hx hb kd_2_99 rfl (lv_at hl 0 rfl) ?_
  refine lv_iconst (v := (-1)) hx hb kd_2_100 (by decide) ?_
  refine kc_put (t := 2) (k := 12) (idx := 54) (v := .int (-1)) (fs := [.null, .null, .ref q5, .ref q16, .ref q31, .ref q39, .ref q45, .ref q59, .ref q76, .ref q84, .int 0, .int (-1), .int 0, .int 0, .int 0, .int 0, .int 0, .int 0, .long 0]) (fs' := [.null, .null, .ref q5, .ref q16, .ref q31, .ref q39, .ref q45, .ref q59, .ref q76, .ref q84, .int 0, .int (-1), .int (-1), .int 0, .int 0, .int 0, .int 0, .int 0, .long 0]) hC hin hSt (by decide) (plc := 215) (List.mem_of_getElem? (i := 70) (by decide +kernel)) (Nat.le_of_ble_eq_true rfl) rfl rfl (Nat.le_of_ble_eq_true rfl) rfl kd_2_101 (fun H locs hSt => ?_)
  refine lv_aload_n hx hb kd_2_104 rfl (lv_at hl 0 rfl) ?_
  refine lv_iconst (v := (-1)) hx hb kd_2_105 (by decide) ?_
  refine kc_put (t := 2) (k := 13) (idx := 57) (v := .int (-1)) (fs := [.null, .null, .ref q5, .ref q16, .ref q31, .ref q39, .ref q45, .ref q59, .ref q76, .ref q84, .int 0, .int (-1), .int (-1), .int 0, .int 0, .int 0, .int 0, .int 0, .long 0]) (fs' := [.null, .null, .ref q5, .ref q16, .ref q31, .ref q39, .ref q45, .ref q59, .ref q76, .ref q84, .int 0, .int (-1), .int (-1), .int (-1), .int 0, .int 0, .int 0, .int 0, .long 0]) hC hin hSt (by decide) (plc := 217) (List.mem_of_getElem? (i := 72) (by decide +kernel)) (Nat.le_of_ble_eq_true rfl) rfl rfl (Nat.le_of_ble_eq_true rfl) rfl kd_2_106 (fun H locs hSt => ?_)
  refine lv_aload_n hx hb kd_2_109 rfl (lv_at hl 0 rfl) ?_
  refine lv_iconst (v := 0) hx hb kd_2_110 (by decide) ?_
  refine kc_put (t := 2) (k := 14) (idx := 60) (v := .int 0) (fs := [.null, .null, .ref q5, .ref q16, .ref q31, .ref q39, .ref q45, .ref q59, .ref q76, .ref q84, .int 0, .int (-1), .int (-1), .int (-1), .int 0, .int 0, .int 0, .int 0, .long 0]) (fs' := [.null, .null, .ref q5, .ref q16, .ref q31, .ref q39, .ref q45, .ref q59, .ref q76, .ref q84, .int 0, .int (-1), .int (-1), .int (-1), .int 0, .int 0, .int 0, .int 0, .long 0]) hC hin hSt (by decide) (plc := 219) (List.mem_of_getElem? (i := 74) (by decide +kernel)) (Nat.le_of_ble_eq_true rfl) rfl rfl (Nat.le_of_ble_eq_true rfl) rfl kd_2_111 (fun H locs hSt => ?_)
  refine lv_aload_n hx hb kd_2_114 rfl (lv_at hl 0 rfl) ?_
  refine lv_iconst (v := (-1)) hx hb kd_2_115 (by decide) ?_
  refine kc_put (t := 2) (k := 15) (idx := 63) (v := .int (-1)) (fs := [.null, .null, .ref q5, .ref q16, .ref q31, .ref q39, .ref q45, .ref q59, .ref q76, .ref q84, .int 0, .int (-1), .int (-1), .int (-1), .int 0, .int 0, .int 0, .int 0, .long 0]) (fs' := [.null, .null, .ref q5, .ref q16, .ref q31, .ref q39, .ref q45, .ref q59, .ref q76, .ref q84, .int 0, .int (-1), .int (-1), .int (-1), .int 0, .int (-1), .int 0, .int 0, .long 0]) hC hin hSt (by decide) (plc := 221) (List.mem_of_getElem? (i := 76) (by decide +kernel)) (Nat.le_of_ble_eq_true rfl) rfl rfl (Nat.le_of_ble_eq_true rfl) rfl kd_2_116 (fun H locs hSt => ?_)
  refine lv_aload_n hx hb kd_2_119 rfl (lv_at hl 0 rfl) ?_
  refine lv_iconst (v := 0) hx hb kd_2_120 (by decide) ?_
  refine kc_put (t := 2) (k := 16) (idx := 66) (v := .int 0) (fs := [.null, .null, .ref q5, .ref q16, .ref q31, .ref q39, .ref q45, .ref q59, .ref q76, .ref q84, .int 0, .int (-1), .int (-1), .int (-1), .int 0, .int (-1), .int 0, .int 0, .long 0]) (fs' := [.null, .null, .ref q5, .ref q16, .ref q31, .ref q39, .ref q45, .ref q59, .ref q76, .ref q84, .int 0, .int (-1), .int (-1), .int (-1), .int 0, .int (-1), .int 0, .int 0, .long 0]) hC hin hSt (by decide) (plc := 223) (List.mem_of_getElem? (i := 78) (by decide +kernel)) (Nat.le_of_ble_eq_true rfl) rfl rfl (Nat.le_of_ble_eq_true rfl) rfl kd_2_121 (fun H locs hSt => ?_)
  refine lv_aload_n hx hb kd_2_124 rfl (lv_at hl 0 rfl) ?_
  refine lv_bipush (v := 11) hx hb kd_2_125 (by decide) ?_
  refine kc_put (t := 2) (k := 17) (idx := 69) (v := .int 11) (fs := [.null, .null, .ref q5, .ref q16, .ref q31, .ref q39, .ref q45, .ref q59, .ref q76, .ref q84, .int 0, .int (-1), .int (-1), .int (-1), .int 0, .int (-1), .int 0, .int 0, .long 0]) (fs' := [.null, .null, .ref q5, .ref q16, .ref q31, .ref q39, .ref q45, .ref q59, .ref q76, .ref q84, .int 0, .int (-1), .int (-1), .int (-1), .int 0, .int (-1), .int 0, .int 11, .long 0]) hC hin hSt (by decide) (plc := 225) (List.mem_of_getElem? (i := 80) (by decide +kernel)) (Nat.le_of_ble_eq_true rfl) rfl rfl (Nat.le_of_ble_eq_true rfl) rfl kd_2_127 (fun H locs hSt => ?_)
  refine lv_aload_n hx hb kd_2_130 rfl (lv_at hl 0 rfl) ?_
  refine lv_lconst (v := 0) hx hb kd_2_131 (by decide) ?_
  refine kc_put (t := 2) (k := 18) (idx := 72) (v := .long 0) (fs := [.null, .null, .ref q5, .ref q16, .ref q31, .ref q39, .ref q45, .ref q59, .ref q76, .ref q84, .int 0, .int (-1), .int (-1), .int (-1), .int 0, .int (-1), .int 0, .int 11, .long 0]) (fs' := [.null, .null, .ref q5, .ref q16, .ref q31, .ref q39, .ref q45, .ref q59, .ref q76, .ref q84, .int 0, .int (-1), .int (-1), .int (-1), .int 0, .int (-1), .int 0, .int 11, .long 0]) hC hin hSt (by decide) (plc := 226) (List.mem_of_getElem? (i := 81) (by decide +kernel)) (Nat.le_of_ble_eq_true rfl) rfl rfl (Nat.le_of_ble_eq_true rfl) rfl kd_2_132 (fun H locs hSt => ?_)
  refine lv_aload_n hx hb kd_2_135 rfl (lv_at hl 0 rfl) ?_
  refine lv_aload_n hx hb kd_2_136 rfl (lv_at hl 1 rfl) ?_
  refine kc_put (t := 2) (k := 0) (idx := 76) (v := .ref a1) (fs := [.null, .null, .ref q5, .ref q16, .ref q31, .ref q39, .ref q45, .ref q59, .ref q76, .ref q84, .int 0, .int (-1), .int (-1), .int (-1), .int 0, .int (-1), .int 0, .int 11, .long 0]) (fs' := [.ref a1, .null, .ref q5, .ref q16, .ref q31, .ref q39, .ref q45, .ref q59, .ref q76, .ref q84, .int 0, .int (-1), .int (-1), .int (-1), .int 0, .int (-1), .int 0, .int 11, .long 0]) hC hin hSt (by decide) (plc := 195) (List.mem_of_getElem? (i := 50) (by decide +kernel)) (Nat.le_of_ble_eq_true rfl) rfl rfl (Nat.le_of_ble_eq_true rfl) rfl kd_2_137 (fun H locs hSt => ?_)
  refine lv_aload_n hx hb kd_2_140 rfl (lv_at hl 0 rfl) ?_
  refine lv_aload_n hx hb kd_2_141 rfl (lv_at hl 2 rfl) ?_
  refine kc_put (t := 2) (k := 1) (idx := 80) (v := .ref a2) (fs := [.ref a1, .null, .ref q5, .ref q16, .ref q31, .ref q39, .ref q45, .ref q59, .ref q76, .ref q84, .int 0, .int (-1), .int (-1), .int (-1), .int 0, .int (-1), .int 0, .int 11, .long 0]) (fs' := [.ref a1, .ref a2, .ref q5, .ref q16, .ref q31, .ref q39, .ref q45, .ref q59, .ref q76, .ref q84, .int 0, .int (-1), .int (-1), .int (-1), .int 0, .int (-1), .int 0, .int 11, .long 0]) hC hin hSt (by decide) (plc := 196) (List.mem_of_getElem? (i := 51) (by decide +kernel)) (Nat.le_of_ble_eq_true rfl) rfl rfl (Nat.le_of_ble_eq_true rfl) rfl kd_2_142 (fun H locs hSt => ?_)
  exact hEnd 145 ls H locs (fun k => [h0, q5, u9.1 1, q16, u22.1 1, u22.1 2, q31, q39, q45, u52.1 1, u52.1 2, q59, u66.1 1, u66.1 2, q76, q84].getD k 0, fun _ => 0) kd_2_145 hSt
