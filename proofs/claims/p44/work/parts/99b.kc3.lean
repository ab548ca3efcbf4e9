/-! The desk's constructor. -/
theorem kc_swap {D : va_G} {A : Nat → Prop} {H0 H : Heap} {a b c : va_W} {locs : List Loc} (h : kc_St D A H0 ((a ++ b) ++ c) H locs) : kc_St D A H0 (a ++ (c ++ b)) H locs := by
  obtain ⟨hP, hD, hS⟩ := h
  rw [List.append_assoc] at hP hD
  have la : ∀ (k : Nat) (q : Nat × va_E), a[k]? = some q → (a ++ (b ++ c))[k]? = some q := fun k q h => by rw [List.getElem?_append_left (List.getElem?_eq_some_iff.mp h).1]; exact h
  have lb : ∀ (k : Nat) (q : Nat × va_E), b[k]? = some q → (a ++ (b ++ c))[a.length + k]? = some q := fun k q h => by rw [List.getElem?_append_right (by omega), show a.length + k - a.length = k by omega, List.getElem?_append_left (List.getElem?_eq_some_iff.mp h).1]; exact h
  have lc : ∀ (k : Nat) (q : Nat × va_E), c[k]? = some q → (a ++ (b ++ c))[a.length + b.length + k]? = some q := fun k q h => by rw [List.getElem?_append_right (by omega), List.getElem?_append_right (by omega), show a.length + b.length + k - a.length - b.length = k by omega]; exact h
  have na : ∀ {k : Nat} {q : Nat × va_E} {w : va_W}, w[k]? = some q → k < w.length := fun h => (List.getElem?_eq_some_iff.mp h).1
  refine ⟨va_P.app (fun k q h => hP _ q (la k q h)) (va_P.app (fun k q h => hP _ q (lc k q h)) (fun k q h => hP _ q (lb k q h))), va_D.app ⟨fun i j p q hp hq e => hD.1 i j p q (la i p hp) (la j q hq) e, fun k q h => hD.2 _ q (la k q h)⟩ (va_D.app ⟨fun i j p q hp hq e => by have := hD.1 _ _ p q (lc i p hp) (lc j q hq) e; omega, fun k q h => hD.2 _ q (lc k q h)⟩ ⟨fun i j p q hp hq e => by have := hD.1 _ _ p q (lb i p hp) (lb j q hq) e; omega, fun k q h => hD.2 _ q (lb k q h)⟩ (fun i j p q hp hq e => by have := hD.1 _ _ p q (lc i p hp) (lb j q hq) e; have := na hq; omega)) (fun i j p q hp hq e => ?_), hS⟩
  rcases Nat.lt_or_ge j c.length with h | h
  · rw [List.getElem?_append_left h] at hq
    have := hD.1 _ _ p q (la i p hp) (lc j q hq) e
    have := na hp
    omega
  · rw [List.getElem?_append_right h] at hq
    have := hD.1 _ _ p q (la i p hp) (lb _ q hq) e
    have := na hp
    omega
theorem kd_9_4 : decode cX9_init 4 = .ok (.aload_n 0, 1) := by decide +kernel
theorem kd_9_5 : decode cX9_init 5 = .ok (.new 9, 3) := by decide +kernel
theorem kd_9_8 : decode cX9_init 8 = .ok (.dup, 1) := by decide +kernel
theorem kd_9_9 : decode cX9_init 9 = .ok (.invokespecial 11, 3) := by decide +kernel
theorem kd_9_12 : decode cX9_init 12 = .ok (.putfield 12, 3) := by decide +kernel
theorem kd_9_15 : decode cX9_init 15 = .ok (.aload_n 0, 1) := by decide +kernel
theorem kd_9_16 : decode cX9_init 16 = .ok (.new 16, 3) := by decide +kernel
theorem kd_9_19 : decode cX9_init 19 = .ok (.dup, 1) := by decide +kernel
theorem kd_9_20 : decode cX9_init 20 = .ok (.invokespecial 18, 3) := by decide +kernel
theorem kd_9_23 : decode cX9_init 23 = .ok (.putfield 19, 3) := by decide +kernel
theorem kd_9_26 : decode cX9_init 26 = .ok (.aload_n 0, 1) := by decide +kernel
theorem kd_9_27 : decode cX9_init 27 = .ok (.new 23, 3) := by decide +kernel
theorem kd_9_30 : decode cX9_init 30 = .ok (.dup, 1) := by decide +kernel
theorem kd_9_31 : decode cX9_init 31 = .ok (.invokespecial 25, 3) := by decide +kernel
theorem kd_9_34 : decode cX9_init 34 = .ok (.putfield 26, 3) := by decide +kernel
theorem kd_9_37 : decode cX9_init 37 = .ok (.aload_n 0, 1) := by decide +kernel
theorem kd_9_38 : decode cX9_init 38 = .ok (.new 30, 3) := by decide +kernel
theorem kd_9_41 : decode cX9_init 41 = .ok (.dup, 1) := by decide +kernel
theorem kd_9_42 : decode cX9_init 42 = .ok (.invokespecial 32, 3) := by decide +kernel
theorem kd_9_45 : decode cX9_init 45 = .ok (.putfield 33, 3) := by decide +kernel
theorem kd_9_48 : decode cX9_init 48 = .ok (.aload_n 0, 1) := by decide +kernel
theorem kd_9_49 : decode cX9_init 49 = .ok (.new 37, 3) := by decide +kernel
theorem kd_9_52 : decode cX9_init 52 = .ok (.dup, 1) := by decide +kernel
theorem kd_9_53 : decode cX9_init 53 = .ok (.invokespecial 39, 3) := by decide +kernel
theorem kd_9_56 : decode cX9_init 56 = .ok (.putfield 40, 3) := by decide +kernel
theorem kd_9_59 : decode cX9_init 59 = .ok (.aload_n 0, 1) := by decide +kernel
theorem kd_9_60 : decode cX9_init 60 = .ok (.new 44, 3) := by decide +kernel
theorem kd_9_63 : decode cX9_init 63 = .ok (.dup, 1) := by decide +kernel
theorem kd_9_64 : decode cX9_init 64 = .ok (.invokespecial 46, 3) := by decide +kernel
theorem kd_9_67 : decode cX9_init 67 = .ok (.putfield 47, 3) := by decide +kernel
theorem kd_9_70 : decode cX9_init 70 = .ok (.aload_n 0, 1) := by decide +kernel
theorem kd_9_71 : decode cX9_init 71 = .ok (.bipush 6, 2) := by decide +kernel
theorem kd_9_73 : decode cX9_init 73 = .ok (.anewarray 44, 3) := by decide +kernel
theorem kd_9_76 : decode cX9_init 76 = .ok (.putfield 51, 3) := by decide +kernel
theorem kd_9_79 : decode cX9_init 79 = .ok (.aload_n 0, 1) := by decide +kernel
theorem kd_9_80 : decode cX9_init 80 = .ok (.iconst 0, 1) := by decide +kernel
theorem kd_9_81 : decode cX9_init 81 = .ok (.putfield 55, 3) := by decide +kernel
theorem kd_9_84 : decode cX9_init 84 = .ok (.aload_n 0, 1) := by decide +kernel
theorem kd_9_85 : decode cX9_init 85 = .ok (.new 59, 3) := by decide +kernel
theorem kd_9_88 : decode cX9_init 88 = .ok (.dup, 1) := by decide +kernel
theorem kd_9_89 : decode cX9_init 89 = .ok (.aload_n 0, 1) := by decide +kernel
theorem kd_9_90 : decode cX9_init 90 = .ok (.getfield 12, 3) := by decide +kernel
theorem kd_9_93 : decode cX9_init 93 = .ok (.aload_n 0, 1) := by decide +kernel
theorem kd_9_94 : decode cX9_init 94 = .ok (.getfield 19, 3) := by decide +kernel
theorem kd_9_97 : decode cX9_init 97 = .ok (.invokespecial 61, 3) := by decide +kernel
theorem kd_9_100 : decode cX9_init 100 = .ok (.putfield 64, 3) := by decide +kernel
theorem kd_9_103 : decode cX9_init 103 = .ok (.aload_n 0, 1) := by decide +kernel
theorem kd_9_104 : decode cX9_init 104 = .ok (.new 59, 3) := by decide +kernel
theorem kd_9_107 : decode cX9_init 107 = .ok (.dup, 1) := by decide +kernel
theorem kd_9_108 : decode cX9_init 108 = .ok (.aload_n 0, 1) := by decide +kernel
theorem kd_9_109 : decode cX9_init 109 = .ok (.getfield 12, 3) := by decide +kernel
theorem kd_9_112 : decode cX9_init 112 = .ok (.aload_n 0, 1) := by decide +kernel
theorem kd_9_113 : decode cX9_init 113 = .ok (.getfield 19, 3) := by decide +kernel
theorem kd_9_116 : decode cX9_init 116 = .ok (.invokespecial 61, 3) := by decide +kernel
theorem kd_9_119 : decode cX9_init 119 = .ok (.putfield 68, 3) := by decide +kernel
theorem kd_9_122 : decode cX9_init 122 = .ok (.aload_n 0, 1) := by decide +kernel
theorem kd_9_123 : decode cX9_init 123 = .ok (.new 59, 3) := by decide +kernel
theorem kd_9_126 : decode cX9_init 126 = .ok (.dup, 1) := by decide +kernel
theorem kd_9_127 : decode cX9_init 127 = .ok (.aload_n 0, 1) := by decide +kernel
theorem kd_9_128 : decode cX9_init 128 = .ok (.getfield 12, 3) := by decide +kernel
theorem kd_9_131 : decode cX9_init 131 = .ok (.aload_n 0, 1) := by decide +kernel
theorem kd_9_132 : decode cX9_init 132 = .ok (.getfield 19, 3) := by decide +kernel
theorem kd_9_135 : decode cX9_init 135 = .ok (.invokespecial 61, 3) := by decide +kernel
theorem kd_9_138 : decode cX9_init 138 = .ok (.putfield 71, 3) := by decide +kernel
theorem kd_9_141 : decode cX9_init 141 = .ok (.aload_n 0, 1) := by decide +kernel
theorem kd_9_142 : decode cX9_init 142 = .ok (.iconst (-1), 1) := by decide +kernel
theorem kd_9_143 : decode cX9_init 143 = .ok (.putfield 74, 3) := by decide +kernel
theorem kd_9_146 : decode cX9_init 146 = .ok (.aload_n 0, 1) := by decide +kernel
theorem kd_9_147 : decode cX9_init 147 = .ok (.iconst (-1), 1) := by decide +kernel
theorem kd_9_148 : decode cX9_init 148 = .ok (.putfield 77, 3) := by decide +kernel
theorem kd_9_151 : decode cX9_init 151 = .ok (.aload_n 0, 1) := by decide +kernel
theorem kd_9_152 : decode cX9_init 152 = .ok (.iconst (-1), 1) := by decide +kernel
theorem kd_9_153 : decode cX9_init 153 = .ok (.putfield 80, 3) := by decide +kernel
theorem kd_9_156 : decode cX9_init 156 = .ok (.iconst 0, 1) := by decide +kernel
theorem kd_9_157 : decode cX9_init 157 = .ok (.istore_n 1, 1) := by decide +kernel
theorem kd_9_158 : decode cX9_init 158 = .ok (.iload_n 1, 1) := by decide +kernel
theorem kd_9_159 : decode cX9_init 159 = .ok (.bipush 6, 2) := by decide +kernel
theorem kd_9_161 : decode cX9_init 161 = .ok (.if_icmp .ge 22, 3) := by decide +kernel
theorem kd_9_164 : decode cX9_init 164 = .ok (.aload_n 0, 1) := by decide +kernel
theorem kd_9_165 : decode cX9_init 165 = .ok (.getfield 51, 3) := by decide +kernel
theorem kd_9_168 : decode cX9_init 168 = .ok (.iload_n 1, 1) := by decide +kernel
theorem kd_9_169 : decode cX9_init 169 = .ok (.new 44, 3) := by decide +kernel
theorem kd_9_172 : decode cX9_init 172 = .ok (.dup, 1) := by decide +kernel
theorem kd_9_173 : decode cX9_init 173 = .ok (.invokespecial 46, 3) := by decide +kernel
theorem kd_9_176 : decode cX9_init 176 = .ok (.aastore, 1) := by decide +kernel
theorem kd_9_177 : decode cX9_init 177 = .ok (.iinc 1 1, 3) := by decide +kernel
theorem kd_9_180 : decode cX9_init 180 = .ok (.goto (-22), 3) := by decide +kernel
theorem kd_9_183 : decode cX9_init 183 = .ok (.return_, 1) := by decide +kernel
theorem kd_9_0 : decode cX9_init 0 = .ok (.aload_n 0, 1) := by decide +kernel
theorem kd_9_1 : decode cX9_init 1 = .ok (.invokespecial 3, 3) := by decide +kernel
def kh_X9 (cA : Nat → ClassId) (h0 : Nat) (u : kc_S) : va_W := (h0, .inr (9, [.ref (u.1 1), .ref (u.1 7), .ref (u.1 10), .ref (u.1 13), .ref (u.1 15), .ref (u.1 17), .ref (u.1 19), .int 0, .ref (u.1 32), .ref (u.1 48), .ref (u.1 64), .int (-1), .int (-1), .int (-1)])) :: (u.1 19, .inl (cA 4, 6, .inr (.inr (.inr (.inr (fun i => some (u.1 (20 + 2 * i)))))))) :: (([] : va_W) ++ kh_X5 cA (u.1 1) (kc_sub u 1) ++ kh_X0 cA (u.1 7) (kc_sub u 7) ++ kh_X7 cA (u.1 10) (kc_sub u 10) ++ kh_X3 cA (u.1 13) (kc_sub u 13) ++ kh_X6 cA (u.1 15) (kc_sub u 15) ++ kh_X4 cA (u.1 17) (kc_sub u 17) ++ kh_X2 cA (u.1 1) (u.1 7) (u.1 32) (kc_sub u 32) ++ kh_X2 cA (u.1 1) (u.1 7) (u.1 48) (kc_sub u 48) ++ kh_X2 cA (u.1 1) (u.1 7) (u.1 64) (kc_sub u 64) ++ (List.range 6).flatMap (fun i => kh_X4 cA (u.1 (20 + 2 * i)) (kc_sub u (20 + 2 * i))))
set_option maxHeartbeats 4000000 in
set_option maxRecDepth 100000 in
theorem kc_X9 (l : Launch) (D : va_G) (cA : Nat → ClassId) : kc_Met l D cA 9 yX9_init cX9_init 2 ⟨3, 229, 5140, 55⟩ [] (kh_X9 cA) 229 5140 := by
  refine kc_of kY_9 kw_ob_9 kw_oi kw_oc kd_9_0 kd_9_1 (Nat.le_of_ble_eq_true rfl) (Nat.le_of_ble_eq_true rfl) (fun _ => Nat.le_of_ble_eq_true rfl) ?_
  intro p e s m args below meth c h0 A Q ls hC hin hSt hl hEnd
  have hx := hC.1
  have hb := hC.2.1
  have hl : lv_has ls 2 [(0, .ref h0)] := hl
  have hSt : kc_St D A s.heap ((h0, .inr (9, [.null, .null, .null, .null, .null, .null, .null, .int 0, .null, .null, .null, .int 0, .int 0, .int 0])) :: ([])) s.heap [] := hSt
  refine lv_aload_n hx hb kd_9_4 rfl (lv_at hl 0 rfl) ?_
  refine kc_new hC hSt 5 (by decide) kw_cl_9_9 kw_in_5 rfl kw_re_5 (Nat.le_of_ble_eq_true rfl) (Nat.le_of_ble_eq_true rfl) kd_9_5 (fun q5 H hSt => ?_)
  refine lv_dup hx hb kd_9_8 rfl ?_
  refine kc_call (ws := (h0, .inr (9, [.null, .null, .null, .null, .null, .null, .null, .int 0, .null, .null, .null, .int 0, .int 0, .int 0])) :: ([])) (q := q5) (As := []) (kc_X5 l D cA) hC hSt kY_5 (Or.inl kw_ml_9_11) ⟨Nat.le_of_ble_eq_true rfl, Nat.le_of_ble_eq_true rfl⟩ rfl rfl rfl hl.1 rfl (Nat.le_of_ble_eq_true rfl) kd_9_9 ⟨Nat.le_of_ble_eq_true rfl, Nat.le_of_ble_eq_true rfl⟩ (fun u9 H locs hSt => ?_)
  have hSt : kc_St D A s.heap ((h0, .inr (9, [.null, .null, .null, .null, .null, .null, .null, .int 0, .null, .null, .null, .int 0, .int 0, .int 0])) :: (([] : va_W) ++ kh_X5 cA q5 u9)) H locs := hSt
  refine kc_put (t := 9) (k := 0) (idx := 12) (v := .ref q5) (fs := [.null, .null, .null, .null, .null, .null, .null, .int 0, .null, .null, .null, .int 0, .int 0, .int 0]) (fs' := [.ref q5, .null, .null, .null, .null, .null, .null, .int 0, .null, .null, .null, .int 0, .int 0, .int 0]) hC hin hSt (by decide) (plc := 267) (List.mem_of_getElem? (i := 82) (by decide +kernel)) (Nat.le_of_ble_eq_true rfl) rfl rfl (Nat.le_of_ble_eq_true rfl) rfl kd_9_12 (fun H locs hSt => ?_)
  refine lv_aload_n hx hb kd_9_15 rfl (lv_at hl 0 rfl) ?_
  refine kc_new hC hSt 0 (by decide) kw_cl_9_16 kw_in_0 rfl kw_re_0 (Nat.le_of_ble_eq_true rfl) (Nat.le_of_ble_eq_true rfl) kd_9_16 (fun q16 H hSt => ?_)
  refine lv_dup hx hb kd_9_19 rfl ?_
  refine kc_call (ws := (h0, .inr (9, [.ref q5, .null, .null, .null, .null, .null, .null, .int 0, .null, .null, .null, .int 0, .int 0, .int 0])) :: (([] : va_W) ++ kh_X5 cA q5 u9)) (q := q16) (As := []) (kc_X0 l D cA) hC hSt kY_0 (Or.inl kw_ml_9_18) ⟨Nat.le_of_ble_eq_true rfl, Nat.le_of_ble_eq_true rfl⟩ rfl rfl rfl hl.1 rfl (Nat.le_of_ble_eq_true rfl) kd_9_20 ⟨Nat.le_of_ble_eq_true rfl, Nat.le_of_ble_eq_true rfl⟩ (fun u20 H locs hSt => ?_)
  have hSt : kc_St D A s.heap ((h0, .inr (9, [.ref q5, .null, .null, .null, .null, .null, .null, .int 0, .null, .null, .null, .int 0, .int 0, .int 0])) :: (([] : va_W) ++ kh_X5 cA q5 u9 ++ kh_X0 cA q16 u20)) H locs := hSt
  refine kc_put (t := 9) (k := 1) (idx := 19) (v := .ref q16) (fs := [.ref q5, .null, .null, .null, .null, .null, .null, .int 0, .null, .null, .null, .int 0, .int 0, .int 0]) (fs' := [.ref q5, .ref q16, .null, .null, .null, .null, .null, .int 0, .null, .null, .null, .int 0, .int 0, .int 0]) hC hin hSt (by decide) (plc := 268) (List.mem_of_getElem? (i := 83) (by decide +kernel)) (Nat.le_of_ble_eq_true rfl) rfl rfl (Nat.le_of_ble_eq_true rfl) rfl kd_9_23 (fun H locs hSt => ?_)
  refine lv_aload_n hx hb kd_9_26 rfl (lv_at hl 0 rfl) ?_
  refine kc_new hC hSt 7 (by decide) kw_cl_9_23 kw_in_7 rfl kw_re_7 (Nat.le_of_ble_eq_true rfl) (Nat.le_of_ble_eq_true rfl) kd_9_27 (fun q27 H hSt => ?_)
  refine lv_dup hx hb kd_9_30 rfl ?_
  refine kc_call (ws := (h0, .inr (9, [.ref q5, .ref q16, .null, .null, .null, .null, .null, .int 0, .null, .null, .null, .int 0, .int 0, .int 0])) :: (([] : va_W) ++ kh_X5 cA q5 u9 ++ kh_X0 cA q16 u20)) (q := q27) (As := []) (kc_X7 l D cA) hC hSt kY_7 (Or.inr (List.mem_of_getElem? (i := 1) rfl)) ⟨Nat.le_of_ble_eq_true rfl, Nat.le_of_ble_eq_true rfl⟩ rfl rfl rfl hl.1 rfl (Nat.le_of_ble_eq_true rfl) kd_9_31 ⟨Nat.le_of_ble_eq_true rfl, Nat.le_of_ble_eq_true rfl⟩ (fun u31 H locs hSt => ?_)
  have hSt : kc_St D A s.heap ((h0, .inr (9, [.ref q5, .ref q16, .null, .null, .null, .null, .null, .int 0, .null, .null, .null, .int 0, .int 0, .int 0])) :: (([] : va_W) ++ kh_X5 cA q5 u9 ++ kh_X0 cA q16 u20 ++ kh_X7 cA q27 u31)) H locs := hSt
  refine kc_put (t := 9) (k := 2) (idx := 26) (v := .ref q27) (fs := [.ref q5, .ref q16, .null, .null, .null, .null, .null, .int 0, .null, .null, .null, .int 0, .int 0, .int 0]) (fs' := [.ref q5, .ref q16, .ref q27, .null, .null, .null, .null, .int 0, .null, .null, .null, .int 0, .int 0, .int 0]) hC hin hSt (by decide) (plc := 269) (List.mem_of_getElem? (i := 84) (by decide +kernel)) (Nat.le_of_ble_eq_true rfl) rfl rfl (Nat.le_of_ble_eq_true rfl) rfl kd_9_34 (fun H locs hSt => ?_)
  refine lv_aload_n hx hb kd_9_37 rfl (lv_at hl 0 rfl) ?_
  refine kc_new hC hSt 3 (by decide) kw_cl_9_30 kw_in_3 rfl kw_re_3 (Nat.le_of_ble_eq_true rfl) (Nat.le_of_ble_eq_true rfl) kd_9_38 (fun q38 H hSt => ?_)
  refine lv_dup hx hb kd_9_41 rfl ?_
  refine kc_call (ws := (h0, .inr (9, [.ref q5, .ref q16, .ref q27, .null, .null, .null, .null, .int 0, .null, .null, .null, .int 0, .int 0, .int 0])) :: (([] : va_W) ++ kh_X5 cA q5 u9 ++ kh_X0 cA q16 u20 ++ kh_X7 cA q27 u31)) (q := q38) (As := []) (kc_X3 l D cA) hC hSt kY_3 (Or.inr (List.mem_of_getElem? (i := 3) rfl)) ⟨Nat.le_of_ble_eq_true rfl, Nat.le_of_ble_eq_true rfl⟩ rfl rfl rfl hl.1 rfl (Nat.le_of_ble_eq_true rfl) kd_9_42 ⟨Nat.le_of_ble_eq_true rfl, Nat.le_of_ble_eq_true rfl⟩ (fun u42 H locs hSt => ?_)
  have hSt : kc_St D A s.heap ((h0, .inr (9, [.ref q5, .ref q16, .ref q27, .null, .null, .null, .null, .int 0, .null, .null, .null, .int 0, .int 0, .int 0])) :: (([] : va_W) ++ kh_X5 cA q5 u9 ++ kh_X0 cA q16 u20 ++ kh_X7 cA q27 u31 ++ kh_X3 cA q38 u42)) H locs := hSt
  refine kc_put (t := 9) (k := 3) (idx := 33) (v := .ref q38) (fs := [.ref q5, .ref q16, .ref q27, .null, .null, .null, .null, .int 0, .null, .null, .null, .int 0, .int 0, .int 0]) (fs' := [.ref q5, .ref q16, .ref q27, .ref q38, .null, .null, .null, .int 0, .null, .null, .null, .int 0, .int 0, .int 0]) hC hin hSt (by decide) (plc := 270) (List.mem_of_getElem? (i := 85) (by decide +kernel)) (Nat.le_of_ble_eq_true rfl) rfl rfl (Nat.le_of_ble_eq_true rfl) rfl kd_9_45 (fun H locs hSt => ?_)
  refine lv_aload_n hx hb kd_9_48 rfl (lv_at hl 0 rfl) ?_
  refine kc_new hC hSt 6 (by decide) kw_cl_9_37 kw_in_6 rfl kw_re_6 (Nat.le_of_ble_eq_true rfl) (Nat.le_of_ble_eq_true rfl) kd_9_49 (fun q49 H hSt => ?_)
  refine lv_dup hx hb kd_9_52 rfl ?_
  refine kc_call (ws := (h0, .inr (9, [.ref q5, .ref q16, .ref q27, .ref q38, .null, .null, .null, .int 0, .null, .null, .null, .int 0, .int 0, .int 0])) :: (([] : va_W) ++ kh_X5 cA q5 u9 ++ kh_X0 cA q16 u20 ++ kh_X7 cA q27 u31 ++ kh_X3 cA q38 u42)) (q := q49) (As := []) (kc_X6 l D cA) hC hSt kY_6 (Or.inr (List.mem_of_getElem? (i := 4) rfl)) ⟨Nat.le_of_ble_eq_true rfl, Nat.le_of_ble_eq_true rfl⟩ rfl rfl rfl hl.1 rfl (Nat.le_of_ble_eq_true rfl) kd_9_53 ⟨Nat.le_of_ble_eq_true rfl, Nat.le_of_ble_eq_true rfl⟩ (fun u53 H locs hSt => ?_)
  have hSt : kc_St D A s.heap ((h0, .inr (9, [.ref q5, .ref q16, .ref q27, .ref q38, .null, .null, .null, .int 0, .null, .null, .null, .int 0, .int 0, .int 0])) :: (([] : va_W) ++ kh_X5 cA q5 u9 ++ kh_X0 cA q16 u20 ++ kh_X7 cA q27 u31 ++ kh_X3 cA q38 u42 ++ kh_X6 cA q49 u53)) H locs := hSt
  refine kc_put (t := 9) (k := 4) (idx := 40) (v := .ref q49) (fs := [.ref q5, .ref q16, .ref q27, .ref q38, .null, .null, .null, .int 0, .null, .null, .null, .int 0, .int 0, .int 0]) (fs' := [.ref q5, .ref q16, .ref q27, .ref q38, .ref q49, .null, .null, .int 0, .null, .null, .null, .int 0, .int 0, .int 0]) hC hin hSt (by decide) (plc := 271) (List.mem_of_getElem? (i := 86) (by decide +kernel)) (Nat.le_of_ble_eq_true rfl) rfl rfl (Nat.le_of_ble_eq_true rfl) rfl kd_9_56 (fun H locs hSt => ?_)
  refine lv_aload_n hx hb kd_9_59 rfl (lv_at hl 0 rfl) ?_
  refine kc_new hC hSt 4 (by decide) kw_cl_9_44 kw_in_4 rfl kw_re_4 (Nat.le_of_ble_eq_true rfl) (Nat.le_of_ble_eq_true rfl) kd_9_60 (fun q60 H hSt => ?_)
  refine lv_dup hx hb kd_9_63 rfl ?_
  refine kc_call (ws := (h0, .inr (9, [.ref q5, .ref q16, .ref q27, .ref q38, .ref q49, .null, .null, .int 0, .null, .null, .null, .int 0, .int 0, .int 0])) :: (([] : va_W) ++ kh_X5 cA q5 u9 ++ kh_X0 cA q16 u20 ++ kh_X7 cA q27 u31 ++ kh_X3 cA q38 u42 ++ kh_X6 cA q49 u53)) (q := q60) (As := []) (kc_X4 l D cA) hC hSt kY_4 (Or.inr (List.mem_of_getElem? (i := 5) rfl)) ⟨Nat.le_of_ble_eq_true rfl, Nat.le_of_ble_eq_true rfl⟩ rfl rfl rfl hl.1 rfl (Nat.le_of_ble_eq_true rfl) kd_9_64 ⟨Nat.le_of_ble_eq_true rfl, Nat.le_of_ble_eq_true rfl⟩ (fun u64 H locs hSt => ?_)
  have hSt : kc_St D A s.heap ((h0, .inr (9, [.ref q5, .ref q16, .ref q27, .ref q38, .ref q49, .null, .null, .int 0, .null, .null, .null, .int 0, .int 0, .int 0])) :: (([] : va_W) ++ kh_X5 cA q5 u9 ++ kh_X0 cA q16 u20 ++ kh_X7 cA q27 u31 ++ kh_X3 cA q38 u42 ++ kh_X6 cA q49 u53 ++ kh_X4 cA q60 u64)) H locs := hSt
  refine kc_put (t := 9) (k := 5) (idx := 47) (v := .ref q60) (fs := [.ref q5, .ref q16, .ref q27, .ref q38, .ref q49, .null, .null, .int 0, .null, .null, .null, .int 0, .int 0, .int 0]) (fs' := [.ref q5, .ref q16, .ref q27, .ref q38, .ref q49, .ref q60, .null, .int 0, .null, .null, .null, .int 0, .int 0, .int 0]) hC hin hSt (by decide) (plc := 272) (List.mem_of_getElem? (i := 87) (by decide +kernel)) (Nat.le_of_ble_eq_true rfl) rfl rfl (Nat.le_of_ble_eq_true rfl) rfl kd_9_67 (fun H locs hSt => ?_)
  refine lv_aload_n hx hb kd_9_70 rfl (lv_at hl 0 rfl) ?_
  refine lv_bipush (v := 6) hx hb kd_9_71 (by decide) ?_
  refine kc_newq (N' := 6) hC hSt (C := RX4) kw_cl_9_44 hC.2.2.2.2.2.2.2.2.2 4 rfl (by decide) (by decide) (Nat.le_of_ble_eq_true rfl) (Nat.le_of_ble_eq_true rfl) (Nat.le_of_ble_eq_true rfl) kd_9_73 (fun q73 H hSt => ?_)
  have hSt := kc_swap (a := [(h0, .inr (9, [.ref q5, .ref q16, .ref q27, .ref q38, .ref q49, .ref q60, .null, .int 0, .null, .null, .null, .int 0, .int 0, .int 0]))]) (b := ([] : va_W) ++ kh_X5 cA q5 u9 ++ kh_X0 cA q16 u20 ++ kh_X7 cA q27 u31 ++ kh_X3 cA q38 u42 ++ kh_X6 cA q49 u53 ++ kh_X4 cA q60 u64) (c := [(q73, .inl (cA 4, 6, .inr (.inr (.inr (.inr (fun _ => none))))))]) hSt
  have hSt : kc_St D A s.heap ((h0, .inr (9, [.ref q5, .ref q16, .ref q27, .ref q38, .ref q49, .ref q60, .null, .int 0, .null, .null, .null, .int 0, .int 0, .int 0])) :: (q73, .inl (cA 4, 6, .inr (.inr (.inr (.inr (fun _ => none)))))) :: (([] : va_W) ++ kh_X5 cA q5 u9 ++ kh_X0 cA q16 u20 ++ kh_X7 cA q27 u31 ++ kh_X3 cA q38 u42 ++ kh_X6 cA q49 u53 ++ kh_X4 cA q60 u64)) H locs := hSt
  refine kc_put (t := 9) (k := 6) (idx := 51) (v := .ref q73) (fs := [.ref q5, .ref q16, .ref q27, .ref q38, .ref q49, .ref q60, .null, .int 0, .null, .null, .null, .int 0, .int 0, .int 0]) (fs' := [.ref q5, .ref q16, .ref q27, .ref q38, .ref q49, .ref q60, .ref q73, .int 0, .null, .null, .null, .int 0, .int 0, .int 0]) hC hin hSt (by decide) (plc := 273) (List.mem_of_getElem? (i := 88) (by decide +kernel)) (Nat.le_of_ble_eq_true rfl) rfl rfl (Nat.le_of_ble_eq_true rfl) rfl kd_9_76 (fun H locs hSt => ?_)
  refine lv_aload_n hx hb kd_9_79 rfl (lv_at hl 0 rfl) ?_
  refine lv_iconst (v := 0) hx hb kd_9_80 (by decide) ?_
  refine kc_put (t := 9) (k := 7) (idx := 55) (v := .int 0) (fs := [.ref q5, .ref q16, .ref q27, .ref q38, .ref q49, .ref q60, .ref q73, .int 0, .null, .null, .null, .int 0, .int 0, .int 0]) (fs' := [.ref q5, .ref q16, .ref q27, .ref q38, .ref q49, .ref q60, .ref q73, .int 0, .null, .null, .null, .int 0, .int 0, .int 0]) hC hin hSt (by decide) (plc := 274) (List.mem_of_getElem? (i := 89) (by decide +kernel)) (Nat.le_of_ble_eq_true rfl) rfl rfl (Nat.le_of_ble_eq_true rfl) rfl kd_9_81 (fun H locs hSt => ?_)
  refine lv_aload_n hx hb kd_9_84 rfl (lv_at hl 0 rfl) ?_
  refine kc_new hC hSt 2 (by decide) kw_cl_9_59 kw_in_2 rfl kw_re_2 (Nat.le_of_ble_eq_true rfl) (Nat.le_of_ble_eq_true rfl) kd_9_85 (fun q85 H hSt => ?_)
  refine lv_dup hx hb kd_9_88 rfl ?_
  refine lv_aload_n hx hb kd_9_89 rfl (lv_at hl 0 rfl) ?_
  refine kc_get (t := 9) (k := 0) (idx := 12) (fs := [.ref q5, .ref q16, .ref q27, .ref q38, .ref q49, .ref q60, .ref q73, .int 0, .null, .null, .null, .int 0, .int 0, .int 0]) (v := .ref q5) hC hSt (by decide) (plc := 267) (List.mem_of_getElem? (i := 82) (by decide +kernel)) (Nat.le_of_ble_eq_true rfl) rfl rfl kd_9_90 ?_
  refine lv_aload_n hx hb kd_9_93 rfl (lv_at hl 0 rfl) ?_
  refine kc_get (t := 9) (k := 1) (idx := 19) (fs := [.ref q5, .ref q16, .ref q27, .ref q38, .ref q49, .ref q60, .ref q73, .int 0, .null, .null, .null, .int 0, .int 0, .int 0]) (v := .ref q16) hC hSt (by decide) (plc := 268) (List.mem_of_getElem? (i := 83) (by decide +kernel)) (Nat.le_of_ble_eq_true rfl) rfl rfl kd_9_94 ?_
  refine kc_call (ws := (h0, .inr (9, [.ref q5, .ref q16, .ref q27, .ref q38, .ref q49, .ref q60, .ref q73, .int 0, .null, .null, .null, .int 0, .int 0, .int 0])) :: (q73, .inl (cA 4, 6, .inr (.inr (.inr (.inr (fun _ => none)))))) :: (([] : va_W) ++ kh_X5 cA q5 u9 ++ kh_X0 cA q16 u20 ++ kh_X7 cA q27 u31 ++ kh_X3 cA q38 u42 ++ kh_X6 cA q49 u53 ++ kh_X4 cA q60 u64)) (q := q85) (As := [.ref q5, .ref q16]) (kc_X2 l D cA q5 q16) hC hSt kY_2 (Or.inl kw_ml_9_61) ⟨Nat.le_of_ble_eq_true rfl, Nat.le_of_ble_eq_true rfl⟩ rfl rfl rfl hl.1 rfl (Nat.le_of_ble_eq_true rfl) kd_9_97 ⟨Nat.le_of_ble_eq_true rfl, Nat.le_of_ble_eq_true rfl⟩ (fun u97 H locs hSt => ?_)
  have hSt : kc_St D A s.heap ((h0, .inr (9, [.ref q5, .ref q16, .ref q27, .ref q38, .ref q49, .ref q60, .ref q73, .int 0, .null, .null, .null, .int 0, .int 0, .int 0])) :: (q73, .inl (cA 4, 6, .inr (.inr (.inr (.inr (fun _ => none)))))) :: (([] : va_W) ++ kh_X5 cA q5 u9 ++ kh_X0 cA q16 u20 ++ kh_X7 cA q27 u31 ++ kh_X3 cA q38 u42 ++ kh_X6 cA q49 u53 ++ kh_X4 cA q60 u64 ++ kh_X2 cA q5 q16 q85 u97)) H locs := hSt
  refine kc_put (t := 9) (k := 8) (idx := 64) (v := .ref q85) (fs := [.ref q5, .ref q16, .ref q27, .ref q38, .ref q49, .ref q60, .ref q73, .int 0, .null, .null, .null, .int 0, .int 0, .int 0]) (fs' := [.ref q5, .ref q16, .ref q27, .ref q38, .ref q49, .ref q60, .ref q73, .int 0, .ref q85, .null, .null, .int 0, .int 0, .int 0]) hC hin hSt (by decide) (plc := 275) (List.mem_of_getElem? (i := 90) (by decide +kernel)) (Nat.le_of_ble_eq_true rfl) rfl rfl (Nat.le_of_ble_eq_true rfl) rfl kd_9_100 (fun H locs hSt => ?_)
  refine lv_aload_n hx hb kd_9_103 rfl (lv_at hl 0 rfl) ?_
  refine kc_new hC hSt 2 (by decide) kw_cl_9_59 kw_in_2 rfl kw_re_2 (Nat.le_of_ble_eq_true rfl) (Nat.le_of_ble_eq_true rfl) kd_9_104 (fun q104 H hSt => ?_)
  refine lv_dup hx hb kd_9_107 rfl ?_
  refine lv_aload_n hx hb kd_9_108 rfl (lv_at hl 0 rfl) ?_
  refine kc_get (t := 9) (k := 0) (idx := 12) (fs := [.ref q5, .ref q16, .ref q27, .ref q38, .ref q49, .ref q60, .ref q73, .int 0, .ref q85, .null, .null, .int 0, .int 0, .int 0]) (v := .ref q5) hC hSt (by decide) (plc := 267) (List.mem_of_getElem? (i := 82) (by decide +kernel)) (Nat.le_of_ble_eq_true rfl) rfl rfl kd_9_109 ?_
  refine lv_aload_n hx hb kd_9_112 rfl (lv_at hl 0 rfl) ?_
  refine kc_get (t := 9) (k := 1) (idx := 19) (fs := [.ref q5, .ref q16, .ref q27, .ref q38, .ref q49, .ref q60, .ref q73, .int 0, .ref q85, .null, .null, .int 0, .int 0, .int 0]) (v := .ref q16) hC hSt (by decide) (plc := 268) (List.mem_of_getElem? (i := 83) (by decide +kernel)) (Nat.le_of_ble_eq_true rfl) rfl rfl kd_9_113 ?_
  refine kc_call (ws := (h0, .inr (9, [.ref q5, .ref q16, .ref q27, .ref q38, .ref q49, .ref q60, .ref q73, .int 0, .ref q85, .null, .null, .int 0, .int 0, .int 0])) :: (q73, .inl (cA 4, 6, .inr (.inr (.inr (.inr (fun _ => none)))))) :: (([] : va_W) ++ kh_X5 cA q5 u9 ++ kh_X0 cA q16 u20 ++ kh_X7 cA q27 u31 ++ kh_X3 cA q38 u42 ++ kh_X6 cA q49 u53 ++ kh_X4 cA q60 u64 ++ kh_X2 cA q5 q16 q85 u97)) (q := q104) (As := [.ref q5, .ref q16]) (kc_X2 l D cA q5 q16) hC hSt kY_2 (Or.inl kw_ml_9_61) ⟨Nat.le_of_ble_eq_true rfl, Nat.le_of_ble_eq_true rfl⟩ rfl rfl rfl hl.1 rfl (Nat.le_of_ble_eq_true rfl) kd_9_116 ⟨Nat.le_of_ble_eq_true rfl, Nat.le_of_ble_eq_true rfl⟩ (fun u116 H locs hSt => ?_)
  have hSt : kc_St D A s.heap ((h0, .inr (9, [.ref q5, .ref q16, .ref q27, .ref q38, .ref q49, .ref q60, .ref q73, .int 0, .ref q85, .null, .null, .int 0, .int 0, .int 0])) :: (q73, .inl (cA 4, 6, .inr (.inr (.inr (.inr (fun _ => none)))))) :: (([] : va_W) ++ kh_X5 cA q5 u9 ++ kh_X0 cA q16 u20 ++ kh_X7 cA q27 u31 ++ kh_X3 cA q38 u42 ++ kh_X6 cA q49 u53 ++ kh_X4 cA q60 u64 ++ kh_X2 cA q5 q16 q85 u97 ++ kh_X2 cA q5 q16 q104 u116)) H locs := hSt
  refine kc_put (t := 9) (k := 9) (idx := 68) (v := .ref q104) (fs := [.ref q5, .ref q16, .ref q27, .ref q38, .ref q49, .ref q60, .ref q73, .int 0, .ref q85, .null, .null, .int 0, .int 0, .int 0]) (fs' := [.ref q5, .ref q16, .ref q27, .ref q38, .ref q49, .ref q60, .ref q73, .int 0, .ref q85, .ref q104, .null, .int 0, .int 0, .int 0]) hC hin hSt (by decide) (plc := 276) (List.mem_of_getElem? (i := 91) (by decide +kernel)) (Nat.le_of_ble_eq_true rfl) rfl rfl (Nat.le_of_ble_eq_true rfl) rfl kd_9_119 (fun H locs hSt => ?_)
  refine lv_aload_n hx hb kd_9_122 rfl (lv_at hl 0 rfl) ?_
  refine kc_new hC hSt 2 (by decide) kw_cl_9_59 kw_in_2 rfl kw_re_2 (Nat.le_of_ble_eq_true rfl) (Nat.le_of_ble_eq_true rfl) kd_9_123 (fun q123 H hSt => ?_)
  refine lv_dup hx hb kd_9_126 rfl ?_
  refine lv_aload_n hx hb kd_9_127 rfl (lv_at hl 0 rfl) ?_
  refine kc_get (t := 9) (k := 0) (idx := 12) (fs := [.ref q5, .ref q16, .ref q27, .ref q38, .ref q49, .ref q60, .ref q73, .int 0, .ref q85, .ref q104, .null, .int 0, .int 0, .int 0]) (v := .ref q5) hC hSt (by decide) (plc := 267) (List.mem_of_getElem? (i := 82) (by decide +kernel)) (Nat.le_of_ble_eq_true rfl) rfl rfl kd_9_128 ?_
  refine lv_aload_n hx hb kd_9_131 rfl (lv_at hl 0 rfl) ?_
  refine kc_get (t := 9) (k := 1) (idx := 19) (fs := [.ref q5, .ref q16, .ref q27, .ref q38, .ref q49, .ref q60, .ref q73, .int 0, .ref q85, .ref q104, .null, .int 0, .int 0, .int 0]) (v := .ref q16) hC hSt (by decide) (plc := 268) (List.mem_of_getElem? (i := 83) (by decide +kernel)) (Nat.le_of_ble_eq_true rfl) rfl rfl kd_9_132 ?_
  refine kc_call (ws := (h0, .inr (9, [.ref q5, .ref q16, .ref q27, .ref q38, .ref q49, .ref q60, .ref q73, .int 0, .ref q85, .ref q104, .null, .int 0, .int 0, .int 0])) :: (q73, .inl (cA 4, 6, .inr (.inr (.inr (.inr (fun _ => none)))))) :: (([] : va_W) ++ kh_X5 cA q5 u9 ++ kh_X0 cA q16 u20 ++ kh_X7 cA q27 u31 ++ kh_X3 cA q38 u42 ++ kh_X6 cA q49 u53 ++ kh_X4 cA q60 u64 ++ kh_X2 cA q5 q16 q85 u97 ++ kh_X2 cA q5 q16 q104 u116)) (q := q123) (As := [.ref q5, .ref q16]) (kc_X2 l D cA q5 q16) hC hSt kY_2 (Or.inl kw_ml_9_61) ⟨Nat.le_of_ble_eq_true rfl, Nat.le_of_ble_eq_true rfl⟩ rfl rfl rfl hl.1 rfl (Nat.le_of_ble_eq_true rfl) kd_9_135 ⟨Nat.le_of_ble_eq_true rfl, Nat.le_of_ble_eq_true rfl⟩ (fun u135 H locs hSt => ?_)
  have hSt : kc_St D A s.heap ((h0, .inr (9, [.ref q5, .ref q16, .ref q27, .ref q38, .ref q49, .ref q60, .ref q73, .int 0, .ref q85, .ref q104, .null, .int 0, .int 0, .int 0])) :: (q73, .inl (cA 4, 6, .inr (.inr (.inr (.inr (fun _ => none)))))) :: (([] : va_W) ++ kh_X5 cA q5 u9 ++ kh_X0 cA q16 u20 ++ kh_X7 cA q27 u31 ++ kh_X3 cA q38 u42 ++ kh_X6 cA q49 u53 ++ kh_X4 cA q60 u64 ++ kh_X2 cA q5 q16 q85 u97 ++ kh_X2 cA q5 q16 q104 u116 ++ kh_X2 cA q5 q16 q123 u135)) H locs := hSt
  refine kc_put (t := 9) (k := 10) (idx := 71) (v := .ref q123) (fs := [.ref q5, .ref q16, .ref q27, .ref q38, .ref q49, .ref q60, .ref q73, .int 0, .ref q85, .ref q104, .null, .int 0, .int 0, .int 0]) (fs' := [.ref q5, .ref q16, .ref q27, .ref q38, .ref q49, .ref q60, .ref q73, .int 0, .ref q85, .ref q104, .ref q123, .int 0, .int 0, .int 0]) hC hin hSt (by decide) (plc := 277) (List.mem_of_getElem? (i := 92) (by decide +kernel)) (Nat.le_of_ble_eq_true rfl) rfl rfl (Nat.le_of_ble_eq_true rfl) rfl kd_9_138 (fun H locs hSt => ?_)
  refine lv_aload_n hx hb kd_9_141 rfl (lv_at hl 0 rfl) ?_
  refine lv_iconst (v := (-1)) hx hb kd_9_142 (by decide) ?_
  refine kc_put (t := 9) (k := 11) (idx := 74) (v := .int (-1)) (fs := [.ref q5, .ref q16, .ref q27, .ref q38, .ref q49, .ref q60, .ref q73, .int 0, .ref q85, .ref q104, .ref q123, .int 0, .int 0, .int 0]) (fs' := [.ref q5, .ref q16, .ref q27, .ref q38, .ref q49, .ref q60, .ref q73, .int 0, .ref q85, .ref q104, .ref q123, .int (-1), .int 0, .int 0]) hC hin hSt (by decide) (plc := 278) (List.mem_of_getElem? (i := 93) (by decide +kernel)) (Nat.le_of_ble_eq_true rfl) rfl rfl (Nat.le_of_ble_eq_true rfl) rfl kd_9_143 (fun H locs hSt => ?_)
  refine lv_aload_n hx hb kd_9_146 rfl (lv_at hl 0 rfl) ?_
  refine lv_iconst (v := (-1)) hx hb kd_9_147 (by decide) ?_
  refine kc_put (t := 9) (k := 12) (idx := 77) (v := .int (-1)) (fs := [.ref q5, .ref q16, .ref q27, .ref q38, .ref q49, .ref q60, .ref q73, .int 0, .ref q85, .ref q104, .ref q123, .int (-1), .int 0, .int 0]) (fs' := [.ref q5, .ref q16, .ref q27, .ref q38, .ref q49, .ref q60, .ref q73, .int 0, .ref q85, .ref q104, .ref q123, .int (-1), .int (-1), .int 0]) hC hin hSt (by decide) (plc := 279) (List.mem_of_getElem? (i := 94) (by decide +kernel)) (Nat.le_of_ble_eq_true rfl) rfl rfl (Nat.le_of_ble_eq_true rfl) rfl kd_9_148 (fun H locs hSt => ?_)
  refine lv_aload_n hx hb kd_9_151 rfl (lv_at hl 0 rfl) ?_
  refine lv_iconst (v := (-1)) hx hb kd_9_152 (by decide) ?_
  refine kc_put (t := 9) (k := 13) (idx := 80) (v := .int (-1)) (fs := [.ref q5, .ref q16, .ref q27, .ref q38, .ref q49, .ref q60, .ref q73, .int 0, .ref q85, .ref q104, .ref q123, .int (-1), .int (-1), .int 0]) (fs' := [.ref q5, .ref q16, .ref q27, .ref q38, .ref q49, .ref q60, .ref q73, .int 0, .ref q85, .ref q104, .ref q123, .int (-1), .int (-1), .int (-1)]) hC hin hSt (by decide) (plc := 280) (List.mem_of_getElem? (i := 95) (by decide +kernel)) (Nat.le_of_ble_eq_true rfl) rfl rfl (Nat.le_of_ble_eq_true rfl) rfl kd_9_153 (fun H locs hSt => ?_)
  refine lv_iconst (v := 0) hx hb kd_9_156 (by decide) ?_
  refine lv_istore_n hx hb kd_9_157 rfl hl (Nat.le_of_ble_eq_true rfl) rfl (fun ls hl => ?_)
  have hl : lv_has ls 2 [(1, .int 0), (0, .ref h0)] := hl
  refine kc_objs hC (t := 9) (k := 6) (idx := 51) (ws := (h0, .inr (9, [.ref q5, .ref q16, .ref q27, .ref q38, .ref q49, .ref q60, .ref q73, .int 0, .ref q85, .ref q104, .ref q123, .int (-1), .int (-1), .int (-1)])) :: (q73, .inl (cA 4, 6, .inr (.inr (.inr (.inr (fun _ => none)))))) :: (([] : va_W) ++ kh_X5 cA q5 u9 ++ kh_X0 cA q16 u20 ++ kh_X7 cA q27 u31 ++ kh_X3 cA q38 u42 ++ kh_X6 cA q49 u53 ++ kh_X4 cA q60 u64 ++ kh_X2 cA q5 q16 q85 u97 ++ kh_X2 cA q5 q16 q104 u116 ++ kh_X2 cA q5 q16 q123 u135)) (a := h0) (fs := [.ref q5, .ref q16, .ref q27, .ref q38, .ref q49, .ref q60, .ref q73, .int 0, .ref q85, .ref q104, .ref q123, .int (-1), .int (-1), .int (-1)]) (by decide) (plc := 273) (List.mem_of_getElem? (i := 88) (by decide +kernel)) (Nat.le_of_ble_eq_true rfl) q73 1 6 158 161 183 4 4 (by decide) (Nat.le_of_ble_eq_true rfl) rfl rfl rfl (by decide) rfl (by decide) (kc_X4 l D cA) kY_4 (fun _ _ => ⟨_, _, rfl⟩) (Or.inr (List.mem_of_getElem? (i := 5) rfl)) kw_cl_9_44 kw_in_4 rfl kw_re_4 ⟨Nat.le_of_ble_eq_true rfl, Nat.le_of_ble_eq_true rfl⟩ rfl rfl (Nat.le_of_ble_eq_true rfl) (Nat.le_of_ble_eq_true rfl) kd_9_158 (fun H locs cells slots ls st z => lv_bipush (v := nI 6) hx hb kd_9_159 (by decide) z) kd_9_161 (by decide) kd_9_164 kd_9_165 kd_9_168 kd_9_169 kd_9_172 kd_9_173 kd_9_176 kd_9_177 kd_9_180 (by decide) (fun H locs ls v us hl hSt => ?_) _ _ _ hl hSt
  have hSt := kc_re (y := .inl (cA 4, 6, .inr (.inr (.inr (.inr (fun i => some (([h0, q5, u9.1 1, u9.1 2, u9.1 3, u9.1 4, u9.1 5, q16, u20.1 1, u20.1 2, q27, u31.1 1, u31.1 2, q38, u42.1 1, q49, u53.1 1, q60, u64.1 1, q73, v 0, (us 0).1 1, v 1, (us 1).1 1, v 2, (us 2).1 1, v 3, (us 3).1 1, v 4, (us 4).1 1, v 5, (us 5).1 1, q85, u97.1 1, u97.1 2, u97.1 3, u97.1 4, u97.1 5, u97.1 6, u97.1 7, u97.1 8, u97.1 9, u97.1 10, u97.1 11, u97.1 12, u97.1 13, u97.1 14, u97.1 15, q104, u116.1 1, u116.1 2, u116.1 3, u116.1 4, u116.1 5, u116.1 6, u116.1 7, u116.1 8, u116.1 9, u116.1 10, u116.1 11, u116.1 12, u116.1 13, u116.1 14, u116.1 15, q123, u135.1 1, u135.1 2, u135.1 3, u135.1 4, u135.1 5, u135.1 6, u135.1 7, u135.1 8, u135.1 9, u135.1 10, u135.1 11, u135.1 12, u135.1 13, u135.1 14, u135.1 15] : List Nat).getD (20 + 2 * i) 0))))))) (Nat.succ_lt_succ (Nat.succ_pos _)) (fun z => by
    show H[q73]? = some (vp_cell _ _)
    rw [show H[q73]? = some (vp_cell (cA 4) (6, .inr (.inr (.inr (.inr (fun i => some (v i)))))))  from z, vp_cell_q, vp_cell_q]
    refine congrArg some (kc_arrV (fun i hi => ?_))
    rcases (show i = 0 ∨ i = 1 ∨ i = 2 ∨ i = 3 ∨ i = 4 ∨ i = 5 by omega) with rfl | rfl | rfl | rfl | rfl | rfl <;> rfl) hSt
  rw [kc_flat (f := fun i => kh_X4 cA (v i) (us i)) (g := fun i => kh_X4 cA ((([h0, q5, u9.1 1, u9.1 2, u9.1 3, u9.1 4, u9.1 5, q16, u20.1 1, u20.1 2, q27, u31.1 1, u31.1 2, q38, u42.1 1, q49, u53.1 1, q60, u64.1 1, q73, v 0, (us 0).1 1, v 1, (us 1).1 1, v 2, (us 2).1 1, v 3, (us 3).1 1, v 4, (us 4).1 1, v 5, (us 5).1 1, q85, u97.1 1, u97.1 2, u97.1 3, u97.1 4, u97.1 5, u97.1 6, u97.1 7, u97.1 8, u97.1 9, u97.1 10, u97.1 11, u97.1 12, u97.1 13, u97.1 14, u97.1 15, q104, u116.1 1, u116.1 2, u116.1 3, u116.1 4, u116.1 5, u116.1 6, u116.1 7, u116.1 8, u116.1 9, u116.1 10, u116.1 11, u116.1 12, u116.1 13, u116.1 14, u116.1 15, q123, u135.1 1, u135.1 2, u135.1 3, u135.1 4, u135.1 5, u135.1 6, u135.1 7, u135.1 8, u135.1 9, u135.1 10, u135.1 11, u135.1 12, u135.1 13, u135.1 14, u135.1 15] : List Nat).getD (20 + 2 * i) 0)) (kc_sub (fun k => ([h0, q5, u9.1 1, u9.1 2, u9.1 3, u9.1 4, u9.1 5, q16, u20.1 1, u20.1 2, q27, u31.1 1, u31.1 2, q38, u42.1 1, q49, u53.1 1, q60, u64.1 1, q73, v 0, (us 0).1 1, v 1, (us 1).1 1, v 2, (us 2).1 1, v 3, (us 3).1 1, v 4, (us 4).1 1, v 5, (us 5).1 1, q85, u97.1 1, u97.1 2, u97.1 3, u97.1 4, u97.1 5, u97.1 6, u97.1 7, u97.1 8, u97.1 9, u97.1 10, u97.1 11, u97.1 12, u97.1 13, u97.1 14, u97.1 15, q104, u116.1 1, u116.1 2, u116.1 3, u116.1 4, u116.1 5, u116.1 6, u116.1 7, u116.1 8, u116.1 9, u116.1 10, u116.1 11, u116.1 12, u116.1 13, u116.1 14, u116.1 15, q123, u135.1 1, u135.1 2, u135.1 3, u135.1 4, u135.1 5, u135.1 6, u135.1 7, u135.1 8, u135.1 9, u135.1 10, u135.1 11, u135.1 12, u135.1 13, u135.1 14, u135.1 15] : List Nat).getD k 0, u20.2) (20 + 2 * i))) (fun i hi => by rcases (show i = 0 ∨ i = 1 ∨ i = 2 ∨ i = 3 ∨ i = 4 ∨ i = 5 by omega) with rfl | rfl | rfl | rfl | rfl | rfl <;> rfl)] at hSt
  exact hEnd 183 ls H locs (fun k => ([h0, q5, u9.1 1, u9.1 2, u9.1 3, u9.1 4, u9.1 5, q16, u20.1 1, u20.1 2, q27, u31.1 1, u31.1 2, q38, u42.1 1, q49, u53.1 1, q60, u64.1 1, q73, v 0, (us 0).1 1, v 1, (us 1).1 1, v 2, (us 2).1 1, v 3, (us 3).1 1, v 4, (us 4).1 1, v 5, (us 5).1 1, q85, u97.1 1, u97.1 2, u97.1 3, u97.1 4, u97.1 5, u97.1 6, u97.1 7, u97.1 8, u97.1 9, u97.1 10, u97.1 11, u97.1 12, u97.1 13, u97.1 14, u97.1 15, q104, u116.1 1, u116.1 2, u116.1 3, u116.1 4, u116.1 5, u116.1 6, u116.1 7, u116.1 8, u116.1 9, u116.1 10, u116.1 11, u116.1 12, u116.1 13, u116.1 14, u116.1 15, q123, u135.1 1, u135.1 2, u135.1 3, u135.1 4, u135.1 5, u135.1 6, u135.1 7, u135.1 8, u135.1 9, u135.1 10, u135.1 11, u135.1 12, u135.1 13, u135.1 14, u135.1 15] : List Nat).getD k 0, u20.2) kd_9_183 hSt
