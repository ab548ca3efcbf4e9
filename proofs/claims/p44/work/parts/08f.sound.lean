section PDW
variable {p : Program} {l : Launch} {e : Env} {R : Room} {s : State} {m : MethodId} {args : Array Value} {below : List Frame} {meth : Method} {c : Code} {cells slots : Nat} {Q : State → Prop}
variable {ad : Nat → Nat} {D : va_G} {cA : Nat → ClassId} {xs : Nat → Int32} {A : Nat → Prop} {b L mi : Nat} {H0 : Heap}
variable {n : Nat} {r : pd_R} {pc : Nat} {ls : pd_L} {st : List pd_V} {σ : pd_H}
theorem pd_cl2_at {c0 a k f : Nat} (h : pd_cl2 c0 a k f = true) : ∃ e ∈ pd_CL, e.1 = c0 ∧ e.2.1 = a ∧ e.2.2.1 = k ∧ e.2.2.2.1 = f := by
  obtain ⟨e, h1, h2⟩ := List.any_eq_true.mp h
  simp only [Bool.and_eq_true] at h2
  obtain ⟨⟨⟨q1, q2⟩, q3⟩, q4⟩ := h2
  exact ⟨e, h1, Nat.eq_of_beq_eq_true q1, Nat.eq_of_beq_eq_true q2, Nat.eq_of_beq_eq_true q3, Nat.eq_of_beq_eq_true q4⟩
theorem pd_cl2_ok {c0 a k : Nat} (hT : pd_TF) (h : pd_cl2 c0 a k 0 = true) : Jvm.Cond.methodLink (pd_cn c0) a (pd_y k) ∈ pd_W := by
  obtain ⟨e, h1, q1, q2, q3, q4⟩ := pd_cl2_at h
  have := hT.2.2.2.2.2.1 e h1 q4
  rw [q1, q2, q3] at this
  exact this
theorem pd_ce_ok {k x y z f : Nat} (h : pd_ce mi k x y z f = true) : k < 89 ∧ (pd_mt k).1 = f ∧ x = pd_pn k + 1 - f ∧ y = pd_ml k ∧ pd_fr k + 1 ≤ pd_fr mi ∧ 8 + (pd_ml k + 11) + pd_lo k ≤ pd_lo mi := by
  unfold pd_ce at h
  simp only [Bool.and_eq_true] at h
  obtain ⟨⟨⟨⟨⟨⟨h1, h2⟩, h3⟩, h4⟩, h5⟩, h6⟩, h7⟩ := h
  exact ⟨Nat.le_of_ble_eq_true h1, Nat.eq_of_beq_eq_true h2, Nat.eq_of_beq_eq_true h3, Nat.eq_of_beq_eq_true h4, Nat.le_of_ble_eq_true h6, Nat.le_of_ble_eq_true h7⟩
set_option maxHeartbeats 4000000 in
theorem pd_op_ok {op : pd_O} (hck : pd_ck mi pc op = true) : pd_Cx p R s m args c cells slots ad xs A b L mi H0 → pd_TF → pd_Con l ad D cA xs A b L n → (∀ c' : pd_C, c'.1 = mi → p4_ex pd_cd n c' = some r → pd_K p l e R s m args below meth c cells slots Q ad D cA xs A L mi H0 c') → pd_Rt p l e R s m args below meth c cells slots Q ad D cA xs A L mi H0 r → pd_F (p4_ex pd_cd n) (p4_ex pd_cd n) (p4_op mi pc ls st σ op) = some r → pd_K p l e R s m args below meth c cells slots Q ad D cA xs A L mi H0 (mi, pc, ls, st, σ) := by
  intro hC hT hCon hK hRt hF
  obtain ⟨i, ln, ⟨k, x, y, z⟩, v, w, tb⟩ := op
  unfold pd_ck at hck
  rw [Bool.and_eq_true] at hck
  obtain ⟨hd0, hck⟩ := hck
  have hd : decode (pd_b mi) pc = .ok (i, ln) := of_decide_eq_true hd0
  cases i with
  | iconst a =>
      have hck : (Nat.beq ln 1 && decide (Int32.ofInt a = v)) = true := hck
      rw [Bool.and_eq_true] at hck
      obtain ⟨g1, f1⟩ := hck
      have e1 := Nat.eq_of_beq_eq_true g1
      have e2 := of_decide_eq_true f1
      subst e1; exact pd_s_iconst hd e2 hC hT hCon hK hRt hF
  | bipush a =>
      have hck : (Nat.beq ln 2 && decide ((Int8.ofInt a).toInt32 = v)) = true := hck
      rw [Bool.and_eq_true] at hck
      obtain ⟨g1, f1⟩ := hck
      have e1 := Nat.eq_of_beq_eq_true g1
      have e2 := of_decide_eq_true f1
      subst e1; exact pd_s_bipush hd e2 hC hT hCon hK hRt hF
  | sipush a =>
      have hck : (Nat.beq ln 3 && decide ((Int16.ofInt a).toInt32 = v)) = true := hck
      rw [Bool.and_eq_true] at hck
      obtain ⟨g1, f1⟩ := hck
      have e1 := Nat.eq_of_beq_eq_true g1
      have e2 := of_decide_eq_true f1
      subst e1; exact pd_s_sipush hd e2 hC hT hCon hK hRt hF
  | ldc a =>
      have hck : (Nat.beq ln 2 && pd_CI.any fun e => Nat.beq e.1 (pd_oc mi) && Nat.beq e.2.1 a && decide (e.2.2.1 = v)) = true := hck
      rw [Bool.and_eq_true] at hck
      obtain ⟨g1, f1⟩ := hck
      have e1 := Nat.eq_of_beq_eq_true g1
      have e2 := f1
      subst e1; exact pd_s_ldc hd e2 hC hT hCon hK hRt hF
  | ldc_w a =>
      have hck : (Nat.beq ln 3 && pd_CI.any fun e => Nat.beq e.1 (pd_oc mi) && Nat.beq e.2.1 a && decide (e.2.2.1 = v)) = true := hck
      rw [Bool.and_eq_true] at hck
      obtain ⟨g1, f1⟩ := hck
      have e1 := Nat.eq_of_beq_eq_true g1
      have e2 := f1
      subst e1; exact pd_s_ldc_w hd e2 hC hT hCon hK hRt hF
  | lconst a =>
      have hck : (Nat.beq ln 1 && decide (Int64.ofNat (a : Nat) = w)) = true := hck
      rw [Bool.and_eq_true] at hck
      obtain ⟨g1, f1⟩ := hck
      have e1 := Nat.eq_of_beq_eq_true g1
      have e2 := of_decide_eq_true f1
      subst e1; exact pd_s_lconst hd e2 hC hT hCon hK hRt hF
  | ldc2_w a =>
      have hck : (Nat.beq ln 3 && pd_CJ.any fun e => Nat.beq e.1 (pd_oc mi) && Nat.beq e.2.1 a && decide (e.2.2.1 = w)) = true := hck
      rw [Bool.and_eq_true] at hck
      obtain ⟨g1, f1⟩ := hck
      have e1 := Nat.eq_of_beq_eq_true g1
      have e2 := f1
      subst e1; exact pd_s_ldc2 hd e2 hC hT hCon hK hRt hF
  | iload a =>
      have hck : (Nat.beq ln 2 && Nat.beq k a) = true := hck
      rw [Bool.and_eq_true] at hck
      obtain ⟨g1, f1⟩ := hck
      have e1 := Nat.eq_of_beq_eq_true g1
      have e2 := Nat.eq_of_beq_eq_true f1
      subst e1; subst e2; exact pd_s_iload hd hC hT hCon hK hRt hF
  | iload_n a =>
      have hck : (Nat.beq ln 1 && Nat.beq k a) = true := hck
      rw [Bool.and_eq_true] at hck
      obtain ⟨g1, f1⟩ := hck
      have e1 := Nat.eq_of_beq_eq_true g1
      have e2 := Nat.eq_of_beq_eq_true f1
      subst e1; subst e2; exact pd_s_iload_n hd hC hT hCon hK hRt hF
  | istore a =>
      have hck : (Nat.beq ln 2 && Nat.beq k a && Nat.ble (k + 1) (pd_ml mi)) = true := hck
      rw [Bool.and_eq_true] at hck
      obtain ⟨g2, f2⟩ := hck
      rw [Bool.and_eq_true] at g2
      obtain ⟨g1, f1⟩ := g2
      have e1 := Nat.eq_of_beq_eq_true g1
      have e2 := Nat.eq_of_beq_eq_true f1
      have e3 := Nat.le_of_ble_eq_true f2
      subst e1; subst e2; exact pd_s_istore hd e3 hC hT hCon hK hRt hF
  | istore_n a =>
      have hck : (Nat.beq ln 1 && Nat.beq k a && Nat.ble (k + 1) (pd_ml mi)) = true := hck
      rw [Bool.and_eq_true] at hck
      obtain ⟨g2, f2⟩ := hck
      rw [Bool.and_eq_true] at g2
      obtain ⟨g1, f1⟩ := g2
      have e1 := Nat.eq_of_beq_eq_true g1
      have e2 := Nat.eq_of_beq_eq_true f1
      have e3 := Nat.le_of_ble_eq_true f2
      subst e1; subst e2; exact pd_s_istore_n hd e3 hC hT hCon hK hRt hF
  | lload a =>
      have hck : (Nat.beq ln 2 && Nat.beq k a) = true := hck
      rw [Bool.and_eq_true] at hck
      obtain ⟨g1, f1⟩ := hck
      have e1 := Nat.eq_of_beq_eq_true g1
      have e2 := Nat.eq_of_beq_eq_true f1
      subst e1; subst e2; exact pd_s_lload hd hC hT hCon hK hRt hF
  | lload_n a =>
      have hck : (Nat.beq ln 1 && Nat.beq k a) = true := hck
      rw [Bool.and_eq_true] at hck
      obtain ⟨g1, f1⟩ := hck
      have e1 := Nat.eq_of_beq_eq_true g1
      have e2 := Nat.eq_of_beq_eq_true f1
      subst e1; subst e2; exact pd_s_lload_n hd hC hT hCon hK hRt hF
  | lstore a =>
      have hck : (Nat.beq ln 2 && Nat.beq k a && Nat.ble (k + 2) (pd_ml mi)) = true := hck
      rw [Bool.and_eq_true] at hck
      obtain ⟨g2, f2⟩ := hck
      rw [Bool.and_eq_true] at g2
      obtain ⟨g1, f1⟩ := g2
      have e1 := Nat.eq_of_beq_eq_true g1
      have e2 := Nat.eq_of_beq_eq_true f1
      have e3 := Nat.le_of_ble_eq_true f2
      subst e1; subst e2; exact pd_s_lstore hd e3 hC hT hCon hK hRt hF
  | lstore_n a =>
      have hck : (Nat.beq ln 1 && Nat.beq k a && Nat.ble (k + 2) (pd_ml mi)) = true := hck
      rw [Bool.and_eq_true] at hck
      obtain ⟨g2, f2⟩ := hck
      rw [Bool.and_eq_true] at g2
      obtain ⟨g1, f1⟩ := g2
      have e1 := Nat.eq_of_beq_eq_true g1
      have e2 := Nat.eq_of_beq_eq_true f1
      have e3 := Nat.le_of_ble_eq_true f2
      subst e1; subst e2; exact pd_s_lstore_n hd e3 hC hT hCon hK hRt hF
  | aload a =>
      have hck : (Nat.beq ln 2 && Nat.beq k a) = true := hck
      rw [Bool.and_eq_true] at hck
      obtain ⟨g1, f1⟩ := hck
      have e1 := Nat.eq_of_beq_eq_true g1
      have e2 := Nat.eq_of_beq_eq_true f1
      subst e1; subst e2; exact pd_s_aload hd hC hT hCon hK hRt hF
  | aload_n a =>
      have hck : (Nat.beq ln 1 && Nat.beq k a) = true := hck
      rw [Bool.and_eq_true] at hck
      obtain ⟨g1, f1⟩ := hck
      have e1 := Nat.eq_of_beq_eq_true g1
      have e2 := Nat.eq_of_beq_eq_true f1
      subst e1; subst e2; exact pd_s_aload_n hd hC hT hCon hK hRt hF
  | astore a =>
      have hck : (Nat.beq ln 2 && Nat.beq k a && Nat.ble (k + 1) (pd_ml mi)) = true := hck
      rw [Bool.and_eq_true] at hck
      obtain ⟨g2, f2⟩ := hck
      rw [Bool.and_eq_true] at g2
      obtain ⟨g1, f1⟩ := g2
      have e1 := Nat.eq_of_beq_eq_true g1
      have e2 := Nat.eq_of_beq_eq_true f1
      have e3 := Nat.le_of_ble_eq_true f2
      subst e1; subst e2; exact pd_s_astore hd e3 hC hT hCon hK hRt hF
  | astore_n a =>
      have hck : (Nat.beq ln 1 && Nat.beq k a && Nat.ble (k + 1) (pd_ml mi)) = true := hck
      rw [Bool.and_eq_true] at hck
      obtain ⟨g2, f2⟩ := hck
      rw [Bool.and_eq_true] at g2
      obtain ⟨g1, f1⟩ := g2
      have e1 := Nat.eq_of_beq_eq_true g1
      have e2 := Nat.eq_of_beq_eq_true f1
      have e3 := Nat.le_of_ble_eq_true f2
      subst e1; subst e2; exact pd_s_astore_n hd e3 hC hT hCon hK hRt hF
  | iinc a b0 =>
      have hck : (Nat.beq ln 3 && Nat.beq k a && Nat.ble (k + 1) (pd_ml mi) && decide (Int32.ofInt b0 = v)) = true := hck
      rw [Bool.and_eq_true] at hck
      obtain ⟨g3, f3⟩ := hck
      rw [Bool.and_eq_true] at g3
      obtain ⟨g2, f2⟩ := g3
      rw [Bool.and_eq_true] at g2
      obtain ⟨g1, f1⟩ := g2
      have e1 := Nat.eq_of_beq_eq_true g1
      have e2 := Nat.eq_of_beq_eq_true f1
      have e3 := Nat.le_of_ble_eq_true f2
      have e4 := of_decide_eq_true f3
      subst e1; subst e2; exact pd_s_iinc hd e3 e4 hC hT hCon hK hRt hF
  | dup  =>
      have hck : (Nat.beq ln 1) = true := hck
      have e1 := Nat.eq_of_beq_eq_true hck
      subst e1; exact pd_s_dup hd hC hT hCon hK hRt hF
  | dup2  =>
      have hck : (Nat.beq ln 1) = true := hck
      have e1 := Nat.eq_of_beq_eq_true hck
      subst e1; exact pd_s_dup2 hd hC hT hCon hK hRt hF
  | pop  =>
      have hck : (Nat.beq ln 1) = true := hck
      have e1 := Nat.eq_of_beq_eq_true hck
      subst e1; exact pd_s_pop hd hC hT hCon hK hRt hF
  | iadd  =>
      have hck : (Nat.beq ln 1) = true := hck
      have e1 := Nat.eq_of_beq_eq_true hck
      subst e1; exact pd_s_iadd hd hC hT hCon hK hRt hF
  | isub  =>
      have hck : (Nat.beq ln 1) = true := hck
      have e1 := Nat.eq_of_beq_eq_true hck
      subst e1; exact pd_s_isub hd hC hT hCon hK hRt hF
  | imul  =>
      have hck : (Nat.beq ln 1) = true := hck
      have e1 := Nat.eq_of_beq_eq_true hck
      subst e1; exact pd_s_imul hd hC hT hCon hK hRt hF
  | iand  =>
      have hck : (Nat.beq ln 1) = true := hck
      have e1 := Nat.eq_of_beq_eq_true hck
      subst e1; exact pd_s_iand hd hC hT hCon hK hRt hF
  | ior  =>
      have hck : (Nat.beq ln 1) = true := hck
      have e1 := Nat.eq_of_beq_eq_true hck
      subst e1; exact pd_s_ior hd hC hT hCon hK hRt hF
  | ishl  =>
      have hck : (Nat.beq ln 1) = true := hck
      have e1 := Nat.eq_of_beq_eq_true hck
      subst e1; exact pd_s_ishl hd hC hT hCon hK hRt hF
  | ishr  =>
      have hck : (Nat.beq ln 1) = true := hck
      have e1 := Nat.eq_of_beq_eq_true hck
      subst e1; exact pd_s_ishr hd hC hT hCon hK hRt hF
  | iushr  =>
      have hck : (Nat.beq ln 1) = true := hck
      have e1 := Nat.eq_of_beq_eq_true hck
      subst e1; exact pd_s_iushr hd hC hT hCon hK hRt hF
  | idiv  =>
      have hck : (Nat.beq ln 1) = true := hck
      have e1 := Nat.eq_of_beq_eq_true hck
      subst e1; exact pd_s_idiv hd hC hT hCon hK hRt hF
  | irem  =>
      have hck : (Nat.beq ln 1) = true := hck
      have e1 := Nat.eq_of_beq_eq_true hck
      subst e1; exact pd_s_irem hd hC hT hCon hK hRt hF
  | ladd  =>
      have hck : (Nat.beq ln 1) = true := hck
      have e1 := Nat.eq_of_beq_eq_true hck
      subst e1; exact pd_s_ladd hd hC hT hCon hK hRt hF
  | lsub  =>
      have hck : (Nat.beq ln 1) = true := hck
      have e1 := Nat.eq_of_beq_eq_true hck
      subst e1; exact pd_s_lsub hd hC hT hCon hK hRt hF
  | lmul  =>
      have hck : (Nat.beq ln 1) = true := hck
      have e1 := Nat.eq_of_beq_eq_true hck
      subst e1; exact pd_s_lmul hd hC hT hCon hK hRt hF
  | land  =>
      have hck : (Nat.beq ln 1) = true := hck
      have e1 := Nat.eq_of_beq_eq_true hck
      subst e1; exact pd_s_land hd hC hT hCon hK hRt hF
  | lor  =>
      have hck : (Nat.beq ln 1) = true := hck
      have e1 := Nat.eq_of_beq_eq_true hck
      subst e1; exact pd_s_lor hd hC hT hCon hK hRt hF
  | lshl  =>
      have hck : (Nat.beq ln 1) = true := hck
      have e1 := Nat.eq_of_beq_eq_true hck
      subst e1; exact pd_s_lshl hd hC hT hCon hK hRt hF
  | lshr  =>
      have hck : (Nat.beq ln 1) = true := hck
      have e1 := Nat.eq_of_beq_eq_true hck
      subst e1; exact pd_s_lshr hd hC hT hCon hK hRt hF
  | ldiv  =>
      have hck : (Nat.beq ln 1) = true := hck
      have e1 := Nat.eq_of_beq_eq_true hck
      subst e1; exact pd_s_ldiv hd hC hT hCon hK hRt hF
  | lrem  =>
      have hck : (Nat.beq ln 1) = true := hck
      have e1 := Nat.eq_of_beq_eq_true hck
      subst e1; exact pd_s_lrem hd hC hT hCon hK hRt hF
  | lneg  =>
      have hck : (Nat.beq ln 1) = true := hck
      have e1 := Nat.eq_of_beq_eq_true hck
      subst e1; exact pd_s_lneg hd hC hT hCon hK hRt hF
  | lcmp  =>
      have hck : (Nat.beq ln 1) = true := hck
      have e1 := Nat.eq_of_beq_eq_true hck
      subst e1; exact pd_s_lcmp hd hC hT hCon hK hRt hF
  | i2l  =>
      have hck : (Nat.beq ln 1) = true := hck
      have e1 := Nat.eq_of_beq_eq_true hck
      subst e1; exact pd_s_i2l hd hC hT hCon hK hRt hF
  | l2i  =>
      have hck : (Nat.beq ln 1) = true := hck
      have e1 := Nat.eq_of_beq_eq_true hck
      subst e1; exact pd_s_l2i hd hC hT hCon hK hRt hF
  | i2b  =>
      have hck : (Nat.beq ln 1) = true := hck
      have e1 := Nat.eq_of_beq_eq_true hck
      subst e1; exact pd_s_i2b hd hC hT hCon hK hRt hF
  | i2c  =>
      have hck : (Nat.beq ln 1) = true := hck
      have e1 := Nat.eq_of_beq_eq_true hck
      subst e1; exact pd_s_i2c hd hC hT hCon hK hRt hF
  | i2s  =>
      have hck : (Nat.beq ln 1) = true := hck
      have e1 := Nat.eq_of_beq_eq_true hck
      subst e1; exact pd_s_i2s hd hC hT hCon hK hRt hF
  | i2f  =>
      have hck : (Nat.beq ln 1) = true := hck
      have e1 := Nat.eq_of_beq_eq_true hck
      subst e1; exact pd_s_i2f hd hC hT hCon hK hRt hF
  | l2f  =>
      have hck : (Nat.beq ln 1) = true := hck
      have e1 := Nat.eq_of_beq_eq_true hck
      subst e1; exact pd_s_l2f hd hC hT hCon hK hRt hF
  | f2l  =>
      have hck : (Nat.beq ln 1) = true := hck
      have e1 := Nat.eq_of_beq_eq_true hck
      subst e1; exact pd_s_f2l hd hC hT hCon hK hRt hF
  | l2d  =>
      have hck : (Nat.beq ln 1) = true := hck
      have e1 := Nat.eq_of_beq_eq_true hck
      subst e1; exact pd_s_l2d hd hC hT hCon hK hRt hF
  | d2l  =>
      have hck : (Nat.beq ln 1) = true := hck
      have e1 := Nat.eq_of_beq_eq_true hck
      subst e1; exact pd_s_d2l hd hC hT hCon hK hRt hF
  | iaload  =>
      have hck : (Nat.beq ln 1) = true := hck
      have e1 := Nat.eq_of_beq_eq_true hck
      subst e1; exact pd_s_iaload hd hC hT hCon hK hRt hF
  | baload  =>
      have hck : (Nat.beq ln 1) = true := hck
      have e1 := Nat.eq_of_beq_eq_true hck
      subst e1; exact pd_s_baload hd hC hT hCon hK hRt hF
  | laload  =>
      have hck : (Nat.beq ln 1) = true := hck
      have e1 := Nat.eq_of_beq_eq_true hck
      subst e1; exact pd_s_laload hd hC hT hCon hK hRt hF
  | aaload  =>
      have hck : (Nat.beq ln 1) = true := hck
      have e1 := Nat.eq_of_beq_eq_true hck
      subst e1; exact pd_s_aaload hd hC hT hCon hK hRt hF
  | iastore  =>
      have hck : (Nat.beq ln 1) = true := hck
      have e1 := Nat.eq_of_beq_eq_true hck
      subst e1; exact pd_s_iastore hd hC hT hCon hK hRt hF
  | bastore  =>
      have hck : (Nat.beq ln 1) = true := hck
      have e1 := Nat.eq_of_beq_eq_true hck
      subst e1; exact pd_s_bastore hd hC hT hCon hK hRt hF
  | lastore  =>
      have hck : (Nat.beq ln 1) = true := hck
      have e1 := Nat.eq_of_beq_eq_true hck
      subst e1; exact pd_s_lastore hd hC hT hCon hK hRt hF
  | arraylength  =>
      have hck : (Nat.beq ln 1) = true := hck
      have e1 := Nat.eq_of_beq_eq_true hck
      subst e1; exact pd_s_arraylength hd hC hT hCon hK hRt hF
  | ifCond q off =>
      have hck : (Nat.beq ln 3 && decide ((pc : Int) + off = (k : Int))) = true := hck
      rw [Bool.and_eq_true] at hck
      obtain ⟨g1, f1⟩ := hck
      have e1 := Nat.eq_of_beq_eq_true g1
      have e2 := of_decide_eq_true f1
      subst e1
      match st, hF with
      | .inl (.inl a0) :: ts, hF =>
        cases q with
        | eq => exact pd_s_if_eq hd e2 hC hT hCon hK hRt hF
        | ne => exact pd_s_if_ne hd e2 hC hT hCon hK hRt hF
        | lt => exact pd_s_if_lt hd e2 hC hT hCon hK hRt hF
        | ge => exact pd_s_if_ge hd e2 hC hT hCon hK hRt hF
        | gt => exact pd_s_if_gt hd e2 hC hT hCon hK hRt hF
        | le => exact pd_s_if_le hd e2 hC hT hCon hK hRt hF
  | if_icmp q off =>
      have hck : (Nat.beq ln 3 && decide ((pc : Int) + off = (k : Int))) = true := hck
      rw [Bool.and_eq_true] at hck
      obtain ⟨g1, f1⟩ := hck
      have e1 := Nat.eq_of_beq_eq_true g1
      have e2 := of_decide_eq_true f1
      subst e1
      match st, hF with
      | .inl (.inl b0) :: .inl (.inl a0) :: ts, hF =>
        cases q with
        | eq => exact pd_s_icmp_eq hd e2 hC hT hCon hK hRt hF
        | ne => exact pd_s_icmp_ne hd e2 hC hT hCon hK hRt hF
        | lt => exact pd_s_icmp_lt hd e2 hC hT hCon hK hRt hF
        | ge => exact pd_s_icmp_ge hd e2 hC hT hCon hK hRt hF
        | gt => exact pd_s_icmp_gt hd e2 hC hT hCon hK hRt hF
        | le => exact pd_s_icmp_le hd e2 hC hT hCon hK hRt hF
  | goto off =>
      have hck : (Nat.beq ln 3 && decide ((pc : Int) + off = (k : Int))) = true := hck
      rw [Bool.and_eq_true] at hck
      obtain ⟨g1, f1⟩ := hck
      have e1 := Nat.eq_of_beq_eq_true g1
      have e2 := of_decide_eq_true f1
      subst e1; exact pd_s_goto hd e2 hC hT hCon hK hRt hF
  | tableswitch d0 lo hi offs =>
      have hck : (decide ((pc : Int) + d0 = (k : Int)) && pd_tb pc lo offs.toList tb && decide (hi = lo + offs.size - 1)) = true := hck
      rw [Bool.and_eq_true] at hck
      obtain ⟨g2, f2⟩ := hck
      rw [Bool.and_eq_true] at g2
      obtain ⟨g1, f1⟩ := g2
      have e1 := of_decide_eq_true g1
      have e2 := f1
      have e3 := of_decide_eq_true f2
      match st, hF with
      | .inl (.inl a0) :: ts, hF => exact pd_s_table hd e1 e2 e3 hC hT hCon hK hRt hF
  | lookupswitch d0 ps =>
      have hck : (decide ((pc : Int) + d0 = (k : Int)) && pd_lk pc ps.toList tb && (ps.toList.zip (ps.toList.drop 1)).all (fun q => decide (q.1.1 < q.2.1))) = true := hck
      rw [Bool.and_eq_true] at hck
      obtain ⟨g2, f2⟩ := hck
      rw [Bool.and_eq_true] at g2
      obtain ⟨g1, f1⟩ := g2
      have e1 := of_decide_eq_true g1
      have e2 := f1
      have e3 := f2
      match st, hF with
      | .inl (.inl a0) :: ts, hF => exact pd_s_lookup hd e1 e2 e3 hC hT hCon hK hRt hF
  | getfield a =>
      have hck : (Nat.beq ln 3 && Nat.beq (pd_fs (pd_oc mi) a).1 x && Nat.ble (x + 1) 10 && Nat.ble ((pd_fs (pd_oc mi) a).2 + 1) (vwCl.getD x (RL, TX0, 0)).2.2 && decide (pd_fkd x (pd_fs (pd_oc mi) a).2 = (k, y, z))) = true := hck
      rw [Bool.and_eq_true] at hck
      obtain ⟨g4, f4⟩ := hck
      rw [Bool.and_eq_true] at g4
      obtain ⟨g3, f3⟩ := g4
      rw [Bool.and_eq_true] at g3
      obtain ⟨g2, f2⟩ := g3
      rw [Bool.and_eq_true] at g2
      obtain ⟨g1, f1⟩ := g2
      have e1 := Nat.eq_of_beq_eq_true g1
      have e2 := Nat.eq_of_beq_eq_true f1
      have e3 := Nat.le_of_ble_eq_true f2
      have e4 := Nat.le_of_ble_eq_true f3
      have e5 := of_decide_eq_true f4
      subst e1; exact pd_s_getfield hd e2 e3 e4 e5 hC hT hCon hK hRt hF
  | putfield a =>
      have hck : (Nat.beq ln 3 && Nat.beq (pd_fs (pd_oc mi) a).1 x && Nat.ble (x + 1) 10 && Nat.ble ((pd_fs (pd_oc mi) a).2 + 1) (vwCl.getD x (RL, TX0, 0)).2.2 && decide (pd_fkd x (pd_fs (pd_oc mi) a).2 = (cond (Nat.beq k 5) 0 k, y, z)) && decide (((vwCl.getD x (RL, TX0, 0)).2.1 (pd_fs (pd_oc mi) a).2).2.2.2 = false) && decide (pd_ty x (pd_fs (pd_oc mi) a).2 = pd_pty k) && (!Nat.beq k 4 || (Nat.ble y 1 && Nat.beq z 2))) = true := hck
      rw [Bool.and_eq_true] at hck
      obtain ⟨g7, f7⟩ := hck
      rw [Bool.and_eq_true] at g7
      obtain ⟨g6, f6⟩ := g7
      rw [Bool.and_eq_true] at g6
      obtain ⟨g5, f5⟩ := g6
      rw [Bool.and_eq_true] at g5
      obtain ⟨g4, f4⟩ := g5
      rw [Bool.and_eq_true] at g4
      obtain ⟨g3, f3⟩ := g4
      rw [Bool.and_eq_true] at g3
      obtain ⟨g2, f2⟩ := g3
      rw [Bool.and_eq_true] at g2
      obtain ⟨g1, f1⟩ := g2
      have e1 := Nat.eq_of_beq_eq_true g1
      have e2 := Nat.eq_of_beq_eq_true f1
      have e3 := Nat.le_of_ble_eq_true f2
      have e4 := Nat.le_of_ble_eq_true f3
      have e5 := of_decide_eq_true f4
      have e6 := of_decide_eq_true f5
      have e7 := of_decide_eq_true f6
      have e8 := f7
      subst e1
      refine pd_s_putfield hd e2 e3 e4 e5 e6 e7 (fun hk => ?_) hC hT hCon hK hRt hF
      subst hk
      have e8 : (Nat.ble y 1 && Nat.beq z 2) = true := e8
      rw [Bool.and_eq_true] at e8
      exact ⟨Nat.le_of_ble_eq_true e8.1, Nat.eq_of_beq_eq_true e8.2⟩
  | invokevirtual a =>
      have hck : (Nat.beq ln 3 && pd_cl2 (pd_oc mi) a k 0 && pd_ce mi k x y (z % 256) 0 && Nat.beq (z / 256) (pd_oc k) && Nat.ble (pd_oc k + 1) 10) = true := hck
      rw [Bool.and_eq_true] at hck
      obtain ⟨g4, f4⟩ := hck
      rw [Bool.and_eq_true] at g4
      obtain ⟨g3, f3⟩ := g4
      rw [Bool.and_eq_true] at g3
      obtain ⟨g2, f2⟩ := g3
      rw [Bool.and_eq_true] at g2
      obtain ⟨g1, f1⟩ := g2
      have e1 := Nat.eq_of_beq_eq_true g1
      have e2 := f1
      have e3 := f2
      have e4 := Nat.eq_of_beq_eq_true f3
      have e5 := Nat.le_of_ble_eq_true f4
      subst e1
      obtain ⟨q1, q2, q3, q4, q6, q7⟩ := pd_ce_ok e3
      have e6 := pd_cl2_ok hT e2
      exact pd_s_virtual hd q1 q2 q3 q4 e4 e5 q6 q7 e6 hC hT hCon hK hRt hF
  | invokestatic a =>
      have hck : (Nat.beq ln 3 && (pd_cl2 (pd_oc mi) a k 0 || pd_cl2 (pd_oc mi) a k 1) && pd_ce mi k x y z 1) = true := hck
      rw [Bool.and_eq_true] at hck
      obtain ⟨g2, f2⟩ := hck
      rw [Bool.and_eq_true] at g2
      obtain ⟨g1, f1⟩ := g2
      have e1 := Nat.eq_of_beq_eq_true g1
      have e2 := f1
      have e3 := f2
      subst e1
      obtain ⟨q1, q2, q3, q4, q6, q7⟩ := pd_ce_ok e3
      rw [Bool.or_eq_true] at e2
      have e6 := e2.imp (fun h => pd_cl2_ok hT h) (fun h => pd_cl2_at h)
      exact pd_s_static hd q1 q2 q3 q4 q6 q7 e6 hC hT hCon hK hRt hF
  | ireturn  =>
      have hck : (Nat.beq ln 1 && (Nat.beq k 0 && decide (pd_rt mi = some .int) || Nat.beq k 1 && decide (pd_rt mi = some .boolean))) = true := hck
      rw [Bool.and_eq_true] at hck
      obtain ⟨g1, f1⟩ := hck
      have e1 := Nat.eq_of_beq_eq_true g1
      have e2 := f1
      subst e1
      refine pd_s_ireturn hd ?_ hC hT hCon hK hRt hF
      simp only [Bool.or_eq_true, Bool.and_eq_true, decide_eq_true_eq] at e2
      exact e2.imp (fun h => ⟨Nat.eq_of_beq_eq_true h.1, h.2⟩) (fun h => ⟨Nat.eq_of_beq_eq_true h.1, h.2⟩)
  | lreturn  =>
      have hck : (Nat.beq ln 1 && decide (pd_rt mi = some .long)) = true := hck
      rw [Bool.and_eq_true] at hck
      obtain ⟨g1, f1⟩ := hck
      have e1 := Nat.eq_of_beq_eq_true g1
      have e2 := of_decide_eq_true f1
      subst e1; exact pd_s_lreturn hd e2 hC hT hCon hK hRt hF
  | areturn  =>
      have hck : (Nat.beq ln 1 && decide (pd_rt mi = some (.object RX1))) = true := hck
      rw [Bool.and_eq_true] at hck
      obtain ⟨g1, f1⟩ := hck
      have e1 := Nat.eq_of_beq_eq_true g1
      have e2 := of_decide_eq_true f1
      subst e1; exact pd_s_areturn hd e2 hC hT hCon hK hRt hF
  | return_  =>
      have hck : (Nat.beq ln 1 && decide (pd_rt mi = none)) = true := hck
      rw [Bool.and_eq_true] at hck
      obtain ⟨g1, f1⟩ := hck
      have e1 := Nat.eq_of_beq_eq_true g1
      have e2 := of_decide_eq_true f1
      subst e1; exact pd_s_return hd e2 hC hT hCon hK hRt hF
  | _ => cases hF
theorem pd_step {cf : pd_C} (hm : cf.1 = mi) (hC : pd_Cx p R s m args c cells slots ad xs A b L mi H0) (hT : pd_TF) (hCon : pd_Con l ad D cA xs A b L n) (hK : ∀ c' : pd_C, c'.1 = mi → p4_ex pd_cd n c' = some r → pd_K p l e R s m args below meth c cells slots Q ad D cA xs A L mi H0 c') (hRt : pd_Rt p l e R s m args below meth c cells slots Q ad D cA xs A L mi H0 r) (hF : p4_ex pd_cd (n + 1) cf = some r) : pd_K p l e R s m args below meth c cells slots Q ad D cA xs A L mi H0 cf := by
  obtain ⟨m0, pc, ls, st, σ⟩ := cf
  have hm : m0 = mi := hm
  subst hm
  have hF : pd_F (p4_ex pd_cd n) (p4_ex pd_cd n) (match pd_cd m0 pc with | some op => p4_op m0 pc ls st σ op | none => pd_no) = some r := hF
  cases hop : pd_cd m0 pc with
  | none => rw [hop] at hF; cases hF
  | some op =>
    rw [hop] at hF
    exact pd_op_ok (hT.1 m0 pc op hC.2.2.2.2.2.2.2.2.2.2.2.2.1 hop) hC hT hCon hK hRt hF
theorem pd_walk {N : Nat} (hC : pd_Cx p R s m args c cells slots ad xs A b L mi H0) (hT : pd_TF) (hCon : ∀ j, j < N → pd_Con l ad D cA xs A b L j) (hRt : pd_Rt p l e R s m args below meth c cells slots Q ad D cA xs A L mi H0 r) : ∀ j, j ≤ N → ∀ c' : pd_C, c'.1 = mi → p4_ex pd_cd j c' = some r → pd_K p l e R s m args below meth c cells slots Q ad D cA xs A L mi H0 c' := by
  intro j
  induction j with
  | zero => intro _ c' _ h; cases h
  | succ j ih => exact fun hj c' hc h => pd_step hc hC hT (hCon j hj) (ih (Nat.le_of_succ_le hj)) hRt h
theorem pd_nth_none {n k : Nat} : pd_nth (pd_none n) k = none := by
  induction n generalizing k with
  | zero => rfl
  | succ n ih =>
    cases k with
    | zero => rfl
    | succ k => exact ih
theorem pd_nth_en {av : List pd_V} : ∀ {n k : Nat} {v : pd_V}, pd_nth (pd_en av n) k = some v → v ∈ av := by
  induction av with
  | nil => intro n k v h; rw [show pd_en [] n = pd_none n from rfl, pd_nth_none] at h; cases h
  | cons a t ih =>
    intro n k v h
    have h : pd_nth (cond (pd_two a) (some a :: none :: pd_en t (n - 2)) (some a :: pd_en t (n - 1))) k = some v := h
    cases ha : pd_two a with
    | true =>
      rw [ha, cond_true] at h
      match k, h with
      | 0, h => cases h; exact List.mem_cons_self
      | k + 2, h => exact List.mem_cons_of_mem _ (ih h)
    | false =>
      rw [ha, cond_false] at h
      match k, h with
      | 0, h => cases h; exact List.mem_cons_self
      | k + 1, h => exact List.mem_cons_of_mem _ (ih h)
/-- the ends give the contract's -/
theorem pd_ends (hC : pd_Cx p R s m args c 0 0 ad xs A b L mi s.heap) (hr : meth.sig.returnType = pd_rt mi) (hlocks : meth.locks = false) : pd_Rt p l e R s m args below meth c 0 0 (MQ below (pd_Qc ad D cA xs A L r) args s 0 0 A) ad D cA xs A L mi s.heap r := by
  intro ins pc lsM H locs hd hend hok hWd hS
  obtain ⟨σr, v⟩ := r
  match v, ins, hend with
  | some (.inl (.inl x)), .ireturn, hend =>
    rcases hend with h | ⟨h, hx⟩
    · exact W.iret (v := x) hC.1 hC.2.1 (by rw [hr]; exact h) (fun t ht hW => ⟨rfl, hok, by rw [ht]; exact pd_Wd.moved hW.alike hWd, hS.F ht⟩) hS.2.2 hd hlocks
    · exact W.zret (v := x) (ty := .boolean) hC.1 hC.2.1 (by rw [hr]; exact h) (pd_nb hx).1 (fun t ht hW => ⟨rfl, hok, by rw [ht]; exact pd_Wd.moved hW.alike hWd, hS.F ht⟩) hS.2.2 hd hlocks
  | some (.inl (.inr x)), .lreturn, hend => exact W.lret (v := x) hC.1 hC.2.1 (by rw [hr]; exact hend) (fun t ht hW => ⟨rfl, hok, by rw [ht]; exact pd_Wd.moved hW.alike hWd, hS.F ht⟩) hS.2.2 hd hlocks
  | some (.inr (.inr (t0, o))), .areturn, hend => exact W.aret (v := .ref (ad o)) (rt := .object RX1) hC.1 hC.2.1 (by rw [hr]; exact hend) (Or.inl ⟨_, rfl⟩) (Or.inr ⟨_, rfl⟩) (fun t ht hW => ⟨rfl, hok, by rw [ht]; exact pd_Wd.moved hW.alike hWd, hS.F ht⟩) hS.2.2 hd hlocks
  | none, .return_, hend => exact W.vret hC.1 hC.2.1 (by rw [hr]; exact hend) (fun t ht hW => ⟨rfl, hok, by rw [ht]; exact pd_Wd.moved hW.alike hWd, hS.F ht⟩) hS.2.2 hd hlocks
/-- every method's contract -/
theorem pd_con (hT : pd_TF) (hE : pd_E ad A b L) : ∀ N, pd_Con l ad D cA xs A b L N := by
  intro N
  induction N using Nat.strongRecOn with
  | ind N ih =>
    intro k av σ r hk hok hcats hr
    have W0 := hT.2.1 k hk
    refine pd_ofW (cc := pd_b k) (maxL := pd_ml k) (ret := pd_rt k) W0.2.2.2.2.2.1 rfl ?_
    intro p e s m args below meth c s₁ B hml hv
    obtain ⟨rfl, hWd, hX, hbl, hNW⟩ := hv
    have hts := atoms_spec (ws := pd_wd k) B.pre
    have hown : s.vm.findClass (pd_y k).cls = some m.cls := findClass_of_methodNamed B.named
    have hC : pd_Cx p (headSpec (pd_wd k) (pd_rm k)).room s m (av.map (pd_cv ad)).toArray c 0 0 ad xs A b L k s.heap :=
      ⟨B.exec, B.bytes, hml, by rw [← W0.2.2.2.2.1]; exact hown, fun w hw => hts w (List.mem_cons_of_mem _ hw), Nat.le_refl _, Nat.le_refl _, Nat.zero_le _, Nat.zero_le _, hE, hX, hbl, Nat.lt_of_lt_of_le hk (by decide), hNW⟩
    have hl := lv_entry (av.map (pd_cv ad)) (n := pd_ml k) (by rw [pd_sl_len]; exact hcats)
    rw [lg_entry_eq]
    generalize (lg_sl (av.map (pd_cv ad)) ++ List.replicate (pd_ml k - (lg_sl (av.map (pd_cv ad))).length) Slot.unset).toArray = lsM at hl ⊢
    have hK := pd_walk (p := p) (l := l) (e := e) (below := below) (meth := meth) (N := N) (D := D) (cA := cA) hC hT (fun j hj => ih j hj) (pd_ends (r := r) hC B.returns B.notSynchronized) N (Nat.le_refl _) (k, 0, pd_en av (pd_ml k), [], σ) rfl hr
    refine hK lsM s.heap [] ⟨?_, fun q v hv => hok v (pd_nth_en hv), fun v hv => absurd hv List.not_mem_nil, hWd, va_S.rf⟩
    unfold pd_lok
    rw [pd_ps_en]
    exact hl
end PDW
