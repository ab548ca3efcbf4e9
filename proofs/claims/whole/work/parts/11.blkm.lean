theorem M_in_eq (a : Int32) (b : Int32) (c : Int32) (σ : pd_H) : M_in a b c σ =
 cond (decide (a < b))
 (some (σ, some (pd_i 0)))
 (cond (decide (c < a))
  (some (σ, some (pd_i 0)))
  (some (σ, some (pd_i 1)))) := (pd_dr_eq (cd := pd_cd) (fun q => false) 9 _).symm.trans rfl
theorem M_no_eq (a : Int32) (σ : pd_H) : M_no a σ =
 some (σ, some (pd_j (((-9223372036854775808) : Int64) - (Int32.toInt64 a)))) := (pd_dr_eq (cd := pd_cd) (fun q => false) 5 _).symm.trans rfl
theorem M_refused_eq (a : Int32) (σ : pd_H) : M_refused a σ =
 some (σ, some (pd_i (((-10) : Int32) - a))) := (pd_dr_eq (cd := pd_cd) (fun q => false) 4 _).symm.trans rfl
noncomputable def M_lengthOf_L4 (d0 : Option pd_V) (d1 : Option pd_V) (l2 : Int32) (l3 : Int64) (σ : pd_H) : Option pd_R := pd_u (122, 4, [d0, d1, some (pd_i l2), some (pd_j l3), none], [], σ)
theorem M_lengthOf_eq (a : Int64) (σ : pd_H) : M_lengthOf a σ =
 M_lengthOf_L4 (some (pd_j a)) none 0 a σ := (pd_dr_eq (cd := pd_cd) (fun q => Nat.beq q 4) 5 _).symm.trans rfl
theorem M_lengthOf_L4_eq (d0 : Option pd_V) (d1 : Option pd_V) (l2 : Int32) (l3 : Int64) (σ : pd_H) : M_lengthOf_L4 d0 d1 l2 l3 σ =
 cond (decide ((lg_cmp l3 (0 : Int64)) ≤ 0))
 (some (σ, some (pd_i l2)))
 (M_lengthOf_L4 d0 (cond (pd_is2 d1) none d1) (l2 + 1) (l3 >>> (Int32.toInt64 (1) &&& 63)) σ) := (pd_dr_eq (cd := pd_cd) (fun q => Nat.beq q 4) 11 _).symm.trans rfl
noncomputable def M_rounded_L12 (l0 : Int64) (l2 : Int32) (d3 : Option pd_V) (d4 : Option pd_V) (d5 : Option pd_V) (d6 : Option pd_V) (d7 : Option pd_V) (d8 : Option pd_V) (d9 : Option pd_V) (d10 : Option pd_V) (d11 : Option pd_V) (t0 : Int64) (σ : pd_H) : Option pd_R := pd_u (123, 12, [some (pd_j l0), none, some (pd_i l2), d3, d4, d5, d6, d7, d8, d9, d10, d11], [pd_j t0], σ)
noncomputable def M_rounded_L83 (l0 : Int64) (d2 : Option pd_V) (d3 : Option pd_V) (d4 : Option pd_V) (l5 : Int32) (d6 : Option pd_V) (d7 : Option pd_V) (d8 : Option pd_V) (d9 : Option pd_V) (d10 : Option pd_V) (d11 : Option pd_V) (t0 : Int64) (t1 : Int64) (σ : pd_H) : Option pd_R := pd_u (123, 83, [some (pd_j l0), none, d2, d3, d4, some (pd_i l5), d6, d7, d8, d9, d10, d11], [pd_j t0, pd_j t1], σ)
theorem M_rounded_eq (a : Int64) (b : Int32) (σ : pd_H) : M_rounded a b σ =
 cond (decide (0 ≤ (lg_cmp a (0 : Int64))))
 (M_rounded_L12 a b none none none none none none none none none a σ)
 (M_rounded_L12 a b none none none none none none none none none (-a) σ) := (pd_dr_eq (cd := pd_cd) (fun q => Nat.beq q 12 || Nat.beq q 83) 8 _).symm.trans rfl
theorem M_rounded_L12_eq (l0 : Int64) (l2 : Int32) (d3 : Option pd_V) (d4 : Option pd_V) (d5 : Option pd_V) (d6 : Option pd_V) (d7 : Option pd_V) (d8 : Option pd_V) (d9 : Option pd_V) (d10 : Option pd_V) (d11 : Option pd_V) (t0 : Int64) (σ : pd_H) : M_rounded_L12 l0 l2 d3 d4 d5 d6 d7 d8 d9 d10 d11 t0 σ =
 pd_bI (M_lengthOf t0 σ) fun s1 v2 =>
 cond (decide (0 < (v2 - l2)))
 (cond (decide (0 < (lg_cmp (t0 - ((t0 >>> (Int32.toInt64 ((v2 - l2)) &&& 63)) <<< (Int32.toInt64 ((v2 - l2)) &&& 63))) ((1 : Int64) <<< (Int32.toInt64 (((v2 - l2) - 1)) &&& 63)))))
  (M_rounded_L83 l0 (some (pd_i l2)) (some (pd_j t0)) none (v2 - l2) (some (pd_j (t0 >>> (Int32.toInt64 ((v2 - l2)) &&& 63)))) none (some (pd_j (t0 - ((t0 >>> (Int32.toInt64 ((v2 - l2)) &&& 63)) <<< (Int32.toInt64 ((v2 - l2)) &&& 63))))) none (some (pd_j ((1 : Int64) <<< (Int32.toInt64 (((v2 - l2) - 1)) &&& 63)))) none 1 (t0 >>> (Int32.toInt64 ((v2 - l2)) &&& 63)) s1)
  (cond (decide ((lg_cmp (t0 - ((t0 >>> (Int32.toInt64 ((v2 - l2)) &&& 63)) <<< (Int32.toInt64 ((v2 - l2)) &&& 63))) ((1 : Int64) <<< (Int32.toInt64 (((v2 - l2) - 1)) &&& 63))) = 0))
   (cond (decide ((lg_cmp ((t0 >>> (Int32.toInt64 ((v2 - l2)) &&& 63)) &&& 1) (1 : Int64)) = 0))
    (M_rounded_L83 l0 (some (pd_i l2)) (some (pd_j t0)) none (v2 - l2) (some (pd_j (t0 >>> (Int32.toInt64 ((v2 - l2)) &&& 63)))) none (some (pd_j (t0 - ((t0 >>> (Int32.toInt64 ((v2 - l2)) &&& 63)) <<< (Int32.toInt64 ((v2 - l2)) &&& 63))))) none (some (pd_j ((1 : Int64) <<< (Int32.toInt64 (((v2 - l2) - 1)) &&& 63)))) none 1 (t0 >>> (Int32.toInt64 ((v2 - l2)) &&& 63)) s1)
    (M_rounded_L83 l0 (some (pd_i l2)) (some (pd_j t0)) none (v2 - l2) (some (pd_j (t0 >>> (Int32.toInt64 ((v2 - l2)) &&& 63)))) none (some (pd_j (t0 - ((t0 >>> (Int32.toInt64 ((v2 - l2)) &&& 63)) <<< (Int32.toInt64 ((v2 - l2)) &&& 63))))) none (some (pd_j ((1 : Int64) <<< (Int32.toInt64 (((v2 - l2) - 1)) &&& 63)))) none 0 (t0 >>> (Int32.toInt64 ((v2 - l2)) &&& 63)) s1))
   (M_rounded_L83 l0 (some (pd_i l2)) (some (pd_j t0)) none (v2 - l2) (some (pd_j (t0 >>> (Int32.toInt64 ((v2 - l2)) &&& 63)))) none (some (pd_j (t0 - ((t0 >>> (Int32.toInt64 ((v2 - l2)) &&& 63)) <<< (Int32.toInt64 ((v2 - l2)) &&& 63))))) none (some (pd_j ((1 : Int64) <<< (Int32.toInt64 (((v2 - l2) - 1)) &&& 63)))) none 0 (t0 >>> (Int32.toInt64 ((v2 - l2)) &&& 63)) s1)))
 (some (s1, some (pd_j l0))) := (pd_dr_eq (cd := pd_cd) (fun q => Nat.beq q 12 || Nat.beq q 83) 42 _).symm.trans rfl
theorem M_rounded_L83_eq (l0 : Int64) (d2 : Option pd_V) (d3 : Option pd_V) (d4 : Option pd_V) (l5 : Int32) (d6 : Option pd_V) (d7 : Option pd_V) (d8 : Option pd_V) (d9 : Option pd_V) (d10 : Option pd_V) (d11 : Option pd_V) (t0 : Int64) (t1 : Int64) (σ : pd_H) : M_rounded_L83 l0 d2 d3 d4 l5 d6 d7 d8 d9 d10 d11 t0 t1 σ =
 cond (decide (0 ≤ (lg_cmp l0 (0 : Int64))))
 (some (σ, some (pd_j ((t1 + t0) <<< (Int32.toInt64 (l5) &&& 63)))))
 (some (σ, some (pd_j (-((t1 + t0) <<< (Int32.toInt64 (l5) &&& 63)))))) := (pd_dr_eq (cd := pd_cd) (fun q => Nat.beq q 12 || Nat.beq q 83) 12 _).symm.trans rfl
theorem M_widens_eq (a : Int32) (b : Int32) (σ : pd_H) : M_widens a b σ =
 cond (decide (a = 1))
 (pd_bI (M_in b 3 7 σ) fun s11 v12 =>
  cond (decide (v12 = 0))
  (cond (decide (b = (1 : Int32)))
   (some (s11, some (pd_i 1)))
   (some (s11, some (pd_i 0))))
  (some (s11, some (pd_i 1))))
 (cond (decide (a = 2))
 (pd_bI (M_in b 4 7 σ) fun s9 v10 =>
  cond (decide (v10 = 0))
  (cond (decide (b = (2 : Int32)))
   (some (s9, some (pd_i 1)))
   (some (s9, some (pd_i 0))))
  (some (s9, some (pd_i 1))))
 (cond (decide (a = 3))
 (pd_bI (M_in b a 7 σ) fun s7 v8 =>
  cond (decide (v8 = 0 ∨ v8 = 1)) (some (s7, some (pd_i v8))) none)
 (cond (decide (a = 4))
 (pd_bI (M_in b a 7 σ) fun s5 v6 =>
  cond (decide (v6 = 0 ∨ v6 = 1)) (some (s5, some (pd_i v6))) none)
 (cond (decide (a = 5))
 (pd_bI (M_in b a 7 σ) fun s3 v4 =>
  cond (decide (v4 = 0 ∨ v4 = 1)) (some (s3, some (pd_i v4))) none)
 (cond (decide (a = 6))
 (pd_bI (M_in b a 7 σ) fun s1 v2 =>
  cond (decide (v2 = 0 ∨ v2 = 1)) (some (s1, some (pd_i v2))) none)
 (cond (decide (a = b))
  (some (σ, some (pd_i 1)))
  (some (σ, some (pd_i 0))))))))) := (pd_dr_eq (cd := pd_cd) (fun q => false) 13 _).symm.trans rfl
noncomputable def M_wider_L37 (l0 : Int64) (d2 : Option pd_V) (l3 : Int32) (t0 : Int64) (σ : pd_H) : Option pd_R := pd_u (125, 37, [some (pd_j l0), none, d2, some (pd_i l3)], [pd_j t0], σ)
theorem M_wider_eq (a : Int64) (b : Int32) (c : Int32) (σ : pd_H) : M_wider a b c σ =
 cond (decide (b = c))
 (some (σ, some (pd_j a)))
 (cond (decide (c < (6 : Int32)))
  (some (σ, some (pd_j a)))
  (cond (decide (b = (6 : Int32)))
   (some (σ, some (pd_j a)))
   (cond (decide (c = (7 : Int32)))
    (cond (decide (b = (5 : Int32)))
     (M_wider_L37 a (some (pd_i b)) c 8 σ)
     (some (σ, some (pd_j ((8 : Int64) * a)))))
    (M_wider_L37 a (some (pd_i b)) c 8 σ)))) := (pd_dr_eq (cd := pd_cd) (fun q => Nat.beq q 37) 20 _).symm.trans rfl
theorem M_wider_L37_eq (l0 : Int64) (d2 : Option pd_V) (l3 : Int32) (t0 : Int64) (σ : pd_H) : M_wider_L37 l0 d2 l3 t0 σ =
 cond (decide (l3 = (6 : Int32)))
 (pd_bJ (M_rounded l0 24 σ) fun s3 v4 =>
  some (s3, some (pd_j (t0 * v4))))
 (pd_bJ (M_rounded l0 53 σ) fun s1 v2 =>
  some (s1, some (pd_j (t0 * v2)))) := (pd_dr_eq (cd := pd_cd) (fun q => Nat.beq q 37) 9 _).symm.trans rfl
theorem M_made_eq (a : Int32) (b : Int32) (σ : pd_H) : M_made a b σ =
 cond (decide (b = 0))
 (some (σ, some (pd_j (Int32.toInt64 (a &&& 1)))))
 (cond (decide (b = 1))
 (some (σ, some (pd_j (Int32.toInt64 ((Int32.toInt8 a).toInt32)))))
 (cond (decide (b = 2))
 (some (σ, some (pd_j (Int32.toInt64 ((Int32.toUInt32 a % 65536).toInt32)))))
 (cond (decide (b = 3))
 (some (σ, some (pd_j (Int32.toInt64 ((Int32.toInt16 a).toInt32)))))
 (cond (decide (b = 4))
 (some (σ, some (pd_j (Int32.toInt64 a))))
 (cond (decide (b = 5))
 (some (σ, some (pd_j ((Int32.toInt64 a) * 100000007))))
 (cond (decide (b = 6))
 (pd_bJ (M_rounded (Int32.toInt64 a) 24 σ) fun s1 v2 =>
  some (s1, some (pd_j v2)))
 (cond (decide (b = 7))
 (some (σ, some (pd_j (Int32.toInt64 a))))
 (cond (decide (b = 8))
 (some (σ, some (pd_j (Int32.toInt64 ((a &&& 2147483647) - (a &&& 2147483647) / (78 : Int32) * (78 : Int32))))))
 (cond (decide (b = 9))
 (some (σ, some (pd_j (Int32.toInt64 a))))
 (cond (decide (b = 10))
 (some (σ, some (pd_j (Int32.toInt64 a))))
 (cond (decide (b = 11))
 (some (σ, some (pd_j 0)))
 (some (σ, some (pd_j (Int32.toInt64 a))))))))))))))) := (pd_dr_eq (cd := pd_cd) (fun q => false) 9 _).symm.trans rfl
noncomputable def M_bitsOf_L12 (d0 : Option pd_V) (d1 : Option pd_V) (l2 : Int32) (l3 : Int32) (d4 : Option pd_V) (d5 : Option pd_V) (d6 : Option pd_V) (d7 : Option pd_V) (d8 : Option pd_V) (d9 : Option pd_V) (d10 : Option pd_V) (d11 : Option pd_V) (d12 : Option pd_V) (t0 : Int64) (σ : pd_H) : Option pd_R := pd_u (127, 12, [d0, d1, some (pd_i l2), some (pd_i l3), d4, d5, d6, d7, d8, d9, d10, d11, d12], [pd_j t0], σ)
noncomputable def M_bitsOf_L55 (d0 : Option pd_V) (d1 : Option pd_V) (l2 : Int32) (l3 : Int32) (d4 : Option pd_V) (d5 : Option pd_V) (l6 : Int32) (d7 : Option pd_V) (d8 : Option pd_V) (d9 : Option pd_V) (d10 : Option pd_V) (d11 : Option pd_V) (d12 : Option pd_V) (t0 : Int64) (σ : pd_H) : Option pd_R := pd_u (127, 55, [d0, d1, some (pd_i l2), some (pd_i l3), d4, d5, some (pd_i l6), d7, d8, d9, d10, d11, d12], [pd_j t0], σ)
theorem M_bitsOf_eq (a : Int64) (b : Int32) (c : Int32) (σ : pd_H) : M_bitsOf a b c σ =
 cond (decide (0 ≤ (lg_cmp a (0 : Int64))))
 (M_bitsOf_L12 (some (pd_j a)) none b c none none none none none none none none none a σ)
 (M_bitsOf_L12 (some (pd_j a)) none b c none none none none none none none none none (-a) σ) := (pd_dr_eq (cd := pd_cd) (fun q => Nat.beq q 12 || Nat.beq q 55) 8 _).symm.trans rfl
theorem M_bitsOf_L12_eq (d0 : Option pd_V) (d1 : Option pd_V) (l2 : Int32) (l3 : Int32) (d4 : Option pd_V) (d5 : Option pd_V) (d6 : Option pd_V) (d7 : Option pd_V) (d8 : Option pd_V) (d9 : Option pd_V) (d10 : Option pd_V) (d11 : Option pd_V) (d12 : Option pd_V) (t0 : Int64) (σ : pd_H) : M_bitsOf_L12 d0 d1 l2 l3 d4 d5 d6 d7 d8 d9 d10 d11 d12 t0 σ =
 cond (decide ((lg_cmp t0 (0 : Int64)) = 0))
 (some (σ, some (pd_j 0)))
 (pd_bI (M_lengthOf t0 σ) fun s1 v2 =>
  cond (decide ((v2 - 1) ≤ l2))
  (M_bitsOf_L55 d0 d1 l2 l3 (some (pd_j t0)) none (v2 - 1) d7 d8 d9 d10 d11 d12 (t0 <<< (Int32.toInt64 ((l2 - (v2 - 1))) &&& 63)) s1)
  (M_bitsOf_L55 d0 d1 l2 l3 (some (pd_j t0)) none (v2 - 1) d7 d8 d9 d10 d11 d12 (t0 >>> (Int32.toInt64 (((v2 - 1) - l2)) &&& 63)) s1)) := (pd_dr_eq (cd := pd_cd) (fun q => Nat.beq q 12 || Nat.beq q 55) 20 _).symm.trans rfl
theorem M_bitsOf_L55_eq (d0 : Option pd_V) (d1 : Option pd_V) (l2 : Int32) (l3 : Int32) (d4 : Option pd_V) (d5 : Option pd_V) (l6 : Int32) (d7 : Option pd_V) (d8 : Option pd_V) (d9 : Option pd_V) (d10 : Option pd_V) (d11 : Option pd_V) (d12 : Option pd_V) (t0 : Int64) (σ : pd_H) : M_bitsOf_L55 d0 d1 l2 l3 d4 d5 l6 d7 d8 d9 d10 d11 d12 t0 σ =
 some (σ, some (pd_j ((t0 - ((1 : Int64) <<< (Int32.toInt64 (l2) &&& 63))) + ((Int32.toInt64 ((l6 - 3) + l3)) <<< (Int32.toInt64 (l2) &&& 63))))) := (pd_dr_eq (cd := pd_cd) (fun q => Nat.beq q 12 || Nat.beq q 55) 20 _).symm.trans rfl
theorem M_isSlot_eq (a : Int32) (σ : pd_H) : M_isSlot a σ =
 pd_bI (M_in a 0 5 σ) fun s1 v2 =>
 cond (decide (v2 = 0 ∨ v2 = 1)) (some (s1, some (pd_i v2))) none := (pd_dr_eq (cd := pd_cd) (fun q => false) 5 _).symm.trans rfl
theorem M_isRow_eq (a : Int32) (σ : pd_H) : M_isRow a σ =
 cond (pd_ob a (pd_len 231)) none
 (pd_bI (M_in (σ.1 231 (Int32.toNatClampNeg a)) 0 12 σ) fun s1 v2 =>
 cond (decide (v2 = 0 ∨ v2 = 1)) (some (s1, some (pd_i v2))) none) := (pd_dr_eq (cd := pd_cd) (fun q => false) 8 _).symm.trans rfl
theorem M_lacksRow_eq (a : Int32) (σ : pd_H) : M_lacksRow a σ =
 cond (pd_ob a (pd_len 231)) none
 (cond (decide ((σ.1 231 (Int32.toNatClampNeg a)) = ((-1) : Int32)))
 (some (σ, some (pd_i 1)))
 (pd_bI (M_isRow a σ) fun s1 v2 =>
  cond (decide (v2 = 0))
  (some (s1, some (pd_i 2)))
  (some (s1, some (pd_i 0))))) := (pd_dr_eq (cd := pd_cd) (fun q => false) 13 _).symm.trans rfl
theorem M_lacksCell_eq (a : Int32) (b : Int32) (σ : pd_H) : M_lacksCell a b σ =
 pd_bI (M_lacksRow a σ) fun s1 v2 =>
 cond (decide (v2 ≤ 0))
 (cond (pd_ob a (pd_len 232)) none
  (pd_bI (M_in b 0 ((s1.1 232 (Int32.toNatClampNeg a)) - 1) s1) fun s3 v4 =>
  cond (decide (v4 = 0))
  (some (s3, some (pd_i 5)))
  (some (s3, some (pd_i 0)))))
 (some (s1, some (pd_i v2))) := (pd_dr_eq (cd := pd_cd) (fun q => false) 19 _).symm.trans rfl
noncomputable def M_asks_L34 (l1 : Int32) (l2 : Int32) (l3 : Int32) (d4 : Option pd_V) (d5 : Option pd_V) (σ : pd_H) : Option pd_R := pd_u (132, 34, [some (pd_r 10 230), some (pd_i l1), some (pd_i l2), some (pd_i l3), d4, d5], [], σ)
noncomputable def M_asks_L55 (l1 : Int32) (l2 : Int32) (l3 : Int32) (d4 : Option pd_V) (d5 : Option pd_V) (σ : pd_H) : Option pd_R := pd_u (132, 55, [some (pd_r 10 230), some (pd_i l1), some (pd_i l2), some (pd_i l3), d4, d5], [], σ)
noncomputable def M_asks_L99 (d1 : Option pd_V) (l2 : Int32) (d3 : Option pd_V) (d4 : Option pd_V) (l5 : Int32) (t0 : Int32) (σ : pd_H) : Option pd_R := pd_u (132, 99, [some (pd_r 10 230), d1, some (pd_i l2), d3, d4, some (pd_i l5)], [pd_i t0, pd_r 10 230], σ)
theorem M_asks_eq (a : Int32) (b : Int32) (c : Int32) (σ : pd_H) : M_asks a b c σ =
 pd_bI (M_lacksRow a σ) fun s1 v2 =>
 cond (decide (v2 ≤ 0))
 (cond (decide ((8 : Int32) ≤ b))
  (M_asks_L34 a b c (some (pd_i v2)) none s1)
  (cond (pd_ob a (pd_len 231)) none
   (cond (decide ((s1.1 231 (Int32.toNatClampNeg a)) ≤ (7 : Int32)))
   (M_asks_L34 a b c (some (pd_i v2)) none s1)
   (some (s1, some (pd_i 3))))))
 (some (s1, some (pd_i v2))) := (pd_dr_eq (cd := pd_cd) (fun q => Nat.beq q 34 || Nat.beq q 55 || Nat.beq q 99) 17 _).symm.trans rfl
theorem M_asks_L34_eq (l1 : Int32) (l2 : Int32) (l3 : Int32) (d4 : Option pd_V) (d5 : Option pd_V) (σ : pd_H) : M_asks_L34 l1 l2 l3 d4 d5 σ =
 cond (decide ((8 : Int32) ≤ l2))
 (M_asks_L55 l1 l2 l3 d4 d5 σ)
 (cond (pd_ob l1 (pd_len 231)) none
  (pd_bI (M_widens (σ.1 231 (Int32.toNatClampNeg l1)) l2 σ) fun s1 v2 =>
  cond (decide (v2 = 0))
  (some (s1, some (pd_i 4)))
  (M_asks_L55 l1 l2 l3 d4 d5 s1))) := (pd_dr_eq (cd := pd_cd) (fun q => Nat.beq q 34 || Nat.beq q 55 || Nat.beq q 99) 12 _).symm.trans rfl
theorem M_asks_L55_eq (l1 : Int32) (l2 : Int32) (l3 : Int32) (d4 : Option pd_V) (d5 : Option pd_V) (σ : pd_H) : M_asks_L55 l1 l2 l3 d4 d5 σ =
 cond (pd_ob l1 (pd_len 232)) none
 (pd_bI (M_in l3 0 ((σ.1 232 (Int32.toNatClampNeg l1)) - 1) σ) fun s1 v2 =>
 cond (decide (v2 = 0))
 (some (s1, some (pd_i 5)))
 (cond (decide ((8 : Int32) ≤ l2))
  (cond (pd_ob (((12 : Int32) * l1) + l3) (pd_len 233)) none
   (M_asks_L99 (some (pd_i l1)) l2 (some (pd_i l3)) (cond (pd_is2 d4) none d4) (((12 : Int32) * l1) + l3) (s1.1 233 (Int32.toNatClampNeg (((12 : Int32) * l1) + l3))) s1))
  (M_asks_L99 (some (pd_i l1)) l2 (some (pd_i l3)) (cond (pd_is2 d4) none d4) (((12 : Int32) * l1) + l3) l2 s1))) := (pd_dr_eq (cd := pd_cd) (fun q => Nat.beq q 34 || Nat.beq q 55 || Nat.beq q 99) 25 _).symm.trans rfl
theorem M_asks_L99_eq (d1 : Option pd_V) (l2 : Int32) (d3 : Option pd_V) (d4 : Option pd_V) (l5 : Int32) (t0 : Int32) (σ : pd_H) : M_asks_L99 d1 l2 d3 d4 l5 t0 σ =
 cond (decide ((8 : Int32) ≤ l2))
 (cond (pd_ob l5 (pd_len 234)) none
  (some (pd_upJ (pd_upI σ 230 31 t0) 230 32 ((pd_upI σ 230 31 t0).2.1 234 (Int32.toNatClampNeg l5)), some (pd_i 0))))
 (cond (pd_ob l5 (pd_len 234)) none
  (cond (pd_ob l5 (pd_len 233)) none
  (pd_bJ (M_wider ((pd_upI σ 230 31 t0).2.1 234 (Int32.toNatClampNeg l5)) ((pd_upI σ 230 31 t0).1 233 (Int32.toNatClampNeg l5)) l2 (pd_upI σ 230 31 t0)) fun s1 v2 =>
  some (pd_upJ s1 230 32 v2, some (pd_i 0))))) := (pd_dr_eq (cd := pd_cd) (fun q => Nat.beq q 34 || Nat.beq q 55 || Nat.beq q 99) 19 _).symm.trans rfl
theorem M_takes_eq (a : Int32) (b : Int32) (σ : pd_H) : M_takes a b σ =
 cond (decide ((16 : Int32) ≤ b))
 (cond (decide (b = 16))
  (cond (decide (a = (8 : Int32)))
   (some (σ, some (pd_i 1)))
   (cond (decide (a = (12 : Int32)))
    (some (σ, some (pd_i 1)))
    (some (σ, some (pd_i 0)))))
  (cond (decide (b = 17))
  (cond (decide (a = (9 : Int32)))
   (some (σ, some (pd_i 1)))
   (some (σ, some (pd_i 0))))
  (cond (decide (b = 18))
  (cond (decide (a = (9 : Int32)))
   (some (σ, some (pd_i 1)))
   (cond (decide (a = (10 : Int32)))
    (some (σ, some (pd_i 1)))
    (some (σ, some (pd_i 0)))))
  (cond (decide (a ≤ (7 : Int32)))
   (some (σ, some (pd_i 0)))
   (some (σ, some (pd_i 1)))))))
 (cond (decide ((8 : Int32) ≤ a))
  (cond (decide (a = (12 : Int32)))
   (some (σ, some (pd_i 1)))
   (cond (decide (a = (11 : Int32)))
    (cond (decide (b = (12 : Int32)))
     (some (σ, some (pd_i 1)))
     (some (σ, some (pd_i 0))))
    (some (σ, some (pd_i 0)))))
  (pd_bI (M_widens (b - 8) a σ) fun s1 v2 =>
   cond (decide (v2 = 0 ∨ v2 = 1)) (some (s1, some (pd_i v2))) none)) := (pd_dr_eq (cd := pd_cd) (fun q => false) 18 _).symm.trans rfl
noncomputable def M_lays_L38 (l1 : Int32) (l2 : Int32) (l3 : Int32) (l4 : Int32) (l5 : Int64) (d7 : Option pd_V) (l8 : Int32) (d9 : Option pd_V) (σ : pd_H) : Option pd_R := pd_u (134, 38, [some (pd_r 10 230), some (pd_i l1), some (pd_i l2), some (pd_i l3), some (pd_i l4), some (pd_j l5), none, d7, some (pd_i l8), d9], [], σ)
noncomputable def M_lays_L67 (l1 : Int32) (d2 : Option pd_V) (l3 : Int32) (l4 : Int32) (l5 : Int64) (d7 : Option pd_V) (l8 : Int32) (d9 : Option pd_V) (σ : pd_H) : Option pd_R := pd_u (134, 67, [some (pd_r 10 230), some (pd_i l1), d2, some (pd_i l3), some (pd_i l4), some (pd_j l5), none, d7, some (pd_i l8), d9], [], σ)
noncomputable def M_lays_L113 (d1 : Option pd_V) (d2 : Option pd_V) (d3 : Option pd_V) (l4 : Int32) (l5 : Int64) (d7 : Option pd_V) (l8 : Int32) (l9 : Int32) (t0 : Int32) (t1 : Int32) (t2 : Nat) (σ : pd_H) : Option pd_R := pd_u (134, 113, [some (pd_r 10 230), d1, d2, d3, some (pd_i l4), some (pd_j l5), none, d7, some (pd_i l8), some (pd_i l9)], [pd_i t0, pd_i t1, pd_r 20 t2], σ)
theorem M_lays_eq (a : Int32) (b : Int32) (c : Int32) (d : Int32) (e : Int64) (σ : pd_H) : M_lays a b c d e σ =
 pd_bI (M_lacksRow a σ) fun s1 v2 =>
 cond (decide (v2 ≤ 0))
 (cond (pd_ob a (pd_len 231)) none
  (cond (decide ((8 : Int32) ≤ b))
  (M_lays_L38 a b c d e (some (pd_i v2)) (s1.1 231 (Int32.toNatClampNeg a)) none s1)
  (cond (decide ((s1.1 231 (Int32.toNatClampNeg a)) ≤ (7 : Int32)))
   (M_lays_L38 a b c d e (some (pd_i v2)) (s1.1 231 (Int32.toNatClampNeg a)) none s1)
   (some (s1, some (pd_i 3))))))
 (some (s1, some (pd_i v2))) := (pd_dr_eq (cd := pd_cd) (fun q => Nat.beq q 38 || Nat.beq q 67 || Nat.beq q 113) 19 _).symm.trans rfl
theorem M_lays_L38_eq (l1 : Int32) (l2 : Int32) (l3 : Int32) (l4 : Int32) (l5 : Int64) (d7 : Option pd_V) (l8 : Int32) (d9 : Option pd_V) (σ : pd_H) : M_lays_L38 l1 l2 l3 l4 l5 d7 l8 d9 σ =
 cond (decide ((8 : Int32) ≤ l2))
 (pd_bI (M_takes l8 l2 σ) fun s1 v2 =>
  cond (decide (v2 = 0))
  (some (s1, some (pd_i 4)))
  (M_lays_L67 l1 (some (pd_i l2)) l3 l4 l5 d7 l8 d9 s1))
 (pd_bI (M_widens l2 l8 σ) fun s3 v4 =>
  cond (decide (v4 = 0))
  (some (s3, some (pd_i 4)))
  (M_lays_L67 l1 (some (pd_i l2)) l3 l4 l5 d7 l8 d9 s3)) := (pd_dr_eq (cd := pd_cd) (fun q => Nat.beq q 38 || Nat.beq q 67 || Nat.beq q 113) 10 _).symm.trans rfl
theorem M_lays_L67_eq (l1 : Int32) (d2 : Option pd_V) (l3 : Int32) (l4 : Int32) (l5 : Int64) (d7 : Option pd_V) (l8 : Int32) (d9 : Option pd_V) (σ : pd_H) : M_lays_L67 l1 d2 l3 l4 l5 d7 l8 d9 σ =
 cond (pd_ob l1 (pd_len 232)) none
 (pd_bI (M_in l3 0 ((σ.1 232 (Int32.toNatClampNeg l1)) - 1) σ) fun s1 v2 =>
 cond (decide (v2 = 0))
 (some (s1, some (pd_i 5)))
 (cond (decide ((8 : Int32) ≤ l8))
  (M_lays_L113 (some (pd_i l1)) d2 (some (pd_i l3)) l4 l5 d7 l8 (((12 : Int32) * l1) + l3) l4 (((12 : Int32) * l1) + l3) 233 s1)
  (M_lays_L113 (some (pd_i l1)) d2 (some (pd_i l3)) l4 l5 d7 l8 (((12 : Int32) * l1) + l3) l8 (((12 : Int32) * l1) + l3) 233 s1))) := (pd_dr_eq (cd := pd_cd) (fun q => Nat.beq q 38 || Nat.beq q 67 || Nat.beq q 113) 25 _).symm.trans rfl
theorem M_lays_L113_eq (d1 : Option pd_V) (d2 : Option pd_V) (d3 : Option pd_V) (l4 : Int32) (l5 : Int64) (d7 : Option pd_V) (l8 : Int32) (l9 : Int32) (t0 : Int32) (t1 : Int32) (t2 : Nat) (σ : pd_H) : M_lays_L113 d1 d2 d3 l4 l5 d7 l8 l9 t0 t1 t2 σ =
 cond (pd_ob t1 (pd_len t2)) none
 (cond (decide ((8 : Int32) ≤ l8))
 (cond (pd_ob l9 (pd_len 234)) none
  (some (pd_upJ (pd_upI σ t2 (Int32.toNatClampNeg t1) t0) 234 (Int32.toNatClampNeg l9) l5, some (pd_i 0))))
 (pd_bJ (M_wider l5 l4 l8 (pd_upI σ t2 (Int32.toNatClampNeg t1) t0)) fun s1 v2 =>
  cond (pd_ob l9 (pd_len 234)) none
  (some (pd_upJ s1 234 (Int32.toNatClampNeg l9) v2, some (pd_i 0))))) := (pd_dr_eq (cd := pd_cd) (fun q => Nat.beq q 38 || Nat.beq q 67 || Nat.beq q 113) 15 _).symm.trans rfl
theorem M_meets_eq (a : Int32) (b : Int32) (σ : pd_H) : M_meets a b σ =
 cond (pd_ob (((6 : Int32) * a) + b) (pd_len 256)) none
 (cond (pd_ob (((6 : Int32) * a) + b) (pd_len 256)) none
 (some (pd_upI σ 256 (Int32.toNatClampNeg (((6 : Int32) * a) + b)) ((σ.1 256 (Int32.toNatClampNeg (((6 : Int32) * a) + b))) + 1), none))) := (pd_dr_eq (cd := pd_cd) (fun q => false) 13 _).symm.trans rfl
theorem M_typeBy_eq (a : Int32) (σ : pd_H) : M_typeBy a σ =
 cond (decide ((8 : Int32) ≤ a))
 (cond (decide ((20 : Int32) ≤ a))
  (some (σ, some (pd_i (a - 11))))
  (some (σ, some (pd_i (a - 8)))))
 (some (σ, some (pd_i a))) := (pd_dr_eq (cd := pd_cd) (fun q => false) 11 _).symm.trans rfl
noncomputable def M_moved_L38 (l1 : Int32) (l2 : Int32) (l3 : Int32) (d4 : Option pd_V) (d5 : Option pd_V) (σ : pd_H) : Option pd_R := pd_u (137, 38, [some (pd_r 10 230), some (pd_i l1), some (pd_i l2), some (pd_i l3), d4, d5], [], σ)
noncomputable def M_moved_L71 (l1 : Int32) (l2 : Int32) (d3 : Option pd_V) (d4 : Option pd_V) (d5 : Option pd_V) (t0 : Int32) (σ : pd_H) : Option pd_R := pd_u (137, 71, [some (pd_r 10 230), some (pd_i l1), some (pd_i l2), d3, d4, d5], [pd_i t0], σ)
theorem M_moved_eq (a : Int32) (b : Int32) (σ : pd_H) : M_moved a b σ =
 cond (pd_ob a (pd_len 239)) none
 (cond (pd_ob a (pd_len 241)) none
 (cond (pd_ob a (pd_len 240)) none
 (pd_bI (M_asks (σ.1 239 (Int32.toNatClampNeg a)) (σ.1 241 (Int32.toNatClampNeg a)) (σ.1 240 (Int32.toNatClampNeg a)) σ) fun s1 v2 =>
 cond (decide (b = 0))
 (M_moved_L38 a b v2 none none s1)
 (cond (pd_ob a (pd_len 241)) none
  (pd_bV (M_meets (s1.1 241 (Int32.toNatClampNeg a)) v2 s1) fun s3 =>
  M_moved_L38 a b v2 none none s3))))) := (pd_dr_eq (cd := pd_cd) (fun q => Nat.beq q 38 || Nat.beq q 71) 25 _).symm.trans rfl
theorem M_moved_L38_eq (l1 : Int32) (l2 : Int32) (l3 : Int32) (d4 : Option pd_V) (d5 : Option pd_V) (σ : pd_H) : M_moved_L38 l1 l2 l3 d4 d5 σ =
 cond (decide (l3 ≤ 0))
 (cond (pd_ob l1 (pd_len 241)) none
  (cond (decide ((8 : Int32) ≤ (σ.1 241 (Int32.toNatClampNeg l1))))
  (M_moved_L71 l1 l2 (some (pd_i l3)) d4 d5 ((8 : Int32) + (σ.1 230 31)) σ)
  (cond (pd_ob l1 (pd_len 241)) none
   (M_moved_L71 l1 l2 (some (pd_i l3)) d4 d5 (σ.1 241 (Int32.toNatClampNeg l1)) σ))))
 (some (σ, some (pd_i l3))) := (pd_dr_eq (cd := pd_cd) (fun q => Nat.beq q 38 || Nat.beq q 71) 14 _).symm.trans rfl
theorem M_moved_L71_eq (l1 : Int32) (l2 : Int32) (d3 : Option pd_V) (d4 : Option pd_V) (d5 : Option pd_V) (t0 : Int32) (σ : pd_H) : M_moved_L71 l1 l2 d3 d4 d5 t0 σ =
 cond (pd_ob l1 (pd_len 243)) none
 (cond (pd_ob l1 (pd_len 242)) none
 (pd_bI (M_lays (σ.1 243 (Int32.toNatClampNeg l1)) t0 (σ.1 242 (Int32.toNatClampNeg l1)) (σ.1 230 31) (σ.2.1 230 32) σ) fun s1 v2 =>
 cond (decide (l2 = 0))
 (some (s1, some (pd_i v2)))
 (cond (decide ((8 : Int32) ≤ t0))
  (pd_bV (M_meets 17 v2 s1) fun s3 =>
   some (s3, some (pd_i v2)))
  (pd_bV (M_meets ((9 : Int32) + t0) v2 s1) fun s4 =>
   some (s4, some (pd_i v2)))))) := (pd_dr_eq (cd := pd_cd) (fun q => Nat.beq q 38 || Nat.beq q 71) 31 _).symm.trans rfl
noncomputable def M_tells_L28 (l1 : Int32) (l2 : Int32) (d3 : Option pd_V) (d4 : Option pd_V) (d5 : Option pd_V) (t0 : Int32) (σ : pd_H) : Option pd_R := pd_u (138, 28, [some (pd_r 10 230), some (pd_i l1), some (pd_i l2), d3, d4, d5], [pd_i t0], σ)
theorem M_tells_eq (a : Int32) (b : Int32) (σ : pd_H) : M_tells a b σ =
 cond (pd_ob a (pd_len 241)) none
 (cond (decide ((20 : Int32) ≤ (σ.1 241 (Int32.toNatClampNeg a))))
 (cond (pd_ob a (pd_len 241)) none
  (M_tells_L28 a b none none none ((σ.1 241 (Int32.toNatClampNeg a)) - 3) σ))
 (cond (pd_ob a (pd_len 241)) none
  (M_tells_L28 a b none none none (σ.1 241 (Int32.toNatClampNeg a)) σ))) := (pd_dr_eq (cd := pd_cd) (fun q => Nat.beq q 28) 13 _).symm.trans rfl
theorem M_tells_L28_eq (l1 : Int32) (l2 : Int32) (d3 : Option pd_V) (d4 : Option pd_V) (d5 : Option pd_V) (t0 : Int32) (σ : pd_H) : M_tells_L28 l1 l2 d3 d4 d5 t0 σ =
 cond (pd_ob l1 (pd_len 241)) none
 (pd_bI (M_typeBy (σ.1 241 (Int32.toNatClampNeg l1)) σ) fun s1 v2 =>
 cond (pd_ob l1 (pd_len 239)) none
 (cond (pd_ob l1 (pd_len 240)) none
 (cond (pd_ob l1 (pd_len 242)) none
 (pd_bJ (M_made (s1.1 242 (Int32.toNatClampNeg l1)) v2 s1) fun s3 v4 =>
 pd_bI (M_lays (s1.1 239 (Int32.toNatClampNeg l1)) t0 (s1.1 240 (Int32.toNatClampNeg l1)) v2 v4 s3) fun s5 v6 =>
 cond (decide (l2 = 0))
 (some (s5, some (pd_i v6)))
 (cond (pd_ob l1 (pd_len 241)) none
  (cond (decide ((20 : Int32) ≤ (s5.1 241 (Int32.toNatClampNeg l1))))
  (some (s5, some (pd_i v6)))
  (cond (decide ((8 : Int32) ≤ t0))
   (pd_bV (M_meets 17 v6 s5) fun s7 =>
    some (s7, some (pd_i v6)))
   (pd_bV (M_meets ((9 : Int32) + t0) v6 s5) fun s8 =>
    some (s8, some (pd_i v6)))))))))) := (pd_dr_eq (cd := pd_cd) (fun q => Nat.beq q 28) 46 _).symm.trans rfl
theorem M_cellTo_eq (a : Int32) (σ : pd_H) : M_cellTo a σ =
 cond (pd_ob a (pd_len 238)) none
 (cond (decide ((σ.1 238 (Int32.toNatClampNeg a)) = 0))
 (cond (pd_ob a (pd_len 239)) none
  (cond (pd_ob a (pd_len 240)) none
  (some (σ, some (pd_i (((12 : Int32) * (σ.1 239 (Int32.toNatClampNeg a))) + (σ.1 240 (Int32.toNatClampNeg a))))))))
 (cond (pd_ob a (pd_len 243)) none
  (cond (pd_ob a (pd_len 242)) none
  (some (σ, some (pd_i (((12 : Int32) * (σ.1 243 (Int32.toNatClampNeg a))) + (σ.1 242 (Int32.toNatClampNeg a))))))))) := (pd_dr_eq (cd := pd_cd) (fun q => false) 18 _).symm.trans rfl
theorem M_cellFrom_eq (a : Int32) (σ : pd_H) : M_cellFrom a σ =
 cond (pd_ob a (pd_len 239)) none
 (cond (pd_ob a (pd_len 240)) none
 (some (σ, some (pd_i (((12 : Int32) * (σ.1 239 (Int32.toNatClampNeg a))) + (σ.1 240 (Int32.toNatClampNeg a))))))) := (pd_dr_eq (cd := pd_cd) (fun q => false) 12 _).symm.trans rfl
theorem M_isCell_eq (a : Int32) (σ : pd_H) : M_isCell a σ =
 pd_bI (M_in a 0 71 σ) fun s1 v2 =>
 cond (decide (v2 = 0 ∨ v2 = 1)) (some (s1, some (pd_i v2))) none := (pd_dr_eq (cd := pd_cd) (fun q => false) 5 _).symm.trans rfl
noncomputable def M_does_L33 (l1 : Int32) (l2 : Int32) (l3 : Int32) (l4 : Int32) (l5 : Int32) (d6 : Option pd_V) (d7 : Option pd_V) (d8 : Option pd_V) (d9 : Option pd_V) (d10 : Option pd_V) (t0 : Int32) (σ : pd_H) : Option pd_R := pd_u (142, 33, [some (pd_r 10 230), some (pd_i l1), some (pd_i l2), some (pd_i l3), some (pd_i l4), some (pd_i l5), d6, d7, d8, d9, d10], [pd_i t0], σ)
noncomputable def M_does_L54 (l1 : Int32) (l2 : Int32) (l3 : Int32) (l4 : Int32) (l5 : Int32) (l6 : Int32) (d7 : Option pd_V) (d8 : Option pd_V) (d9 : Option pd_V) (d10 : Option pd_V) (t0 : Int64) (σ : pd_H) : Option pd_R := pd_u (142, 54, [some (pd_r 10 230), some (pd_i l1), some (pd_i l2), some (pd_i l3), some (pd_i l4), some (pd_i l5), some (pd_i l6), d7, d8, d9, d10], [pd_j t0], σ)
noncomputable def M_does_L84 (l1 : Int32) (l2 : Int32) (l3 : Int32) (l4 : Int32) (d5 : Option pd_V) (l6 : Int32) (l7 : Int64) (d9 : Option pd_V) (d10 : Option pd_V) (t0 : Int32) (σ : pd_H) : Option pd_R := pd_u (142, 84, [some (pd_r 10 230), some (pd_i l1), some (pd_i l2), some (pd_i l3), some (pd_i l4), d5, some (pd_i l6), some (pd_j l7), none, d9, d10], [pd_i t0], σ)
noncomputable def M_does_L110 (l1 : Int32) (l2 : Int32) (d3 : Option pd_V) (l4 : Int32) (d5 : Option pd_V) (l6 : Int32) (l7 : Int64) (l9 : Int32) (d10 : Option pd_V) (t0 : Int32) (σ : pd_H) : Option pd_R := pd_u (142, 110, [some (pd_r 10 230), some (pd_i l1), some (pd_i l2), d3, some (pd_i l4), d5, some (pd_i l6), some (pd_j l7), none, some (pd_i l9), d10], [pd_i t0], σ)
theorem M_does_eq (a : Int32) (b : Int32) (c : Int32) (σ : pd_H) : M_does a b c σ =
 pd_bI (M_cellTo b σ) fun s1 v2 =>
 pd_bI (M_cellFrom b s1) fun s3 v4 =>
 pd_bI (M_isCell v2 s3) fun s5 v6 =>
 cond (decide (v6 = 0))
 (M_does_L33 a b c v2 v4 none none none none none 0 s5)
 (cond (pd_ob v2 (pd_len 233)) none
  (M_does_L33 a b c v2 v4 none none none none none (s5.1 233 (Int32.toNatClampNeg v2)) s5)) := (pd_dr_eq (cd := pd_cd) (fun q => Nat.beq q 33 || Nat.beq q 54 || Nat.beq q 84 || Nat.beq q 110) 17 _).symm.trans rfl
theorem M_does_L33_eq (l1 : Int32) (l2 : Int32) (l3 : Int32) (l4 : Int32) (l5 : Int32) (d6 : Option pd_V) (d7 : Option pd_V) (d8 : Option pd_V) (d9 : Option pd_V) (d10 : Option pd_V) (t0 : Int32) (σ : pd_H) : M_does_L33 l1 l2 l3 l4 l5 d6 d7 d8 d9 d10 t0 σ =
 pd_bI (M_isCell l4 σ) fun s1 v2 =>
 cond (decide (v2 = 0))
 (M_does_L54 l1 l2 l3 l4 l5 t0 d7 d8 d9 d10 0 s1)
 (cond (pd_ob l4 (pd_len 234)) none
  (M_does_L54 l1 l2 l3 l4 l5 t0 d7 d8 d9 d10 (s1.2.1 234 (Int32.toNatClampNeg l4)) s1)) := (pd_dr_eq (cd := pd_cd) (fun q => Nat.beq q 33 || Nat.beq q 54 || Nat.beq q 84 || Nat.beq q 110) 10 _).symm.trans rfl
theorem M_does_L54_eq (l1 : Int32) (l2 : Int32) (l3 : Int32) (l4 : Int32) (l5 : Int32) (l6 : Int32) (d7 : Option pd_V) (d8 : Option pd_V) (d9 : Option pd_V) (d10 : Option pd_V) (t0 : Int64) (σ : pd_H) : M_does_L54 l1 l2 l3 l4 l5 l6 d7 d8 d9 d10 t0 σ =
 cond (pd_ob l2 (pd_len 238)) none
 (cond (decide ((σ.1 238 (Int32.toNatClampNeg l2)) = 0))
 (M_does_L84 l1 l2 l3 l4 (some (pd_i l5)) l6 t0 d9 d10 (-1) σ)
 (pd_bI (M_isCell l5 σ) fun s1 v2 =>
  cond (decide (v2 = 0))
  (M_does_L84 l1 l2 l3 l4 (some (pd_i l5)) l6 t0 d9 d10 (-1) s1)
  (cond (pd_ob l5 (pd_len 237)) none
   (M_does_L84 l1 l2 l3 l4 (some (pd_i l5)) l6 t0 d9 d10 (s1.1 237 (Int32.toNatClampNeg l5)) s1)))) := (pd_dr_eq (cd := pd_cd) (fun q => Nat.beq q 33 || Nat.beq q 54 || Nat.beq q 84 || Nat.beq q 110) 15 _).symm.trans rfl
theorem M_does_L84_eq (l1 : Int32) (l2 : Int32) (l3 : Int32) (l4 : Int32) (d5 : Option pd_V) (l6 : Int32) (l7 : Int64) (d9 : Option pd_V) (d10 : Option pd_V) (t0 : Int32) (σ : pd_H) : M_does_L84 l1 l2 l3 l4 d5 l6 l7 d9 d10 t0 σ =
 cond (pd_ob l2 (pd_len 238)) none
 (cond (decide ((σ.1 238 (Int32.toNatClampNeg l2)) = 0))
 (pd_bI (M_tells l2 l3 σ) fun s1 v2 =>
  M_does_L110 l1 l2 (some (pd_i l3)) l4 d5 l6 l7 t0 d10 v2 s1)
 (pd_bI (M_moved l2 l3 σ) fun s3 v4 =>
  M_does_L110 l1 l2 (some (pd_i l3)) l4 d5 l6 l7 t0 d10 v4 s3)) := (pd_dr_eq (cd := pd_cd) (fun q => Nat.beq q 33 || Nat.beq q 54 || Nat.beq q 84 || Nat.beq q 110) 12 _).symm.trans rfl
theorem M_does_L110_eq (l1 : Int32) (l2 : Int32) (d3 : Option pd_V) (l4 : Int32) (d5 : Option pd_V) (l6 : Int32) (l7 : Int64) (l9 : Int32) (d10 : Option pd_V) (t0 : Int32) (σ : pd_H) : M_does_L110 l1 l2 d3 l4 d5 l6 l7 l9 d10 t0 σ =
 cond (decide (t0 ≤ 0))
 (cond (pd_ob l2 (pd_len 247)) none
  (cond (pd_ob l2 (pd_len 248)) none
  (cond (pd_ob l4 (pd_len 233)) none
  (cond (pd_ob l2 (pd_len 245)) none
  (cond (pd_ob l4 (pd_len 234)) none
  (cond (pd_ob l2 (pd_len 246)) none
  (cond (pd_ob l2 (pd_len 249)) none
  (cond (pd_ob l4 (pd_len 237)) none
  (some (pd_upI (pd_upI (pd_upJ (pd_upI (pd_upJ (pd_upI σ 247 (Int32.toNatClampNeg l2) l6) 248 (Int32.toNatClampNeg l2) l7) 245 (Int32.toNatClampNeg l2) ((pd_upJ (pd_upI σ 247 (Int32.toNatClampNeg l2) l6) 248 (Int32.toNatClampNeg l2) l7).1 233 (Int32.toNatClampNeg l4))) 246 (Int32.toNatClampNeg l2) ((pd_upI (pd_upJ (pd_upI σ 247 (Int32.toNatClampNeg l2) l6) 248 (Int32.toNatClampNeg l2) l7) 245 (Int32.toNatClampNeg l2) ((pd_upJ (pd_upI σ 247 (Int32.toNatClampNeg l2) l6) 248 (Int32.toNatClampNeg l2) l7).1 233 (Int32.toNatClampNeg l4))).2.1 234 (Int32.toNatClampNeg l4))) 249 (Int32.toNatClampNeg l2) l9) 237 (Int32.toNatClampNeg l4) l1, some (pd_i 0)))))))))))
 (some (σ, some (pd_i t0))) := (pd_dr_eq (cd := pd_cd) (fun q => Nat.beq q 33 || Nat.beq q 54 || Nat.beq q 84 || Nat.beq q 110) 41 _).symm.trans rfl
noncomputable def M_plays_L2 (l1 : Int32) (l2 : Int32) (d3 : Option pd_V) (d4 : Option pd_V) (d5 : Option pd_V) (σ : pd_H) : Option pd_R := pd_u (143, 2, [some (pd_r 10 230), some (pd_i l1), some (pd_i l2), d3, d4, d5], [], σ)
noncomputable def M_plays_L47 (l1 : Int32) (l2 : Int32) (d3 : Option pd_V) (d4 : Option pd_V) (d5 : Option pd_V) (σ : pd_H) : Option pd_R := pd_u (143, 47, [some (pd_r 10 230), some (pd_i l1), some (pd_i l2), d3, d4, d5], [], σ)
noncomputable def M_plays_L62 (l1 : Int32) (l2 : Int32) (l3 : Int32) (l4 : Int32) (d5 : Option pd_V) (σ : pd_H) : Option pd_R := pd_u (143, 62, [some (pd_r 10 230), some (pd_i l1), some (pd_i l2), some (pd_i l3), some (pd_i l4), d5], [], σ)
theorem M_plays_eq (a : Int32) (σ : pd_H) : M_plays a σ =
 M_plays_L2 a 0 none none none σ := (pd_dr_eq (cd := pd_cd) (fun q => Nat.beq q 2 || Nat.beq q 47 || Nat.beq q 62) 3 _).symm.trans rfl
theorem M_plays_L2_eq (l1 : Int32) (l2 : Int32) (d3 : Option pd_V) (d4 : Option pd_V) (d5 : Option pd_V) (σ : pd_H) : M_plays_L2 l1 l2 d3 d4 d5 σ =
 cond (decide ((72 : Int32) ≤ l2))
 (M_plays_L47 l1 0 d3 d4 d5 σ)
 (cond (pd_ob l2 (pd_len 235)) none
  (cond (pd_ob l2 (pd_len 233)) none
  (cond (pd_ob l2 (pd_len 236)) none
  (cond (pd_ob l2 (pd_len 234)) none
  (cond (pd_ob l2 (pd_len 237)) none
  (M_plays_L2 l1 (l2 + 1) d3 d4 d5 (pd_upI (pd_upJ (pd_upI σ 233 (Int32.toNatClampNeg l2) (σ.1 235 (Int32.toNatClampNeg l2))) 234 (Int32.toNatClampNeg l2) ((pd_upI σ 233 (Int32.toNatClampNeg l2) (σ.1 235 (Int32.toNatClampNeg l2))).2.1 236 (Int32.toNatClampNeg l2))) 237 (Int32.toNatClampNeg l2) (-1)))))))) := (pd_dr_eq (cd := pd_cd) (fun q => Nat.beq q 2 || Nat.beq q 47 || Nat.beq q 62) 27 _).symm.trans rfl
theorem M_plays_L47_eq (l1 : Int32) (l2 : Int32) (d3 : Option pd_V) (d4 : Option pd_V) (d5 : Option pd_V) (σ : pd_H) : M_plays_L47 l1 l2 d3 d4 d5 σ =
 cond (decide (l1 ≤ l2))
 (some (σ, some (pd_i 0)))
 (cond (pd_ob l2 (pd_len 251)) none
  (M_plays_L62 l1 l2 (σ.1 251 (Int32.toNatClampNeg l2)) 0 d5 σ)) := (pd_dr_eq (cd := pd_cd) (fun q => Nat.beq q 2 || Nat.beq q 47 || Nat.beq q 62) 11 _).symm.trans rfl
theorem M_plays_L62_eq (l1 : Int32) (l2 : Int32) (l3 : Int32) (l4 : Int32) (d5 : Option pd_V) (σ : pd_H) : M_plays_L62 l1 l2 l3 l4 d5 σ =
 cond (pd_ob l3 (pd_len 244)) none
 (cond (decide ((σ.1 244 (Int32.toNatClampNeg l3)) ≤ l4))
 (M_plays_L47 l1 (l2 + 1) (some (pd_i l3)) (some (pd_i l4)) d5 σ)
 (pd_bI (M_does l3 (((6 : Int32) * l3) + l4) 0 σ) fun s1 v2 =>
  cond (decide (v2 ≤ 0))
  (M_plays_L62 l1 l2 l3 (l4 + 1) (some (pd_i v2)) s1)
  (some (pd_upI (pd_upI s1 230 33 l3) 230 34 l4, some (pd_i v2))))) := (pd_dr_eq (cd := pd_cd) (fun q => Nat.beq q 2 || Nat.beq q 47 || Nat.beq q 62) 26 _).symm.trans rfl
noncomputable def M_triesLaid_L10 (l1 : Int32) (σ : pd_H) : Option pd_R := pd_u (144, 10, [some (pd_r 10 230), some (pd_i l1)], [], σ)
theorem M_triesLaid_eq  (σ : pd_H) : M_triesLaid  σ =
 M_triesLaid_L10 0 (pd_upI σ 230 23 (σ.1 230 21)) := (pd_dr_eq (cd := pd_cd) (fun q => Nat.beq q 10) 7 _).symm.trans rfl
theorem M_triesLaid_L10_eq (l1 : Int32) (σ : pd_H) : M_triesLaid_L10 l1 σ =
 cond (decide ((σ.1 230 21) ≤ l1))
 (some (σ, none))
 (cond (pd_ob l1 (pd_len 250)) none
  (cond (pd_ob l1 (pd_len 251)) none
  (M_triesLaid_L10 (l1 + 1) (pd_upI σ 251 (Int32.toNatClampNeg l1) (σ.1 250 (Int32.toNatClampNeg l1)))))) := (pd_dr_eq (cd := pd_cd) (fun q => Nat.beq q 10) 15 _).symm.trans rfl
theorem M_playsLaid_eq  (σ : pd_H) : M_playsLaid  σ =
 pd_bV (M_triesLaid σ) fun s1 =>
 pd_bI (M_plays (s1.1 230 21) s1) fun s2 v3 =>
 some (s2, none) := (pd_dr_eq (cd := pd_cd) (fun q => false) 8 _).symm.trans rfl
noncomputable def M_isAmong_L5 (l0 : Nat) (l1 : Int32) (l2 : Int32) (l3 : Int32) (l4 : Int32) (σ : pd_H) : Option pd_R := pd_u (146, 5, [some (pd_r 20 l0), some (pd_i l1), some (pd_i l2), some (pd_i l3), some (pd_i l4)], [], σ)
theorem M_isAmong_eq (a : Nat) (b : Int32) (c : Int32) (σ : pd_H) : M_isAmong a b c σ =
 M_isAmong_L5 a b c 0 0 σ := (pd_dr_eq (cd := pd_cd) (fun q => Nat.beq q 5) 5 _).symm.trans rfl
theorem M_isAmong_L5_eq (l0 : Nat) (l1 : Int32) (l2 : Int32) (l3 : Int32) (l4 : Int32) (σ : pd_H) : M_isAmong_L5 l0 l1 l2 l3 l4 σ =
 cond (decide (l1 ≤ l4))
 (cond (decide (l3 = 0 ∨ l3 = 1)) (some (σ, some (pd_i l3))) none)
 (cond (decide (l3 = 0))
  (cond (pd_ob l4 (pd_len l0)) none
   (cond (decide ((σ.1 l0 (Int32.toNatClampNeg l4)) = l2))
   (M_isAmong_L5 l0 l1 l2 1 (l4 + 1) σ)
   (M_isAmong_L5 l0 l1 l2 0 (l4 + 1) σ)))
  (M_isAmong_L5 l0 l1 l2 1 (l4 + 1) σ)) := (pd_dr_eq (cd := pd_cd) (fun q => Nat.beq q 5) 16 _).symm.trans rfl
theorem M_isLaid_eq (a : Int32) (σ : pd_H) : M_isLaid a σ =
 pd_bI (M_isAmong 250 (σ.1 230 21) a σ) fun s1 v2 =>
 cond (decide (v2 = 0 ∨ v2 = 1)) (some (s1, some (pd_i v2))) none := (pd_dr_eq (cd := pd_cd) (fun q => false) 7 _).symm.trans rfl
noncomputable def M_movedOf_L4 (l1 : Int32) (l2 : Int32) (l3 : Int32) (d4 : Option pd_V) (σ : pd_H) : Option pd_R := pd_u (148, 4, [some (pd_r 10 230), some (pd_i l1), some (pd_i l2), some (pd_i l3), d4], [], σ)
theorem M_movedOf_eq (a : Int32) (σ : pd_H) : M_movedOf a σ =
 M_movedOf_L4 a 0 0 none σ := (pd_dr_eq (cd := pd_cd) (fun q => Nat.beq q 4) 5 _).symm.trans rfl
theorem M_movedOf_L4_eq (l1 : Int32) (l2 : Int32) (l3 : Int32) (d4 : Option pd_V) (σ : pd_H) : M_movedOf_L4 l1 l2 l3 d4 σ =
 cond (pd_ob l1 (pd_len 244)) none
 (cond (decide ((σ.1 244 (Int32.toNatClampNeg l1)) ≤ l3))
 (some (σ, some (pd_i l2)))
 (cond (pd_ob (((6 : Int32) * l1) + l3) (pd_len 245)) none
  (cond (pd_ob (((6 : Int32) * l1) + l3) (pd_len 257)) none
  (cond (decide ((σ.1 245 (Int32.toNatClampNeg (((6 : Int32) * l1) + l3))) = (σ.1 257 (Int32.toNatClampNeg (((6 : Int32) * l1) + l3)))))
  (cond (pd_ob (((6 : Int32) * l1) + l3) (pd_len 246)) none
   (cond (pd_ob (((6 : Int32) * l1) + l3) (pd_len 258)) none
   (cond (decide ((lg_cmp (σ.2.1 246 (Int32.toNatClampNeg (((6 : Int32) * l1) + l3))) (σ.2.1 258 (Int32.toNatClampNeg (((6 : Int32) * l1) + l3)))) = 0))
   (M_movedOf_L4 l1 (l2 + 0) (l3 + 1) (some (pd_i (((6 : Int32) * l1) + l3))) σ)
   (M_movedOf_L4 l1 (l2 + 1) (l3 + 1) (some (pd_i (((6 : Int32) * l1) + l3))) σ))))
  (M_movedOf_L4 l1 (l2 + 1) (l3 + 1) (some (pd_i (((6 : Int32) * l1) + l3))) σ))))) := (pd_dr_eq (cd := pd_cd) (fun q => Nat.beq q 4) 39 _).symm.trans rfl
theorem M_fails_eq (a : Int32) (b : Int32) (c : Int32) (σ : pd_H) : M_fails a b c σ =
 pd_bI (M_refused c (pd_upI (pd_upI (pd_upI σ 255 0 a) 255 1 b) 255 2 c)) fun s1 v2 =>
 some (s1, some (pd_i v2)) := (pd_dr_eq (cd := pd_cd) (fun q => false) 18 _).symm.trans rfl
noncomputable def M_takesTried_L2 (l1 : Int32) (d2 : Option pd_V) (d3 : Option pd_V) (d4 : Option pd_V) (σ : pd_H) : Option pd_R := pd_u (150, 2, [some (pd_r 10 230), some (pd_i l1), d2, d3, d4], [], σ)
noncomputable def M_takesTried_L85 (l1 : Int32) (d2 : Option pd_V) (l3 : Int32) (d4 : Option pd_V) (σ : pd_H) : Option pd_R := pd_u (150, 85, [some (pd_r 10 230), some (pd_i l1), d2, some (pd_i l3), d4], [], σ)
noncomputable def M_takesTried_L139 (l1 : Int32) (d2 : Option pd_V) (l3 : Int32) (d4 : Option pd_V) (σ : pd_H) : Option pd_R := pd_u (150, 139, [some (pd_r 10 230), some (pd_i l1), d2, some (pd_i l3), d4], [], σ)
theorem M_takesTried_eq  (σ : pd_H) : M_takesTried  σ =
 M_takesTried_L2 0 none none none σ := (pd_dr_eq (cd := pd_cd) (fun q => Nat.beq q 2 || Nat.beq q 85 || Nat.beq q 139) 3 _).symm.trans rfl
theorem M_takesTried_L2_eq (l1 : Int32) (d2 : Option pd_V) (d3 : Option pd_V) (d4 : Option pd_V) (σ : pd_H) : M_takesTried_L2 l1 d2 d3 d4 σ =
 cond (decide ((150 : Int32) ≤ l1))
 (pd_bI (M_plays (σ.1 230 23) σ) fun s1 v2 =>
  cond (decide (v2 ≤ 0))
  (M_takesTried_L85 (σ.1 230 23) (some (pd_i v2)) 0 d4 (pd_upI s1 230 37 0))
  (pd_bV (M_playsLaid s1) fun s3 =>
   pd_bI (M_fails (s1.1 230 33) (s1.1 230 34) v2 s3) fun s4 v5 =>
   some (s4, some (pd_i v5))))
 (cond (pd_ob l1 (pd_len 245)) none
  (cond (pd_ob l1 (pd_len 257)) none
  (cond (pd_ob l1 (pd_len 246)) none
  (cond (pd_ob l1 (pd_len 258)) none
  (M_takesTried_L2 (l1 + 1) d2 d3 d4 (pd_upJ (pd_upI σ 257 (Int32.toNatClampNeg l1) (σ.1 245 (Int32.toNatClampNeg l1))) 258 (Int32.toNatClampNeg l1) ((pd_upI σ 257 (Int32.toNatClampNeg l1) (σ.1 245 (Int32.toNatClampNeg l1))).2.1 246 (Int32.toNatClampNeg l1)))))))) := (pd_dr_eq (cd := pd_cd) (fun q => Nat.beq q 2 || Nat.beq q 85 || Nat.beq q 139) 26 _).symm.trans rfl
theorem M_takesTried_L85_eq (l1 : Int32) (d2 : Option pd_V) (l3 : Int32) (d4 : Option pd_V) (σ : pd_H) : M_takesTried_L85 l1 d2 l3 d4 σ =
 cond (decide (l1 ≤ l3))
 (M_takesTried_L139 l1 (cond (pd_is2 d2) none d2) 0 d4 (pd_upI σ 230 21 l1))
 (cond (pd_ob l3 (pd_len 251)) none
  (pd_bI (M_isLaid (σ.1 251 (Int32.toNatClampNeg l3)) σ) fun s1 v2 =>
  cond (decide (v2 = 0))
  (M_takesTried_L85 l1 (cond (pd_is2 d2) none d2) (l3 + 1) d4 (pd_upI s1 230 37 ((σ.1 230 37) + 0)))
  (cond (pd_ob l3 (pd_len 251)) none
   (pd_bI (M_movedOf (s1.1 251 (Int32.toNatClampNeg l3)) s1) fun s3 v4 =>
   M_takesTried_L85 l1 (cond (pd_is2 d2) none d2) (l3 + 1) d4 (pd_upI s3 230 37 ((σ.1 230 37) + v4)))))) := (pd_dr_eq (cd := pd_cd) (fun q => Nat.beq q 2 || Nat.beq q 85 || Nat.beq q 139) 25 _).symm.trans rfl
theorem M_takesTried_L139_eq (l1 : Int32) (d2 : Option pd_V) (l3 : Int32) (d4 : Option pd_V) (σ : pd_H) : M_takesTried_L139 l1 d2 l3 d4 σ =
 cond (decide (l1 ≤ l3))
 (some (σ, some (pd_i 0)))
 (cond (pd_ob l3 (pd_len 251)) none
  (cond (pd_ob l3 (pd_len 250)) none
  (M_takesTried_L139 l1 (cond (pd_is2 d2) none d2) (l3 + 1) d4 (pd_upI σ 250 (Int32.toNatClampNeg l3) (σ.1 251 (Int32.toNatClampNeg l3)))))) := (pd_dr_eq (cd := pd_cd) (fun q => Nat.beq q 2 || Nat.beq q 85 || Nat.beq q 139) 14 _).symm.trans rfl
noncomputable def M_triesWithout_L7 (l1 : Int32) (l2 : Int32) (σ : pd_H) : Option pd_R := pd_u (151, 7, [some (pd_r 10 230), some (pd_i l1), some (pd_i l2)], [], σ)
theorem M_triesWithout_eq (a : Int32) (σ : pd_H) : M_triesWithout a σ =
 M_triesWithout_L7 a 0 (pd_upI σ 230 23 0) := (pd_dr_eq (cd := pd_cd) (fun q => Nat.beq q 7) 6 _).symm.trans rfl
theorem M_triesWithout_L7_eq (l1 : Int32) (l2 : Int32) (σ : pd_H) : M_triesWithout_L7 l1 l2 σ =
 cond (decide ((σ.1 230 21) ≤ l2))
 (some (σ, none))
 (cond (pd_ob l2 (pd_len 250)) none
  (cond (decide ((σ.1 250 (Int32.toNatClampNeg l2)) = l1))
  (M_triesWithout_L7 l1 (l2 + 1) σ)
  (cond (pd_ob l2 (pd_len 250)) none
   (cond (pd_ob (σ.1 230 23) (pd_len 251)) none
   (M_triesWithout_L7 l1 (l2 + 1) (pd_upI (pd_upI σ 251 (Int32.toNatClampNeg (σ.1 230 23)) (σ.1 250 (Int32.toNatClampNeg l2))) 230 23 (((pd_upI σ 251 (Int32.toNatClampNeg (σ.1 230 23)) (σ.1 250 (Int32.toNatClampNeg l2))).1 230 23) + 1))))))) := (pd_dr_eq (cd := pd_cd) (fun q => Nat.beq q 7) 28 _).symm.trans rfl
noncomputable def M_isUsed_L4 (l1 : Int32) (l2 : Int32) (l3 : Int32) (d4 : Option pd_V) (d5 : Option pd_V) (σ : pd_H) : Option pd_R := pd_u (152, 4, [some (pd_r 10 230), some (pd_i l1), some (pd_i l2), some (pd_i l3), d4, d5], [], σ)
noncomputable def M_isUsed_L15 (l1 : Int32) (l2 : Int32) (l3 : Int32) (l4 : Int32) (d5 : Option pd_V) (σ : pd_H) : Option pd_R := pd_u (152, 15, [some (pd_r 10 230), some (pd_i l1), some (pd_i l2), some (pd_i l3), some (pd_i l4), d5], [], σ)
theorem M_isUsed_eq (a : Int32) (σ : pd_H) : M_isUsed a σ =
 M_isUsed_L4 a 0 0 none none σ := (pd_dr_eq (cd := pd_cd) (fun q => Nat.beq q 4 || Nat.beq q 15) 5 _).symm.trans rfl
theorem M_isUsed_L4_eq (l1 : Int32) (l2 : Int32) (l3 : Int32) (d4 : Option pd_V) (d5 : Option pd_V) (σ : pd_H) : M_isUsed_L4 l1 l2 l3 d4 d5 σ =
 cond (decide ((σ.1 230 21) ≤ l3))
 (cond (decide (l2 = 0 ∨ l2 = 1)) (some (σ, some (pd_i l2))) none)
 (M_isUsed_L15 l1 l2 l3 0 d5 σ) := (pd_dr_eq (cd := pd_cd) (fun q => Nat.beq q 4 || Nat.beq q 15) 7 _).symm.trans rfl
theorem M_isUsed_L15_eq (l1 : Int32) (l2 : Int32) (l3 : Int32) (l4 : Int32) (d5 : Option pd_V) (σ : pd_H) : M_isUsed_L15 l1 l2 l3 l4 d5 σ =
 cond (pd_ob l3 (pd_len 250)) none
 (cond (pd_ob (σ.1 250 (Int32.toNatClampNeg l3)) (pd_len 244)) none
 (cond (decide ((σ.1 244 (Int32.toNatClampNeg (σ.1 250 (Int32.toNatClampNeg l3)))) ≤ l4))
 (M_isUsed_L4 l1 l2 (l3 + 1) (some (pd_i l4)) d5 σ)
 (cond (pd_ob l3 (pd_len 250)) none
  (cond (decide (l2 = 0))
  (cond (pd_ob (((6 : Int32) * (σ.1 250 (Int32.toNatClampNeg l3))) + l4) (pd_len 239)) none
   (cond (decide ((σ.1 239 (Int32.toNatClampNeg (((6 : Int32) * (σ.1 250 (Int32.toNatClampNeg l3))) + l4))) = l1))
   (M_isUsed_L15 l1 1 l3 (l4 + 1) (some (pd_i (((6 : Int32) * (σ.1 250 (Int32.toNatClampNeg l3))) + l4))) σ)
   (cond (pd_ob (((6 : Int32) * (σ.1 250 (Int32.toNatClampNeg l3))) + l4) (pd_len 238)) none
    (cond (decide ((σ.1 238 (Int32.toNatClampNeg (((6 : Int32) * (σ.1 250 (Int32.toNatClampNeg l3))) + l4))) = 0))
    (M_isUsed_L15 l1 0 l3 (l4 + 1) (some (pd_i (((6 : Int32) * (σ.1 250 (Int32.toNatClampNeg l3))) + l4))) σ)
    (cond (pd_ob (((6 : Int32) * (σ.1 250 (Int32.toNatClampNeg l3))) + l4) (pd_len 243)) none
     (cond (decide ((σ.1 243 (Int32.toNatClampNeg (((6 : Int32) * (σ.1 250 (Int32.toNatClampNeg l3))) + l4))) = l1))
     (M_isUsed_L15 l1 1 l3 (l4 + 1) (some (pd_i (((6 : Int32) * (σ.1 250 (Int32.toNatClampNeg l3))) + l4))) σ)
     (M_isUsed_L15 l1 0 l3 (l4 + 1) (some (pd_i (((6 : Int32) * (σ.1 250 (Int32.toNatClampNeg l3))) + l4))) σ)))))))
  (M_isUsed_L15 l1 1 l3 (l4 + 1) (some (pd_i (((6 : Int32) * (σ.1 250 (Int32.toNatClampNeg l3))) + l4))) σ))))) := (pd_dr_eq (cd := pd_cd) (fun q => Nat.beq q 4 || Nat.beq q 15) 43 _).symm.trans rfl
noncomputable def M_row_L32 (l1 : Int32) (l2 : Int32) (l3 : Int32) (d4 : Option pd_V) (σ : pd_H) : Option pd_R := pd_u (153, 32, [some (pd_r 10 230), some (pd_i l1), some (pd_i l2), some (pd_i l3), d4], [], σ)
noncomputable def M_row_L59 (l1 : Int32) (l2 : Int32) (l3 : Int32) (d4 : Option pd_V) (σ : pd_H) : Option pd_R := pd_u (153, 59, [some (pd_r 10 230), some (pd_i l1), some (pd_i l2), some (pd_i l3), d4], [], σ)
noncomputable def M_row_L86 (l1 : Int32) (l2 : Int32) (d3 : Option pd_V) (l4 : Int32) (σ : pd_H) : Option pd_R := pd_u (153, 86, [some (pd_r 10 230), some (pd_i l1), some (pd_i l2), d3, some (pd_i l4)], [], σ)
noncomputable def M_row_L116 (l1 : Int32) (l2 : Int32) (d3 : Option pd_V) (l4 : Int32) (t0 : Int32) (t1 : Int32) (t2 : Nat) (σ : pd_H) : Option pd_R := pd_u (153, 116, [some (pd_r 10 230), some (pd_i l1), some (pd_i l2), d3, some (pd_i l4)], [pd_i t0, pd_i t1, pd_r 20 t2], σ)
theorem M_row_eq (a : Int32) (b : Int32) (c : Int32) (σ : pd_H) : M_row a b c σ =
 pd_bI (M_isSlot a σ) fun s1 v2 =>
 cond (decide (v2 = 0))
 (some (s1, some (pd_i (-2))))
 (pd_bI (M_in b 0 14 s1) fun s3 v4 =>
  cond (decide (v4 = 0))
  (some (s3, some (pd_i (-2))))
  (cond (decide ((13 : Int32) ≤ b))
   (M_row_L32 a b c none s3)
   (cond (decide (c ≤ (12 : Int32)))
    (M_row_L32 a b c none s3)
    (some (s3, some (pd_i (-2))))))) := (pd_dr_eq (cd := pd_cd) (fun q => Nat.beq q 32 || Nat.beq q 59 || Nat.beq q 86 || Nat.beq q 116) 16 _).symm.trans rfl
theorem M_row_L32_eq (l1 : Int32) (l2 : Int32) (l3 : Int32) (d4 : Option pd_V) (σ : pd_H) : M_row_L32 l1 l2 l3 d4 σ =
 pd_bI (M_isUsed l1 σ) fun s1 v2 =>
 cond (decide (v2 = 0))
 (cond (decide ((13 : Int32) ≤ l2))
  (M_row_L59 l1 l2 l3 d4 s1)
  (cond (decide (0 ≤ l3))
   (M_row_L59 l1 l2 l3 d4 s1)
   (pd_bI (M_refused 7 s1) fun s3 v4 =>
    some (s3, some (pd_i v4)))))
 (some (s1, some (pd_i (-3)))) := (pd_dr_eq (cd := pd_cd) (fun q => Nat.beq q 32 || Nat.beq q 59 || Nat.beq q 86 || Nat.beq q 116) 12 _).symm.trans rfl
theorem M_row_L59_eq (l1 : Int32) (l2 : Int32) (l3 : Int32) (d4 : Option pd_V) (σ : pd_H) : M_row_L59 l1 l2 l3 d4 σ =
 cond (pd_ob l1 (pd_len 231)) none
 (cond (decide ((13 : Int32) ≤ l2))
 (cond (pd_ob l1 (pd_len 232)) none
  (M_row_L86 l1 l2 (some (pd_i l3)) 0 (pd_upI (pd_upI σ 231 (Int32.toNatClampNeg l1) l2) 232 (Int32.toNatClampNeg l1) 0)))
 (cond (pd_ob l1 (pd_len 232)) none
  (M_row_L86 l1 l2 (some (pd_i l3)) 0 (pd_upI (pd_upI σ 231 (Int32.toNatClampNeg l1) l2) 232 (Int32.toNatClampNeg l1) l3)))) := (pd_dr_eq (cd := pd_cd) (fun q => Nat.beq q 32 || Nat.beq q 59 || Nat.beq q 86 || Nat.beq q 116) 17 _).symm.trans rfl
theorem M_row_L86_eq (l1 : Int32) (l2 : Int32) (d3 : Option pd_V) (l4 : Int32) (σ : pd_H) : M_row_L86 l1 l2 d3 l4 σ =
 cond (decide ((12 : Int32) ≤ l4))
 (cond (pd_ob l1 (pd_len 232)) none
  (some (σ, some (pd_i (σ.1 232 (Int32.toNatClampNeg l1))))))
 (cond (decide ((8 : Int32) ≤ l2))
  (M_row_L116 l1 l2 d3 l4 11 (((12 : Int32) * l1) + l4) 233 σ)
  (M_row_L116 l1 l2 d3 l4 l2 (((12 : Int32) * l1) + l4) 233 σ)) := (pd_dr_eq (cd := pd_cd) (fun q => Nat.beq q 32 || Nat.beq q 59 || Nat.beq q 86 || Nat.beq q 116) 16 _).symm.trans rfl
theorem M_row_L116_eq (l1 : Int32) (l2 : Int32) (d3 : Option pd_V) (l4 : Int32) (t0 : Int32) (t1 : Int32) (t2 : Nat) (σ : pd_H) : M_row_L116 l1 l2 d3 l4 t0 t1 t2 σ =
 cond (pd_ob t1 (pd_len t2)) none
 (cond (pd_ob (((12 : Int32) * l1) + l4) (pd_len 234)) none
 (cond (pd_ob (((12 : Int32) * l1) + l4) (pd_len 233)) none
 (cond (pd_ob (((12 : Int32) * l1) + l4) (pd_len 235)) none
 (cond (pd_ob (((12 : Int32) * l1) + l4) (pd_len 236)) none
 (M_row_L86 l1 l2 (cond (pd_is2 d3) none d3) (l4 + 1) (pd_upJ (pd_upI (pd_upJ (pd_upI σ t2 (Int32.toNatClampNeg t1) t0) 234 (Int32.toNatClampNeg (((12 : Int32) * l1) + l4)) 0) 235 (Int32.toNatClampNeg (((12 : Int32) * l1) + l4)) ((pd_upJ (pd_upI σ t2 (Int32.toNatClampNeg t1) t0) 234 (Int32.toNatClampNeg (((12 : Int32) * l1) + l4)) 0).1 233 (Int32.toNatClampNeg (((12 : Int32) * l1) + l4)))) 236 (Int32.toNatClampNeg (((12 : Int32) * l1) + l4)) 0)))))) := (pd_dr_eq (cd := pd_cd) (fun q => Nat.beq q 32 || Nat.beq q 59 || Nat.beq q 86 || Nat.beq q 116) 38 _).symm.trans rfl
theorem M_lose_eq (a : Int32) (σ : pd_H) : M_lose a σ =
 pd_bI (M_isSlot a σ) fun s1 v2 =>
 cond (decide (v2 = 0))
 (some (s1, some (pd_i (-2))))
 (pd_bI (M_isUsed a s1) fun s3 v4 =>
  cond (decide (v4 = 0))
  (cond (pd_ob a (pd_len 231)) none
   (cond (decide ((s3.1 231 (Int32.toNatClampNeg a)) = ((-1) : Int32)))
   (pd_bI (M_refused 1 s3) fun s5 v6 =>
    some (s5, some (pd_i v6)))
   (cond (pd_ob a (pd_len 231)) none
    (cond (pd_ob a (pd_len 231)) none
    (some (pd_upI s3 231 (Int32.toNatClampNeg a) (-1), some (pd_i (s3.1 231 (Int32.toNatClampNeg a)))))))))
  (some (s3, some (pd_i (-3))))) := (pd_dr_eq (cd := pd_cd) (fun q => false) 25 _).symm.trans rfl
theorem M_kind_eq (a : Int32) (σ : pd_H) : M_kind a σ =
 pd_bI (M_isSlot a σ) fun s1 v2 =>
 cond (decide (v2 = 0))
 (some (s1, some (pd_i (-2))))
 (cond (pd_ob a (pd_len 231)) none
  (cond (decide ((s1.1 231 (Int32.toNatClampNeg a)) = ((-1) : Int32)))
  (pd_bI (M_refused 1 s1) fun s3 v4 =>
   some (s3, some (pd_i v4)))
  (cond (pd_ob a (pd_len 231)) none
   (some (s1, some (pd_i (s1.1 231 (Int32.toNatClampNeg a)))))))) := (pd_dr_eq (cd := pd_cd) (fun q => false) 14 _).symm.trans rfl
theorem M_size_eq (a : Int32) (σ : pd_H) : M_size a σ =
 pd_bI (M_isSlot a σ) fun s1 v2 =>
 cond (decide (v2 = 0))
 (some (s1, some (pd_i (-2))))
 (pd_bI (M_lacksRow a s1) fun s3 v4 =>
  cond (decide (v4 ≤ 0))
  (cond (pd_ob a (pd_len 232)) none
   (some (s3, some (pd_i (s3.1 232 (Int32.toNatClampNeg a))))))
  (pd_bI (M_lacksRow a s3) fun s5 v6 =>
   pd_bI (M_refused v6 s5) fun s7 v8 =>
   some (s7, some (pd_i v8)))) := (pd_dr_eq (cd := pd_cd) (fun q => false) 13 _).symm.trans rfl
noncomputable def M_gets_L21 (d1 : Option pd_V) (d2 : Option pd_V) (d3 : Option pd_V) (d4 : Option pd_V) (l5 : Int32) (σ : pd_H) : Option pd_R := pd_u (157, 21, [some (pd_r 10 230), d1, d2, d3, d4, some (pd_i l5)], [], σ)
theorem M_gets_eq (a : Int32) (b : Int32) (c : Int32) (d : Int32) (σ : pd_H) : M_gets a b c d σ =
 pd_bI (M_asks a b c σ) fun s1 v2 =>
 cond (decide (d = 0))
 (M_gets_L21 (some (pd_i a)) (some (pd_i b)) (some (pd_i c)) (some (pd_i d)) v2 s1)
 (pd_bV (M_meets b v2 s1) fun s3 =>
  M_gets_L21 (some (pd_i a)) (some (pd_i b)) (some (pd_i c)) (some (pd_i d)) v2 s3) := (pd_dr_eq (cd := pd_cd) (fun q => Nat.beq q 21) 13 _).symm.trans rfl
theorem M_gets_L21_eq (d1 : Option pd_V) (d2 : Option pd_V) (d3 : Option pd_V) (d4 : Option pd_V) (l5 : Int32) (σ : pd_H) : M_gets_L21 d1 d2 d3 d4 l5 σ =
 cond (decide (l5 ≤ 0))
 (cond (decide ((σ.1 230 31) = (11 : Int32)))
  (pd_bI (M_refused 6 σ) fun s1 v2 =>
   pd_bJ (M_no v2 s1) fun s3 v4 =>
   some (s3, some (pd_j v4)))
  (some (σ, some (pd_j (σ.2.1 230 32)))))
 (pd_bI (M_refused l5 σ) fun s5 v6 =>
  pd_bJ (M_no v6 s5) fun s7 v8 =>
  some (s7, some (pd_j v8))) := (pd_dr_eq (cd := pd_cd) (fun q => Nat.beq q 21) 11 _).symm.trans rfl
theorem M_get_eq (a : Int32) (b : Int32) (c : Int32) (σ : pd_H) : M_get a b c σ =
 pd_bI (M_isSlot a σ) fun s1 v2 =>
 cond (decide (v2 = 0))
 (pd_bJ (M_no (-2) s1) fun s3 v4 =>
  some (s3, some (pd_j v4)))
 (pd_bI (M_in b 0 8 s1) fun s5 v6 =>
  cond (decide (v6 = 0))
  (pd_bJ (M_no (-2) s5) fun s7 v8 =>
   some (s7, some (pd_j v8)))
  (pd_bJ (M_gets a b c 1 s5) fun s9 v10 =>
   some (s9, some (pd_j v10)))) := (pd_dr_eq (cd := pd_cd) (fun q => false) 16 _).symm.trans rfl
theorem M_what_eq (a : Int32) (b : Int32) (σ : pd_H) : M_what a b σ =
 pd_bI (M_isSlot a σ) fun s1 v2 =>
 cond (decide (v2 = 0))
 (some (s1, some (pd_i (-2))))
 (pd_bI (M_lacksCell a b s1) fun s3 v4 =>
  cond (decide (v4 ≤ 0))
  (cond (pd_ob (((12 : Int32) * a) + b) (pd_len 233)) none
   (some (s3, some (pd_i (s3.1 233 (Int32.toNatClampNeg (((12 : Int32) * a) + b)))))))
  (pd_bI (M_lacksCell a b s3) fun s5 v6 =>
   pd_bI (M_refused v6 s5) fun s7 v8 =>
   some (s7, some (pd_i v8)))) := (pd_dr_eq (cd := pd_cd) (fun q => false) 17 _).symm.trans rfl
theorem M_bitsAt_eq (a : Int32) (σ : pd_H) : M_bitsAt a σ =
 cond (pd_ob a (pd_len 234)) none
 (cond (pd_ob a (pd_len 233)) none
 (cond (decide ((σ.1 233 (Int32.toNatClampNeg a)) = (6 : Int32)))
 (pd_bJ (M_bitsOf (σ.2.1 234 (Int32.toNatClampNeg a)) 23 127 σ) fun s5 v6 =>
  cond (decide (0 ≤ (lg_cmp (σ.2.1 234 (Int32.toNatClampNeg a)) (0 : Int64))))
  (some (s5, some (pd_j (Int32.toInt64 (Int64.toInt32 v6)))))
  (some (s5, some (pd_j (Int32.toInt64 ((Int64.toInt32 v6) ||| (-2147483648)))))))
 (pd_bJ (M_bitsOf (σ.2.1 234 (Int32.toNatClampNeg a)) 52 1023 σ) fun s1 v2 =>
  cond (pd_ob a (pd_len 233)) none
  (cond (decide ((s1.1 233 (Int32.toNatClampNeg a)) = (7 : Int32)))
  (cond (decide (0 ≤ (lg_cmp (σ.2.1 234 (Int32.toNatClampNeg a)) (0 : Int64))))
   (some (s1, some (pd_j v2)))
   (some (s1, some (pd_j (v2 ||| (-9223372036854775808))))))
  (pd_bJ (M_no (-3) s1) fun s3 v4 =>
   some (s3, some (pd_j v4))))))) := (pd_dr_eq (cd := pd_cd) (fun q => false) 31 _).symm.trans rfl
theorem M_bits_eq (a : Int32) (b : Int32) (σ : pd_H) : M_bits a b σ =
 pd_bI (M_isSlot a σ) fun s1 v2 =>
 cond (decide (v2 = 0))
 (pd_bJ (M_no (-2) s1) fun s13 v14 =>
  some (s13, some (pd_j v14)))
 (pd_bI (M_lacksCell a b s1) fun s3 v4 =>
  cond (decide (v4 ≤ 0))
  (pd_bJ (M_bitsAt (((12 : Int32) * a) + b) s3) fun s5 v6 =>
   some (s5, some (pd_j v6)))
  (pd_bI (M_lacksCell a b s3) fun s7 v8 =>
   pd_bI (M_refused v8 s7) fun s9 v10 =>
   pd_bJ (M_no v10 s9) fun s11 v12 =>
   some (s11, some (pd_j v12)))) := (pd_dr_eq (cd := pd_cd) (fun q => false) 16 _).symm.trans rfl
theorem M_isOther_eq (a : Int32) (σ : pd_H) : M_isOther a σ =
 cond (pd_ob a (pd_len 233)) none
 (cond (pd_ob a (pd_len 235)) none
 (cond (decide ((σ.1 233 (Int32.toNatClampNeg a)) = (σ.1 235 (Int32.toNatClampNeg a))))
 (cond (pd_ob a (pd_len 234)) none
  (cond (pd_ob a (pd_len 236)) none
  (cond (decide ((lg_cmp (σ.2.1 234 (Int32.toNatClampNeg a)) (σ.2.1 236 (Int32.toNatClampNeg a))) = 0))
  (some (σ, some (pd_i 0)))
  (some (σ, some (pd_i 1))))))
 (some (σ, some (pd_i 1))))) := (pd_dr_eq (cd := pd_cd) (fun q => false) 22 _).symm.trans rfl
noncomputable def M_changedOf_L4 (l1 : Int32) (l2 : Int32) (l3 : Int32) (σ : pd_H) : Option pd_R := pd_u (163, 4, [some (pd_r 10 230), some (pd_i l1), some (pd_i l2), some (pd_i l3)], [], σ)
theorem M_changedOf_eq (a : Int32) (σ : pd_H) : M_changedOf a σ =
 M_changedOf_L4 a 0 0 σ := (pd_dr_eq (cd := pd_cd) (fun q => Nat.beq q 4) 5 _).symm.trans rfl
theorem M_changedOf_L4_eq (l1 : Int32) (l2 : Int32) (l3 : Int32) (σ : pd_H) : M_changedOf_L4 l1 l2 l3 σ =
 cond (pd_ob l1 (pd_len 232)) none
 (cond (decide ((σ.1 232 (Int32.toNatClampNeg l1)) ≤ l3))
 (some (σ, some (pd_i l2)))
 (pd_bI (M_isOther (((12 : Int32) * l1) + l3) σ) fun s1 v2 =>
  cond (decide (v2 = 0))
  (M_changedOf_L4 l1 (l2 + 0) (l3 + 1) s1)
  (M_changedOf_L4 l1 (l2 + 1) (l3 + 1) s1))) := (pd_dr_eq (cd := pd_cd) (fun q => Nat.beq q 4) 22 _).symm.trans rfl
theorem M_changed_eq (a : Int32) (σ : pd_H) : M_changed a σ =
 pd_bI (M_isSlot a σ) fun s1 v2 =>
 cond (decide (v2 = 0))
 (some (s1, some (pd_i (-2))))
 (pd_bI (M_lacksRow a s1) fun s3 v4 =>
  cond (decide (v4 ≤ 0))
  (pd_bI (M_changedOf a s3) fun s5 v6 =>
   some (s5, some (pd_i v6)))
  (pd_bI (M_lacksRow a s3) fun s7 v8 =>
   pd_bI (M_refused v8 s7) fun s9 v10 =>
   some (s9, some (pd_i v10)))) := (pd_dr_eq (cd := pd_cd) (fun q => false) 13 _).symm.trans rfl
theorem M_keeps_eq (a : Int32) (b : Int32) (c : Int32) (d : Int32) (e : Int32) (σ : pd_H) : M_keeps a b c d e σ =
 cond (pd_ob a (pd_len 238)) none
 (cond (pd_ob a (pd_len 239)) none
 (cond (pd_ob a (pd_len 240)) none
 (cond (pd_ob a (pd_len 241)) none
 (some (pd_upI (pd_upI (pd_upI (pd_upI σ 238 (Int32.toNatClampNeg a) (vp_nar .boolean b)) 239 (Int32.toNatClampNeg a) c) 240 (Int32.toNatClampNeg a) d) 241 (Int32.toNatClampNeg a) e, none))))) := (pd_dr_eq (cd := pd_cd) (fun q => false) 21 _).symm.trans rfl
theorem M_changes_eq (a : Int32) (b : Int32) (c : Int32) (d : Int32) (σ : pd_H) : M_changes a b c d σ =
 cond (decide ((σ.1 244 24) = (6 : Int32)))
 (some (σ, some (pd_i (-4))))
 (pd_bV (M_keeps ((144 : Int32) + (σ.1 244 24)) 0 a c b σ) fun s1 =>
  cond (pd_ob ((144 : Int32) + (σ.1 244 24)) (pd_len 242)) none
  (cond (pd_ob ((144 : Int32) + (σ.1 244 24)) (pd_len 243)) none
  (some (pd_upI (pd_upI (pd_upI s1 242 (Int32.toNatClampNeg ((144 : Int32) + (σ.1 244 24))) d) 243 (Int32.toNatClampNeg ((144 : Int32) + (σ.1 244 24))) 0) 244 24 (((pd_upI (pd_upI s1 242 (Int32.toNatClampNeg ((144 : Int32) + (σ.1 244 24))) d) 243 (Int32.toNatClampNeg ((144 : Int32) + (σ.1 244 24))) 0).1 244 24) + 1), some (pd_i ((pd_upI (pd_upI (pd_upI s1 242 (Int32.toNatClampNeg ((144 : Int32) + (σ.1 244 24))) d) 243 (Int32.toNatClampNeg ((144 : Int32) + (σ.1 244 24))) 0) 244 24 (((pd_upI (pd_upI s1 242 (Int32.toNatClampNeg ((144 : Int32) + (σ.1 244 24))) d) 243 (Int32.toNatClampNeg ((144 : Int32) + (σ.1 244 24))) 0).1 244 24) + 1)).1 244 24)))))) := (pd_dr_eq (cd := pd_cd) (fun q => false) 43 _).symm.trans rfl
theorem M_change_eq (a : Int32) (b : Int32) (c : Int32) (d : Int32) (σ : pd_H) : M_change a b c d σ =
 pd_bI (M_isSlot a σ) fun s1 v2 =>
 cond (decide (v2 = 0))
 (some (s1, some (pd_i (-2))))
 (pd_bI (M_in b 0 21 s1) fun s3 v4 =>
  cond (decide (v4 = 0))
  (some (s3, some (pd_i (-2))))
  (pd_bI (M_changes a b c d s3) fun s5 v6 =>
   some (s5, some (pd_i v6)))) := (pd_dr_eq (cd := pd_cd) (fun q => false) 16 _).symm.trans rfl
theorem M_movesMore_eq (a : Int32) (b : Int32) (c : Int32) (d : Int32) (e : Int32) (σ : pd_H) : M_movesMore a b c d e σ =
 cond (decide ((σ.1 244 24) = (6 : Int32)))
 (some (σ, some (pd_i (-4))))
 (pd_bV (M_keeps ((144 : Int32) + (σ.1 244 24)) 1 a b c σ) fun s1 =>
  cond (pd_ob ((144 : Int32) + (σ.1 244 24)) (pd_len 243)) none
  (cond (pd_ob ((144 : Int32) + (σ.1 244 24)) (pd_len 242)) none
  (some (pd_upI (pd_upI (pd_upI s1 243 (Int32.toNatClampNeg ((144 : Int32) + (σ.1 244 24))) d) 242 (Int32.toNatClampNeg ((144 : Int32) + (σ.1 244 24))) e) 244 24 (((pd_upI (pd_upI s1 243 (Int32.toNatClampNeg ((144 : Int32) + (σ.1 244 24))) d) 242 (Int32.toNatClampNeg ((144 : Int32) + (σ.1 244 24))) e).1 244 24) + 1), some (pd_i ((pd_upI (pd_upI (pd_upI s1 243 (Int32.toNatClampNeg ((144 : Int32) + (σ.1 244 24))) d) 242 (Int32.toNatClampNeg ((144 : Int32) + (σ.1 244 24))) e) 244 24 (((pd_upI (pd_upI s1 243 (Int32.toNatClampNeg ((144 : Int32) + (σ.1 244 24))) d) 242 (Int32.toNatClampNeg ((144 : Int32) + (σ.1 244 24))) e).1 244 24) + 1)).1 244 24)))))) := (pd_dr_eq (cd := pd_cd) (fun q => false) 43 _).symm.trans rfl
theorem M_move_eq (a : Int32) (b : Int32) (c : Int32) (d : Int32) (e : Int32) (σ : pd_H) : M_move a b c d e σ =
 pd_bI (M_isSlot a σ) fun s1 v2 =>
 cond (decide (v2 = 0))
 (some (s1, some (pd_i (-2))))
 (pd_bI (M_isSlot d s1) fun s3 v4 =>
  cond (decide (v4 = 0))
  (some (s3, some (pd_i (-2))))
  (pd_bI (M_in c 0 8 s3) fun s5 v6 =>
   cond (decide (v6 = 0))
   (some (s5, some (pd_i (-2))))
   (pd_bI (M_movesMore a b c d e s5) fun s7 v8 =>
    some (s7, some (pd_i v8))))) := (pd_dr_eq (cd := pd_cd) (fun q => false) 20 _).symm.trans rfl
theorem M_drop_eq  (σ : pd_H) : M_drop  σ =
 cond (decide ((σ.1 244 24) = 0))
 (some (σ, some (pd_i (-3))))
 (some (pd_upI σ 244 24 ((σ.1 244 24) - 1), some (pd_i ((pd_upI σ 244 24 ((σ.1 244 24) - 1)).1 244 24)))) := (pd_dr_eq (cd := pd_cd) (fun q => false) 18 _).symm.trans rfl
noncomputable def M_previewOf_L4 (l1 : Int32) (l2 : Int32) (l3 : Int32) (σ : pd_H) : Option pd_R := pd_u (171, 4, [some (pd_r 10 230), some (pd_i l1), some (pd_i l2), some (pd_i l3)], [], σ)
theorem M_previewOf_eq (a : Int32) (σ : pd_H) : M_previewOf a σ =
 M_previewOf_L4 a 0 0 σ := (pd_dr_eq (cd := pd_cd) (fun q => Nat.beq q 4) 5 _).symm.trans rfl
theorem M_previewOf_L4_eq (l1 : Int32) (l2 : Int32) (l3 : Int32) (σ : pd_H) : M_previewOf_L4 l1 l2 l3 σ =
 cond (decide (l1 < l3))
 (pd_bV (M_playsLaid σ) fun s1 =>
  some (s1, some (pd_i l2)))
 (pd_bI (M_does 24 ((144 : Int32) + l3) 0 σ) fun s2 v3 =>
  M_previewOf_L4 l1 v3 (l3 + 1) s2) := (pd_dr_eq (cd := pd_cd) (fun q => Nat.beq q 4) 14 _).symm.trans rfl
theorem M_preview_eq (a : Int32) (σ : pd_H) : M_preview a σ =
 pd_bI (M_in a 0 ((σ.1 244 24) - 1) σ) fun s1 v2 =>
 cond (decide (v2 = 0))
 (some (s1, some (pd_i (-2))))
 (pd_bI (M_previewOf a s1) fun s3 v4 =>
  some (s3, some (pd_i v4))) := (pd_dr_eq (cd := pd_cd) (fun q => false) 15 _).symm.trans rfl
theorem M_type_eq (a : Int32) (σ : pd_H) : M_type a σ =
 pd_bI (M_in a 0 255 σ) fun s1 v2 =>
 cond (decide (v2 = 0))
 (some (s1, some (pd_i (-2))))
 (cond (decide ((s1.1 230 39) = (80 : Int32)))
  (some (s1, some (pd_i (-4))))
  (cond (pd_ob (s1.1 230 39) (pd_len 259)) none
   (some (pd_upI (pd_upI s1 259 (Int32.toNatClampNeg (s1.1 230 39)) a) 230 39 (((pd_upI s1 259 (Int32.toNatClampNeg (s1.1 230 39)) a).1 230 39) + 1), some (pd_i ((pd_upI (pd_upI s1 259 (Int32.toNatClampNeg (s1.1 230 39)) a) 230 39 (((pd_upI s1 259 (Int32.toNatClampNeg (s1.1 230 39)) a).1 230 39) + 1)).1 230 39)))))) := (pd_dr_eq (cd := pd_cd) (fun q => false) 24 _).symm.trans rfl
theorem M_wipe_eq  (σ : pd_H) : M_wipe  σ =
 some (pd_upI σ 230 39 0, some (pd_i (σ.1 230 39))) := (pd_dr_eq (cd := pd_cd) (fun q => false) 8 _).symm.trans rfl
theorem M_goesTo_eq (a : Int32) (σ : pd_H) : M_goesTo a σ =
 some (pd_upJ (pd_upI (pd_upI (pd_upI σ 230 40 a) 230 41 0) 230 42 0) 230 43 0, none) := (pd_dr_eq (cd := pd_cd) (fun q => false) 13 _).symm.trans rfl
noncomputable def M_isNumberByte_L54 (l1 : Int32) (σ : pd_H) : Option pd_R := pd_u (176, 54, [some (pd_r 10 230), some (pd_i l1)], [], σ)
noncomputable def M_isNumberByte_L76 (l1 : Int32) (σ : pd_H) : Option pd_R := pd_u (176, 76, [some (pd_r 10 230), some (pd_i l1)], [], σ)
theorem M_isNumberByte_eq (a : Int32) (σ : pd_H) : M_isNumberByte a σ =
 cond (decide (a = (45 : Int32)))
 (cond (decide ((σ.1 230 41) = 0))
  (cond (decide ((σ.1 230 42) = 0))
   (some (σ, some (pd_i 1)))
   (some (σ, some (pd_i 0))))
  (some (σ, some (pd_i 0))))
 (pd_bI (M_in a 48 57 σ) fun s1 v2 =>
  cond (decide (v2 = 0))
  (some (s1, some (pd_i 0)))
  (cond (decide ((s1.1 230 41) = (1 : Int32)))
   (cond (decide ((lg_cmp (s1.2.1 230 43) (0 : Int64)) = 0))
    (some (s1, some (pd_i 0)))
    (M_isNumberByte_L54 a s1))
   (M_isNumberByte_L54 a s1))) := (pd_dr_eq (cd := pd_cd) (fun q => Nat.beq q 54 || Nat.beq q 76) 19 _).symm.trans rfl
theorem M_isNumberByte_L54_eq (l1 : Int32) (σ : pd_H) : M_isNumberByte_L54 l1 σ =
 cond (decide ((σ.1 230 41) = 0))
 (cond (decide ((σ.1 230 42) = 0))
  (M_isNumberByte_L76 l1 σ)
  (cond (decide (l1 = (48 : Int32)))
   (some (σ, some (pd_i 0)))
   (M_isNumberByte_L76 l1 σ)))
 (M_isNumberByte_L76 l1 σ) := (pd_dr_eq (cd := pd_cd) (fun q => Nat.beq q 54 || Nat.beq q 76) 11 _).symm.trans rfl
theorem M_isNumberByte_L76_eq (l1 : Int32) (σ : pd_H) : M_isNumberByte_L76 l1 σ =
 cond (decide ((σ.1 230 42) = 0))
 (cond (decide (0 < (lg_cmp ((((10 : Int64) * (σ.2.1 230 43)) + (Int32.toInt64 l1)) - 48) (2147483647 : Int64))))
  (some (σ, some (pd_i 0)))
  (some (σ, some (pd_i 1))))
 (cond (decide (0 < (lg_cmp ((((10 : Int64) * (σ.2.1 230 43)) + (Int32.toInt64 l1)) - 48) (2147483648 : Int64))))
  (some (σ, some (pd_i 0)))
  (some (σ, some (pd_i 1)))) := (pd_dr_eq (cd := pd_cd) (fun q => Nat.beq q 54 || Nat.beq q 76) 19 _).symm.trans rfl
theorem M_numbers_eq (a : Int32) (σ : pd_H) : M_numbers a σ =
 cond (decide (a = (45 : Int32)))
 (some (pd_upI σ 230 42 1, none))
 (some (pd_upI (pd_upJ σ 230 43 ((((10 : Int64) * (σ.2.1 230 43)) + (Int32.toInt64 a)) - 48)) 230 41 (((pd_upJ σ 230 43 ((((10 : Int64) * (σ.2.1 230 43)) + (Int32.toInt64 a)) - 48)).1 230 41) + 1), none)) := (pd_dr_eq (cd := pd_cd) (fun q => false) 21 _).symm.trans rfl
theorem M_numberNow_eq  (σ : pd_H) : M_numberNow  σ =
 cond (decide ((σ.1 230 42) = 0))
 (some (σ, some (pd_i (Int64.toInt32 (σ.2.1 230 43)))))
 (some (σ, some (pd_i (Int64.toInt32 (-(σ.2.1 230 43)))))) := (pd_dr_eq (cd := pd_cd) (fun q => false) 9 _).symm.trans rfl
noncomputable def M_nextBy_L12 (l1 : Int32) (d2 : Option pd_V) (t0 : Int32) (σ : pd_H) : Option pd_R := pd_u (179, 12, [some (pd_r 10 230), some (pd_i l1), d2], [pd_i t0], σ)
theorem M_nextBy_eq (a : Int32) (σ : pd_H) : M_nextBy a σ =
 cond (decide ((σ.1 230 41) ≤ 0))
 (M_nextBy_L12 a none 0 σ)
 (M_nextBy_L12 a none 1 σ) := (pd_dr_eq (cd := pd_cd) (fun q => Nat.beq q 12) 6 _).symm.trans rfl
theorem M_nextBy_L12_eq (l1 : Int32) (d2 : Option pd_V) (t0 : Int32) (σ : pd_H) : M_nextBy_L12 l1 d2 t0 σ =
 cond (decide ((σ.1 230 40) = 0))
 (pd_bI (M_in l1 48 53 σ) fun s7 v8 =>
  cond (decide (v8 = 0))
  (some (s7, some (pd_i (-1))))
  (some (s7, some (pd_i ((s7.1 230 40) + 1)))))
 (cond (decide ((σ.1 230 40) = 1))
 (cond (decide (l1 = (46 : Int32)))
  (some (σ, some (pd_i 4)))
  (pd_bI (M_in l1 97 118 σ) fun s5 v6 =>
   cond (decide (v6 = 0))
   (some (s5, some (pd_i (-1))))
   (some (s5, some (pd_i 2)))))
 (cond (decide ((σ.1 230 40) = 2))
 (cond (decide (t0 = 0))
  (some (σ, some (pd_i (-1))))
  (cond (decide (l1 = (61 : Int32)))
   (some (σ, some (pd_i 3)))
   (some (σ, some (pd_i (-1))))))
 (cond (decide ((σ.1 230 40) = 3))
 (cond (decide (t0 = 0))
  (some (σ, some (pd_i (-1))))
  (cond (decide (l1 = (59 : Int32)))
   (some (σ, some (pd_i 0)))
   (some (σ, some (pd_i (-1))))))
 (cond (decide ((σ.1 230 40) = 4))
 (cond (decide (t0 = 0))
  (some (σ, some (pd_i (-1))))
  (pd_bI (M_in l1 97 105 σ) fun s3 v4 =>
   cond (decide (v4 = 0))
   (some (s3, some (pd_i (-1))))
   (some (s3, some (pd_i 5)))))
 (cond (decide ((σ.1 230 40) = 5))
 (pd_bI (M_in l1 48 53 σ) fun s1 v2 =>
  cond (decide (v2 = 0))
  (some (s1, some (pd_i (-1))))
  (some (s1, some (pd_i ((s1.1 230 40) + 1)))))
 (cond (decide ((σ.1 230 40) = 6))
 (cond (decide (l1 = (46 : Int32)))
  (some (σ, some (pd_i 7)))
  (some (σ, some (pd_i (-1)))))
 (cond (decide (t0 = 0))
  (some (σ, some (pd_i (-1))))
  (cond (decide (l1 = (59 : Int32)))
   (some (σ, some (pd_i 0)))
   (some (σ, some (pd_i (-1)))))))))))) := (pd_dr_eq (cd := pd_cd) (fun q => Nat.beq q 12) 15 _).symm.trans rfl
theorem M_isNumberState_eq  (σ : pd_H) : M_isNumberState  σ =
 cond (decide ((σ.1 230 40) = (2 : Int32)))
 (some (σ, some (pd_i 1)))
 (cond (decide ((σ.1 230 40) = (3 : Int32)))
  (some (σ, some (pd_i 1)))
  (cond (decide ((σ.1 230 40) = (4 : Int32)))
   (some (σ, some (pd_i 1)))
   (cond (decide ((σ.1 230 40) = (7 : Int32)))
    (some (σ, some (pd_i 1)))
    (some (σ, some (pd_i 0)))))) := (pd_dr_eq (cd := pd_cd) (fun q => false) 19 _).symm.trans rfl
noncomputable def M_flaw_L7 (l1 : Int32) (d2 : Option pd_V) (d3 : Option pd_V) (σ : pd_H) : Option pd_R := pd_u (181, 7, [some (pd_r 10 230), some (pd_i l1), d2, d3], [], σ)
noncomputable def M_flaw_L86 (d1 : Option pd_V) (d2 : Option pd_V) (d3 : Option pd_V) (σ : pd_H) : Option pd_R := pd_u (181, 86, [some (pd_r 10 230), d1, d2, d3], [], σ)
noncomputable def M_flaw_L45 (l1 : Int32) (l2 : Int32) (d3 : Option pd_V) (σ : pd_H) : Option pd_R := pd_u (181, 45, [some (pd_r 10 230), some (pd_i l1), some (pd_i l2), d3], [], σ)
theorem M_flaw_eq  (σ : pd_H) : M_flaw  σ =
 pd_bV (M_goesTo 0 σ) fun s1 =>
 M_flaw_L7 0 none none s1 := (pd_dr_eq (cd := pd_cd) (fun q => Nat.beq q 7 || Nat.beq q 45 || Nat.beq q 86) 6 _).symm.trans rfl
theorem M_flaw_L7_eq (l1 : Int32) (d2 : Option pd_V) (d3 : Option pd_V) (σ : pd_H) : M_flaw_L7 l1 d2 d3 σ =
 cond (decide ((σ.1 230 39) ≤ l1))
 (cond (decide ((σ.1 230 40) = (3 : Int32)))
  (M_flaw_L86 (some (pd_i l1)) d2 d3 σ)
  (cond (decide ((σ.1 230 40) = (7 : Int32)))
   (M_flaw_L86 (some (pd_i l1)) d2 d3 σ)
   (some (σ, some (pd_i (σ.1 230 39))))))
 (cond (pd_ob l1 (pd_len 259)) none
  (pd_bI (M_isNumberState σ) fun s1 v2 =>
  cond (decide (v2 = 0))
  (M_flaw_L45 l1 (σ.1 259 (Int32.toNatClampNeg l1)) d3 s1)
  (pd_bI (M_isNumberByte (σ.1 259 (Int32.toNatClampNeg l1)) s1) fun s3 v4 =>
   cond (decide (v4 = 0))
   (M_flaw_L45 l1 (σ.1 259 (Int32.toNatClampNeg l1)) d3 s3)
   (pd_bV (M_numbers (σ.1 259 (Int32.toNatClampNeg l1)) s3) fun s5 =>
    M_flaw_L7 (l1 + 1) (some (pd_i (σ.1 259 (Int32.toNatClampNeg l1)))) d3 s5)))) := (pd_dr_eq (cd := pd_cd) (fun q => Nat.beq q 7 || Nat.beq q 45 || Nat.beq q 86) 23 _).symm.trans rfl
theorem M_flaw_L86_eq (d1 : Option pd_V) (d2 : Option pd_V) (d3 : Option pd_V) (σ : pd_H) : M_flaw_L86 d1 d2 d3 σ =
 cond (decide ((σ.1 230 41) ≤ 0))
 (some (σ, some (pd_i (σ.1 230 39))))
 (some (σ, some (pd_i (-1)))) := (pd_dr_eq (cd := pd_cd) (fun q => Nat.beq q 7 || Nat.beq q 45 || Nat.beq q 86) 6 _).symm.trans rfl
theorem M_flaw_L45_eq (l1 : Int32) (l2 : Int32) (d3 : Option pd_V) (σ : pd_H) : M_flaw_L45 l1 l2 d3 σ =
 pd_bI (M_nextBy l2 σ) fun s1 v2 =>
 cond (decide (v2 = ((-1) : Int32)))
 (some (s1, some (pd_i l1)))
 (pd_bV (M_goesTo v2 s1) fun s3 =>
  M_flaw_L7 (l1 + 1) (some (pd_i l2)) (some (pd_i v2)) s3) := (pd_dr_eq (cd := pd_cd) (fun q => Nat.beq q 7 || Nat.beq q 45 || Nat.beq q 86) 13 _).symm.trans rfl
noncomputable def M_reads_L90 (l1 : Int32) (l2 : Int32) (t0 : Int32) (t1 : Int32) (t2 : Nat) (σ : pd_H) : Option pd_R := pd_u (182, 90, [some (pd_r 10 230), some (pd_i l1), some (pd_i l2)], [pd_i t0, pd_i t1, pd_r 22 t2], σ)
theorem M_reads_eq (a : Int32) (b : Int32) (σ : pd_H) : M_reads a b σ =
 cond (decide ((σ.1 230 40) = 0))
 (pd_bV (M_keeps a 0 (b - 48) 0 0 σ) fun s9 =>
  cond (pd_ob a (pd_len 243)) none
  (some (pd_upI s9 243 (Int32.toNatClampNeg a) 0, none)))
 (cond (decide ((σ.1 230 40) = 1))
 (cond (decide (b = (46 : Int32)))
  (M_reads_L90 a b 1 a 238 σ)
  (M_reads_L90 a b 0 a 238 σ))
 (cond (decide ((σ.1 230 40) = 2))
 (pd_bI (M_numberNow σ) fun s7 v8 =>
  cond (pd_ob a (pd_len 240)) none
  (some (pd_upI s7 240 (Int32.toNatClampNeg a) v8, none)))
 (cond (decide ((σ.1 230 40) = 3))
 (pd_bI (M_numberNow σ) fun s5 v6 =>
  cond (pd_ob a (pd_len 242)) none
  (some (pd_upI s5 242 (Int32.toNatClampNeg a) v6, none)))
 (cond (decide ((σ.1 230 40) = 4))
 (pd_bI (M_numberNow σ) fun s3 v4 =>
  cond (pd_ob a (pd_len 240)) none
  (cond (pd_ob a (pd_len 241)) none
  (some (pd_upI (pd_upI s3 240 (Int32.toNatClampNeg a) v4) 241 (Int32.toNatClampNeg a) (b - 97), none))))
 (cond (decide ((σ.1 230 40) = 5))
 (cond (pd_ob a (pd_len 243)) none
  (some (pd_upI σ 243 (Int32.toNatClampNeg a) (b - 48), none)))
 (cond (decide ((σ.1 230 40) = 6))
 (some (σ, none))
 (cond (decide ((σ.1 230 40) = 7))
 (pd_bI (M_numberNow σ) fun s1 v2 =>
  cond (pd_ob a (pd_len 242)) none
  (some (pd_upI s1 242 (Int32.toNatClampNeg a) v2, none)))
 (some (σ, none))))))))) := (pd_dr_eq (cd := pd_cd) (fun q => Nat.beq q 90) 19 _).symm.trans rfl
theorem M_reads_L90_eq (l1 : Int32) (l2 : Int32) (t0 : Int32) (t1 : Int32) (t2 : Nat) (σ : pd_H) : M_reads_L90 l1 l2 t0 t1 t2 σ =
 cond (pd_ob t1 (pd_len t2)) none
 (cond (decide (l2 = (46 : Int32)))
 (cond (pd_ob l1 (pd_len 241)) none
  (some (pd_upI (pd_upI σ t2 (Int32.toNatClampNeg t1) (vp_nar .boolean t0)) 241 (Int32.toNatClampNeg l1) 0, none)))
 (cond (pd_ob l1 (pd_len 241)) none
  (some (pd_upI (pd_upI σ t2 (Int32.toNatClampNeg t1) (vp_nar .boolean t0)) 241 (Int32.toNatClampNeg l1) (l2 - 97), none)))) := (pd_dr_eq (cd := pd_cd) (fun q => Nat.beq q 90) 13 _).symm.trans rfl
noncomputable def M_read_L15 (l1 : Int32) (l2 : Int32) (d3 : Option pd_V) (d4 : Option pd_V) (σ : pd_H) : Option pd_R := pd_u (183, 15, [some (pd_r 10 230), some (pd_i l1), some (pd_i l2), d3, d4], [], σ)
noncomputable def M_read_L84 (l1 : Int32) (l2 : Int32) (l3 : Int32) (d4 : Option pd_V) (σ : pd_H) : Option pd_R := pd_u (183, 84, [some (pd_r 10 230), some (pd_i l1), some (pd_i l2), some (pd_i l3), d4], [], σ)
noncomputable def M_read_L125 (l1 : Int32) (l2 : Int32) (l3 : Int32) (l4 : Int32) (σ : pd_H) : Option pd_R := pd_u (183, 125, [some (pd_r 10 230), some (pd_i l1), some (pd_i l2), some (pd_i l3), some (pd_i l4)], [], σ)
noncomputable def M_read_L145 (l1 : Int32) (d2 : Option pd_V) (l3 : Int32) (l4 : Int32) (t0 : Int32) (t1 : Int32) (σ : pd_H) : Option pd_R := pd_u (183, 145, [some (pd_r 10 230), some (pd_i l1), d2, some (pd_i l3), some (pd_i l4)], [pd_i t0, pd_i t1], σ)
theorem M_read_eq  (σ : pd_H) : M_read  σ =
 pd_bI (M_flaw σ) fun s1 v2 =>
 cond (decide (v2 = ((-1) : Int32)))
 (M_read_L15 1 0 none none s1)
 (some (s1, some (pd_i (-3)))) := (pd_dr_eq (cd := pd_cd) (fun q => Nat.beq q 15 || Nat.beq q 84 || Nat.beq q 125 || Nat.beq q 145) 9 _).symm.trans rfl
theorem M_read_L15_eq (l1 : Int32) (l2 : Int32) (d3 : Option pd_V) (d4 : Option pd_V) (σ : pd_H) : M_read_L15 l1 l2 d3 d4 σ =
 cond (decide ((σ.1 230 39) ≤ l2))
 (cond (decide (((σ.1 244 24) + l1) ≤ (6 : Int32)))
  (pd_bV (M_goesTo 0 σ) fun s1 =>
   M_read_L84 l1 ((144 : Int32) + (σ.1 244 24)) 0 d4 s1)
  (some (σ, some (pd_i (-4)))))
 (cond (pd_ob l2 (pd_len 259)) none
  (cond (decide ((σ.1 259 (Int32.toNatClampNeg l2)) = (59 : Int32)))
  (M_read_L15 (l1 + 1) (l2 + 1) d3 d4 σ)
  (M_read_L15 (l1 + 0) (l2 + 1) d3 d4 σ))) := (pd_dr_eq (cd := pd_cd) (fun q => Nat.beq q 15 || Nat.beq q 84 || Nat.beq q 125 || Nat.beq q 145) 25 _).symm.trans rfl
theorem M_read_L84_eq (l1 : Int32) (l2 : Int32) (l3 : Int32) (d4 : Option pd_V) (σ : pd_H) : M_read_L84 l1 l2 l3 d4 σ =
 cond (decide ((σ.1 230 39) ≤ l3))
 (pd_bV (M_reads l2 59 σ) fun s1 =>
  some (pd_upI (pd_upI s1 244 24 ((s1.1 244 24) + l1)) 230 39 0, some (pd_i ((pd_upI (pd_upI s1 244 24 ((s1.1 244 24) + l1)) 230 39 0).1 244 24))))
 (cond (pd_ob l3 (pd_len 259)) none
  (pd_bI (M_isNumberState σ) fun s2 v3 =>
  cond (decide (v3 = 0))
  (M_read_L125 l1 l2 l3 (σ.1 259 (Int32.toNatClampNeg l3)) s2)
  (pd_bI (M_isNumberByte (σ.1 259 (Int32.toNatClampNeg l3)) s2) fun s4 v5 =>
   cond (decide (v5 = 0))
   (M_read_L125 l1 l2 l3 (σ.1 259 (Int32.toNatClampNeg l3)) s4)
   (pd_bV (M_numbers (σ.1 259 (Int32.toNatClampNeg l3)) s4) fun s6 =>
    M_read_L84 l1 l2 (l3 + 1) (some (pd_i (σ.1 259 (Int32.toNatClampNeg l3)))) s6)))) := (pd_dr_eq (cd := pd_cd) (fun q => Nat.beq q 15 || Nat.beq q 84 || Nat.beq q 125 || Nat.beq q 145) 24 _).symm.trans rfl
theorem M_read_L125_eq (l1 : Int32) (l2 : Int32) (l3 : Int32) (l4 : Int32) (σ : pd_H) : M_read_L125 l1 l2 l3 l4 σ =
 pd_bV (M_reads l2 l4 σ) fun s1 =>
 cond (decide (l4 = (59 : Int32)))
 (M_read_L145 l1 (some (pd_i l2)) l3 l4 1 l2 s1)
 (M_read_L145 l1 (some (pd_i l2)) l3 l4 0 l2 s1) := (pd_dr_eq (cd := pd_cd) (fun q => Nat.beq q 15 || Nat.beq q 84 || Nat.beq q 125 || Nat.beq q 145) 11 _).symm.trans rfl
theorem M_read_L145_eq (l1 : Int32) (d2 : Option pd_V) (l3 : Int32) (l4 : Int32) (t0 : Int32) (t1 : Int32) (σ : pd_H) : M_read_L145 l1 d2 l3 l4 t0 t1 σ =
 pd_bI (M_nextBy l4 σ) fun s1 v2 =>
 pd_bV (M_goesTo v2 s1) fun s3 =>
 M_read_L84 l1 (t1 + t0) (l3 + 1) (some (pd_i l4)) s3 := (pd_dr_eq (cd := pd_cd) (fun q => Nat.beq q 15 || Nat.beq q 84 || Nat.beq q 125 || Nat.beq q 145) 10 _).symm.trans rfl
theorem M_writes_eq (a : Int32) (σ : pd_H) : M_writes a σ =
 cond (pd_ob (σ.1 230 45) (pd_len 260)) none
 (some (pd_upI (pd_upI σ 260 (Int32.toNatClampNeg (σ.1 230 45)) a) 230 45 (((pd_upI σ 260 (Int32.toNatClampNeg (σ.1 230 45)) a).1 230 45) + 1), none)) := (pd_dr_eq (cd := pd_cd) (fun q => false) 13 _).symm.trans rfl
noncomputable def M_writesNumber_L12 (l1 : Int32) (d2 : Option pd_V) (d3 : Option pd_V) (d4 : Option pd_V) (d5 : Option pd_V) (t0 : Int64) (σ : pd_H) : Option pd_R := pd_u (185, 12, [some (pd_r 10 230), some (pd_i l1), d2, d3, d4, d5], [pd_j t0], σ)
noncomputable def M_writesNumber_L26 (d1 : Option pd_V) (l2 : Int64) (l4 : Int64) (σ : pd_H) : Option pd_R := pd_u (185, 26, [some (pd_r 10 230), d1, some (pd_j l2), none, some (pd_j l4), none], [], σ)
noncomputable def M_writesNumber_L48 (d1 : Option pd_V) (l2 : Int64) (l4 : Int64) (σ : pd_H) : Option pd_R := pd_u (185, 48, [some (pd_r 10 230), d1, some (pd_j l2), none, some (pd_j l4), none], [], σ)
theorem M_writesNumber_eq (a : Int32) (σ : pd_H) : M_writesNumber a σ =
 cond (decide (0 ≤ a))
 (M_writesNumber_L12 a none none none none (Int32.toInt64 a) σ)
 (M_writesNumber_L12 a none none none none (-(Int32.toInt64 a)) σ) := (pd_dr_eq (cd := pd_cd) (fun q => Nat.beq q 12 || Nat.beq q 26 || Nat.beq q 48) 7 _).symm.trans rfl
theorem M_writesNumber_L12_eq (l1 : Int32) (d2 : Option pd_V) (d3 : Option pd_V) (d4 : Option pd_V) (d5 : Option pd_V) (t0 : Int64) (σ : pd_H) : M_writesNumber_L12 l1 d2 d3 d4 d5 t0 σ =
 cond (decide (0 ≤ l1))
 (M_writesNumber_L26 (some (pd_i l1)) t0 1 σ)
 (pd_bV (M_writes 45 σ) fun s1 =>
  M_writesNumber_L26 (some (pd_i l1)) t0 1 s1) := (pd_dr_eq (cd := pd_cd) (fun q => Nat.beq q 12 || Nat.beq q 26 || Nat.beq q 48) 9 _).symm.trans rfl
theorem M_writesNumber_L26_eq (d1 : Option pd_V) (l2 : Int64) (l4 : Int64) (σ : pd_H) : M_writesNumber_L26 d1 l2 l4 σ =
 cond (decide (0 < (lg_cmp (l4 * 10) l2)))
 (M_writesNumber_L48 d1 l2 l4 σ)
 (M_writesNumber_L26 d1 l2 (l4 * 10) σ) := (pd_dr_eq (cd := pd_cd) (fun q => Nat.beq q 12 || Nat.beq q 26 || Nat.beq q 48) 12 _).symm.trans rfl
theorem M_writesNumber_L48_eq (d1 : Option pd_V) (l2 : Int64) (l4 : Int64) (σ : pd_H) : M_writesNumber_L48 d1 l2 l4 σ =
 cond (decide ((lg_cmp l4 (0 : Int64)) ≤ 0))
 (some (σ, none))
 (cond (decide (l4 = 0)) none
  (pd_bV (M_writes ((48 : Int32) + (Int64.toInt32 ((l2 / l4) - (l2 / l4) / (10 : Int64) * (10 : Int64)))) σ) fun s1 =>
  M_writesNumber_L48 d1 l2 (l4 / (10 : Int64)) s1)) := (pd_dr_eq (cd := pd_cd) (fun q => Nat.beq q 12 || Nat.beq q 26 || Nat.beq q 48) 20 _).symm.trans rfl
noncomputable def M_textOf_L7 (l1 : Int32) (l2 : Int32) (d3 : Option pd_V) (σ : pd_H) : Option pd_R := pd_u (186, 7, [some (pd_r 10 230), some (pd_i l1), some (pd_i l2), d3], [], σ)
noncomputable def M_textOf_L34 (l1 : Int32) (l2 : Int32) (l3 : Int32) (σ : pd_H) : Option pd_R := pd_u (186, 34, [some (pd_r 10 230), some (pd_i l1), some (pd_i l2), some (pd_i l3)], [], σ)
noncomputable def M_textOf_L71 (l1 : Int32) (l2 : Int32) (l3 : Int32) (t0 : Int32) (σ : pd_H) : Option pd_R := pd_u (186, 71, [some (pd_r 10 230), some (pd_i l1), some (pd_i l2), some (pd_i l3)], [pd_i t0, pd_r 10 230], σ)
noncomputable def M_textOf_L108 (l1 : Int32) (l2 : Int32) (l3 : Int32) (t0 : Int32) (σ : pd_H) : Option pd_R := pd_u (186, 108, [some (pd_r 10 230), some (pd_i l1), some (pd_i l2), some (pd_i l3)], [pd_i t0, pd_r 10 230], σ)
theorem M_textOf_eq (a : Int32) (σ : pd_H) : M_textOf a σ =
 M_textOf_L7 a 0 none (pd_upI σ 230 45 0) := (pd_dr_eq (cd := pd_cd) (fun q => Nat.beq q 7 || Nat.beq q 34 || Nat.beq q 71 || Nat.beq q 108) 6 _).symm.trans rfl
theorem M_textOf_L7_eq (l1 : Int32) (l2 : Int32) (d3 : Option pd_V) (σ : pd_H) : M_textOf_L7 l1 l2 d3 σ =
 cond (pd_ob l1 (pd_len 244)) none
 (cond (decide ((σ.1 244 (Int32.toNatClampNeg l1)) ≤ l2))
 (some (σ, some (pd_i (σ.1 230 45))))
 (cond (decide (l2 ≤ 0))
  (M_textOf_L34 l1 l2 (((6 : Int32) * l1) + l2) σ)
  (pd_bV (M_writes 59 σ) fun s1 =>
   M_textOf_L34 l1 l2 (((6 : Int32) * l1) + l2) s1))) := (pd_dr_eq (cd := pd_cd) (fun q => Nat.beq q 7 || Nat.beq q 34 || Nat.beq q 71 || Nat.beq q 108) 18 _).symm.trans rfl
theorem M_textOf_L34_eq (l1 : Int32) (l2 : Int32) (l3 : Int32) (σ : pd_H) : M_textOf_L34 l1 l2 l3 σ =
 cond (pd_ob l3 (pd_len 239)) none
 (pd_bV (M_writes ((48 : Int32) + (σ.1 239 (Int32.toNatClampNeg l3))) σ) fun s1 =>
 cond (pd_ob l3 (pd_len 238)) none
 (cond (decide ((s1.1 238 (Int32.toNatClampNeg l3)) = 0))
 (cond (pd_ob l3 (pd_len 241)) none
  (M_textOf_L71 l1 l2 l3 ((97 : Int32) + (s1.1 241 (Int32.toNatClampNeg l3))) s1))
 (M_textOf_L71 l1 l2 l3 46 s1))) := (pd_dr_eq (cd := pd_cd) (fun q => Nat.beq q 7 || Nat.beq q 34 || Nat.beq q 71 || Nat.beq q 108) 21 _).symm.trans rfl
theorem M_textOf_L71_eq (l1 : Int32) (l2 : Int32) (l3 : Int32) (t0 : Int32) (σ : pd_H) : M_textOf_L71 l1 l2 l3 t0 σ =
 pd_bV (M_writes t0 σ) fun s1 =>
 cond (pd_ob l3 (pd_len 240)) none
 (pd_bV (M_writesNumber (s1.1 240 (Int32.toNatClampNeg l3)) s1) fun s2 =>
 cond (pd_ob l3 (pd_len 238)) none
 (cond (decide ((s2.1 238 (Int32.toNatClampNeg l3)) = 0))
 (M_textOf_L108 l1 l2 l3 61 s2)
 (cond (pd_ob l3 (pd_len 241)) none
  (M_textOf_L108 l1 l2 l3 ((97 : Int32) + (s2.1 241 (Int32.toNatClampNeg l3))) s2)))) := (pd_dr_eq (cd := pd_cd) (fun q => Nat.beq q 7 || Nat.beq q 34 || Nat.beq q 71 || Nat.beq q 108) 21 _).symm.trans rfl
theorem M_textOf_L108_eq (l1 : Int32) (l2 : Int32) (l3 : Int32) (t0 : Int32) (σ : pd_H) : M_textOf_L108 l1 l2 l3 t0 σ =
 pd_bV (M_writes t0 σ) fun s1 =>
 cond (pd_ob l3 (pd_len 238)) none
 (cond (decide ((s1.1 238 (Int32.toNatClampNeg l3)) = 0))
 (cond (pd_ob l3 (pd_len 242)) none
  (pd_bV (M_writesNumber (s1.1 242 (Int32.toNatClampNeg l3)) s1) fun s2 =>
  M_textOf_L7 l1 (l2 + 1) (some (pd_i l3)) s2))
 (cond (pd_ob l3 (pd_len 243)) none
  (pd_bV (M_writes ((48 : Int32) + (s1.1 243 (Int32.toNatClampNeg l3))) s1) fun s3 =>
  pd_bV (M_writes 46 s3) fun s4 =>
  cond (pd_ob l3 (pd_len 242)) none
  (pd_bV (M_writesNumber (s4.1 242 (Int32.toNatClampNeg l3)) s4) fun s5 =>
  M_textOf_L7 l1 (l2 + 1) (some (pd_i l3)) s5)))) := (pd_dr_eq (cd := pd_cd) (fun q => Nat.beq q 7 || Nat.beq q 34 || Nat.beq q 71 || Nat.beq q 108) 26 _).symm.trans rfl
theorem M_isText_eq (a : Int32) (σ : pd_H) : M_isText a σ =
 pd_bI (M_in a 0 ((σ.1 230 19) - 1) σ) fun s1 v2 =>
 cond (decide (v2 = 0))
 (cond (decide (a = (24 : Int32)))
  (some (s1, some (pd_i 1)))
  (some (s1, some (pd_i 0))))
 (some (s1, some (pd_i 1))) := (pd_dr_eq (cd := pd_cd) (fun q => false) 14 _).symm.trans rfl
theorem M_textAt_eq (a : Int32) (b : Int32) (σ : pd_H) : M_textAt a b σ =
 pd_bI (M_textOf a σ) fun s1 v2 =>
 cond (decide (b = ((-1) : Int32)))
 (some (s1, some (pd_i v2)))
 (pd_bI (M_in b 0 (v2 - 1) s1) fun s3 v4 =>
  cond (decide (v4 = 0))
  (some (s3, some (pd_i (-2))))
  (cond (pd_ob b (pd_len 260)) none
   (some (s3, some (pd_i (s3.1 260 (Int32.toNatClampNeg b))))))) := (pd_dr_eq (cd := pd_cd) (fun q => false) 20 _).symm.trans rfl
theorem M_text_eq (a : Int32) (b : Int32) (σ : pd_H) : M_text a b σ =
 pd_bI (M_isText a σ) fun s1 v2 =>
 cond (decide (v2 = 0))
 (some (s1, some (pd_i (-2))))
 (pd_bI (M_textAt a b s1) fun s3 v4 =>
  some (s3, some (pd_i v4))) := (pd_dr_eq (cd := pd_cd) (fun q => false) 10 _).symm.trans rfl
theorem M_isPatch_eq (a : Int32) (σ : pd_H) : M_isPatch a σ =
 pd_bI (M_in a 0 ((σ.1 230 19) - 1) σ) fun s1 v2 =>
 cond (decide (v2 = 0 ∨ v2 = 1)) (some (s1, some (pd_i v2))) none := (pd_dr_eq (cd := pd_cd) (fun q => false) 8 _).symm.trans rfl
theorem M_copiesChange_eq (a : Int32) (b : Int32) (σ : pd_H) : M_copiesChange a b σ =
 cond (pd_ob a (pd_len 238)) none
 (cond (pd_ob a (pd_len 239)) none
 (cond (pd_ob a (pd_len 240)) none
 (cond (pd_ob a (pd_len 241)) none
 (pd_bV (M_keeps b (σ.1 238 (Int32.toNatClampNeg a)) (σ.1 239 (Int32.toNatClampNeg a)) (σ.1 240 (Int32.toNatClampNeg a)) (σ.1 241 (Int32.toNatClampNeg a)) σ) fun s1 =>
 cond (pd_ob a (pd_len 242)) none
 (cond (pd_ob b (pd_len 242)) none
 (cond (pd_ob a (pd_len 243)) none
 (cond (pd_ob b (pd_len 243)) none
 (some (pd_upI (pd_upI s1 242 (Int32.toNatClampNeg b) (s1.1 242 (Int32.toNatClampNeg a))) 243 (Int32.toNatClampNeg b) ((pd_upI s1 242 (Int32.toNatClampNeg b) (s1.1 242 (Int32.toNatClampNeg a))).1 243 (Int32.toNatClampNeg a)), none))))))))) := (pd_dr_eq (cd := pd_cd) (fun q => false) 36 _).symm.trans rfl
noncomputable def M_layNow_L10 (l1 : Int32) (l2 : Int32) (d3 : Option pd_V) (σ : pd_H) : Option pd_R := pd_u (192, 10, [some (pd_r 10 230), some (pd_i l1), some (pd_i l2), d3], [], σ)
noncomputable def M_layNow_L53 (l1 : Int32) (l2 : Int32) (d3 : Option pd_V) (σ : pd_H) : Option pd_R := pd_u (192, 53, [some (pd_r 10 230), some (pd_i l1), some (pd_i l2), d3], [], σ)
theorem M_layNow_eq  (σ : pd_H) : M_layNow  σ =
 M_layNow_L10 (σ.1 244 24) 0 none σ := (pd_dr_eq (cd := pd_cd) (fun q => Nat.beq q 10 || Nat.beq q 53) 8 _).symm.trans rfl
theorem M_layNow_L10_eq (l1 : Int32) (l2 : Int32) (d3 : Option pd_V) (σ : pd_H) : M_layNow_L10 l1 l2 d3 σ =
 cond (decide (l1 ≤ l2))
 (M_layNow_L53 l1 0 d3 σ)
 (pd_bI (M_does 24 ((144 : Int32) + l2) 1 σ) fun s1 v2 =>
  cond (decide (v2 ≤ 0))
  (M_layNow_L10 l1 (l2 + 1) (some (pd_i v2)) s1)
  (pd_bV (M_playsLaid s1) fun s3 =>
   pd_bI (M_fails 24 l2 v2 s3) fun s4 v5 =>
   some (s4, some (pd_i v5)))) := (pd_dr_eq (cd := pd_cd) (fun q => Nat.beq q 10 || Nat.beq q 53) 21 _).symm.trans rfl
theorem M_layNow_L53_eq (l1 : Int32) (l2 : Int32) (d3 : Option pd_V) (σ : pd_H) : M_layNow_L53 l1 l2 d3 σ =
 cond (decide (l1 ≤ l2))
 (cond (pd_ob (σ.1 230 19) (pd_len 244)) none
  (cond (pd_ob ((pd_upI (pd_upI σ 244 (Int32.toNatClampNeg (σ.1 230 19)) l1) 244 24 0).1 230 21) (pd_len 250)) none
  (pd_bV (M_playsLaid (pd_upI (pd_upI (pd_upI (pd_upI (pd_upI (pd_upI σ 244 (Int32.toNatClampNeg (σ.1 230 19)) l1) 244 24 0) 250 (Int32.toNatClampNeg ((pd_upI (pd_upI σ 244 (Int32.toNatClampNeg (σ.1 230 19)) l1) 244 24 0).1 230 21)) ((pd_upI (pd_upI σ 244 (Int32.toNatClampNeg (σ.1 230 19)) l1) 244 24 0).1 230 19)) 230 21 (((pd_upI (pd_upI (pd_upI σ 244 (Int32.toNatClampNeg (σ.1 230 19)) l1) 244 24 0) 250 (Int32.toNatClampNeg ((pd_upI (pd_upI σ 244 (Int32.toNatClampNeg (σ.1 230 19)) l1) 244 24 0).1 230 21)) ((pd_upI (pd_upI σ 244 (Int32.toNatClampNeg (σ.1 230 19)) l1) 244 24 0).1 230 19)).1 230 21) + 1)) 230 19 (((pd_upI (pd_upI (pd_upI (pd_upI σ 244 (Int32.toNatClampNeg (σ.1 230 19)) l1) 244 24 0) 250 (Int32.toNatClampNeg ((pd_upI (pd_upI σ 244 (Int32.toNatClampNeg (σ.1 230 19)) l1) 244 24 0).1 230 21)) ((pd_upI (pd_upI σ 244 (Int32.toNatClampNeg (σ.1 230 19)) l1) 244 24 0).1 230 19)) 230 21 (((pd_upI (pd_upI (pd_upI σ 244 (Int32.toNatClampNeg (σ.1 230 19)) l1) 244 24 0) 250 (Int32.toNatClampNeg ((pd_upI (pd_upI σ 244 (Int32.toNatClampNeg (σ.1 230 19)) l1) 244 24 0).1 230 21)) ((pd_upI (pd_upI σ 244 (Int32.toNatClampNeg (σ.1 230 19)) l1) 244 24 0).1 230 19)).1 230 21) + 1)).1 230 19) + 1)) 230 25 0)) fun s1 =>
  some (s1, some (pd_i ((s1.1 230 19) - 1))))))
 (pd_bV (M_copiesChange ((144 : Int32) + l2) (((6 : Int32) * (σ.1 230 19)) + l2) σ) fun s2 =>
  M_layNow_L53 l1 (l2 + 1) d3 s2) := (pd_dr_eq (cd := pd_cd) (fun q => Nat.beq q 10 || Nat.beq q 53) 43 _).symm.trans rfl
theorem M_lay_eq  (σ : pd_H) : M_lay  σ =
 cond (decide ((σ.1 244 24) = 0))
 (some (σ, some (pd_i (-3))))
 (cond (decide ((σ.1 230 19) = (24 : Int32)))
  (some (σ, some (pd_i (-4))))
  (pd_bI (M_layNow σ) fun s1 v2 =>
   some (s1, some (pd_i v2)))) := (pd_dr_eq (cd := pd_cd) (fun q => false) 12 _).symm.trans rfl
theorem M_undo_eq  (σ : pd_H) : M_undo  σ =
 cond (decide ((σ.1 230 21) = 0))
 (some (σ, some (pd_i (-3))))
 (cond (pd_ob ((pd_upI σ 230 21 ((σ.1 230 21) - 1)).1 230 21) (pd_len 250)) none
  (cond (pd_ob ((pd_upI σ 230 21 ((σ.1 230 21) - 1)).1 230 25) (pd_len 252)) none
  (pd_bV (M_playsLaid (pd_upI (pd_upI (pd_upI σ 230 21 ((σ.1 230 21) - 1)) 252 (Int32.toNatClampNeg ((pd_upI σ 230 21 ((σ.1 230 21) - 1)).1 230 25)) ((pd_upI σ 230 21 ((σ.1 230 21) - 1)).1 250 (Int32.toNatClampNeg ((pd_upI σ 230 21 ((σ.1 230 21) - 1)).1 230 21)))) 230 25 (((pd_upI (pd_upI σ 230 21 ((σ.1 230 21) - 1)) 252 (Int32.toNatClampNeg ((pd_upI σ 230 21 ((σ.1 230 21) - 1)).1 230 25)) ((pd_upI σ 230 21 ((σ.1 230 21) - 1)).1 250 (Int32.toNatClampNeg ((pd_upI σ 230 21 ((σ.1 230 21) - 1)).1 230 21)))).1 230 25) + 1))) fun s1 =>
  some (s1, some (pd_i ((pd_upI σ 230 21 ((σ.1 230 21) - 1)).1 250 (Int32.toNatClampNeg ((pd_upI σ 230 21 ((σ.1 230 21) - 1)).1 230 21)))))))) := (pd_dr_eq (cd := pd_cd) (fun q => false) 31 _).symm.trans rfl
theorem M_onTop_eq (a : Int32) (σ : pd_H) : M_onTop a σ =
 pd_bV (M_triesLaid σ) fun s1 =>
 cond (pd_ob (s1.1 230 23) (pd_len 251)) none
 (pd_bI (M_takesTried (pd_upI (pd_upI s1 251 (Int32.toNatClampNeg (s1.1 230 23)) a) 230 23 (((pd_upI s1 251 (Int32.toNatClampNeg (s1.1 230 23)) a).1 230 23) + 1))) fun s2 v3 =>
 some (s2, some (pd_i v3))) := (pd_dr_eq (cd := pd_cd) (fun q => false) 17 _).symm.trans rfl
noncomputable def M_redo_L42 (d0 : Option pd_V) (l1 : Int32) (l2 : Int32) (t0 : Int32) (t1 : Int32) (σ : pd_H) : Option pd_R := pd_u (196, 42, [d0, some (pd_i l1), some (pd_i l2)], [pd_i t0, pd_i t1, pd_r 10 230], σ)
theorem M_redo_eq  (σ : pd_H) : M_redo  σ =
 cond (decide ((σ.1 230 25) = 0))
 (some (σ, some (pd_i (-3))))
 (cond (pd_ob ((σ.1 230 25) - 1) (pd_len 252)) none
  (pd_bI (M_onTop (σ.1 252 (Int32.toNatClampNeg ((σ.1 230 25) - 1))) σ) fun s1 v2 =>
  cond (decide (v2 = 0))
  (M_redo_L42 (some (pd_r 10 230)) (σ.1 252 (Int32.toNatClampNeg ((σ.1 230 25) - 1))) v2 1 (s1.1 230 25) s1)
  (M_redo_L42 (some (pd_r 10 230)) (σ.1 252 (Int32.toNatClampNeg ((σ.1 230 25) - 1))) v2 0 (s1.1 230 25) s1))) := (pd_dr_eq (cd := pd_cd) (fun q => Nat.beq q 42) 23 _).symm.trans rfl
theorem M_redo_L42_eq (d0 : Option pd_V) (l1 : Int32) (l2 : Int32) (t0 : Int32) (t1 : Int32) (σ : pd_H) : M_redo_L42 d0 l1 l2 t0 t1 σ =
 cond (decide (0 ≤ l2))
 (some (pd_upI σ 230 25 (t1 - t0), some (pd_i l1)))
 (some (pd_upI σ 230 25 (t1 - t0), some (pd_i l2))) := (pd_dr_eq (cd := pd_cd) (fun q => Nat.beq q 42) 7 _).symm.trans rfl
noncomputable def M_again_L41 (d1 : Option pd_V) (l2 : Int32) (t0 : Int32) (σ : pd_H) : Option pd_R := pd_u (197, 41, [some (pd_r 10 230), d1, some (pd_i l2)], [pd_i t0, pd_r 10 230], σ)
theorem M_again_eq (a : Int32) (σ : pd_H) : M_again a σ =
 pd_bI (M_isPatch a σ) fun s1 v2 =>
 cond (decide (v2 = 0))
 (some (s1, some (pd_i (-2))))
 (pd_bI (M_isLaid a s1) fun s3 v4 =>
  cond (decide (v4 = 0))
  (pd_bI (M_onTop a s3) fun s5 v6 =>
   cond (decide (0 ≤ v6))
   (M_again_L41 (some (pd_i a)) v6 0 s5)
   (M_again_L41 (some (pd_i a)) v6 (s5.1 230 25) s5))
  (some (s3, some (pd_i (-3))))) := (pd_dr_eq (cd := pd_cd) (fun q => Nat.beq q 41) 19 _).symm.trans rfl
theorem M_again_L41_eq (d1 : Option pd_V) (l2 : Int32) (t0 : Int32) (σ : pd_H) : M_again_L41 d1 l2 t0 σ =
 cond (decide (0 ≤ l2))
 (some (pd_upI σ 230 25 t0, some (pd_i ((pd_upI σ 230 25 t0).1 230 21))))
 (some (pd_upI σ 230 25 t0, some (pd_i l2))) := (pd_dr_eq (cd := pd_cd) (fun q => Nat.beq q 41) 6 _).symm.trans rfl
noncomputable def M_goesOver_L18 (l1 : Int32) (t0 : Int32) (σ : pd_H) : Option pd_R := pd_u (198, 18, [some (pd_r 10 230), some (pd_i l1)], [pd_i t0, pd_r 10 230], σ)
theorem M_goesOver_eq  (σ : pd_H) : M_goesOver  σ =
 pd_bI (M_takesTried σ) fun s1 v2 =>
 cond (decide (0 ≤ v2))
 (M_goesOver_L18 v2 0 s1)
 (M_goesOver_L18 v2 (s1.1 230 25) s1) := (pd_dr_eq (cd := pd_cd) (fun q => Nat.beq q 18) 10 _).symm.trans rfl
theorem M_goesOver_L18_eq (l1 : Int32) (t0 : Int32) (σ : pd_H) : M_goesOver_L18 l1 t0 σ =
 cond (decide (0 ≤ l1))
 (some (pd_upI σ 230 25 t0, some (pd_i ((pd_upI σ 230 25 t0).1 230 37))))
 (some (pd_upI σ 230 25 t0, some (pd_i l1))) := (pd_dr_eq (cd := pd_cd) (fun q => Nat.beq q 18) 6 _).symm.trans rfl
theorem M_out_eq (a : Int32) (σ : pd_H) : M_out a σ =
 pd_bI (M_isPatch a σ) fun s1 v2 =>
 cond (decide (v2 = 0))
 (some (s1, some (pd_i (-2))))
 (pd_bI (M_isLaid a s1) fun s3 v4 =>
  cond (decide (v4 = 0))
  (some (s3, some (pd_i (-3))))
  (pd_bV (M_triesWithout a s3) fun s5 =>
   pd_bI (M_goesOver s5) fun s6 v7 =>
   some (s6, some (pd_i v7)))) := (pd_dr_eq (cd := pd_cd) (fun q => false) 14 _).symm.trans rfl
theorem M_lift_eq (a : Int32) (σ : pd_H) : M_lift a σ =
 pd_bI (M_isPatch a σ) fun s1 v2 =>
 cond (decide (v2 = 0))
 (some (s1, some (pd_i (-2))))
 (pd_bI (M_isLaid a s1) fun s3 v4 =>
  cond (decide (v4 = 0))
  (some (s3, some (pd_i (-3))))
  (pd_bV (M_triesWithout a s3) fun s5 =>
   cond (pd_ob (s5.1 230 23) (pd_len 251)) none
   (pd_bI (M_goesOver (pd_upI (pd_upI s5 251 (Int32.toNatClampNeg (s5.1 230 23)) a) 230 23 (((pd_upI s5 251 (Int32.toNatClampNeg (s5.1 230 23)) a).1 230 23) + 1))) fun s6 v7 =>
   some (s6, some (pd_i v7))))) := (pd_dr_eq (cd := pd_cd) (fun q => false) 26 _).symm.trans rfl
theorem M_swap_eq (a : Int32) (σ : pd_H) : M_swap a σ =
 pd_bI (M_in a 0 ((σ.1 230 21) - 2) σ) fun s1 v2 =>
 cond (decide (v2 = 0))
 (some (s1, some (pd_i (-2))))
 (pd_bV (M_triesLaid s1) fun s3 =>
  cond (pd_ob (a + 1) (pd_len 250)) none
  (cond (pd_ob a (pd_len 251)) none
  (cond (pd_ob a (pd_len 250)) none
  (cond (pd_ob (a + 1) (pd_len 251)) none
  (pd_bI (M_goesOver (pd_upI (pd_upI s3 251 (Int32.toNatClampNeg a) (s3.1 250 (Int32.toNatClampNeg (a + 1)))) 251 (Int32.toNatClampNeg (a + 1)) ((pd_upI s3 251 (Int32.toNatClampNeg a) (s3.1 250 (Int32.toNatClampNeg (a + 1)))).1 250 (Int32.toNatClampNeg a)))) fun s4 v5 =>
  some (s4, some (pd_i v5))))))) := (pd_dr_eq (cd := pd_cd) (fun q => false) 33 _).symm.trans rfl
noncomputable def M_asksOf_L6 (l1 : Int32) (l2 : Int32) (l3 : Int32) (l4 : Int32) (l5 : Int32) (d6 : Option pd_V) (d7 : Option pd_V) (σ : pd_H) : Option pd_R := pd_u (202, 6, [some (pd_r 10 230), some (pd_i l1), some (pd_i l2), some (pd_i l3), some (pd_i l4), some (pd_i l5), d6, d7], [], σ)
noncomputable def M_asksOf_L63 (l1 : Int32) (l2 : Int32) (l3 : Int32) (l4 : Int32) (l5 : Int32) (l6 : Int32) (d7 : Option pd_V) (t0 : Int32) (σ : pd_H) : Option pd_R := pd_u (202, 63, [some (pd_r 10 230), some (pd_i l1), some (pd_i l2), some (pd_i l3), some (pd_i l4), some (pd_i l5), some (pd_i l6), d7], [pd_i t0], σ)
theorem M_asksOf_eq (a : Int32) (b : Int32) (c : Int32) (σ : pd_H) : M_asksOf a b c σ =
 M_asksOf_L6 a b c 0 0 none none σ := (pd_dr_eq (cd := pd_cd) (fun q => Nat.beq q 6 || Nat.beq q 63) 5 _).symm.trans rfl
theorem M_asksOf_L6_eq (l1 : Int32) (l2 : Int32) (l3 : Int32) (l4 : Int32) (l5 : Int32) (d6 : Option pd_V) (d7 : Option pd_V) (σ : pd_H) : M_asksOf_L6 l1 l2 l3 l4 l5 d6 d7 σ =
 cond (pd_ob l1 (pd_len 244)) none
 (cond (decide ((σ.1 244 (Int32.toNatClampNeg l1)) ≤ l5))
 (cond (decide (l4 = 0 ∨ l4 = 1)) (some (σ, some (pd_i l4))) none)
 (cond (pd_ob (((6 : Int32) * l1) + l5) (pd_len 249)) none
  (cond (pd_ob (((6 : Int32) * l1) + l5) (pd_len 238)) none
  (cond (decide ((σ.1 238 (Int32.toNatClampNeg (((6 : Int32) * l1) + l5))) = 0))
  (M_asksOf_L63 l1 l2 l3 l4 l5 (σ.1 249 (Int32.toNatClampNeg (((6 : Int32) * l1) + l5))) d7 0 σ)
  (cond (decide ((σ.1 249 (Int32.toNatClampNeg (((6 : Int32) * l1) + l5))) = ((-1) : Int32)))
   (M_asksOf_L63 l1 l2 l3 l4 l5 (σ.1 249 (Int32.toNatClampNeg (((6 : Int32) * l1) + l5))) d7 0 σ)
   (cond (decide ((σ.1 249 (Int32.toNatClampNeg (((6 : Int32) * l1) + l5))) = l1))
    (M_asksOf_L63 l1 l2 l3 l4 l5 (σ.1 249 (Int32.toNatClampNeg (((6 : Int32) * l1) + l5))) d7 0 σ)
    (M_asksOf_L63 l1 l2 l3 l4 l5 (σ.1 249 (Int32.toNatClampNeg (((6 : Int32) * l1) + l5))) d7 1 σ))))))) := (pd_dr_eq (cd := pd_cd) (fun q => Nat.beq q 6 || Nat.beq q 63) 33 _).symm.trans rfl
theorem M_asksOf_L63_eq (l1 : Int32) (l2 : Int32) (l3 : Int32) (l4 : Int32) (l5 : Int32) (l6 : Int32) (d7 : Option pd_V) (t0 : Int32) (σ : pd_H) : M_asksOf_L63 l1 l2 l3 l4 l5 l6 d7 t0 σ =
 cond (decide (l4 = 0))
 (cond (decide (t0 = 0))
  (M_asksOf_L6 l1 l2 l3 0 (l5 + 1) (some (pd_i l6)) (some (pd_i t0)) σ)
  (cond (decide (l6 = l2))
   (M_asksOf_L6 l1 l2 l3 1 (l5 + 1) (some (pd_i l6)) (some (pd_i t0)) σ)
   (cond (decide (((l3 >>> (l6 &&& 31)) &&& 1) = (1 : Int32)))
    (M_asksOf_L6 l1 l2 l3 1 (l5 + 1) (some (pd_i l6)) (some (pd_i t0)) σ)
    (M_asksOf_L6 l1 l2 l3 0 (l5 + 1) (some (pd_i l6)) (some (pd_i t0)) σ))))
 (M_asksOf_L6 l1 l2 l3 1 (l5 + 1) (some (pd_i l6)) (some (pd_i t0)) σ) := (pd_dr_eq (cd := pd_cd) (fun q => Nat.beq q 6 || Nat.beq q 63) 21 _).symm.trans rfl
noncomputable def M_hangsNow_L4 (l1 : Int32) (l2 : Int32) (l3 : Int32) (d4 : Option pd_V) (σ : pd_H) : Option pd_R := pd_u (203, 4, [some (pd_r 10 230), some (pd_i l1), some (pd_i l2), some (pd_i l3), d4], [], σ)
theorem M_hangsNow_eq (a : Int32) (σ : pd_H) : M_hangsNow a σ =
 M_hangsNow_L4 a 0 0 none σ := (pd_dr_eq (cd := pd_cd) (fun q => Nat.beq q 4) 5 _).symm.trans rfl
theorem M_hangsNow_L4_eq (l1 : Int32) (l2 : Int32) (l3 : Int32) (d4 : Option pd_V) (σ : pd_H) : M_hangsNow_L4 l1 l2 l3 d4 σ =
 cond (decide ((σ.1 230 21) ≤ l3))
 (some (σ, some (pd_i l2)))
 (cond (pd_ob l3 (pd_len 250)) none
  (cond (decide ((σ.1 250 (Int32.toNatClampNeg l3)) = l1))
  (M_hangsNow_L4 l1 (l2 ||| 0) (l3 + 1) (some (pd_i (σ.1 250 (Int32.toNatClampNeg l3)))) σ)
  (pd_bI (M_asksOf (σ.1 250 (Int32.toNatClampNeg l3)) l1 l2 σ) fun s1 v2 =>
   cond (decide (v2 = 0))
   (M_hangsNow_L4 l1 (l2 ||| 0) (l3 + 1) (some (pd_i (σ.1 250 (Int32.toNatClampNeg l3)))) s1)
   (M_hangsNow_L4 l1 (l2 ||| ((1 : Int32) <<< ((σ.1 250 (Int32.toNatClampNeg l3)) &&& 31))) (l3 + 1) (some (pd_i (σ.1 250 (Int32.toNatClampNeg l3)))) s1)))) := (pd_dr_eq (cd := pd_cd) (fun q => Nat.beq q 4) 28 _).symm.trans rfl
theorem M_hangs_eq (a : Int32) (σ : pd_H) : M_hangs a σ =
 pd_bI (M_isPatch a σ) fun s1 v2 =>
 cond (decide (v2 = 0))
 (some (s1, some (pd_i (-2))))
 (pd_bI (M_isLaid a s1) fun s3 v4 =>
  cond (decide (v4 = 0))
  (some (s3, some (pd_i (-3))))
  (pd_bI (M_hangsNow a s3) fun s5 v6 =>
   some (s5, some (pd_i v6)))) := (pd_dr_eq (cd := pd_cd) (fun q => false) 12 _).symm.trans rfl
noncomputable def M_withNow_L20 (d1 : Option pd_V) (l2 : Int32) (l3 : Int32) (l4 : Int32) (σ : pd_H) : Option pd_R := pd_u (205, 20, [some (pd_r 10 230), d1, some (pd_i l2), some (pd_i l3), some (pd_i l4)], [], σ)
theorem M_withNow_eq (a : Int32) (σ : pd_H) : M_withNow a σ =
 pd_bI (M_hangsNow a σ) fun s1 v2 =>
 M_withNow_L20 (some (pd_i a)) (v2 ||| ((1 : Int32) <<< (a &&& 31))) 0 0 (pd_upI s1 230 23 0) := (pd_dr_eq (cd := pd_cd) (fun q => Nat.beq q 20) 16 _).symm.trans rfl
theorem M_withNow_L20_eq (d1 : Option pd_V) (l2 : Int32) (l3 : Int32) (l4 : Int32) (σ : pd_H) : M_withNow_L20 d1 l2 l3 l4 σ =
 cond (decide ((σ.1 230 21) ≤ l4))
 (pd_bI (M_takesTried σ) fun s1 v2 =>
  cond (decide (0 ≤ v2))
  (cond (decide (0 ≤ v2))
   (some (pd_upI s1 230 25 0, some (pd_i l3)))
   (some (pd_upI s1 230 25 0, some (pd_i v2))))
  (cond (decide (0 ≤ v2))
   (some (pd_upI s1 230 25 (s1.1 230 25), some (pd_i l3)))
   (some (pd_upI s1 230 25 (s1.1 230 25), some (pd_i v2)))))
 (cond (pd_ob l4 (pd_len 250)) none
  (cond (decide (((l2 >>> ((σ.1 250 (Int32.toNatClampNeg l4)) &&& 31)) &&& 1) = (1 : Int32)))
  (M_withNow_L20 d1 l2 (l3 + 1) (l4 + 1) σ)
  (cond (pd_ob l4 (pd_len 250)) none
   (cond (pd_ob (σ.1 230 23) (pd_len 251)) none
   (M_withNow_L20 d1 l2 l3 (l4 + 1) (pd_upI (pd_upI σ 251 (Int32.toNatClampNeg (σ.1 230 23)) (σ.1 250 (Int32.toNatClampNeg l4))) 230 23 (((pd_upI σ 251 (Int32.toNatClampNeg (σ.1 230 23)) (σ.1 250 (Int32.toNatClampNeg l4))).1 230 23) + 1))))))) := (pd_dr_eq (cd := pd_cd) (fun q => Nat.beq q 20) 32 _).symm.trans rfl
theorem M_with_eq (a : Int32) (σ : pd_H) : M_with a σ =
 pd_bI (M_isPatch a σ) fun s1 v2 =>
 cond (decide (v2 = 0))
 (some (s1, some (pd_i (-2))))
 (pd_bI (M_isLaid a s1) fun s3 v4 =>
  cond (decide (v4 = 0))
  (some (s3, some (pd_i (-3))))
  (pd_bI (M_withNow a s3) fun s5 v6 =>
   some (s5, some (pd_i v6)))) := (pd_dr_eq (cd := pd_cd) (fun q => false) 12 _).symm.trans rfl
theorem M_numberAt_eq (a : Int32) (σ : pd_H) : M_numberAt a σ =
 cond (pd_ob a (pd_len 233)) none
 (cond (decide ((σ.1 233 (Int32.toNatClampNeg a)) = (11 : Int32)))
 (pd_bI (M_refused 6 σ) fun s1 v2 =>
  pd_bJ (M_no v2 s1) fun s3 v4 =>
  some (s3, some (pd_j v4)))
 (cond (pd_ob a (pd_len 234)) none
  (some (σ, some (pd_j (σ.2.1 234 (Int32.toNatClampNeg a))))))) := (pd_dr_eq (cd := pd_cd) (fun q => false) 11 _).symm.trans rfl
theorem M_withoutNow_eq (a : Int32) (b : Int32) (c : Int32) (σ : pd_H) : M_withoutNow a b c σ =
 pd_bI (M_lacksCell b c σ) fun s1 v2 =>
 cond (decide (v2 ≤ 0))
 (pd_bV (M_triesWithout a s1) fun s3 =>
  pd_bI (M_plays (s3.1 230 23) s3) fun s4 v5 =>
  cond (decide (v5 ≤ 0))
  (pd_bJ (M_numberAt (((12 : Int32) * b) + c) s4) fun s6 v7 =>
   pd_bV (M_playsLaid s6) fun s8 =>
   some (s8, some (pd_j v7)))
  (pd_bI (M_refused v5 s4) fun s9 v10 =>
   pd_bJ (M_no v10 s9) fun s11 v12 =>
   pd_bV (M_playsLaid s11) fun s13 =>
   some (s13, some (pd_j v12))))
 (pd_bI (M_refused v2 s1) fun s14 v15 =>
  pd_bJ (M_no v15 s14) fun s16 v17 =>
  some (s16, some (pd_j v17))) := (pd_dr_eq (cd := pd_cd) (fun q => false) 29 _).symm.trans rfl
theorem M_without_eq (a : Int32) (b : Int32) (c : Int32) (σ : pd_H) : M_without a b c σ =
 pd_bI (M_isPatch a σ) fun s1 v2 =>
 cond (decide (v2 = 0))
 (pd_bJ (M_no (-2) s1) fun s3 v4 =>
  some (s3, some (pd_j v4)))
 (pd_bI (M_isSlot b s1) fun s5 v6 =>
  cond (decide (v6 = 0))
  (pd_bJ (M_no (-2) s5) fun s13 v14 =>
   some (s13, some (pd_j v14)))
  (pd_bI (M_isLaid a s5) fun s7 v8 =>
   cond (decide (v8 = 0))
   (pd_bJ (M_no (-3) s7) fun s11 v12 =>
    some (s11, some (pd_j v12)))
   (pd_bJ (M_withoutNow a b c s7) fun s9 v10 =>
    some (s9, some (pd_j v10))))) := (pd_dr_eq (cd := pd_cd) (fun q => false) 17 _).symm.trans rfl
noncomputable def M_traceOf_L19 (l1 : Int32) (l2 : Int32) (d3 : Option pd_V) (t0 : Int32) (σ : pd_H) : Option pd_R := pd_u (210, 19, [some (pd_r 10 230), some (pd_i l1), some (pd_i l2), d3], [pd_i t0], σ)
theorem M_traceOf_eq (a : Int32) (b : Int32) (σ : pd_H) : M_traceOf a b σ =
 cond (decide (b = 0))
 (cond (pd_ob a (pd_len 245)) none
  (M_traceOf_L19 a b none (σ.1 245 (Int32.toNatClampNeg a)) σ))
 (cond (pd_ob a (pd_len 247)) none
  (M_traceOf_L19 a b none (σ.1 247 (Int32.toNatClampNeg a)) σ)) := (pd_dr_eq (cd := pd_cd) (fun q => Nat.beq q 19) 8 _).symm.trans rfl
theorem M_traceOf_L19_eq (l1 : Int32) (l2 : Int32) (d3 : Option pd_V) (t0 : Int32) (σ : pd_H) : M_traceOf_L19 l1 l2 d3 t0 σ =
 cond (decide (t0 = (11 : Int32)))
 (pd_bI (M_refused 6 σ) fun s1 v2 =>
  pd_bJ (M_no v2 s1) fun s3 v4 =>
  some (s3, some (pd_j v4)))
 (cond (decide (l2 = 0))
  (cond (pd_ob l1 (pd_len 246)) none
   (some (σ, some (pd_j (σ.2.1 246 (Int32.toNatClampNeg l1))))))
  (cond (pd_ob l1 (pd_len 248)) none
   (some (σ, some (pd_j (σ.2.1 248 (Int32.toNatClampNeg l1))))))) := (pd_dr_eq (cd := pd_cd) (fun q => Nat.beq q 19) 12 _).symm.trans rfl
theorem M_trace_eq (a : Int32) (b : Int32) (c : Int32) (σ : pd_H) : M_trace a b c σ =
 pd_bI (M_isPatch a σ) fun s1 v2 =>
 cond (decide (v2 = 0))
 (pd_bJ (M_no (-2) s1) fun s3 v4 =>
  some (s3, some (pd_j v4)))
 (cond (pd_ob a (pd_len 244)) none
  (pd_bI (M_in b 0 ((s1.1 244 (Int32.toNatClampNeg a)) - 1) s1) fun s5 v6 =>
  cond (decide (v6 = 0))
  (pd_bJ (M_no (-2) s5) fun s7 v8 =>
   some (s7, some (pd_j v8)))
  (pd_bI (M_in c 0 1 s5) fun s9 v10 =>
   cond (decide (v10 = 0))
   (pd_bJ (M_no (-2) s9) fun s17 v18 =>
    some (s17, some (pd_j v18)))
   (pd_bI (M_isLaid a s9) fun s11 v12 =>
    cond (decide (v12 = 0))
    (pd_bJ (M_no (-3) s11) fun s13 v14 =>
     some (s13, some (pd_j v14)))
    (pd_bJ (M_traceOf (((6 : Int32) * a) + b) c s11) fun s15 v16 =>
     some (s15, some (pd_j v16))))))) := (pd_dr_eq (cd := pd_cd) (fun q => false) 33 _).symm.trans rfl
noncomputable def M_findsLine_L7 (l1 : Int32) (d2 : Option pd_V) (σ : pd_H) : Option pd_R := pd_u (212, 7, [some (pd_r 10 230), some (pd_i l1), d2], [], σ)
noncomputable def M_findsLine_L17 (l1 : Int32) (l2 : Int32) (σ : pd_H) : Option pd_R := pd_u (212, 17, [some (pd_r 10 230), some (pd_i l1), some (pd_i l2)], [], σ)
theorem M_findsLine_eq  (σ : pd_H) : M_findsLine  σ =
 M_findsLine_L7 0 none (pd_upI σ 230 48 0) := (pd_dr_eq (cd := pd_cd) (fun q => Nat.beq q 7 || Nat.beq q 17) 6 _).symm.trans rfl
theorem M_findsLine_L7_eq (l1 : Int32) (d2 : Option pd_V) (σ : pd_H) : M_findsLine_L7 l1 d2 σ =
 cond (decide ((σ.1 230 21) ≤ l1))
 (some (σ, none))
 (M_findsLine_L17 l1 0 σ) := (pd_dr_eq (cd := pd_cd) (fun q => Nat.beq q 7 || Nat.beq q 17) 7 _).symm.trans rfl
theorem M_findsLine_L17_eq (l1 : Int32) (l2 : Int32) (σ : pd_H) : M_findsLine_L17 l1 l2 σ =
 cond (pd_ob l1 (pd_len 250)) none
 (cond (pd_ob (σ.1 250 (Int32.toNatClampNeg l1)) (pd_len 244)) none
 (cond (decide ((σ.1 244 (Int32.toNatClampNeg (σ.1 250 (Int32.toNatClampNeg l1)))) ≤ l2))
 (M_findsLine_L7 (l1 + 1) (some (pd_i l2)) σ)
 (cond (pd_ob l1 (pd_len 250)) none
  (cond (pd_ob (σ.1 230 48) (pd_len 261)) none
  (M_findsLine_L17 l1 (l2 + 1) (pd_upI (pd_upI σ 261 (Int32.toNatClampNeg (σ.1 230 48)) (((6 : Int32) * (σ.1 250 (Int32.toNatClampNeg l1))) + l2)) 230 48 (((pd_upI σ 261 (Int32.toNatClampNeg (σ.1 230 48)) (((6 : Int32) * (σ.1 250 (Int32.toNatClampNeg l1))) + l2)).1 230 48) + 1))))))) := (pd_dr_eq (cd := pd_cd) (fun q => Nat.beq q 7 || Nat.beq q 17) 31 _).symm.trans rfl
noncomputable def M_isLive_L15 (d1 : Option pd_V) (l2 : Int32) (l3 : Int32) (d4 : Option pd_V) (σ : pd_H) : Option pd_R := pd_u (213, 15, [some (pd_r 10 230), d1, some (pd_i l2), some (pd_i l3), d4], [], σ)
noncomputable def M_isLive_L62 (d1 : Option pd_V) (l2 : Int32) (l3 : Int32) (l4 : Int32) (σ : pd_H) : Option pd_R := pd_u (213, 62, [some (pd_r 10 230), d1, some (pd_i l2), some (pd_i l3), some (pd_i l4)], [], σ)
theorem M_isLive_eq (a : Int32) (σ : pd_H) : M_isLive a σ =
 cond (pd_ob a (pd_len 261)) none
 (pd_bI (M_cellTo (σ.1 261 (Int32.toNatClampNeg a)) σ) fun s1 v2 =>
 M_isLive_L15 (some (pd_i a)) v2 (a + 1) none s1) := (pd_dr_eq (cd := pd_cd) (fun q => Nat.beq q 15 || Nat.beq q 62) 12 _).symm.trans rfl
theorem M_isLive_L15_eq (d1 : Option pd_V) (l2 : Int32) (l3 : Int32) (d4 : Option pd_V) (σ : pd_H) : M_isLive_L15 d1 l2 l3 d4 σ =
 cond (decide ((σ.1 230 48) ≤ l3))
 (some (σ, some (pd_i 1)))
 (cond (pd_ob l3 (pd_len 261)) none
  (cond (pd_ob (σ.1 261 (Int32.toNatClampNeg l3)) (pd_len 238)) none
  (cond (decide ((σ.1 238 (Int32.toNatClampNeg (σ.1 261 (Int32.toNatClampNeg l3)))) = 0))
  (M_isLive_L62 d1 l2 l3 (σ.1 261 (Int32.toNatClampNeg l3)) σ)
  (cond (pd_ob l3 (pd_len 262)) none
   (cond (decide ((σ.1 262 (Int32.toNatClampNeg l3)) = 0))
   (M_isLive_L62 d1 l2 l3 (σ.1 261 (Int32.toNatClampNeg l3)) σ)
   (pd_bI (M_cellFrom (σ.1 261 (Int32.toNatClampNeg l3)) σ) fun s1 v2 =>
    cond (decide (v2 = l2))
    (some (s1, some (pd_i 1)))
    (M_isLive_L62 d1 l2 l3 (σ.1 261 (Int32.toNatClampNeg l3)) s1))))))) := (pd_dr_eq (cd := pd_cd) (fun q => Nat.beq q 15 || Nat.beq q 62) 26 _).symm.trans rfl
theorem M_isLive_L62_eq (d1 : Option pd_V) (l2 : Int32) (l3 : Int32) (l4 : Int32) (σ : pd_H) : M_isLive_L62 d1 l2 l3 l4 σ =
 pd_bI (M_cellTo l4 σ) fun s1 v2 =>
 cond (decide (v2 = l2))
 (some (s1, some (pd_i 0)))
 (M_isLive_L15 d1 l2 (l3 + 1) (some (pd_i l4)) s1) := (pd_dr_eq (cd := pd_cd) (fun q => Nat.beq q 15 || Nat.beq q 62) 8 _).symm.trans rfl
noncomputable def M_findsLives_L11 (l1 : Int32) (σ : pd_H) : Option pd_R := pd_u (214, 11, [some (pd_r 10 230), some (pd_i l1)], [], σ)
theorem M_findsLives_eq  (σ : pd_H) : M_findsLives  σ =
 pd_bV (M_findsLine σ) fun s1 =>
 M_findsLives_L11 ((s1.1 230 48) - 1) s1 := (pd_dr_eq (cd := pd_cd) (fun q => Nat.beq q 11) 8 _).symm.trans rfl
theorem M_findsLives_L11_eq (l1 : Int32) (σ : pd_H) : M_findsLives_L11 l1 σ =
 cond (decide (l1 < 0))
 (some (σ, none))
 (pd_bI (M_isLive l1 σ) fun s1 v2 =>
  cond (pd_ob l1 (pd_len 262)) none
  (M_findsLives_L11 (l1 + (-1)) (pd_upI s1 262 (Int32.toNatClampNeg l1) (vp_nar .boolean v2)))) := (pd_dr_eq (cd := pd_cd) (fun q => Nat.beq q 11) 12 _).symm.trans rfl
noncomputable def M_deadOf_L8 (l1 : Int32) (l2 : Int32) (l3 : Int32) (σ : pd_H) : Option pd_R := pd_u (215, 8, [some (pd_r 10 230), some (pd_i l1), some (pd_i l2), some (pd_i l3)], [], σ)
theorem M_deadOf_eq (a : Int32) (σ : pd_H) : M_deadOf a σ =
 pd_bV (M_findsLives σ) fun s1 =>
 M_deadOf_L8 a 0 0 s1 := (pd_dr_eq (cd := pd_cd) (fun q => Nat.beq q 8) 7 _).symm.trans rfl
theorem M_deadOf_L8_eq (l1 : Int32) (l2 : Int32) (l3 : Int32) (σ : pd_H) : M_deadOf_L8 l1 l2 l3 σ =
 cond (decide ((σ.1 230 48) ≤ l3))
 (some (σ, some (pd_i l2)))
 (cond (pd_ob l3 (pd_len 261)) none
  (cond (decide (((σ.1 261 (Int32.toNatClampNeg l3)) / (6 : Int32)) = l1))
  (cond (pd_ob l3 (pd_len 262)) none
   (cond (decide ((σ.1 262 (Int32.toNatClampNeg l3)) = 0))
   (cond (pd_ob l3 (pd_len 261)) none
    (M_deadOf_L8 l1 (l2 ||| ((1 : Int32) <<< (((σ.1 261 (Int32.toNatClampNeg l3)) - (σ.1 261 (Int32.toNatClampNeg l3)) / (6 : Int32) * (6 : Int32)) &&& 31))) (l3 + 1) σ))
   (M_deadOf_L8 l1 (l2 ||| 0) (l3 + 1) σ)))
  (M_deadOf_L8 l1 (l2 ||| 0) (l3 + 1) σ))) := (pd_dr_eq (cd := pd_cd) (fun q => Nat.beq q 8) 32 _).symm.trans rfl
theorem M_dead_eq (a : Int32) (σ : pd_H) : M_dead a σ =
 pd_bI (M_isPatch a σ) fun s1 v2 =>
 cond (decide (v2 = 0))
 (some (s1, some (pd_i (-2))))
 (pd_bI (M_isLaid a s1) fun s3 v4 =>
  cond (decide (v4 = 0))
  (some (s3, some (pd_i (-3))))
  (pd_bI (M_deadOf a s3) fun s5 v6 =>
   some (s5, some (pd_i v6)))) := (pd_dr_eq (cd := pd_cd) (fun q => false) 12 _).symm.trans rfl
noncomputable def M_deadNow_L8 (l1 : Int32) (l2 : Int32) (σ : pd_H) : Option pd_R := pd_u (217, 8, [some (pd_r 10 230), some (pd_i l1), some (pd_i l2)], [], σ)
theorem M_deadNow_eq  (σ : pd_H) : M_deadNow  σ =
 pd_bV (M_findsLives σ) fun s1 =>
 M_deadNow_L8 0 0 s1 := (pd_dr_eq (cd := pd_cd) (fun q => Nat.beq q 8) 7 _).symm.trans rfl
theorem M_deadNow_L8_eq (l1 : Int32) (l2 : Int32) (σ : pd_H) : M_deadNow_L8 l1 l2 σ =
 cond (decide ((σ.1 230 48) ≤ l2))
 (some (σ, some (pd_i l1)))
 (cond (pd_ob l2 (pd_len 262)) none
  (cond (decide ((σ.1 262 (Int32.toNatClampNeg l2)) = 0))
  (M_deadNow_L8 (l1 + 1) (l2 + 1) σ)
  (M_deadNow_L8 (l1 + 0) (l2 + 1) σ))) := (pd_dr_eq (cd := pd_cd) (fun q => Nat.beq q 8) 17 _).symm.trans rfl
noncomputable def M_prune_L7 (l1 : Int32) (l2 : Int32) (d3 : Option pd_V) (σ : pd_H) : Option pd_R := pd_u (218, 7, [some (pd_r 10 230), some (pd_i l1), some (pd_i l2), d3], [], σ)
noncomputable def M_prune_L35 (l1 : Int32) (l2 : Int32) (d3 : Option pd_V) (σ : pd_H) : Option pd_R := pd_u (218, 35, [some (pd_r 10 230), some (pd_i l1), some (pd_i l2), d3], [], σ)
theorem M_prune_eq  (σ : pd_H) : M_prune  σ =
 pd_bI (M_deadNow σ) fun s1 v2 =>
 M_prune_L7 v2 0 none s1 := (pd_dr_eq (cd := pd_cd) (fun q => Nat.beq q 7 || Nat.beq q 35) 6 _).symm.trans rfl
theorem M_prune_L7_eq (l1 : Int32) (l2 : Int32) (d3 : Option pd_V) (σ : pd_H) : M_prune_L7 l1 l2 d3 σ =
 cond (decide ((σ.1 230 21) ≤ l2))
 (M_prune_L35 l1 0 d3 σ)
 (cond (pd_ob l2 (pd_len 250)) none
  (cond (pd_ob (σ.1 250 (Int32.toNatClampNeg l2)) (pd_len 244)) none
  (M_prune_L7 l1 (l2 + 1) d3 (pd_upI σ 244 (Int32.toNatClampNeg (σ.1 250 (Int32.toNatClampNeg l2))) 0)))) := (pd_dr_eq (cd := pd_cd) (fun q => Nat.beq q 7 || Nat.beq q 35) 15 _).symm.trans rfl
theorem M_prune_L35_eq (l1 : Int32) (l2 : Int32) (d3 : Option pd_V) (σ : pd_H) : M_prune_L35 l1 l2 d3 σ =
 cond (decide ((σ.1 230 48) ≤ l2))
 (pd_bV (M_playsLaid σ) fun s1 =>
  some (s1, some (pd_i l1)))
 (cond (pd_ob l2 (pd_len 261)) none
  (cond (pd_ob l2 (pd_len 262)) none
  (cond (decide ((σ.1 262 (Int32.toNatClampNeg l2)) = 0))
  (M_prune_L35 l1 (l2 + 1) (some (pd_i ((σ.1 261 (Int32.toNatClampNeg l2)) / (6 : Int32)))) σ)
  (cond (pd_ob l2 (pd_len 261)) none
   (cond (pd_ob ((σ.1 261 (Int32.toNatClampNeg l2)) / (6 : Int32)) (pd_len 244)) none
   (pd_bV (M_copiesChange (σ.1 261 (Int32.toNatClampNeg l2)) (((6 : Int32) * ((σ.1 261 (Int32.toNatClampNeg l2)) / (6 : Int32))) + (σ.1 244 (Int32.toNatClampNeg ((σ.1 261 (Int32.toNatClampNeg l2)) / (6 : Int32))))) σ) fun s2 =>
   cond (pd_ob ((σ.1 261 (Int32.toNatClampNeg l2)) / (6 : Int32)) (pd_len 244)) none
   (cond (pd_ob ((σ.1 261 (Int32.toNatClampNeg l2)) / (6 : Int32)) (pd_len 244)) none
   (M_prune_L35 l1 (l2 + 1) (some (pd_i ((σ.1 261 (Int32.toNatClampNeg l2)) / (6 : Int32)))) (pd_upI s2 244 (Int32.toNatClampNeg ((σ.1 261 (Int32.toNatClampNeg l2)) / (6 : Int32))) ((s2.1 244 (Int32.toNatClampNeg ((σ.1 261 (Int32.toNatClampNeg l2)) / (6 : Int32)))) + 1)))))))))) := (pd_dr_eq (cd := pd_cd) (fun q => Nat.beq q 7 || Nat.beq q 35) 41 _).symm.trans rfl
theorem M_order_eq (a : Int32) (σ : pd_H) : M_order a σ =
 pd_bI (M_in a 0 ((σ.1 230 21) - 1) σ) fun s1 v2 =>
 cond (decide (v2 = 0))
 (some (s1, some (pd_i (-2))))
 (cond (pd_ob a (pd_len 250)) none
  (some (s1, some (pd_i (s1.1 250 (Int32.toNatClampNeg a)))))) := (pd_dr_eq (cd := pd_cd) (fun q => false) 14 _).symm.trans rfl
theorem M_blame_eq (a : Int32) (b : Int32) (σ : pd_H) : M_blame a b σ =
 pd_bI (M_isSlot a σ) fun s1 v2 =>
 cond (decide (v2 = 0))
 (some (s1, some (pd_i (-2))))
 (pd_bI (M_lacksCell a b s1) fun s3 v4 =>
  cond (decide (v4 ≤ 0))
  (cond (pd_ob (((12 : Int32) * a) + b) (pd_len 237)) none
   (some (s3, some (pd_i (s3.1 237 (Int32.toNatClampNeg (((12 : Int32) * a) + b)))))))
  (pd_bI (M_lacksCell a b s3) fun s5 v6 =>
   pd_bI (M_refused v6 s5) fun s7 v8 =>
   some (s7, some (pd_i v8)))) := (pd_dr_eq (cd := pd_cd) (fun q => false) 17 _).symm.trans rfl
noncomputable def M_sinceOf_L31 (l1 : Int32) (l2 : Int32) (l3 : Int64) (l5 : Int32) (l6 : Int32) (l7 : Int32) (σ : pd_H) : Option pd_R := pd_u (221, 31, [some (pd_r 10 230), some (pd_i l1), some (pd_i l2), some (pd_j l3), none, some (pd_i l5), some (pd_i l6), some (pd_i l7)], [], σ)
noncomputable def M_sinceOf_L78 (l1 : Int32) (l2 : Int32) (l3 : Int64) (l5 : Int32) (d6 : Option pd_V) (l7 : Int32) (t0 : Int32) (σ : pd_H) : Option pd_R := pd_u (221, 78, [some (pd_r 10 230), some (pd_i l1), some (pd_i l2), some (pd_j l3), none, some (pd_i l5), d6, some (pd_i l7)], [pd_i t0], σ)
theorem M_sinceOf_eq (a : Int32) (σ : pd_H) : M_sinceOf a σ =
 cond (pd_ob a (pd_len 233)) none
 (cond (pd_ob a (pd_len 234)) none
 (M_sinceOf_L31 a (σ.1 233 (Int32.toNatClampNeg a)) (σ.2.1 234 (Int32.toNatClampNeg a)) (σ.1 230 21) 1 ((σ.1 230 21) - 1) σ)) := (pd_dr_eq (cd := pd_cd) (fun q => Nat.beq q 31 || Nat.beq q 78) 21 _).symm.trans rfl
theorem M_sinceOf_L31_eq (l1 : Int32) (l2 : Int32) (l3 : Int64) (l5 : Int32) (l6 : Int32) (l7 : Int32) (σ : pd_H) : M_sinceOf_L31 l1 l2 l3 l5 l6 l7 σ =
 cond (decide (l7 < 0))
 (pd_bV (M_playsLaid σ) fun s1 =>
  some (s1, some (pd_i l5)))
 (cond (decide (l6 = 0))
  (pd_bV (M_playsLaid σ) fun s2 =>
   some (s2, some (pd_i l5)))
  (pd_bV (M_triesLaid σ) fun s3 =>
   pd_bI (M_plays l7 s3) fun s4 v5 =>
   cond (pd_ob l1 (pd_len 233)) none
   (cond (decide ((s4.1 233 (Int32.toNatClampNeg l1)) = l2))
   (cond (pd_ob l1 (pd_len 234)) none
    (cond (decide ((lg_cmp (s4.2.1 234 (Int32.toNatClampNeg l1)) l3) = 0))
    (M_sinceOf_L78 l1 l2 l3 l5 (some (pd_i l6)) l7 1 s4)
    (M_sinceOf_L78 l1 l2 l3 l5 (some (pd_i l6)) l7 0 s4)))
   (M_sinceOf_L78 l1 l2 l3 l5 (some (pd_i l6)) l7 0 s4)))) := (pd_dr_eq (cd := pd_cd) (fun q => Nat.beq q 31 || Nat.beq q 78) 26 _).symm.trans rfl
theorem M_sinceOf_L78_eq (l1 : Int32) (l2 : Int32) (l3 : Int64) (l5 : Int32) (d6 : Option pd_V) (l7 : Int32) (t0 : Int32) (σ : pd_H) : M_sinceOf_L78 l1 l2 l3 l5 d6 l7 t0 σ =
 cond (decide (t0 = 0))
 (M_sinceOf_L31 l1 l2 l3 l5 t0 (l7 + (-1)) σ)
 (M_sinceOf_L31 l1 l2 l3 l7 t0 (l7 + (-1)) σ) := (pd_dr_eq (cd := pd_cd) (fun q => Nat.beq q 31 || Nat.beq q 78) 9 _).symm.trans rfl
theorem M_since_eq (a : Int32) (b : Int32) (σ : pd_H) : M_since a b σ =
 pd_bI (M_isSlot a σ) fun s1 v2 =>
 cond (decide (v2 = 0))
 (some (s1, some (pd_i (-2))))
 (pd_bI (M_lacksCell a b s1) fun s3 v4 =>
  cond (decide (v4 ≤ 0))
  (pd_bI (M_sinceOf (((12 : Int32) * a) + b) s3) fun s5 v6 =>
   some (s5, some (pd_i v6)))
  (pd_bI (M_lacksCell a b s3) fun s7 v8 =>
   pd_bI (M_refused v8 s7) fun s9 v10 =>
   some (s9, some (pd_i v10)))) := (pd_dr_eq (cd := pd_cd) (fun q => false) 16 _).symm.trans rfl
noncomputable def M_settle_L7 (l1 : Int32) (l2 : Int32) (σ : pd_H) : Option pd_R := pd_u (223, 7, [some (pd_r 10 230), some (pd_i l1), some (pd_i l2)], [], σ)
theorem M_settle_eq  (σ : pd_H) : M_settle  σ =
 M_settle_L7 (σ.1 230 21) 0 σ := (pd_dr_eq (cd := pd_cd) (fun q => Nat.beq q 7) 6 _).symm.trans rfl
theorem M_settle_L7_eq (l1 : Int32) (l2 : Int32) (σ : pd_H) : M_settle_L7 l1 l2 σ =
 cond (decide ((72 : Int32) ≤ l2))
 (some (pd_upI (pd_upI (pd_upI (pd_upI σ 230 19 0) 230 21 0) 230 25 0) 230 28 0, some (pd_i l1)))
 (cond (pd_ob l2 (pd_len 233)) none
  (cond (pd_ob l2 (pd_len 235)) none
  (cond (pd_ob l2 (pd_len 234)) none
  (cond (pd_ob l2 (pd_len 236)) none
  (cond (pd_ob l2 (pd_len 237)) none
  (M_settle_L7 l1 (l2 + 1) (pd_upI (pd_upJ (pd_upI σ 235 (Int32.toNatClampNeg l2) (σ.1 233 (Int32.toNatClampNeg l2))) 236 (Int32.toNatClampNeg l2) ((pd_upI σ 235 (Int32.toNatClampNeg l2) (σ.1 233 (Int32.toNatClampNeg l2))).2.1 234 (Int32.toNatClampNeg l2))) 237 (Int32.toNatClampNeg l2) (-1)))))))) := (pd_dr_eq (cd := pd_cd) (fun q => Nat.beq q 7) 27 _).symm.trans rfl
noncomputable def M_keep_L14 (l1 : Int32) (σ : pd_H) : Option pd_R := pd_u (224, 14, [some (pd_r 10 230), some (pd_i l1)], [], σ)
theorem M_keep_eq  (σ : pd_H) : M_keep  σ =
 cond (decide ((σ.1 230 28) = (6 : Int32)))
 (some (σ, some (pd_i (-4))))
 (M_keep_L14 0 σ) := (pd_dr_eq (cd := pd_cd) (fun q => Nat.beq q 14) 7 _).symm.trans rfl
theorem M_keep_L14_eq (l1 : Int32) (σ : pd_H) : M_keep_L14 l1 σ =
 cond (decide ((σ.1 230 21) ≤ l1))
 (cond (pd_ob (σ.1 230 28) (pd_len 254)) none
  (some (pd_upI (pd_upI σ 254 (Int32.toNatClampNeg (σ.1 230 28)) (σ.1 230 21)) 230 28 (((pd_upI σ 254 (Int32.toNatClampNeg (σ.1 230 28)) (σ.1 230 21)).1 230 28) + 1), some (pd_i (((pd_upI (pd_upI σ 254 (Int32.toNatClampNeg (σ.1 230 28)) (σ.1 230 21)) 230 28 (((pd_upI σ 254 (Int32.toNatClampNeg (σ.1 230 28)) (σ.1 230 21)).1 230 28) + 1)).1 230 28) - 1)))))
 (cond (pd_ob l1 (pd_len 250)) none
  (cond (pd_ob (((24 : Int32) * (σ.1 230 28)) + l1) (pd_len 253)) none
  (M_keep_L14 (l1 + 1) (pd_upI σ 253 (Int32.toNatClampNeg (((24 : Int32) * (σ.1 230 28)) + l1)) (σ.1 250 (Int32.toNatClampNeg l1)))))) := (pd_dr_eq (cd := pd_cd) (fun q => Nat.beq q 14) 22 _).symm.trans rfl
theorem M_isVersion_eq (a : Int32) (σ : pd_H) : M_isVersion a σ =
 pd_bI (M_in a 0 ((σ.1 230 28) - 1) σ) fun s1 v2 =>
 cond (decide (v2 = 0 ∨ v2 = 1)) (some (s1, some (pd_i v2))) none := (pd_dr_eq (cd := pd_cd) (fun q => false) 8 _).symm.trans rfl
noncomputable def M_triesVersion_L12 (l1 : Int32) (l2 : Int32) (σ : pd_H) : Option pd_R := pd_u (226, 12, [some (pd_r 10 230), some (pd_i l1), some (pd_i l2)], [], σ)
theorem M_triesVersion_eq (a : Int32) (σ : pd_H) : M_triesVersion a σ =
 cond (pd_ob a (pd_len 254)) none
 (M_triesVersion_L12 a 0 (pd_upI σ 230 23 (σ.1 254 (Int32.toNatClampNeg a)))) := (pd_dr_eq (cd := pd_cd) (fun q => Nat.beq q 12) 9 _).symm.trans rfl
theorem M_triesVersion_L12_eq (l1 : Int32) (l2 : Int32) (σ : pd_H) : M_triesVersion_L12 l1 l2 σ =
 cond (decide ((σ.1 230 23) ≤ l2))
 (some (σ, none))
 (cond (pd_ob (((24 : Int32) * l1) + l2) (pd_len 253)) none
  (cond (pd_ob l2 (pd_len 251)) none
  (M_triesVersion_L12 l1 (l2 + 1) (pd_upI σ 251 (Int32.toNatClampNeg l2) (σ.1 253 (Int32.toNatClampNeg (((24 : Int32) * l1) + l2))))))) := (pd_dr_eq (cd := pd_cd) (fun q => Nat.beq q 12) 19 _).symm.trans rfl
noncomputable def M_goNow_L23 (d1 : Option pd_V) (l2 : Int32) (t0 : Int32) (σ : pd_H) : Option pd_R := pd_u (227, 23, [some (pd_r 10 230), d1, some (pd_i l2)], [pd_i t0, pd_r 10 230], σ)
theorem M_goNow_eq (a : Int32) (σ : pd_H) : M_goNow a σ =
 pd_bV (M_triesVersion a σ) fun s1 =>
 pd_bI (M_takesTried s1) fun s2 v3 =>
 cond (decide (0 ≤ v3))
 (M_goNow_L23 (some (pd_i a)) v3 0 s2)
 (M_goNow_L23 (some (pd_i a)) v3 (s2.1 230 25) s2) := (pd_dr_eq (cd := pd_cd) (fun q => Nat.beq q 23) 13 _).symm.trans rfl
theorem M_goNow_L23_eq (d1 : Option pd_V) (l2 : Int32) (t0 : Int32) (σ : pd_H) : M_goNow_L23 d1 l2 t0 σ =
 cond (decide (0 ≤ l2))
 (some (pd_upI σ 230 25 t0, some (pd_i ((pd_upI σ 230 25 t0).1 230 21))))
 (some (pd_upI σ 230 25 t0, some (pd_i l2))) := (pd_dr_eq (cd := pd_cd) (fun q => Nat.beq q 23) 6 _).symm.trans rfl
theorem M_go_eq (a : Int32) (σ : pd_H) : M_go a σ =
 pd_bI (M_isVersion a σ) fun s1 v2 =>
 cond (decide (v2 = 0))
 (some (s1, some (pd_i (-2))))
 (pd_bI (M_goNow a s1) fun s3 v4 =>
  some (s3, some (pd_i v4))) := (pd_dr_eq (cd := pd_cd) (fun q => false) 9 _).symm.trans rfl
noncomputable def M_othersThan_L4 (l1 : Int32) (l2 : Int32) (d3 : Option pd_V) (d4 : Option pd_V) (σ : pd_H) : Option pd_R := pd_u (229, 4, [some (pd_r 10 230), some (pd_i l1), some (pd_i l2), d3, d4], [], σ)
noncomputable def M_othersThan_L12 (l1 : Int32) (l2 : Int32) (l3 : Int32) (d4 : Option pd_V) (σ : pd_H) : Option pd_R := pd_u (229, 12, [some (pd_r 10 230), some (pd_i l1), some (pd_i l2), some (pd_i l3), d4], [], σ)
theorem M_othersThan_eq  (σ : pd_H) : M_othersThan  σ =
 M_othersThan_L4 0 0 none none σ := (pd_dr_eq (cd := pd_cd) (fun q => Nat.beq q 4 || Nat.beq q 12) 5 _).symm.trans rfl
theorem M_othersThan_L4_eq (l1 : Int32) (l2 : Int32) (d3 : Option pd_V) (d4 : Option pd_V) (σ : pd_H) : M_othersThan_L4 l1 l2 d3 d4 σ =
 cond (decide ((6 : Int32) ≤ l2))
 (some (σ, some (pd_i l1)))
 (M_othersThan_L12 l1 l2 0 d4 σ) := (pd_dr_eq (cd := pd_cd) (fun q => Nat.beq q 4 || Nat.beq q 12) 6 _).symm.trans rfl
theorem M_othersThan_L12_eq (l1 : Int32) (l2 : Int32) (l3 : Int32) (d4 : Option pd_V) (σ : pd_H) : M_othersThan_L12 l1 l2 l3 d4 σ =
 cond (pd_ob l2 (pd_len 232)) none
 (cond (decide ((σ.1 232 (Int32.toNatClampNeg l2)) ≤ l3))
 (M_othersThan_L4 l1 (l2 + 1) (some (pd_i l3)) d4 σ)
 (pd_bI (M_isRow l2 σ) fun s1 v2 =>
  cond (decide (v2 = 0))
  (M_othersThan_L4 l1 (l2 + 1) (some (pd_i l3)) d4 s1)
  (cond (pd_ob (((12 : Int32) * l2) + l3) (pd_len 233)) none
   (cond (pd_ob (((12 : Int32) * l2) + l3) (pd_len 263)) none
   (cond (decide ((s1.1 233 (Int32.toNatClampNeg (((12 : Int32) * l2) + l3))) = (s1.1 263 (Int32.toNatClampNeg (((12 : Int32) * l2) + l3)))))
   (cond (pd_ob (((12 : Int32) * l2) + l3) (pd_len 234)) none
    (cond (pd_ob (((12 : Int32) * l2) + l3) (pd_len 264)) none
    (cond (decide ((lg_cmp (s1.2.1 234 (Int32.toNatClampNeg (((12 : Int32) * l2) + l3))) (s1.2.1 264 (Int32.toNatClampNeg (((12 : Int32) * l2) + l3)))) = 0))
    (M_othersThan_L12 (l1 + 0) l2 (l3 + 1) (some (pd_i (((12 : Int32) * l2) + l3))) s1)
    (M_othersThan_L12 (l1 + 1) l2 (l3 + 1) (some (pd_i (((12 : Int32) * l2) + l3))) s1))))
   (M_othersThan_L12 (l1 + 1) l2 (l3 + 1) (some (pd_i (((12 : Int32) * l2) + l3))) s1)))))) := (pd_dr_eq (cd := pd_cd) (fun q => Nat.beq q 4 || Nat.beq q 12) 43 _).symm.trans rfl
noncomputable def M_betweenNow_L17 (d1 : Option pd_V) (l2 : Int32) (l3 : Int32) (l4 : Int32) (σ : pd_H) : Option pd_R := pd_u (230, 17, [some (pd_r 10 230), d1, some (pd_i l2), some (pd_i l3), some (pd_i l4)], [], σ)
noncomputable def M_betweenNow_L76 (d1 : Option pd_V) (d2 : Option pd_V) (l3 : Int32) (d4 : Option pd_V) (σ : pd_H) : Option pd_R := pd_u (230, 76, [some (pd_r 10 230), d1, d2, some (pd_i l3), d4], [], σ)
theorem M_betweenNow_eq (a : Int32) (b : Int32) (σ : pd_H) : M_betweenNow a b σ =
 pd_bV (M_triesVersion a σ) fun s1 =>
 pd_bI (M_plays (s1.1 230 23) s1) fun s2 v3 =>
 M_betweenNow_L17 (some (pd_i a)) b v3 0 s2 := (pd_dr_eq (cd := pd_cd) (fun q => Nat.beq q 17 || Nat.beq q 76) 11 _).symm.trans rfl
theorem M_betweenNow_L17_eq (d1 : Option pd_V) (l2 : Int32) (l3 : Int32) (l4 : Int32) (σ : pd_H) : M_betweenNow_L17 d1 l2 l3 l4 σ =
 cond (decide ((72 : Int32) ≤ l4))
 (cond (decide (l3 = 0))
  (pd_bV (M_triesVersion l2 σ) fun s1 =>
   pd_bI (M_plays (s1.1 230 23) s1) fun s2 v3 =>
   M_betweenNow_L76 d1 (some (pd_i l2)) v3 (some (pd_i l4)) s2)
  (M_betweenNow_L76 d1 (some (pd_i l2)) l3 (some (pd_i l4)) σ))
 (cond (pd_ob l4 (pd_len 233)) none
  (cond (pd_ob l4 (pd_len 263)) none
  (cond (pd_ob l4 (pd_len 234)) none
  (cond (pd_ob l4 (pd_len 264)) none
  (M_betweenNow_L17 d1 l2 l3 (l4 + 1) (pd_upJ (pd_upI σ 263 (Int32.toNatClampNeg l4) (σ.1 233 (Int32.toNatClampNeg l4))) 264 (Int32.toNatClampNeg l4) ((pd_upI σ 263 (Int32.toNatClampNeg l4) (σ.1 233 (Int32.toNatClampNeg l4))).2.1 234 (Int32.toNatClampNeg l4)))))))) := (pd_dr_eq (cd := pd_cd) (fun q => Nat.beq q 17 || Nat.beq q 76) 22 _).symm.trans rfl
theorem M_betweenNow_L76_eq (d1 : Option pd_V) (d2 : Option pd_V) (l3 : Int32) (d4 : Option pd_V) (σ : pd_H) : M_betweenNow_L76 d1 d2 l3 d4 σ =
 cond (decide (l3 ≤ 0))
 (pd_bI (M_othersThan σ) fun s1 v2 =>
  pd_bV (M_playsLaid s1) fun s3 =>
  some (s3, some (pd_i v2)))
 (pd_bI (M_refused l3 σ) fun s4 v5 =>
  pd_bV (M_playsLaid s4) fun s6 =>
  some (s6, some (pd_i v5))) := (pd_dr_eq (cd := pd_cd) (fun q => Nat.beq q 17 || Nat.beq q 76) 10 _).symm.trans rfl
theorem M_between_eq (a : Int32) (b : Int32) (σ : pd_H) : M_between a b σ =
 pd_bI (M_isVersion a σ) fun s1 v2 =>
 cond (decide (v2 = 0))
 (some (s1, some (pd_i (-2))))
 (pd_bI (M_isVersion b s1) fun s3 v4 =>
  cond (decide (v4 = 0))
  (some (s3, some (pd_i (-2))))
  (pd_bI (M_betweenNow a b s3) fun s5 v6 =>
   some (s5, some (pd_i v6)))) := (pd_dr_eq (cd := pd_cd) (fun q => false) 14 _).symm.trans rfl
theorem M_fault_eq (a : Int32) (σ : pd_H) : M_fault a σ =
 pd_bI (M_in a 0 2 σ) fun s1 v2 =>
 cond (decide (v2 = 0))
 (some (s1, some (pd_i (-2))))
 (cond (pd_ob a (pd_len 255)) none
  (some (s1, some (pd_i (s1.1 255 (Int32.toNatClampNeg a)))))) := (pd_dr_eq (cd := pd_cd) (fun q => false) 11 _).symm.trans rfl
theorem M_met_eq (a : Int32) (b : Int32) (σ : pd_H) : M_met a b σ =
 pd_bI (M_in a 0 17 σ) fun s1 v2 =>
 cond (decide (v2 = 0))
 (some (s1, some (pd_i (-2))))
 (pd_bI (M_in b 0 5 s1) fun s3 v4 =>
  cond (decide (v4 = 0))
  (some (s3, some (pd_i (-2))))
  (cond (pd_ob (((6 : Int32) * a) + b) (pd_len 256)) none
   (some (s3, some (pd_i (s3.1 256 (Int32.toNatClampNeg (((6 : Int32) * a) + b)))))))) := (pd_dr_eq (cd := pd_cd) (fun q => false) 20 _).symm.trans rfl
noncomputable def M_changedNow_L4 (l1 : Int32) (l2 : Int32) (σ : pd_H) : Option pd_R := pd_u (234, 4, [some (pd_r 10 230), some (pd_i l1), some (pd_i l2)], [], σ)
theorem M_changedNow_eq  (σ : pd_H) : M_changedNow  σ =
 M_changedNow_L4 0 0 σ := (pd_dr_eq (cd := pd_cd) (fun q => Nat.beq q 4) 5 _).symm.trans rfl
theorem M_changedNow_L4_eq (l1 : Int32) (l2 : Int32) (σ : pd_H) : M_changedNow_L4 l1 l2 σ =
 cond (decide ((6 : Int32) ≤ l2))
 (some (σ, some (pd_i l1)))
 (pd_bI (M_isRow l2 σ) fun s1 v2 =>
  cond (decide (v2 = 0))
  (M_changedNow_L4 (l1 + 0) (l2 + 1) s1)
  (pd_bI (M_changedOf l2 s1) fun s3 v4 =>
   M_changedNow_L4 (l1 + v4) (l2 + 1) s3)) := (pd_dr_eq (cd := pd_cd) (fun q => Nat.beq q 4) 17 _).symm.trans rfl
theorem M_changesLaid_eq  (σ : pd_H) : M_changesLaid  σ =
 pd_bV (M_findsLine σ) fun s1 =>
 some (s1, some (pd_i (s1.1 230 48))) := (pd_dr_eq (cd := pd_cd) (fun q => false) 5 _).symm.trans rfl
theorem M_count_eq (a : Int32) (σ : pd_H) : M_count a σ =
 cond (decide (a = 0))
 (some (σ, some (pd_i (σ.1 230 19))))
 (cond (decide (a = 1))
 (some (σ, some (pd_i (σ.1 230 21))))
 (cond (decide (a = 2))
 (some (σ, some (pd_i (σ.1 244 24))))
 (cond (decide (a = 3))
 (some (σ, some (pd_i (σ.1 230 25))))
 (cond (decide (a = 4))
 (some (σ, some (pd_i (σ.1 230 28))))
 (cond (decide (a = 5))
 (pd_bI (M_changedNow σ) fun s5 v6 =>
  some (s5, some (pd_i v6)))
 (cond (decide (a = 6))
 (pd_bI (M_changesLaid σ) fun s3 v4 =>
  some (s3, some (pd_i v4)))
 (cond (decide (a = 7))
 (pd_bI (M_deadNow σ) fun s1 v2 =>
  some (s1, some (pd_i v2)))
 (cond (decide (a = 8))
 (cond (decide ((σ.1 230 21) = 0))
  (some (σ, some (pd_i (-1))))
  (cond (pd_ob ((σ.1 230 21) - 1) (pd_len 250)) none
   (some (σ, some (pd_i (σ.1 250 (Int32.toNatClampNeg ((σ.1 230 21) - 1))))))))
 (some (σ, some (pd_i (-2)))))))))))) := (pd_dr_eq (cd := pd_cd) (fun q => false) 13 _).symm.trans rfl
noncomputable def M_slotDigest_L47 (d1 : Option pd_V) (d2 : Option pd_V) (l3 : Int32) (l4 : Int64) (l6 : Int32) (σ : pd_H) : Option pd_R := pd_u (237, 47, [some (pd_r 10 230), d1, d2, some (pd_i l3), some (pd_j l4), none, some (pd_i l6)], [], σ)
theorem M_slotDigest_eq (a : Int64) (b : Int32) (σ : pd_H) : M_slotDigest a b σ =
 pd_bI (M_kind b σ) fun s1 v2 =>
 pd_bI (M_size b s1) fun s3 v4 =>
 pd_bI (M_changed b s3) fun s5 v6 =>
 M_slotDigest_L47 (some (pd_j a)) none b (((31 : Int64) * (((31 : Int64) * (((31 : Int64) * a) + (Int32.toInt64 v2))) + (Int32.toInt64 v4))) + (Int32.toInt64 v6)) 0 s5 := (pd_dr_eq (cd := pd_cd) (fun q => Nat.beq q 47) 30 _).symm.trans rfl
theorem M_slotDigest_L47_eq (d1 : Option pd_V) (d2 : Option pd_V) (l3 : Int32) (l4 : Int64) (l6 : Int32) (σ : pd_H) : M_slotDigest_L47 d1 d2 l3 l4 l6 σ =
 cond (pd_ob l3 (pd_len 232)) none
 (cond (decide ((σ.1 232 (Int32.toNatClampNeg l3)) ≤ l6))
 (some (σ, some (pd_j l4)))
 (pd_bI (M_isRow l3 σ) fun s1 v2 =>
  cond (decide (v2 = 0))
  (some (s1, some (pd_j l4)))
  (cond (pd_ob (((12 : Int32) * l3) + l6) (pd_len 233)) none
   (pd_bJ (M_gets l3 8 l6 0 s1) fun s3 v4 =>
   cond (pd_ob (((12 : Int32) * l3) + l6) (pd_len 237)) none
   (pd_bI (M_sinceOf (((12 : Int32) * l3) + l6) s3) fun s5 v6 =>
   M_slotDigest_L47 d1 d2 l3 (((31 : Int64) * (((31 : Int64) * (((31 : Int64) * (((31 : Int64) * l4) + (Int32.toInt64 (s1.1 233 (Int32.toNatClampNeg (((12 : Int32) * l3) + l6)))))) + v4)) + (Int32.toInt64 (s3.1 237 (Int32.toNatClampNeg (((12 : Int32) * l3) + l6)))))) + (Int32.toInt64 v6)) (l6 + 1) s5))))) := (pd_dr_eq (cd := pd_cd) (fun q => Nat.beq q 47) 65 _).symm.trans rfl
noncomputable def M_patchDigest_L58 (d1 : Option pd_V) (d2 : Option pd_V) (l3 : Int32) (l4 : Int64) (l6 : Int32) (σ : pd_H) : Option pd_R := pd_u (238, 58, [some (pd_r 10 230), d1, d2, some (pd_i l3), some (pd_j l4), none, some (pd_i l6)], [], σ)
theorem M_patchDigest_eq (a : Int64) (b : Int32) (σ : pd_H) : M_patchDigest a b σ =
 pd_bI (M_hangsNow b σ) fun s1 v2 =>
 pd_bI (M_deadOf b s1) fun s3 v4 =>
 pd_bI (M_textOf b s3) fun s5 v6 =>
 M_patchDigest_L58 (some (pd_j a)) none b (((31 : Int64) * (((31 : Int64) * (((31 : Int64) * (((31 : Int64) * a) + (Int32.toInt64 b))) + (Int32.toInt64 v2))) + (Int32.toInt64 v4))) + (Int32.toInt64 v6)) 0 s5 := (pd_dr_eq (cd := pd_cd) (fun q => Nat.beq q 58) 37 _).symm.trans rfl
theorem M_patchDigest_L58_eq (d1 : Option pd_V) (d2 : Option pd_V) (l3 : Int32) (l4 : Int64) (l6 : Int32) (σ : pd_H) : M_patchDigest_L58 d1 d2 l3 l4 l6 σ =
 cond (pd_ob l3 (pd_len 244)) none
 (cond (decide ((σ.1 244 (Int32.toNatClampNeg l3)) ≤ l6))
 (some (σ, some (pd_j l4)))
 (pd_bJ (M_traceOf (((6 : Int32) * l3) + l6) 0 σ) fun s1 v2 =>
  pd_bJ (M_traceOf (((6 : Int32) * l3) + l6) 1 s1) fun s3 v4 =>
  M_patchDigest_L58 d1 d2 l3 (((31 : Int64) * (((31 : Int64) * l4) + v2)) + v4) (l6 + 1) s3)) := (pd_dr_eq (cd := pd_cd) (fun q => Nat.beq q 58) 35 _).symm.trans rfl
noncomputable def M_digest_L6 (l1 : Int64) (l3 : Int32) (σ : pd_H) : Option pd_R := pd_u (239, 6, [some (pd_r 10 230), some (pd_j l1), none, some (pd_i l3)], [], σ)
noncomputable def M_digest_L33 (l1 : Int64) (l3 : Int32) (σ : pd_H) : Option pd_R := pd_u (239, 33, [some (pd_r 10 230), some (pd_j l1), none, some (pd_i l3)], [], σ)
noncomputable def M_digest_L54 (l1 : Int64) (l3 : Int32) (σ : pd_H) : Option pd_R := pd_u (239, 54, [some (pd_r 10 230), some (pd_j l1), none, some (pd_i l3)], [], σ)
noncomputable def M_digest_L82 (l1 : Int64) (l3 : Int32) (σ : pd_H) : Option pd_R := pd_u (239, 82, [some (pd_r 10 230), some (pd_j l1), none, some (pd_i l3)], [], σ)
noncomputable def M_digest_L126 (l1 : Int64) (l3 : Int32) (σ : pd_H) : Option pd_R := pd_u (239, 126, [some (pd_r 10 230), some (pd_j l1), none, some (pd_i l3)], [], σ)
noncomputable def M_digest_L153 (l1 : Int64) (l3 : Int32) (σ : pd_H) : Option pd_R := pd_u (239, 153, [some (pd_r 10 230), some (pd_j l1), none, some (pd_i l3)], [], σ)
theorem M_digest_eq  (σ : pd_H) : M_digest  σ =
 M_digest_L6 17 0 σ := (pd_dr_eq (cd := pd_cd) (fun q => Nat.beq q 6 || Nat.beq q 33 || Nat.beq q 54 || Nat.beq q 82 || Nat.beq q 126 || Nat.beq q 153) 5 _).symm.trans rfl
theorem M_digest_L6_eq (l1 : Int64) (l3 : Int32) (σ : pd_H) : M_digest_L6 l1 l3 σ =
 cond (decide ((9 : Int32) ≤ l3))
 (M_digest_L33 l1 0 σ)
 (pd_bI (M_count l3 σ) fun s1 v2 =>
  M_digest_L6 (((31 : Int64) * l1) + (Int32.toInt64 v2)) (l3 + 1) s1) := (pd_dr_eq (cd := pd_cd) (fun q => Nat.beq q 6 || Nat.beq q 33 || Nat.beq q 54 || Nat.beq q 82 || Nat.beq q 126 || Nat.beq q 153) 15 _).symm.trans rfl
theorem M_digest_L33_eq (l1 : Int64) (l3 : Int32) (σ : pd_H) : M_digest_L33 l1 l3 σ =
 cond (decide ((6 : Int32) ≤ l3))
 (M_digest_L54 l1 0 σ)
 (pd_bJ (M_slotDigest l1 l3 σ) fun s1 v2 =>
  M_digest_L33 v2 (l3 + 1) s1) := (pd_dr_eq (cd := pd_cd) (fun q => Nat.beq q 6 || Nat.beq q 33 || Nat.beq q 54 || Nat.beq q 82 || Nat.beq q 126 || Nat.beq q 153) 11 _).symm.trans rfl
theorem M_digest_L54_eq (l1 : Int64) (l3 : Int32) (σ : pd_H) : M_digest_L54 l1 l3 σ =
 cond (decide ((σ.1 230 21) ≤ l3))
 (M_digest_L82 l1 0 σ)
 (cond (pd_ob l3 (pd_len 250)) none
  (pd_bJ (M_patchDigest l1 (σ.1 250 (Int32.toNatClampNeg l3)) σ) fun s1 v2 =>
  M_digest_L54 v2 (l3 + 1) s1)) := (pd_dr_eq (cd := pd_cd) (fun q => Nat.beq q 6 || Nat.beq q 33 || Nat.beq q 54 || Nat.beq q 82 || Nat.beq q 126 || Nat.beq q 153) 15 _).symm.trans rfl
theorem M_digest_L82_eq (l1 : Int64) (l3 : Int32) (σ : pd_H) : M_digest_L82 l1 l3 σ =
 cond (decide ((σ.1 244 24) ≤ l3))
 (pd_bI (M_flaw σ) fun s1 v2 =>
  M_digest_L126 (((31 : Int64) * l1) + (Int32.toInt64 v2)) 0 s1)
 (pd_bI (M_previewOf l3 σ) fun s3 v4 =>
  M_digest_L82 (((31 : Int64) * l1) + (Int32.toInt64 v4)) (l3 + 1) s3) := (pd_dr_eq (cd := pd_cd) (fun q => Nat.beq q 6 || Nat.beq q 33 || Nat.beq q 54 || Nat.beq q 82 || Nat.beq q 126 || Nat.beq q 153) 18 _).symm.trans rfl
theorem M_digest_L126_eq (l1 : Int64) (l3 : Int32) (σ : pd_H) : M_digest_L126 l1 l3 σ =
 cond (decide ((3 : Int32) ≤ l3))
 (M_digest_L153 l1 0 σ)
 (cond (pd_ob l3 (pd_len 255)) none
  (M_digest_L126 (((31 : Int64) * l1) + (Int32.toInt64 (σ.1 255 (Int32.toNatClampNeg l3)))) (l3 + 1) σ)) := (pd_dr_eq (cd := pd_cd) (fun q => Nat.beq q 6 || Nat.beq q 33 || Nat.beq q 54 || Nat.beq q 82 || Nat.beq q 126 || Nat.beq q 153) 16 _).symm.trans rfl
theorem M_digest_L153_eq (l1 : Int64) (l3 : Int32) (σ : pd_H) : M_digest_L153 l1 l3 σ =
 cond (decide ((108 : Int32) ≤ l3))
 (some (σ, some (pd_j l1)))
 (cond (pd_ob l3 (pd_len 256)) none
  (M_digest_L153 (((31 : Int64) * l1) + (Int32.toInt64 (σ.1 256 (Int32.toNatClampNeg l3)))) (l3 + 1) σ)) := (pd_dr_eq (cd := pd_cd) (fun q => Nat.beq q 6 || Nat.beq q 33 || Nat.beq q 54 || Nat.beq q 82 || Nat.beq q 126 || Nat.beq q 153) 16 _).symm.trans rfl
