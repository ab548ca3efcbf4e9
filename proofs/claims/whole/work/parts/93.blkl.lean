noncomputable def L_law_L18 (l3 : Int32) (σ : pd_H) : Option pd_R := pd_u (243, 18, [some (pd_r 30 265), some (pd_r 9 0), some (pd_r 10 230), some (pd_i l3)], [], σ)
noncomputable def L_law_L1270 (l3 : Int32) (σ : pd_H) : Option pd_R := pd_u (243, 1270, [some (pd_r 30 265), some (pd_r 9 0), some (pd_r 10 230), some (pd_i l3)], [], σ)
noncomputable def L_law_L1256 (l3 : Int32) (σ : pd_H) : Option pd_R := pd_u (243, 1256, [some (pd_r 30 265), some (pd_r 9 0), some (pd_r 10 230), some (pd_i l3)], [], σ)
noncomputable def L_law_L1233 (l3 : Int32) (σ : pd_H) : Option pd_R := pd_u (243, 1233, [some (pd_r 30 265), some (pd_r 9 0), some (pd_r 10 230), some (pd_i l3)], [], σ)
noncomputable def L_law_L1200 (l3 : Int32) (σ : pd_H) : Option pd_R := pd_u (243, 1200, [some (pd_r 30 265), some (pd_r 9 0), some (pd_r 10 230), some (pd_i l3)], [], σ)
noncomputable def L_law_L1177 (l3 : Int32) (σ : pd_H) : Option pd_R := pd_u (243, 1177, [some (pd_r 30 265), some (pd_r 9 0), some (pd_r 10 230), some (pd_i l3)], [], σ)
noncomputable def L_law_L1144 (l3 : Int32) (σ : pd_H) : Option pd_R := pd_u (243, 1144, [some (pd_r 30 265), some (pd_r 9 0), some (pd_r 10 230), some (pd_i l3)], [], σ)
noncomputable def L_law_L1121 (l3 : Int32) (σ : pd_H) : Option pd_R := pd_u (243, 1121, [some (pd_r 30 265), some (pd_r 9 0), some (pd_r 10 230), some (pd_i l3)], [], σ)
noncomputable def L_law_L1108 (l3 : Int32) (σ : pd_H) : Option pd_R := pd_u (243, 1108, [some (pd_r 30 265), some (pd_r 9 0), some (pd_r 10 230), some (pd_i l3)], [], σ)
noncomputable def L_law_L1095 (l3 : Int32) (σ : pd_H) : Option pd_R := pd_u (243, 1095, [some (pd_r 30 265), some (pd_r 9 0), some (pd_r 10 230), some (pd_i l3)], [], σ)
noncomputable def L_law_L1062 (l3 : Int32) (σ : pd_H) : Option pd_R := pd_u (243, 1062, [some (pd_r 30 265), some (pd_r 9 0), some (pd_r 10 230), some (pd_i l3)], [], σ)
noncomputable def L_law_L1029 (l3 : Int32) (σ : pd_H) : Option pd_R := pd_u (243, 1029, [some (pd_r 30 265), some (pd_r 9 0), some (pd_r 10 230), some (pd_i l3)], [], σ)
noncomputable def L_law_L1006 (l3 : Int32) (σ : pd_H) : Option pd_R := pd_u (243, 1006, [some (pd_r 30 265), some (pd_r 9 0), some (pd_r 10 230), some (pd_i l3)], [], σ)
noncomputable def L_law_L993 (l3 : Int32) (σ : pd_H) : Option pd_R := pd_u (243, 993, [some (pd_r 30 265), some (pd_r 9 0), some (pd_r 10 230), some (pd_i l3)], [], σ)
noncomputable def L_law_L970 (l3 : Int32) (σ : pd_H) : Option pd_R := pd_u (243, 970, [some (pd_r 30 265), some (pd_r 9 0), some (pd_r 10 230), some (pd_i l3)], [], σ)
noncomputable def L_law_L926 (l3 : Int32) (σ : pd_H) : Option pd_R := pd_u (243, 926, [some (pd_r 30 265), some (pd_r 9 0), some (pd_r 10 230), some (pd_i l3)], [], σ)
noncomputable def L_law_L882 (l3 : Int32) (σ : pd_H) : Option pd_R := pd_u (243, 882, [some (pd_r 30 265), some (pd_r 9 0), some (pd_r 10 230), some (pd_i l3)], [], σ)
noncomputable def L_law_L859 (l3 : Int32) (σ : pd_H) : Option pd_R := pd_u (243, 859, [some (pd_r 30 265), some (pd_r 9 0), some (pd_r 10 230), some (pd_i l3)], [], σ)
noncomputable def L_law_L836 (l3 : Int32) (σ : pd_H) : Option pd_R := pd_u (243, 836, [some (pd_r 30 265), some (pd_r 9 0), some (pd_r 10 230), some (pd_i l3)], [], σ)
noncomputable def L_law_L813 (l3 : Int32) (σ : pd_H) : Option pd_R := pd_u (243, 813, [some (pd_r 30 265), some (pd_r 9 0), some (pd_r 10 230), some (pd_i l3)], [], σ)
noncomputable def L_law_L790 (l3 : Int32) (σ : pd_H) : Option pd_R := pd_u (243, 790, [some (pd_r 30 265), some (pd_r 9 0), some (pd_r 10 230), some (pd_i l3)], [], σ)
noncomputable def L_law_L767 (l3 : Int32) (σ : pd_H) : Option pd_R := pd_u (243, 767, [some (pd_r 30 265), some (pd_r 9 0), some (pd_r 10 230), some (pd_i l3)], [], σ)
noncomputable def L_law_L744 (l3 : Int32) (σ : pd_H) : Option pd_R := pd_u (243, 744, [some (pd_r 30 265), some (pd_r 9 0), some (pd_r 10 230), some (pd_i l3)], [], σ)
noncomputable def L_law_L731 (l3 : Int32) (σ : pd_H) : Option pd_R := pd_u (243, 731, [some (pd_r 30 265), some (pd_r 9 0), some (pd_r 10 230), some (pd_i l3)], [], σ)
noncomputable def L_law_L718 (l3 : Int32) (σ : pd_H) : Option pd_R := pd_u (243, 718, [some (pd_r 30 265), some (pd_r 9 0), some (pd_r 10 230), some (pd_i l3)], [], σ)
noncomputable def L_law_L705 (l3 : Int32) (σ : pd_H) : Option pd_R := pd_u (243, 705, [some (pd_r 30 265), some (pd_r 9 0), some (pd_r 10 230), some (pd_i l3)], [], σ)
noncomputable def L_law_L672 (l3 : Int32) (σ : pd_H) : Option pd_R := pd_u (243, 672, [some (pd_r 30 265), some (pd_r 9 0), some (pd_r 10 230), some (pd_i l3)], [], σ)
noncomputable def L_law_L659 (l3 : Int32) (σ : pd_H) : Option pd_R := pd_u (243, 659, [some (pd_r 30 265), some (pd_r 9 0), some (pd_r 10 230), some (pd_i l3)], [], σ)
noncomputable def L_law_L646 (l3 : Int32) (σ : pd_H) : Option pd_R := pd_u (243, 646, [some (pd_r 30 265), some (pd_r 9 0), some (pd_r 10 230), some (pd_i l3)], [], σ)
noncomputable def L_law_L633 (l3 : Int32) (σ : pd_H) : Option pd_R := pd_u (243, 633, [some (pd_r 30 265), some (pd_r 9 0), some (pd_r 10 230), some (pd_i l3)], [], σ)
noncomputable def L_law_L610 (l3 : Int32) (σ : pd_H) : Option pd_R := pd_u (243, 610, [some (pd_r 30 265), some (pd_r 9 0), some (pd_r 10 230), some (pd_i l3)], [], σ)
noncomputable def L_law_L587 (l3 : Int32) (σ : pd_H) : Option pd_R := pd_u (243, 587, [some (pd_r 30 265), some (pd_r 9 0), some (pd_r 10 230), some (pd_i l3)], [], σ)
noncomputable def L_law_L574 (l3 : Int32) (σ : pd_H) : Option pd_R := pd_u (243, 574, [some (pd_r 30 265), some (pd_r 9 0), some (pd_r 10 230), some (pd_i l3)], [], σ)
noncomputable def L_law_L511 (l3 : Int32) (σ : pd_H) : Option pd_R := pd_u (243, 511, [some (pd_r 30 265), some (pd_r 9 0), some (pd_r 10 230), some (pd_i l3)], [], σ)
noncomputable def L_law_L458 (l3 : Int32) (σ : pd_H) : Option pd_R := pd_u (243, 458, [some (pd_r 30 265), some (pd_r 9 0), some (pd_r 10 230), some (pd_i l3)], [], σ)
noncomputable def L_law_L435 (l3 : Int32) (σ : pd_H) : Option pd_R := pd_u (243, 435, [some (pd_r 30 265), some (pd_r 9 0), some (pd_r 10 230), some (pd_i l3)], [], σ)
noncomputable def L_law_L401 (l3 : Int32) (σ : pd_H) : Option pd_R := pd_u (243, 401, [some (pd_r 30 265), some (pd_r 9 0), some (pd_r 10 230), some (pd_i l3)], [], σ)
noncomputable def L_law_L368 (l3 : Int32) (σ : pd_H) : Option pd_R := pd_u (243, 368, [some (pd_r 30 265), some (pd_r 9 0), some (pd_r 10 230), some (pd_i l3)], [], σ)
noncomputable def L_law_L324 (l3 : Int32) (σ : pd_H) : Option pd_R := pd_u (243, 324, [some (pd_r 30 265), some (pd_r 9 0), some (pd_r 10 230), some (pd_i l3)], [], σ)
noncomputable def L_law_L301 (l3 : Int32) (σ : pd_H) : Option pd_R := pd_u (243, 301, [some (pd_r 30 265), some (pd_r 9 0), some (pd_r 10 230), some (pd_i l3)], [], σ)
noncomputable def L_law_L278 (l3 : Int32) (σ : pd_H) : Option pd_R := pd_u (243, 278, [some (pd_r 30 265), some (pd_r 9 0), some (pd_r 10 230), some (pd_i l3)], [], σ)
noncomputable def L_law_L255 (l3 : Int32) (σ : pd_H) : Option pd_R := pd_u (243, 255, [some (pd_r 30 265), some (pd_r 9 0), some (pd_r 10 230), some (pd_i l3)], [], σ)
noncomputable def L_law_L212 (l3 : Int32) (σ : pd_H) : Option pd_R := pd_u (243, 212, [some (pd_r 30 265), some (pd_r 9 0), some (pd_r 10 230), some (pd_i l3)], [], σ)
set_option maxRecDepth 20000 in
theorem L_law_L18_eq (l3 : Int32) (σ : pd_H) : L_law_L18 l3 σ =
 cond (decide (((σ.1 266 0) - 6) < l3))
 (some (σ, some (pd_i 1)))
 (cond (pd_ob l3 ((σ.1 266 0).toNatClampNeg)) none
  (cond (decide (((σ.1 265 (Int32.toNatClampNeg l3)) &&& 63) = 0))
  (L_law_L212 l3 σ)
  (cond (decide (((σ.1 265 (Int32.toNatClampNeg l3)) &&& 63) = 1))
  (L_law_L255 l3 σ)
  (cond (decide (((σ.1 265 (Int32.toNatClampNeg l3)) &&& 63) = 2))
  (L_law_L278 l3 σ)
  (cond (decide (((σ.1 265 (Int32.toNatClampNeg l3)) &&& 63) = 3))
  (L_law_L301 l3 σ)
  (cond (decide (((σ.1 265 (Int32.toNatClampNeg l3)) &&& 63) = 4))
  (L_law_L324 l3 σ)
  (cond (decide (((σ.1 265 (Int32.toNatClampNeg l3)) &&& 63) = 5))
  (L_law_L368 l3 σ)
  (cond (decide (((σ.1 265 (Int32.toNatClampNeg l3)) &&& 63) = 6))
  (L_law_L401 l3 σ)
  (cond (decide (((σ.1 265 (Int32.toNatClampNeg l3)) &&& 63) = 7))
  (L_law_L435 l3 σ)
  (cond (decide (((σ.1 265 (Int32.toNatClampNeg l3)) &&& 63) = 8))
  (L_law_L458 l3 σ)
  (cond (decide (((σ.1 265 (Int32.toNatClampNeg l3)) &&& 63) = 9))
  (L_law_L511 l3 σ)
  (cond (decide (((σ.1 265 (Int32.toNatClampNeg l3)) &&& 63) = 10))
  (L_law_L574 l3 σ)
  (cond (decide (((σ.1 265 (Int32.toNatClampNeg l3)) &&& 63) = 11))
  (L_law_L587 l3 σ)
  (cond (decide (((σ.1 265 (Int32.toNatClampNeg l3)) &&& 63) = 12))
  (L_law_L610 l3 σ)
  (cond (decide (((σ.1 265 (Int32.toNatClampNeg l3)) &&& 63) = 13))
  (L_law_L633 l3 σ)
  (cond (decide (((σ.1 265 (Int32.toNatClampNeg l3)) &&& 63) = 14))
  (L_law_L646 l3 σ)
  (cond (decide (((σ.1 265 (Int32.toNatClampNeg l3)) &&& 63) = 15))
  (L_law_L659 l3 σ)
  (cond (decide (((σ.1 265 (Int32.toNatClampNeg l3)) &&& 63) = 16))
  (L_law_L672 l3 σ)
  (cond (decide (((σ.1 265 (Int32.toNatClampNeg l3)) &&& 63) = 17))
  (L_law_L705 l3 σ)
  (cond (decide (((σ.1 265 (Int32.toNatClampNeg l3)) &&& 63) = 18))
  (L_law_L718 l3 σ)
  (cond (decide (((σ.1 265 (Int32.toNatClampNeg l3)) &&& 63) = 19))
  (L_law_L731 l3 σ)
  (cond (decide (((σ.1 265 (Int32.toNatClampNeg l3)) &&& 63) = 20))
  (L_law_L744 l3 σ)
  (cond (decide (((σ.1 265 (Int32.toNatClampNeg l3)) &&& 63) = 21))
  (L_law_L767 l3 σ)
  (cond (decide (((σ.1 265 (Int32.toNatClampNeg l3)) &&& 63) = 22))
  (L_law_L790 l3 σ)
  (cond (decide (((σ.1 265 (Int32.toNatClampNeg l3)) &&& 63) = 23))
  (L_law_L813 l3 σ)
  (cond (decide (((σ.1 265 (Int32.toNatClampNeg l3)) &&& 63) = 24))
  (L_law_L836 l3 σ)
  (cond (decide (((σ.1 265 (Int32.toNatClampNeg l3)) &&& 63) = 25))
  (L_law_L859 l3 σ)
  (cond (decide (((σ.1 265 (Int32.toNatClampNeg l3)) &&& 63) = 26))
  (L_law_L882 l3 σ)
  (cond (decide (((σ.1 265 (Int32.toNatClampNeg l3)) &&& 63) = 27))
  (L_law_L926 l3 σ)
  (cond (decide (((σ.1 265 (Int32.toNatClampNeg l3)) &&& 63) = 28))
  (L_law_L970 l3 σ)
  (cond (decide (((σ.1 265 (Int32.toNatClampNeg l3)) &&& 63) = 29))
  (L_law_L993 l3 σ)
  (cond (decide (((σ.1 265 (Int32.toNatClampNeg l3)) &&& 63) = 30))
  (L_law_L1006 l3 σ)
  (cond (decide (((σ.1 265 (Int32.toNatClampNeg l3)) &&& 63) = 31))
  (L_law_L1029 l3 σ)
  (cond (decide (((σ.1 265 (Int32.toNatClampNeg l3)) &&& 63) = 32))
  (L_law_L1062 l3 σ)
  (cond (decide (((σ.1 265 (Int32.toNatClampNeg l3)) &&& 63) = 33))
  (L_law_L1095 l3 σ)
  (cond (decide (((σ.1 265 (Int32.toNatClampNeg l3)) &&& 63) = 34))
  (L_law_L1108 l3 σ)
  (cond (decide (((σ.1 265 (Int32.toNatClampNeg l3)) &&& 63) = 35))
  (L_law_L1121 l3 σ)
  (cond (decide (((σ.1 265 (Int32.toNatClampNeg l3)) &&& 63) = 36))
  (L_law_L1144 l3 σ)
  (cond (decide (((σ.1 265 (Int32.toNatClampNeg l3)) &&& 63) = 37))
  (L_law_L1177 l3 σ)
  (cond (decide (((σ.1 265 (Int32.toNatClampNeg l3)) &&& 63) = 38))
  (L_law_L1200 l3 σ)
  (cond (decide (((σ.1 265 (Int32.toNatClampNeg l3)) &&& 63) = 39))
  (L_law_L1233 l3 σ)
  (cond (decide (((σ.1 265 (Int32.toNatClampNeg l3)) &&& 63) = 40))
  (L_law_L1256 l3 σ)
  (L_law_L1270 l3 σ))))))))))))))))))))))))))))))))))))))))))) := (pd_dr_eq (cd := pd_cd) (fun q => Nat.beq q 18 || Nat.beq q 212 || Nat.beq q 255 || Nat.beq q 278 || Nat.beq q 301 || Nat.beq q 324 || Nat.beq q 368 || Nat.beq q 401 || Nat.beq q 435 || Nat.beq q 458 || Nat.beq q 511 || Nat.beq q 574 || Nat.beq q 587 || Nat.beq q 610 || Nat.beq q 633 || Nat.beq q 646 || Nat.beq q 659 || Nat.beq q 672 || Nat.beq q 705 || Nat.beq q 718 || Nat.beq q 731 || Nat.beq q 744 || Nat.beq q 767 || Nat.beq q 790 || Nat.beq q 813 || Nat.beq q 836 || Nat.beq q 859 || Nat.beq q 882 || Nat.beq q 926 || Nat.beq q 970 || Nat.beq q 993 || Nat.beq q 1006 || Nat.beq q 1029 || Nat.beq q 1062 || Nat.beq q 1095 || Nat.beq q 1108 || Nat.beq q 1121 || Nat.beq q 1144 || Nat.beq q 1177 || Nat.beq q 1200 || Nat.beq q 1233 || Nat.beq q 1256 || Nat.beq q 1270) 13 _).symm.trans rfl
set_option maxRecDepth 20000 in
theorem L_law_L1270_eq (l3 : Int32) (σ : pd_H) : L_law_L1270 l3 σ =
 L_law_L18 (l3 + 6) σ := (pd_dr_eq (cd := pd_cd) (fun q => Nat.beq q 18 || Nat.beq q 212 || Nat.beq q 255 || Nat.beq q 278 || Nat.beq q 301 || Nat.beq q 324 || Nat.beq q 368 || Nat.beq q 401 || Nat.beq q 435 || Nat.beq q 458 || Nat.beq q 511 || Nat.beq q 574 || Nat.beq q 587 || Nat.beq q 610 || Nat.beq q 633 || Nat.beq q 646 || Nat.beq q 659 || Nat.beq q 672 || Nat.beq q 705 || Nat.beq q 718 || Nat.beq q 731 || Nat.beq q 744 || Nat.beq q 767 || Nat.beq q 790 || Nat.beq q 813 || Nat.beq q 836 || Nat.beq q 859 || Nat.beq q 882 || Nat.beq q 926 || Nat.beq q 970 || Nat.beq q 993 || Nat.beq q 1006 || Nat.beq q 1029 || Nat.beq q 1062 || Nat.beq q 1095 || Nat.beq q 1108 || Nat.beq q 1121 || Nat.beq q 1144 || Nat.beq q 1177 || Nat.beq q 1200 || Nat.beq q 1233 || Nat.beq q 1256 || Nat.beq q 1270) 3 _).symm.trans rfl
set_option maxRecDepth 20000 in
theorem L_law_L1256_eq (l3 : Int32) (σ : pd_H) : L_law_L1256 l3 σ =
 pd_bJ (X_digest σ) fun s1 v2 =>
 pd_bJ (M_digest s1) fun s3 v4 =>
 cond (decide ((lg_cmp v2 v4) = 0))
 (L_law_L1270 l3 s3)
 (some (s3, some (pd_i 0))) := (pd_dr_eq (cd := pd_cd) (fun q => Nat.beq q 18 || Nat.beq q 212 || Nat.beq q 255 || Nat.beq q 278 || Nat.beq q 301 || Nat.beq q 324 || Nat.beq q 368 || Nat.beq q 401 || Nat.beq q 435 || Nat.beq q 458 || Nat.beq q 511 || Nat.beq q 574 || Nat.beq q 587 || Nat.beq q 610 || Nat.beq q 633 || Nat.beq q 646 || Nat.beq q 659 || Nat.beq q 672 || Nat.beq q 705 || Nat.beq q 718 || Nat.beq q 731 || Nat.beq q 744 || Nat.beq q 767 || Nat.beq q 790 || Nat.beq q 813 || Nat.beq q 836 || Nat.beq q 859 || Nat.beq q 882 || Nat.beq q 926 || Nat.beq q 970 || Nat.beq q 993 || Nat.beq q 1006 || Nat.beq q 1029 || Nat.beq q 1062 || Nat.beq q 1095 || Nat.beq q 1108 || Nat.beq q 1121 || Nat.beq q 1144 || Nat.beq q 1177 || Nat.beq q 1200 || Nat.beq q 1233 || Nat.beq q 1256 || Nat.beq q 1270) 8 _).symm.trans rfl
set_option maxRecDepth 20000 in
theorem L_law_L1233_eq (l3 : Int32) (σ : pd_H) : L_law_L1233 l3 σ =
 cond (pd_ob (l3 + 1) ((σ.1 266 0).toNatClampNeg)) none
 (pd_bI (X_count (σ.1 265 (Int32.toNatClampNeg (l3 + 1))) σ) fun s1 v2 =>
 cond (pd_ob (l3 + 1) ((s1.1 266 0).toNatClampNeg)) none
 (pd_bI (M_count (s1.1 265 (Int32.toNatClampNeg (l3 + 1))) s1) fun s3 v4 =>
 cond (decide (v2 = v4))
 (L_law_L1270 l3 s3)
 (some (s3, some (pd_i 0))))) := (pd_dr_eq (cd := pd_cd) (fun q => Nat.beq q 18 || Nat.beq q 212 || Nat.beq q 255 || Nat.beq q 278 || Nat.beq q 301 || Nat.beq q 324 || Nat.beq q 368 || Nat.beq q 401 || Nat.beq q 435 || Nat.beq q 458 || Nat.beq q 511 || Nat.beq q 574 || Nat.beq q 587 || Nat.beq q 610 || Nat.beq q 633 || Nat.beq q 646 || Nat.beq q 659 || Nat.beq q 672 || Nat.beq q 705 || Nat.beq q 718 || Nat.beq q 731 || Nat.beq q 744 || Nat.beq q 767 || Nat.beq q 790 || Nat.beq q 813 || Nat.beq q 836 || Nat.beq q 859 || Nat.beq q 882 || Nat.beq q 926 || Nat.beq q 970 || Nat.beq q 993 || Nat.beq q 1006 || Nat.beq q 1029 || Nat.beq q 1062 || Nat.beq q 1095 || Nat.beq q 1108 || Nat.beq q 1121 || Nat.beq q 1144 || Nat.beq q 1177 || Nat.beq q 1200 || Nat.beq q 1233 || Nat.beq q 1256 || Nat.beq q 1270) 17 _).symm.trans rfl
set_option maxRecDepth 20000 in
theorem L_law_L1200_eq (l3 : Int32) (σ : pd_H) : L_law_L1200 l3 σ =
 cond (pd_ob (l3 + 1) ((σ.1 266 0).toNatClampNeg)) none
 (cond (pd_ob (l3 + 2) ((σ.1 266 0).toNatClampNeg)) none
 (pd_bI (X_met (σ.1 265 (Int32.toNatClampNeg (l3 + 1))) (σ.1 265 (Int32.toNatClampNeg (l3 + 2))) σ) fun s1 v2 =>
 cond (pd_ob (l3 + 1) ((s1.1 266 0).toNatClampNeg)) none
 (cond (pd_ob (l3 + 2) ((s1.1 266 0).toNatClampNeg)) none
 (pd_bI (M_met (s1.1 265 (Int32.toNatClampNeg (l3 + 1))) (s1.1 265 (Int32.toNatClampNeg (l3 + 2))) s1) fun s3 v4 =>
 cond (decide (v2 = v4))
 (L_law_L1270 l3 s3)
 (some (s3, some (pd_i 0))))))) := (pd_dr_eq (cd := pd_cd) (fun q => Nat.beq q 18 || Nat.beq q 212 || Nat.beq q 255 || Nat.beq q 278 || Nat.beq q 301 || Nat.beq q 324 || Nat.beq q 368 || Nat.beq q 401 || Nat.beq q 435 || Nat.beq q 458 || Nat.beq q 511 || Nat.beq q 574 || Nat.beq q 587 || Nat.beq q 610 || Nat.beq q 633 || Nat.beq q 646 || Nat.beq q 659 || Nat.beq q 672 || Nat.beq q 705 || Nat.beq q 718 || Nat.beq q 731 || Nat.beq q 744 || Nat.beq q 767 || Nat.beq q 790 || Nat.beq q 813 || Nat.beq q 836 || Nat.beq q 859 || Nat.beq q 882 || Nat.beq q 926 || Nat.beq q 970 || Nat.beq q 993 || Nat.beq q 1006 || Nat.beq q 1029 || Nat.beq q 1062 || Nat.beq q 1095 || Nat.beq q 1108 || Nat.beq q 1121 || Nat.beq q 1144 || Nat.beq q 1177 || Nat.beq q 1200 || Nat.beq q 1233 || Nat.beq q 1256 || Nat.beq q 1270) 27 _).symm.trans rfl
set_option maxRecDepth 20000 in
theorem L_law_L1177_eq (l3 : Int32) (σ : pd_H) : L_law_L1177 l3 σ =
 cond (pd_ob (l3 + 1) ((σ.1 266 0).toNatClampNeg)) none
 (pd_bI (X_fault (σ.1 265 (Int32.toNatClampNeg (l3 + 1))) σ) fun s1 v2 =>
 cond (pd_ob (l3 + 1) ((s1.1 266 0).toNatClampNeg)) none
 (pd_bI (M_fault (s1.1 265 (Int32.toNatClampNeg (l3 + 1))) s1) fun s3 v4 =>
 cond (decide (v2 = v4))
 (L_law_L1270 l3 s3)
 (some (s3, some (pd_i 0))))) := (pd_dr_eq (cd := pd_cd) (fun q => Nat.beq q 18 || Nat.beq q 212 || Nat.beq q 255 || Nat.beq q 278 || Nat.beq q 301 || Nat.beq q 324 || Nat.beq q 368 || Nat.beq q 401 || Nat.beq q 435 || Nat.beq q 458 || Nat.beq q 511 || Nat.beq q 574 || Nat.beq q 587 || Nat.beq q 610 || Nat.beq q 633 || Nat.beq q 646 || Nat.beq q 659 || Nat.beq q 672 || Nat.beq q 705 || Nat.beq q 718 || Nat.beq q 731 || Nat.beq q 744 || Nat.beq q 767 || Nat.beq q 790 || Nat.beq q 813 || Nat.beq q 836 || Nat.beq q 859 || Nat.beq q 882 || Nat.beq q 926 || Nat.beq q 970 || Nat.beq q 993 || Nat.beq q 1006 || Nat.beq q 1029 || Nat.beq q 1062 || Nat.beq q 1095 || Nat.beq q 1108 || Nat.beq q 1121 || Nat.beq q 1144 || Nat.beq q 1177 || Nat.beq q 1200 || Nat.beq q 1233 || Nat.beq q 1256 || Nat.beq q 1270) 17 _).symm.trans rfl
set_option maxRecDepth 20000 in
theorem L_law_L1144_eq (l3 : Int32) (σ : pd_H) : L_law_L1144 l3 σ =
 cond (pd_ob (l3 + 1) ((σ.1 266 0).toNatClampNeg)) none
 (cond (pd_ob (l3 + 2) ((σ.1 266 0).toNatClampNeg)) none
 (pd_bI (X_between (σ.1 265 (Int32.toNatClampNeg (l3 + 1))) (σ.1 265 (Int32.toNatClampNeg (l3 + 2))) σ) fun s1 v2 =>
 cond (pd_ob (l3 + 1) ((s1.1 266 0).toNatClampNeg)) none
 (cond (pd_ob (l3 + 2) ((s1.1 266 0).toNatClampNeg)) none
 (pd_bI (M_between (s1.1 265 (Int32.toNatClampNeg (l3 + 1))) (s1.1 265 (Int32.toNatClampNeg (l3 + 2))) s1) fun s3 v4 =>
 cond (decide (v2 = v4))
 (L_law_L1270 l3 s3)
 (some (s3, some (pd_i 0))))))) := (pd_dr_eq (cd := pd_cd) (fun q => Nat.beq q 18 || Nat.beq q 212 || Nat.beq q 255 || Nat.beq q 278 || Nat.beq q 301 || Nat.beq q 324 || Nat.beq q 368 || Nat.beq q 401 || Nat.beq q 435 || Nat.beq q 458 || Nat.beq q 511 || Nat.beq q 574 || Nat.beq q 587 || Nat.beq q 610 || Nat.beq q 633 || Nat.beq q 646 || Nat.beq q 659 || Nat.beq q 672 || Nat.beq q 705 || Nat.beq q 718 || Nat.beq q 731 || Nat.beq q 744 || Nat.beq q 767 || Nat.beq q 790 || Nat.beq q 813 || Nat.beq q 836 || Nat.beq q 859 || Nat.beq q 882 || Nat.beq q 926 || Nat.beq q 970 || Nat.beq q 993 || Nat.beq q 1006 || Nat.beq q 1029 || Nat.beq q 1062 || Nat.beq q 1095 || Nat.beq q 1108 || Nat.beq q 1121 || Nat.beq q 1144 || Nat.beq q 1177 || Nat.beq q 1200 || Nat.beq q 1233 || Nat.beq q 1256 || Nat.beq q 1270) 27 _).symm.trans rfl
set_option maxRecDepth 20000 in
theorem L_law_L1121_eq (l3 : Int32) (σ : pd_H) : L_law_L1121 l3 σ =
 cond (pd_ob (l3 + 1) ((σ.1 266 0).toNatClampNeg)) none
 (pd_bI (X_go (σ.1 265 (Int32.toNatClampNeg (l3 + 1))) σ) fun s1 v2 =>
 cond (pd_ob (l3 + 1) ((s1.1 266 0).toNatClampNeg)) none
 (pd_bI (M_go (s1.1 265 (Int32.toNatClampNeg (l3 + 1))) s1) fun s3 v4 =>
 cond (decide (v2 = v4))
 (L_law_L1270 l3 s3)
 (some (s3, some (pd_i 0))))) := (pd_dr_eq (cd := pd_cd) (fun q => Nat.beq q 18 || Nat.beq q 212 || Nat.beq q 255 || Nat.beq q 278 || Nat.beq q 301 || Nat.beq q 324 || Nat.beq q 368 || Nat.beq q 401 || Nat.beq q 435 || Nat.beq q 458 || Nat.beq q 511 || Nat.beq q 574 || Nat.beq q 587 || Nat.beq q 610 || Nat.beq q 633 || Nat.beq q 646 || Nat.beq q 659 || Nat.beq q 672 || Nat.beq q 705 || Nat.beq q 718 || Nat.beq q 731 || Nat.beq q 744 || Nat.beq q 767 || Nat.beq q 790 || Nat.beq q 813 || Nat.beq q 836 || Nat.beq q 859 || Nat.beq q 882 || Nat.beq q 926 || Nat.beq q 970 || Nat.beq q 993 || Nat.beq q 1006 || Nat.beq q 1029 || Nat.beq q 1062 || Nat.beq q 1095 || Nat.beq q 1108 || Nat.beq q 1121 || Nat.beq q 1144 || Nat.beq q 1177 || Nat.beq q 1200 || Nat.beq q 1233 || Nat.beq q 1256 || Nat.beq q 1270) 17 _).symm.trans rfl
set_option maxRecDepth 20000 in
theorem L_law_L1108_eq (l3 : Int32) (σ : pd_H) : L_law_L1108 l3 σ =
 pd_bI (X_keep σ) fun s1 v2 =>
 pd_bI (M_keep s1) fun s3 v4 =>
 cond (decide (v2 = v4))
 (L_law_L1270 l3 s3)
 (some (s3, some (pd_i 0))) := (pd_dr_eq (cd := pd_cd) (fun q => Nat.beq q 18 || Nat.beq q 212 || Nat.beq q 255 || Nat.beq q 278 || Nat.beq q 301 || Nat.beq q 324 || Nat.beq q 368 || Nat.beq q 401 || Nat.beq q 435 || Nat.beq q 458 || Nat.beq q 511 || Nat.beq q 574 || Nat.beq q 587 || Nat.beq q 610 || Nat.beq q 633 || Nat.beq q 646 || Nat.beq q 659 || Nat.beq q 672 || Nat.beq q 705 || Nat.beq q 718 || Nat.beq q 731 || Nat.beq q 744 || Nat.beq q 767 || Nat.beq q 790 || Nat.beq q 813 || Nat.beq q 836 || Nat.beq q 859 || Nat.beq q 882 || Nat.beq q 926 || Nat.beq q 970 || Nat.beq q 993 || Nat.beq q 1006 || Nat.beq q 1029 || Nat.beq q 1062 || Nat.beq q 1095 || Nat.beq q 1108 || Nat.beq q 1121 || Nat.beq q 1144 || Nat.beq q 1177 || Nat.beq q 1200 || Nat.beq q 1233 || Nat.beq q 1256 || Nat.beq q 1270) 7 _).symm.trans rfl
set_option maxRecDepth 20000 in
theorem L_law_L1095_eq (l3 : Int32) (σ : pd_H) : L_law_L1095 l3 σ =
 pd_bI (X_settle σ) fun s1 v2 =>
 pd_bI (M_settle s1) fun s3 v4 =>
 cond (decide (v2 = v4))
 (L_law_L1270 l3 s3)
 (some (s3, some (pd_i 0))) := (pd_dr_eq (cd := pd_cd) (fun q => Nat.beq q 18 || Nat.beq q 212 || Nat.beq q 255 || Nat.beq q 278 || Nat.beq q 301 || Nat.beq q 324 || Nat.beq q 368 || Nat.beq q 401 || Nat.beq q 435 || Nat.beq q 458 || Nat.beq q 511 || Nat.beq q 574 || Nat.beq q 587 || Nat.beq q 610 || Nat.beq q 633 || Nat.beq q 646 || Nat.beq q 659 || Nat.beq q 672 || Nat.beq q 705 || Nat.beq q 718 || Nat.beq q 731 || Nat.beq q 744 || Nat.beq q 767 || Nat.beq q 790 || Nat.beq q 813 || Nat.beq q 836 || Nat.beq q 859 || Nat.beq q 882 || Nat.beq q 926 || Nat.beq q 970 || Nat.beq q 993 || Nat.beq q 1006 || Nat.beq q 1029 || Nat.beq q 1062 || Nat.beq q 1095 || Nat.beq q 1108 || Nat.beq q 1121 || Nat.beq q 1144 || Nat.beq q 1177 || Nat.beq q 1200 || Nat.beq q 1233 || Nat.beq q 1256 || Nat.beq q 1270) 7 _).symm.trans rfl
set_option maxRecDepth 20000 in
theorem L_law_L1062_eq (l3 : Int32) (σ : pd_H) : L_law_L1062 l3 σ =
 cond (pd_ob (l3 + 1) ((σ.1 266 0).toNatClampNeg)) none
 (cond (pd_ob (l3 + 2) ((σ.1 266 0).toNatClampNeg)) none
 (pd_bI (X_since (σ.1 265 (Int32.toNatClampNeg (l3 + 1))) (σ.1 265 (Int32.toNatClampNeg (l3 + 2))) σ) fun s1 v2 =>
 cond (pd_ob (l3 + 1) ((s1.1 266 0).toNatClampNeg)) none
 (cond (pd_ob (l3 + 2) ((s1.1 266 0).toNatClampNeg)) none
 (pd_bI (M_since (s1.1 265 (Int32.toNatClampNeg (l3 + 1))) (s1.1 265 (Int32.toNatClampNeg (l3 + 2))) s1) fun s3 v4 =>
 cond (decide (v2 = v4))
 (L_law_L1270 l3 s3)
 (some (s3, some (pd_i 0))))))) := (pd_dr_eq (cd := pd_cd) (fun q => Nat.beq q 18 || Nat.beq q 212 || Nat.beq q 255 || Nat.beq q 278 || Nat.beq q 301 || Nat.beq q 324 || Nat.beq q 368 || Nat.beq q 401 || Nat.beq q 435 || Nat.beq q 458 || Nat.beq q 511 || Nat.beq q 574 || Nat.beq q 587 || Nat.beq q 610 || Nat.beq q 633 || Nat.beq q 646 || Nat.beq q 659 || Nat.beq q 672 || Nat.beq q 705 || Nat.beq q 718 || Nat.beq q 731 || Nat.beq q 744 || Nat.beq q 767 || Nat.beq q 790 || Nat.beq q 813 || Nat.beq q 836 || Nat.beq q 859 || Nat.beq q 882 || Nat.beq q 926 || Nat.beq q 970 || Nat.beq q 993 || Nat.beq q 1006 || Nat.beq q 1029 || Nat.beq q 1062 || Nat.beq q 1095 || Nat.beq q 1108 || Nat.beq q 1121 || Nat.beq q 1144 || Nat.beq q 1177 || Nat.beq q 1200 || Nat.beq q 1233 || Nat.beq q 1256 || Nat.beq q 1270) 27 _).symm.trans rfl
set_option maxRecDepth 20000 in
theorem L_law_L1029_eq (l3 : Int32) (σ : pd_H) : L_law_L1029 l3 σ =
 cond (pd_ob (l3 + 1) ((σ.1 266 0).toNatClampNeg)) none
 (cond (pd_ob (l3 + 2) ((σ.1 266 0).toNatClampNeg)) none
 (pd_bI (X_blame (σ.1 265 (Int32.toNatClampNeg (l3 + 1))) (σ.1 265 (Int32.toNatClampNeg (l3 + 2))) σ) fun s1 v2 =>
 cond (pd_ob (l3 + 1) ((s1.1 266 0).toNatClampNeg)) none
 (cond (pd_ob (l3 + 2) ((s1.1 266 0).toNatClampNeg)) none
 (pd_bI (M_blame (s1.1 265 (Int32.toNatClampNeg (l3 + 1))) (s1.1 265 (Int32.toNatClampNeg (l3 + 2))) s1) fun s3 v4 =>
 cond (decide (v2 = v4))
 (L_law_L1270 l3 s3)
 (some (s3, some (pd_i 0))))))) := (pd_dr_eq (cd := pd_cd) (fun q => Nat.beq q 18 || Nat.beq q 212 || Nat.beq q 255 || Nat.beq q 278 || Nat.beq q 301 || Nat.beq q 324 || Nat.beq q 368 || Nat.beq q 401 || Nat.beq q 435 || Nat.beq q 458 || Nat.beq q 511 || Nat.beq q 574 || Nat.beq q 587 || Nat.beq q 610 || Nat.beq q 633 || Nat.beq q 646 || Nat.beq q 659 || Nat.beq q 672 || Nat.beq q 705 || Nat.beq q 718 || Nat.beq q 731 || Nat.beq q 744 || Nat.beq q 767 || Nat.beq q 790 || Nat.beq q 813 || Nat.beq q 836 || Nat.beq q 859 || Nat.beq q 882 || Nat.beq q 926 || Nat.beq q 970 || Nat.beq q 993 || Nat.beq q 1006 || Nat.beq q 1029 || Nat.beq q 1062 || Nat.beq q 1095 || Nat.beq q 1108 || Nat.beq q 1121 || Nat.beq q 1144 || Nat.beq q 1177 || Nat.beq q 1200 || Nat.beq q 1233 || Nat.beq q 1256 || Nat.beq q 1270) 27 _).symm.trans rfl
set_option maxRecDepth 20000 in
theorem L_law_L1006_eq (l3 : Int32) (σ : pd_H) : L_law_L1006 l3 σ =
 cond (pd_ob (l3 + 1) ((σ.1 266 0).toNatClampNeg)) none
 (pd_bI (X_order (σ.1 265 (Int32.toNatClampNeg (l3 + 1))) σ) fun s1 v2 =>
 cond (pd_ob (l3 + 1) ((s1.1 266 0).toNatClampNeg)) none
 (pd_bI (M_order (s1.1 265 (Int32.toNatClampNeg (l3 + 1))) s1) fun s3 v4 =>
 cond (decide (v2 = v4))
 (L_law_L1270 l3 s3)
 (some (s3, some (pd_i 0))))) := (pd_dr_eq (cd := pd_cd) (fun q => Nat.beq q 18 || Nat.beq q 212 || Nat.beq q 255 || Nat.beq q 278 || Nat.beq q 301 || Nat.beq q 324 || Nat.beq q 368 || Nat.beq q 401 || Nat.beq q 435 || Nat.beq q 458 || Nat.beq q 511 || Nat.beq q 574 || Nat.beq q 587 || Nat.beq q 610 || Nat.beq q 633 || Nat.beq q 646 || Nat.beq q 659 || Nat.beq q 672 || Nat.beq q 705 || Nat.beq q 718 || Nat.beq q 731 || Nat.beq q 744 || Nat.beq q 767 || Nat.beq q 790 || Nat.beq q 813 || Nat.beq q 836 || Nat.beq q 859 || Nat.beq q 882 || Nat.beq q 926 || Nat.beq q 970 || Nat.beq q 993 || Nat.beq q 1006 || Nat.beq q 1029 || Nat.beq q 1062 || Nat.beq q 1095 || Nat.beq q 1108 || Nat.beq q 1121 || Nat.beq q 1144 || Nat.beq q 1177 || Nat.beq q 1200 || Nat.beq q 1233 || Nat.beq q 1256 || Nat.beq q 1270) 17 _).symm.trans rfl
set_option maxRecDepth 20000 in
theorem L_law_L993_eq (l3 : Int32) (σ : pd_H) : L_law_L993 l3 σ =
 pd_bI (X_prune σ) fun s1 v2 =>
 pd_bI (M_prune s1) fun s3 v4 =>
 cond (decide (v2 = v4))
 (L_law_L1270 l3 s3)
 (some (s3, some (pd_i 0))) := (pd_dr_eq (cd := pd_cd) (fun q => Nat.beq q 18 || Nat.beq q 212 || Nat.beq q 255 || Nat.beq q 278 || Nat.beq q 301 || Nat.beq q 324 || Nat.beq q 368 || Nat.beq q 401 || Nat.beq q 435 || Nat.beq q 458 || Nat.beq q 511 || Nat.beq q 574 || Nat.beq q 587 || Nat.beq q 610 || Nat.beq q 633 || Nat.beq q 646 || Nat.beq q 659 || Nat.beq q 672 || Nat.beq q 705 || Nat.beq q 718 || Nat.beq q 731 || Nat.beq q 744 || Nat.beq q 767 || Nat.beq q 790 || Nat.beq q 813 || Nat.beq q 836 || Nat.beq q 859 || Nat.beq q 882 || Nat.beq q 926 || Nat.beq q 970 || Nat.beq q 993 || Nat.beq q 1006 || Nat.beq q 1029 || Nat.beq q 1062 || Nat.beq q 1095 || Nat.beq q 1108 || Nat.beq q 1121 || Nat.beq q 1144 || Nat.beq q 1177 || Nat.beq q 1200 || Nat.beq q 1233 || Nat.beq q 1256 || Nat.beq q 1270) 7 _).symm.trans rfl
set_option maxRecDepth 20000 in
theorem L_law_L970_eq (l3 : Int32) (σ : pd_H) : L_law_L970 l3 σ =
 cond (pd_ob (l3 + 1) ((σ.1 266 0).toNatClampNeg)) none
 (pd_bI (X_dead (σ.1 265 (Int32.toNatClampNeg (l3 + 1))) σ) fun s1 v2 =>
 cond (pd_ob (l3 + 1) ((s1.1 266 0).toNatClampNeg)) none
 (pd_bI (M_dead (s1.1 265 (Int32.toNatClampNeg (l3 + 1))) s1) fun s3 v4 =>
 cond (decide (v2 = v4))
 (L_law_L1270 l3 s3)
 (some (s3, some (pd_i 0))))) := (pd_dr_eq (cd := pd_cd) (fun q => Nat.beq q 18 || Nat.beq q 212 || Nat.beq q 255 || Nat.beq q 278 || Nat.beq q 301 || Nat.beq q 324 || Nat.beq q 368 || Nat.beq q 401 || Nat.beq q 435 || Nat.beq q 458 || Nat.beq q 511 || Nat.beq q 574 || Nat.beq q 587 || Nat.beq q 610 || Nat.beq q 633 || Nat.beq q 646 || Nat.beq q 659 || Nat.beq q 672 || Nat.beq q 705 || Nat.beq q 718 || Nat.beq q 731 || Nat.beq q 744 || Nat.beq q 767 || Nat.beq q 790 || Nat.beq q 813 || Nat.beq q 836 || Nat.beq q 859 || Nat.beq q 882 || Nat.beq q 926 || Nat.beq q 970 || Nat.beq q 993 || Nat.beq q 1006 || Nat.beq q 1029 || Nat.beq q 1062 || Nat.beq q 1095 || Nat.beq q 1108 || Nat.beq q 1121 || Nat.beq q 1144 || Nat.beq q 1177 || Nat.beq q 1200 || Nat.beq q 1233 || Nat.beq q 1256 || Nat.beq q 1270) 17 _).symm.trans rfl
set_option maxRecDepth 20000 in
theorem L_law_L926_eq (l3 : Int32) (σ : pd_H) : L_law_L926 l3 σ =
 cond (pd_ob (l3 + 1) ((σ.1 266 0).toNatClampNeg)) none
 (cond (pd_ob (l3 + 2) ((σ.1 266 0).toNatClampNeg)) none
 (cond (pd_ob (l3 + 3) ((σ.1 266 0).toNatClampNeg)) none
 (pd_bJ (X_trace (σ.1 265 (Int32.toNatClampNeg (l3 + 1))) (σ.1 265 (Int32.toNatClampNeg (l3 + 2))) (σ.1 265 (Int32.toNatClampNeg (l3 + 3))) σ) fun s1 v2 =>
 cond (pd_ob (l3 + 1) ((s1.1 266 0).toNatClampNeg)) none
 (cond (pd_ob (l3 + 2) ((s1.1 266 0).toNatClampNeg)) none
 (cond (pd_ob (l3 + 3) ((s1.1 266 0).toNatClampNeg)) none
 (pd_bJ (M_trace (s1.1 265 (Int32.toNatClampNeg (l3 + 1))) (s1.1 265 (Int32.toNatClampNeg (l3 + 2))) (s1.1 265 (Int32.toNatClampNeg (l3 + 3))) s1) fun s3 v4 =>
 cond (decide ((lg_cmp v2 v4) = 0))
 (L_law_L1270 l3 s3)
 (some (s3, some (pd_i 0))))))))) := (pd_dr_eq (cd := pd_cd) (fun q => Nat.beq q 18 || Nat.beq q 212 || Nat.beq q 255 || Nat.beq q 278 || Nat.beq q 301 || Nat.beq q 324 || Nat.beq q 368 || Nat.beq q 401 || Nat.beq q 435 || Nat.beq q 458 || Nat.beq q 511 || Nat.beq q 574 || Nat.beq q 587 || Nat.beq q 610 || Nat.beq q 633 || Nat.beq q 646 || Nat.beq q 659 || Nat.beq q 672 || Nat.beq q 705 || Nat.beq q 718 || Nat.beq q 731 || Nat.beq q 744 || Nat.beq q 767 || Nat.beq q 790 || Nat.beq q 813 || Nat.beq q 836 || Nat.beq q 859 || Nat.beq q 882 || Nat.beq q 926 || Nat.beq q 970 || Nat.beq q 993 || Nat.beq q 1006 || Nat.beq q 1029 || Nat.beq q 1062 || Nat.beq q 1095 || Nat.beq q 1108 || Nat.beq q 1121 || Nat.beq q 1144 || Nat.beq q 1177 || Nat.beq q 1200 || Nat.beq q 1233 || Nat.beq q 1256 || Nat.beq q 1270) 38 _).symm.trans rfl
set_option maxRecDepth 20000 in
theorem L_law_L882_eq (l3 : Int32) (σ : pd_H) : L_law_L882 l3 σ =
 cond (pd_ob (l3 + 1) ((σ.1 266 0).toNatClampNeg)) none
 (cond (pd_ob (l3 + 2) ((σ.1 266 0).toNatClampNeg)) none
 (cond (pd_ob (l3 + 3) ((σ.1 266 0).toNatClampNeg)) none
 (pd_bJ (X_without (σ.1 265 (Int32.toNatClampNeg (l3 + 1))) (σ.1 265 (Int32.toNatClampNeg (l3 + 2))) (σ.1 265 (Int32.toNatClampNeg (l3 + 3))) σ) fun s1 v2 =>
 cond (pd_ob (l3 + 1) ((s1.1 266 0).toNatClampNeg)) none
 (cond (pd_ob (l3 + 2) ((s1.1 266 0).toNatClampNeg)) none
 (cond (pd_ob (l3 + 3) ((s1.1 266 0).toNatClampNeg)) none
 (pd_bJ (M_without (s1.1 265 (Int32.toNatClampNeg (l3 + 1))) (s1.1 265 (Int32.toNatClampNeg (l3 + 2))) (s1.1 265 (Int32.toNatClampNeg (l3 + 3))) s1) fun s3 v4 =>
 cond (decide ((lg_cmp v2 v4) = 0))
 (L_law_L1270 l3 s3)
 (some (s3, some (pd_i 0))))))))) := (pd_dr_eq (cd := pd_cd) (fun q => Nat.beq q 18 || Nat.beq q 212 || Nat.beq q 255 || Nat.beq q 278 || Nat.beq q 301 || Nat.beq q 324 || Nat.beq q 368 || Nat.beq q 401 || Nat.beq q 435 || Nat.beq q 458 || Nat.beq q 511 || Nat.beq q 574 || Nat.beq q 587 || Nat.beq q 610 || Nat.beq q 633 || Nat.beq q 646 || Nat.beq q 659 || Nat.beq q 672 || Nat.beq q 705 || Nat.beq q 718 || Nat.beq q 731 || Nat.beq q 744 || Nat.beq q 767 || Nat.beq q 790 || Nat.beq q 813 || Nat.beq q 836 || Nat.beq q 859 || Nat.beq q 882 || Nat.beq q 926 || Nat.beq q 970 || Nat.beq q 993 || Nat.beq q 1006 || Nat.beq q 1029 || Nat.beq q 1062 || Nat.beq q 1095 || Nat.beq q 1108 || Nat.beq q 1121 || Nat.beq q 1144 || Nat.beq q 1177 || Nat.beq q 1200 || Nat.beq q 1233 || Nat.beq q 1256 || Nat.beq q 1270) 38 _).symm.trans rfl
set_option maxRecDepth 20000 in
theorem L_law_L859_eq (l3 : Int32) (σ : pd_H) : L_law_L859 l3 σ =
 cond (pd_ob (l3 + 1) ((σ.1 266 0).toNatClampNeg)) none
 (pd_bI (X_hangs (σ.1 265 (Int32.toNatClampNeg (l3 + 1))) σ) fun s1 v2 =>
 cond (pd_ob (l3 + 1) ((s1.1 266 0).toNatClampNeg)) none
 (pd_bI (M_hangs (s1.1 265 (Int32.toNatClampNeg (l3 + 1))) s1) fun s3 v4 =>
 cond (decide (v2 = v4))
 (L_law_L1270 l3 s3)
 (some (s3, some (pd_i 0))))) := (pd_dr_eq (cd := pd_cd) (fun q => Nat.beq q 18 || Nat.beq q 212 || Nat.beq q 255 || Nat.beq q 278 || Nat.beq q 301 || Nat.beq q 324 || Nat.beq q 368 || Nat.beq q 401 || Nat.beq q 435 || Nat.beq q 458 || Nat.beq q 511 || Nat.beq q 574 || Nat.beq q 587 || Nat.beq q 610 || Nat.beq q 633 || Nat.beq q 646 || Nat.beq q 659 || Nat.beq q 672 || Nat.beq q 705 || Nat.beq q 718 || Nat.beq q 731 || Nat.beq q 744 || Nat.beq q 767 || Nat.beq q 790 || Nat.beq q 813 || Nat.beq q 836 || Nat.beq q 859 || Nat.beq q 882 || Nat.beq q 926 || Nat.beq q 970 || Nat.beq q 993 || Nat.beq q 1006 || Nat.beq q 1029 || Nat.beq q 1062 || Nat.beq q 1095 || Nat.beq q 1108 || Nat.beq q 1121 || Nat.beq q 1144 || Nat.beq q 1177 || Nat.beq q 1200 || Nat.beq q 1233 || Nat.beq q 1256 || Nat.beq q 1270) 17 _).symm.trans rfl
set_option maxRecDepth 20000 in
theorem L_law_L836_eq (l3 : Int32) (σ : pd_H) : L_law_L836 l3 σ =
 cond (pd_ob (l3 + 1) ((σ.1 266 0).toNatClampNeg)) none
 (pd_bI (X_with (σ.1 265 (Int32.toNatClampNeg (l3 + 1))) σ) fun s1 v2 =>
 cond (pd_ob (l3 + 1) ((s1.1 266 0).toNatClampNeg)) none
 (pd_bI (M_with (s1.1 265 (Int32.toNatClampNeg (l3 + 1))) s1) fun s3 v4 =>
 cond (decide (v2 = v4))
 (L_law_L1270 l3 s3)
 (some (s3, some (pd_i 0))))) := (pd_dr_eq (cd := pd_cd) (fun q => Nat.beq q 18 || Nat.beq q 212 || Nat.beq q 255 || Nat.beq q 278 || Nat.beq q 301 || Nat.beq q 324 || Nat.beq q 368 || Nat.beq q 401 || Nat.beq q 435 || Nat.beq q 458 || Nat.beq q 511 || Nat.beq q 574 || Nat.beq q 587 || Nat.beq q 610 || Nat.beq q 633 || Nat.beq q 646 || Nat.beq q 659 || Nat.beq q 672 || Nat.beq q 705 || Nat.beq q 718 || Nat.beq q 731 || Nat.beq q 744 || Nat.beq q 767 || Nat.beq q 790 || Nat.beq q 813 || Nat.beq q 836 || Nat.beq q 859 || Nat.beq q 882 || Nat.beq q 926 || Nat.beq q 970 || Nat.beq q 993 || Nat.beq q 1006 || Nat.beq q 1029 || Nat.beq q 1062 || Nat.beq q 1095 || Nat.beq q 1108 || Nat.beq q 1121 || Nat.beq q 1144 || Nat.beq q 1177 || Nat.beq q 1200 || Nat.beq q 1233 || Nat.beq q 1256 || Nat.beq q 1270) 17 _).symm.trans rfl
set_option maxRecDepth 20000 in
theorem L_law_L813_eq (l3 : Int32) (σ : pd_H) : L_law_L813 l3 σ =
 cond (pd_ob (l3 + 1) ((σ.1 266 0).toNatClampNeg)) none
 (pd_bI (X_swap (σ.1 265 (Int32.toNatClampNeg (l3 + 1))) σ) fun s1 v2 =>
 cond (pd_ob (l3 + 1) ((s1.1 266 0).toNatClampNeg)) none
 (pd_bI (M_swap (s1.1 265 (Int32.toNatClampNeg (l3 + 1))) s1) fun s3 v4 =>
 cond (decide (v2 = v4))
 (L_law_L1270 l3 s3)
 (some (s3, some (pd_i 0))))) := (pd_dr_eq (cd := pd_cd) (fun q => Nat.beq q 18 || Nat.beq q 212 || Nat.beq q 255 || Nat.beq q 278 || Nat.beq q 301 || Nat.beq q 324 || Nat.beq q 368 || Nat.beq q 401 || Nat.beq q 435 || Nat.beq q 458 || Nat.beq q 511 || Nat.beq q 574 || Nat.beq q 587 || Nat.beq q 610 || Nat.beq q 633 || Nat.beq q 646 || Nat.beq q 659 || Nat.beq q 672 || Nat.beq q 705 || Nat.beq q 718 || Nat.beq q 731 || Nat.beq q 744 || Nat.beq q 767 || Nat.beq q 790 || Nat.beq q 813 || Nat.beq q 836 || Nat.beq q 859 || Nat.beq q 882 || Nat.beq q 926 || Nat.beq q 970 || Nat.beq q 993 || Nat.beq q 1006 || Nat.beq q 1029 || Nat.beq q 1062 || Nat.beq q 1095 || Nat.beq q 1108 || Nat.beq q 1121 || Nat.beq q 1144 || Nat.beq q 1177 || Nat.beq q 1200 || Nat.beq q 1233 || Nat.beq q 1256 || Nat.beq q 1270) 17 _).symm.trans rfl
set_option maxRecDepth 20000 in
theorem L_law_L790_eq (l3 : Int32) (σ : pd_H) : L_law_L790 l3 σ =
 cond (pd_ob (l3 + 1) ((σ.1 266 0).toNatClampNeg)) none
 (pd_bI (X_lift (σ.1 265 (Int32.toNatClampNeg (l3 + 1))) σ) fun s1 v2 =>
 cond (pd_ob (l3 + 1) ((s1.1 266 0).toNatClampNeg)) none
 (pd_bI (M_lift (s1.1 265 (Int32.toNatClampNeg (l3 + 1))) s1) fun s3 v4 =>
 cond (decide (v2 = v4))
 (L_law_L1270 l3 s3)
 (some (s3, some (pd_i 0))))) := (pd_dr_eq (cd := pd_cd) (fun q => Nat.beq q 18 || Nat.beq q 212 || Nat.beq q 255 || Nat.beq q 278 || Nat.beq q 301 || Nat.beq q 324 || Nat.beq q 368 || Nat.beq q 401 || Nat.beq q 435 || Nat.beq q 458 || Nat.beq q 511 || Nat.beq q 574 || Nat.beq q 587 || Nat.beq q 610 || Nat.beq q 633 || Nat.beq q 646 || Nat.beq q 659 || Nat.beq q 672 || Nat.beq q 705 || Nat.beq q 718 || Nat.beq q 731 || Nat.beq q 744 || Nat.beq q 767 || Nat.beq q 790 || Nat.beq q 813 || Nat.beq q 836 || Nat.beq q 859 || Nat.beq q 882 || Nat.beq q 926 || Nat.beq q 970 || Nat.beq q 993 || Nat.beq q 1006 || Nat.beq q 1029 || Nat.beq q 1062 || Nat.beq q 1095 || Nat.beq q 1108 || Nat.beq q 1121 || Nat.beq q 1144 || Nat.beq q 1177 || Nat.beq q 1200 || Nat.beq q 1233 || Nat.beq q 1256 || Nat.beq q 1270) 17 _).symm.trans rfl
set_option maxRecDepth 20000 in
theorem L_law_L767_eq (l3 : Int32) (σ : pd_H) : L_law_L767 l3 σ =
 cond (pd_ob (l3 + 1) ((σ.1 266 0).toNatClampNeg)) none
 (pd_bI (X_out (σ.1 265 (Int32.toNatClampNeg (l3 + 1))) σ) fun s1 v2 =>
 cond (pd_ob (l3 + 1) ((s1.1 266 0).toNatClampNeg)) none
 (pd_bI (M_out (s1.1 265 (Int32.toNatClampNeg (l3 + 1))) s1) fun s3 v4 =>
 cond (decide (v2 = v4))
 (L_law_L1270 l3 s3)
 (some (s3, some (pd_i 0))))) := (pd_dr_eq (cd := pd_cd) (fun q => Nat.beq q 18 || Nat.beq q 212 || Nat.beq q 255 || Nat.beq q 278 || Nat.beq q 301 || Nat.beq q 324 || Nat.beq q 368 || Nat.beq q 401 || Nat.beq q 435 || Nat.beq q 458 || Nat.beq q 511 || Nat.beq q 574 || Nat.beq q 587 || Nat.beq q 610 || Nat.beq q 633 || Nat.beq q 646 || Nat.beq q 659 || Nat.beq q 672 || Nat.beq q 705 || Nat.beq q 718 || Nat.beq q 731 || Nat.beq q 744 || Nat.beq q 767 || Nat.beq q 790 || Nat.beq q 813 || Nat.beq q 836 || Nat.beq q 859 || Nat.beq q 882 || Nat.beq q 926 || Nat.beq q 970 || Nat.beq q 993 || Nat.beq q 1006 || Nat.beq q 1029 || Nat.beq q 1062 || Nat.beq q 1095 || Nat.beq q 1108 || Nat.beq q 1121 || Nat.beq q 1144 || Nat.beq q 1177 || Nat.beq q 1200 || Nat.beq q 1233 || Nat.beq q 1256 || Nat.beq q 1270) 17 _).symm.trans rfl
set_option maxRecDepth 20000 in
theorem L_law_L744_eq (l3 : Int32) (σ : pd_H) : L_law_L744 l3 σ =
 cond (pd_ob (l3 + 1) ((σ.1 266 0).toNatClampNeg)) none
 (pd_bI (X_again (σ.1 265 (Int32.toNatClampNeg (l3 + 1))) σ) fun s1 v2 =>
 cond (pd_ob (l3 + 1) ((s1.1 266 0).toNatClampNeg)) none
 (pd_bI (M_again (s1.1 265 (Int32.toNatClampNeg (l3 + 1))) s1) fun s3 v4 =>
 cond (decide (v2 = v4))
 (L_law_L1270 l3 s3)
 (some (s3, some (pd_i 0))))) := (pd_dr_eq (cd := pd_cd) (fun q => Nat.beq q 18 || Nat.beq q 212 || Nat.beq q 255 || Nat.beq q 278 || Nat.beq q 301 || Nat.beq q 324 || Nat.beq q 368 || Nat.beq q 401 || Nat.beq q 435 || Nat.beq q 458 || Nat.beq q 511 || Nat.beq q 574 || Nat.beq q 587 || Nat.beq q 610 || Nat.beq q 633 || Nat.beq q 646 || Nat.beq q 659 || Nat.beq q 672 || Nat.beq q 705 || Nat.beq q 718 || Nat.beq q 731 || Nat.beq q 744 || Nat.beq q 767 || Nat.beq q 790 || Nat.beq q 813 || Nat.beq q 836 || Nat.beq q 859 || Nat.beq q 882 || Nat.beq q 926 || Nat.beq q 970 || Nat.beq q 993 || Nat.beq q 1006 || Nat.beq q 1029 || Nat.beq q 1062 || Nat.beq q 1095 || Nat.beq q 1108 || Nat.beq q 1121 || Nat.beq q 1144 || Nat.beq q 1177 || Nat.beq q 1200 || Nat.beq q 1233 || Nat.beq q 1256 || Nat.beq q 1270) 17 _).symm.trans rfl
set_option maxRecDepth 20000 in
theorem L_law_L731_eq (l3 : Int32) (σ : pd_H) : L_law_L731 l3 σ =
 pd_bI (X_redo σ) fun s1 v2 =>
 pd_bI (M_redo s1) fun s3 v4 =>
 cond (decide (v2 = v4))
 (L_law_L1270 l3 s3)
 (some (s3, some (pd_i 0))) := (pd_dr_eq (cd := pd_cd) (fun q => Nat.beq q 18 || Nat.beq q 212 || Nat.beq q 255 || Nat.beq q 278 || Nat.beq q 301 || Nat.beq q 324 || Nat.beq q 368 || Nat.beq q 401 || Nat.beq q 435 || Nat.beq q 458 || Nat.beq q 511 || Nat.beq q 574 || Nat.beq q 587 || Nat.beq q 610 || Nat.beq q 633 || Nat.beq q 646 || Nat.beq q 659 || Nat.beq q 672 || Nat.beq q 705 || Nat.beq q 718 || Nat.beq q 731 || Nat.beq q 744 || Nat.beq q 767 || Nat.beq q 790 || Nat.beq q 813 || Nat.beq q 836 || Nat.beq q 859 || Nat.beq q 882 || Nat.beq q 926 || Nat.beq q 970 || Nat.beq q 993 || Nat.beq q 1006 || Nat.beq q 1029 || Nat.beq q 1062 || Nat.beq q 1095 || Nat.beq q 1108 || Nat.beq q 1121 || Nat.beq q 1144 || Nat.beq q 1177 || Nat.beq q 1200 || Nat.beq q 1233 || Nat.beq q 1256 || Nat.beq q 1270) 7 _).symm.trans rfl
set_option maxRecDepth 20000 in
theorem L_law_L718_eq (l3 : Int32) (σ : pd_H) : L_law_L718 l3 σ =
 pd_bI (X_undo σ) fun s1 v2 =>
 pd_bI (M_undo s1) fun s3 v4 =>
 cond (decide (v2 = v4))
 (L_law_L1270 l3 s3)
 (some (s3, some (pd_i 0))) := (pd_dr_eq (cd := pd_cd) (fun q => Nat.beq q 18 || Nat.beq q 212 || Nat.beq q 255 || Nat.beq q 278 || Nat.beq q 301 || Nat.beq q 324 || Nat.beq q 368 || Nat.beq q 401 || Nat.beq q 435 || Nat.beq q 458 || Nat.beq q 511 || Nat.beq q 574 || Nat.beq q 587 || Nat.beq q 610 || Nat.beq q 633 || Nat.beq q 646 || Nat.beq q 659 || Nat.beq q 672 || Nat.beq q 705 || Nat.beq q 718 || Nat.beq q 731 || Nat.beq q 744 || Nat.beq q 767 || Nat.beq q 790 || Nat.beq q 813 || Nat.beq q 836 || Nat.beq q 859 || Nat.beq q 882 || Nat.beq q 926 || Nat.beq q 970 || Nat.beq q 993 || Nat.beq q 1006 || Nat.beq q 1029 || Nat.beq q 1062 || Nat.beq q 1095 || Nat.beq q 1108 || Nat.beq q 1121 || Nat.beq q 1144 || Nat.beq q 1177 || Nat.beq q 1200 || Nat.beq q 1233 || Nat.beq q 1256 || Nat.beq q 1270) 7 _).symm.trans rfl
set_option maxRecDepth 20000 in
theorem L_law_L705_eq (l3 : Int32) (σ : pd_H) : L_law_L705 l3 σ =
 pd_bI (X_lay σ) fun s1 v2 =>
 pd_bI (M_lay s1) fun s3 v4 =>
 cond (decide (v2 = v4))
 (L_law_L1270 l3 s3)
 (some (s3, some (pd_i 0))) := (pd_dr_eq (cd := pd_cd) (fun q => Nat.beq q 18 || Nat.beq q 212 || Nat.beq q 255 || Nat.beq q 278 || Nat.beq q 301 || Nat.beq q 324 || Nat.beq q 368 || Nat.beq q 401 || Nat.beq q 435 || Nat.beq q 458 || Nat.beq q 511 || Nat.beq q 574 || Nat.beq q 587 || Nat.beq q 610 || Nat.beq q 633 || Nat.beq q 646 || Nat.beq q 659 || Nat.beq q 672 || Nat.beq q 705 || Nat.beq q 718 || Nat.beq q 731 || Nat.beq q 744 || Nat.beq q 767 || Nat.beq q 790 || Nat.beq q 813 || Nat.beq q 836 || Nat.beq q 859 || Nat.beq q 882 || Nat.beq q 926 || Nat.beq q 970 || Nat.beq q 993 || Nat.beq q 1006 || Nat.beq q 1029 || Nat.beq q 1062 || Nat.beq q 1095 || Nat.beq q 1108 || Nat.beq q 1121 || Nat.beq q 1144 || Nat.beq q 1177 || Nat.beq q 1200 || Nat.beq q 1233 || Nat.beq q 1256 || Nat.beq q 1270) 7 _).symm.trans rfl
set_option maxRecDepth 20000 in
theorem L_law_L672_eq (l3 : Int32) (σ : pd_H) : L_law_L672 l3 σ =
 cond (pd_ob (l3 + 1) ((σ.1 266 0).toNatClampNeg)) none
 (cond (pd_ob (l3 + 2) ((σ.1 266 0).toNatClampNeg)) none
 (pd_bI (X_text (σ.1 265 (Int32.toNatClampNeg (l3 + 1))) (σ.1 265 (Int32.toNatClampNeg (l3 + 2))) σ) fun s1 v2 =>
 cond (pd_ob (l3 + 1) ((s1.1 266 0).toNatClampNeg)) none
 (cond (pd_ob (l3 + 2) ((s1.1 266 0).toNatClampNeg)) none
 (pd_bI (M_text (s1.1 265 (Int32.toNatClampNeg (l3 + 1))) (s1.1 265 (Int32.toNatClampNeg (l3 + 2))) s1) fun s3 v4 =>
 cond (decide (v2 = v4))
 (L_law_L1270 l3 s3)
 (some (s3, some (pd_i 0))))))) := (pd_dr_eq (cd := pd_cd) (fun q => Nat.beq q 18 || Nat.beq q 212 || Nat.beq q 255 || Nat.beq q 278 || Nat.beq q 301 || Nat.beq q 324 || Nat.beq q 368 || Nat.beq q 401 || Nat.beq q 435 || Nat.beq q 458 || Nat.beq q 511 || Nat.beq q 574 || Nat.beq q 587 || Nat.beq q 610 || Nat.beq q 633 || Nat.beq q 646 || Nat.beq q 659 || Nat.beq q 672 || Nat.beq q 705 || Nat.beq q 718 || Nat.beq q 731 || Nat.beq q 744 || Nat.beq q 767 || Nat.beq q 790 || Nat.beq q 813 || Nat.beq q 836 || Nat.beq q 859 || Nat.beq q 882 || Nat.beq q 926 || Nat.beq q 970 || Nat.beq q 993 || Nat.beq q 1006 || Nat.beq q 1029 || Nat.beq q 1062 || Nat.beq q 1095 || Nat.beq q 1108 || Nat.beq q 1121 || Nat.beq q 1144 || Nat.beq q 1177 || Nat.beq q 1200 || Nat.beq q 1233 || Nat.beq q 1256 || Nat.beq q 1270) 27 _).symm.trans rfl
set_option maxRecDepth 20000 in
theorem L_law_L659_eq (l3 : Int32) (σ : pd_H) : L_law_L659 l3 σ =
 pd_bI (X_read σ) fun s1 v2 =>
 pd_bI (M_read s1) fun s3 v4 =>
 cond (decide (v2 = v4))
 (L_law_L1270 l3 s3)
 (some (s3, some (pd_i 0))) := (pd_dr_eq (cd := pd_cd) (fun q => Nat.beq q 18 || Nat.beq q 212 || Nat.beq q 255 || Nat.beq q 278 || Nat.beq q 301 || Nat.beq q 324 || Nat.beq q 368 || Nat.beq q 401 || Nat.beq q 435 || Nat.beq q 458 || Nat.beq q 511 || Nat.beq q 574 || Nat.beq q 587 || Nat.beq q 610 || Nat.beq q 633 || Nat.beq q 646 || Nat.beq q 659 || Nat.beq q 672 || Nat.beq q 705 || Nat.beq q 718 || Nat.beq q 731 || Nat.beq q 744 || Nat.beq q 767 || Nat.beq q 790 || Nat.beq q 813 || Nat.beq q 836 || Nat.beq q 859 || Nat.beq q 882 || Nat.beq q 926 || Nat.beq q 970 || Nat.beq q 993 || Nat.beq q 1006 || Nat.beq q 1029 || Nat.beq q 1062 || Nat.beq q 1095 || Nat.beq q 1108 || Nat.beq q 1121 || Nat.beq q 1144 || Nat.beq q 1177 || Nat.beq q 1200 || Nat.beq q 1233 || Nat.beq q 1256 || Nat.beq q 1270) 7 _).symm.trans rfl
set_option maxRecDepth 20000 in
theorem L_law_L646_eq (l3 : Int32) (σ : pd_H) : L_law_L646 l3 σ =
 pd_bI (X_flaw σ) fun s1 v2 =>
 pd_bI (M_flaw s1) fun s3 v4 =>
 cond (decide (v2 = v4))
 (L_law_L1270 l3 s3)
 (some (s3, some (pd_i 0))) := (pd_dr_eq (cd := pd_cd) (fun q => Nat.beq q 18 || Nat.beq q 212 || Nat.beq q 255 || Nat.beq q 278 || Nat.beq q 301 || Nat.beq q 324 || Nat.beq q 368 || Nat.beq q 401 || Nat.beq q 435 || Nat.beq q 458 || Nat.beq q 511 || Nat.beq q 574 || Nat.beq q 587 || Nat.beq q 610 || Nat.beq q 633 || Nat.beq q 646 || Nat.beq q 659 || Nat.beq q 672 || Nat.beq q 705 || Nat.beq q 718 || Nat.beq q 731 || Nat.beq q 744 || Nat.beq q 767 || Nat.beq q 790 || Nat.beq q 813 || Nat.beq q 836 || Nat.beq q 859 || Nat.beq q 882 || Nat.beq q 926 || Nat.beq q 970 || Nat.beq q 993 || Nat.beq q 1006 || Nat.beq q 1029 || Nat.beq q 1062 || Nat.beq q 1095 || Nat.beq q 1108 || Nat.beq q 1121 || Nat.beq q 1144 || Nat.beq q 1177 || Nat.beq q 1200 || Nat.beq q 1233 || Nat.beq q 1256 || Nat.beq q 1270) 7 _).symm.trans rfl
set_option maxRecDepth 20000 in
theorem L_law_L633_eq (l3 : Int32) (σ : pd_H) : L_law_L633 l3 σ =
 pd_bI (X_wipe σ) fun s1 v2 =>
 pd_bI (M_wipe s1) fun s3 v4 =>
 cond (decide (v2 = v4))
 (L_law_L1270 l3 s3)
 (some (s3, some (pd_i 0))) := (pd_dr_eq (cd := pd_cd) (fun q => Nat.beq q 18 || Nat.beq q 212 || Nat.beq q 255 || Nat.beq q 278 || Nat.beq q 301 || Nat.beq q 324 || Nat.beq q 368 || Nat.beq q 401 || Nat.beq q 435 || Nat.beq q 458 || Nat.beq q 511 || Nat.beq q 574 || Nat.beq q 587 || Nat.beq q 610 || Nat.beq q 633 || Nat.beq q 646 || Nat.beq q 659 || Nat.beq q 672 || Nat.beq q 705 || Nat.beq q 718 || Nat.beq q 731 || Nat.beq q 744 || Nat.beq q 767 || Nat.beq q 790 || Nat.beq q 813 || Nat.beq q 836 || Nat.beq q 859 || Nat.beq q 882 || Nat.beq q 926 || Nat.beq q 970 || Nat.beq q 993 || Nat.beq q 1006 || Nat.beq q 1029 || Nat.beq q 1062 || Nat.beq q 1095 || Nat.beq q 1108 || Nat.beq q 1121 || Nat.beq q 1144 || Nat.beq q 1177 || Nat.beq q 1200 || Nat.beq q 1233 || Nat.beq q 1256 || Nat.beq q 1270) 7 _).symm.trans rfl
set_option maxRecDepth 20000 in
theorem L_law_L610_eq (l3 : Int32) (σ : pd_H) : L_law_L610 l3 σ =
 cond (pd_ob (l3 + 1) ((σ.1 266 0).toNatClampNeg)) none
 (pd_bI (X_type (σ.1 265 (Int32.toNatClampNeg (l3 + 1))) σ) fun s1 v2 =>
 cond (pd_ob (l3 + 1) ((s1.1 266 0).toNatClampNeg)) none
 (pd_bI (M_type (s1.1 265 (Int32.toNatClampNeg (l3 + 1))) s1) fun s3 v4 =>
 cond (decide (v2 = v4))
 (L_law_L1270 l3 s3)
 (some (s3, some (pd_i 0))))) := (pd_dr_eq (cd := pd_cd) (fun q => Nat.beq q 18 || Nat.beq q 212 || Nat.beq q 255 || Nat.beq q 278 || Nat.beq q 301 || Nat.beq q 324 || Nat.beq q 368 || Nat.beq q 401 || Nat.beq q 435 || Nat.beq q 458 || Nat.beq q 511 || Nat.beq q 574 || Nat.beq q 587 || Nat.beq q 610 || Nat.beq q 633 || Nat.beq q 646 || Nat.beq q 659 || Nat.beq q 672 || Nat.beq q 705 || Nat.beq q 718 || Nat.beq q 731 || Nat.beq q 744 || Nat.beq q 767 || Nat.beq q 790 || Nat.beq q 813 || Nat.beq q 836 || Nat.beq q 859 || Nat.beq q 882 || Nat.beq q 926 || Nat.beq q 970 || Nat.beq q 993 || Nat.beq q 1006 || Nat.beq q 1029 || Nat.beq q 1062 || Nat.beq q 1095 || Nat.beq q 1108 || Nat.beq q 1121 || Nat.beq q 1144 || Nat.beq q 1177 || Nat.beq q 1200 || Nat.beq q 1233 || Nat.beq q 1256 || Nat.beq q 1270) 17 _).symm.trans rfl
set_option maxRecDepth 20000 in
theorem L_law_L587_eq (l3 : Int32) (σ : pd_H) : L_law_L587 l3 σ =
 cond (pd_ob (l3 + 1) ((σ.1 266 0).toNatClampNeg)) none
 (pd_bI (X_preview (σ.1 265 (Int32.toNatClampNeg (l3 + 1))) σ) fun s1 v2 =>
 cond (pd_ob (l3 + 1) ((s1.1 266 0).toNatClampNeg)) none
 (pd_bI (M_preview (s1.1 265 (Int32.toNatClampNeg (l3 + 1))) s1) fun s3 v4 =>
 cond (decide (v2 = v4))
 (L_law_L1270 l3 s3)
 (some (s3, some (pd_i 0))))) := (pd_dr_eq (cd := pd_cd) (fun q => Nat.beq q 18 || Nat.beq q 212 || Nat.beq q 255 || Nat.beq q 278 || Nat.beq q 301 || Nat.beq q 324 || Nat.beq q 368 || Nat.beq q 401 || Nat.beq q 435 || Nat.beq q 458 || Nat.beq q 511 || Nat.beq q 574 || Nat.beq q 587 || Nat.beq q 610 || Nat.beq q 633 || Nat.beq q 646 || Nat.beq q 659 || Nat.beq q 672 || Nat.beq q 705 || Nat.beq q 718 || Nat.beq q 731 || Nat.beq q 744 || Nat.beq q 767 || Nat.beq q 790 || Nat.beq q 813 || Nat.beq q 836 || Nat.beq q 859 || Nat.beq q 882 || Nat.beq q 926 || Nat.beq q 970 || Nat.beq q 993 || Nat.beq q 1006 || Nat.beq q 1029 || Nat.beq q 1062 || Nat.beq q 1095 || Nat.beq q 1108 || Nat.beq q 1121 || Nat.beq q 1144 || Nat.beq q 1177 || Nat.beq q 1200 || Nat.beq q 1233 || Nat.beq q 1256 || Nat.beq q 1270) 17 _).symm.trans rfl
set_option maxRecDepth 20000 in
theorem L_law_L574_eq (l3 : Int32) (σ : pd_H) : L_law_L574 l3 σ =
 pd_bI (X_drop σ) fun s1 v2 =>
 pd_bI (M_drop s1) fun s3 v4 =>
 cond (decide (v2 = v4))
 (L_law_L1270 l3 s3)
 (some (s3, some (pd_i 0))) := (pd_dr_eq (cd := pd_cd) (fun q => Nat.beq q 18 || Nat.beq q 212 || Nat.beq q 255 || Nat.beq q 278 || Nat.beq q 301 || Nat.beq q 324 || Nat.beq q 368 || Nat.beq q 401 || Nat.beq q 435 || Nat.beq q 458 || Nat.beq q 511 || Nat.beq q 574 || Nat.beq q 587 || Nat.beq q 610 || Nat.beq q 633 || Nat.beq q 646 || Nat.beq q 659 || Nat.beq q 672 || Nat.beq q 705 || Nat.beq q 718 || Nat.beq q 731 || Nat.beq q 744 || Nat.beq q 767 || Nat.beq q 790 || Nat.beq q 813 || Nat.beq q 836 || Nat.beq q 859 || Nat.beq q 882 || Nat.beq q 926 || Nat.beq q 970 || Nat.beq q 993 || Nat.beq q 1006 || Nat.beq q 1029 || Nat.beq q 1062 || Nat.beq q 1095 || Nat.beq q 1108 || Nat.beq q 1121 || Nat.beq q 1144 || Nat.beq q 1177 || Nat.beq q 1200 || Nat.beq q 1233 || Nat.beq q 1256 || Nat.beq q 1270) 7 _).symm.trans rfl
set_option maxRecDepth 20000 in
theorem L_law_L511_eq (l3 : Int32) (σ : pd_H) : L_law_L511 l3 σ =
 cond (pd_ob (l3 + 1) ((σ.1 266 0).toNatClampNeg)) none
 (cond (pd_ob (l3 + 2) ((σ.1 266 0).toNatClampNeg)) none
 (cond (pd_ob (l3 + 3) ((σ.1 266 0).toNatClampNeg)) none
 (cond (pd_ob (l3 + 4) ((σ.1 266 0).toNatClampNeg)) none
 (cond (pd_ob (l3 + 5) ((σ.1 266 0).toNatClampNeg)) none
 (pd_bI (X_move (σ.1 265 (Int32.toNatClampNeg (l3 + 1))) (σ.1 265 (Int32.toNatClampNeg (l3 + 2))) (σ.1 265 (Int32.toNatClampNeg (l3 + 3))) (σ.1 265 (Int32.toNatClampNeg (l3 + 4))) (σ.1 265 (Int32.toNatClampNeg (l3 + 5))) σ) fun s1 v2 =>
 cond (pd_ob (l3 + 1) ((s1.1 266 0).toNatClampNeg)) none
 (cond (pd_ob (l3 + 2) ((s1.1 266 0).toNatClampNeg)) none
 (cond (pd_ob (l3 + 3) ((s1.1 266 0).toNatClampNeg)) none
 (cond (pd_ob (l3 + 4) ((s1.1 266 0).toNatClampNeg)) none
 (cond (pd_ob (l3 + 5) ((s1.1 266 0).toNatClampNeg)) none
 (pd_bI (M_move (s1.1 265 (Int32.toNatClampNeg (l3 + 1))) (s1.1 265 (Int32.toNatClampNeg (l3 + 2))) (s1.1 265 (Int32.toNatClampNeg (l3 + 3))) (s1.1 265 (Int32.toNatClampNeg (l3 + 4))) (s1.1 265 (Int32.toNatClampNeg (l3 + 5))) s1) fun s3 v4 =>
 cond (decide (v2 = v4))
 (L_law_L1270 l3 s3)
 (some (s3, some (pd_i 0))))))))))))) := (pd_dr_eq (cd := pd_cd) (fun q => Nat.beq q 18 || Nat.beq q 212 || Nat.beq q 255 || Nat.beq q 278 || Nat.beq q 301 || Nat.beq q 324 || Nat.beq q 368 || Nat.beq q 401 || Nat.beq q 435 || Nat.beq q 458 || Nat.beq q 511 || Nat.beq q 574 || Nat.beq q 587 || Nat.beq q 610 || Nat.beq q 633 || Nat.beq q 646 || Nat.beq q 659 || Nat.beq q 672 || Nat.beq q 705 || Nat.beq q 718 || Nat.beq q 731 || Nat.beq q 744 || Nat.beq q 767 || Nat.beq q 790 || Nat.beq q 813 || Nat.beq q 836 || Nat.beq q 859 || Nat.beq q 882 || Nat.beq q 926 || Nat.beq q 970 || Nat.beq q 993 || Nat.beq q 1006 || Nat.beq q 1029 || Nat.beq q 1062 || Nat.beq q 1095 || Nat.beq q 1108 || Nat.beq q 1121 || Nat.beq q 1144 || Nat.beq q 1177 || Nat.beq q 1200 || Nat.beq q 1233 || Nat.beq q 1256 || Nat.beq q 1270) 57 _).symm.trans rfl
set_option maxRecDepth 20000 in
theorem L_law_L458_eq (l3 : Int32) (σ : pd_H) : L_law_L458 l3 σ =
 cond (pd_ob (l3 + 1) ((σ.1 266 0).toNatClampNeg)) none
 (cond (pd_ob (l3 + 2) ((σ.1 266 0).toNatClampNeg)) none
 (cond (pd_ob (l3 + 3) ((σ.1 266 0).toNatClampNeg)) none
 (cond (pd_ob (l3 + 4) ((σ.1 266 0).toNatClampNeg)) none
 (pd_bI (X_change (σ.1 265 (Int32.toNatClampNeg (l3 + 1))) (σ.1 265 (Int32.toNatClampNeg (l3 + 2))) (σ.1 265 (Int32.toNatClampNeg (l3 + 3))) (σ.1 265 (Int32.toNatClampNeg (l3 + 4))) σ) fun s1 v2 =>
 cond (pd_ob (l3 + 1) ((s1.1 266 0).toNatClampNeg)) none
 (cond (pd_ob (l3 + 2) ((s1.1 266 0).toNatClampNeg)) none
 (cond (pd_ob (l3 + 3) ((s1.1 266 0).toNatClampNeg)) none
 (cond (pd_ob (l3 + 4) ((s1.1 266 0).toNatClampNeg)) none
 (pd_bI (M_change (s1.1 265 (Int32.toNatClampNeg (l3 + 1))) (s1.1 265 (Int32.toNatClampNeg (l3 + 2))) (s1.1 265 (Int32.toNatClampNeg (l3 + 3))) (s1.1 265 (Int32.toNatClampNeg (l3 + 4))) s1) fun s3 v4 =>
 cond (decide (v2 = v4))
 (L_law_L1270 l3 s3)
 (some (s3, some (pd_i 0))))))))))) := (pd_dr_eq (cd := pd_cd) (fun q => Nat.beq q 18 || Nat.beq q 212 || Nat.beq q 255 || Nat.beq q 278 || Nat.beq q 301 || Nat.beq q 324 || Nat.beq q 368 || Nat.beq q 401 || Nat.beq q 435 || Nat.beq q 458 || Nat.beq q 511 || Nat.beq q 574 || Nat.beq q 587 || Nat.beq q 610 || Nat.beq q 633 || Nat.beq q 646 || Nat.beq q 659 || Nat.beq q 672 || Nat.beq q 705 || Nat.beq q 718 || Nat.beq q 731 || Nat.beq q 744 || Nat.beq q 767 || Nat.beq q 790 || Nat.beq q 813 || Nat.beq q 836 || Nat.beq q 859 || Nat.beq q 882 || Nat.beq q 926 || Nat.beq q 970 || Nat.beq q 993 || Nat.beq q 1006 || Nat.beq q 1029 || Nat.beq q 1062 || Nat.beq q 1095 || Nat.beq q 1108 || Nat.beq q 1121 || Nat.beq q 1144 || Nat.beq q 1177 || Nat.beq q 1200 || Nat.beq q 1233 || Nat.beq q 1256 || Nat.beq q 1270) 47 _).symm.trans rfl
set_option maxRecDepth 20000 in
theorem L_law_L435_eq (l3 : Int32) (σ : pd_H) : L_law_L435 l3 σ =
 cond (pd_ob (l3 + 1) ((σ.1 266 0).toNatClampNeg)) none
 (pd_bI (X_changed (σ.1 265 (Int32.toNatClampNeg (l3 + 1))) σ) fun s1 v2 =>
 cond (pd_ob (l3 + 1) ((s1.1 266 0).toNatClampNeg)) none
 (pd_bI (M_changed (s1.1 265 (Int32.toNatClampNeg (l3 + 1))) s1) fun s3 v4 =>
 cond (decide (v2 = v4))
 (L_law_L1270 l3 s3)
 (some (s3, some (pd_i 0))))) := (pd_dr_eq (cd := pd_cd) (fun q => Nat.beq q 18 || Nat.beq q 212 || Nat.beq q 255 || Nat.beq q 278 || Nat.beq q 301 || Nat.beq q 324 || Nat.beq q 368 || Nat.beq q 401 || Nat.beq q 435 || Nat.beq q 458 || Nat.beq q 511 || Nat.beq q 574 || Nat.beq q 587 || Nat.beq q 610 || Nat.beq q 633 || Nat.beq q 646 || Nat.beq q 659 || Nat.beq q 672 || Nat.beq q 705 || Nat.beq q 718 || Nat.beq q 731 || Nat.beq q 744 || Nat.beq q 767 || Nat.beq q 790 || Nat.beq q 813 || Nat.beq q 836 || Nat.beq q 859 || Nat.beq q 882 || Nat.beq q 926 || Nat.beq q 970 || Nat.beq q 993 || Nat.beq q 1006 || Nat.beq q 1029 || Nat.beq q 1062 || Nat.beq q 1095 || Nat.beq q 1108 || Nat.beq q 1121 || Nat.beq q 1144 || Nat.beq q 1177 || Nat.beq q 1200 || Nat.beq q 1233 || Nat.beq q 1256 || Nat.beq q 1270) 17 _).symm.trans rfl
set_option maxRecDepth 20000 in
theorem L_law_L401_eq (l3 : Int32) (σ : pd_H) : L_law_L401 l3 σ =
 cond (pd_ob (l3 + 1) ((σ.1 266 0).toNatClampNeg)) none
 (cond (pd_ob (l3 + 2) ((σ.1 266 0).toNatClampNeg)) none
 (pd_bJ (X_bits (σ.1 265 (Int32.toNatClampNeg (l3 + 1))) (σ.1 265 (Int32.toNatClampNeg (l3 + 2))) σ) fun s1 v2 =>
 cond (pd_ob (l3 + 1) ((s1.1 266 0).toNatClampNeg)) none
 (cond (pd_ob (l3 + 2) ((s1.1 266 0).toNatClampNeg)) none
 (pd_bJ (M_bits (s1.1 265 (Int32.toNatClampNeg (l3 + 1))) (s1.1 265 (Int32.toNatClampNeg (l3 + 2))) s1) fun s3 v4 =>
 cond (decide ((lg_cmp v2 v4) = 0))
 (L_law_L1270 l3 s3)
 (some (s3, some (pd_i 0))))))) := (pd_dr_eq (cd := pd_cd) (fun q => Nat.beq q 18 || Nat.beq q 212 || Nat.beq q 255 || Nat.beq q 278 || Nat.beq q 301 || Nat.beq q 324 || Nat.beq q 368 || Nat.beq q 401 || Nat.beq q 435 || Nat.beq q 458 || Nat.beq q 511 || Nat.beq q 574 || Nat.beq q 587 || Nat.beq q 610 || Nat.beq q 633 || Nat.beq q 646 || Nat.beq q 659 || Nat.beq q 672 || Nat.beq q 705 || Nat.beq q 718 || Nat.beq q 731 || Nat.beq q 744 || Nat.beq q 767 || Nat.beq q 790 || Nat.beq q 813 || Nat.beq q 836 || Nat.beq q 859 || Nat.beq q 882 || Nat.beq q 926 || Nat.beq q 970 || Nat.beq q 993 || Nat.beq q 1006 || Nat.beq q 1029 || Nat.beq q 1062 || Nat.beq q 1095 || Nat.beq q 1108 || Nat.beq q 1121 || Nat.beq q 1144 || Nat.beq q 1177 || Nat.beq q 1200 || Nat.beq q 1233 || Nat.beq q 1256 || Nat.beq q 1270) 28 _).symm.trans rfl
set_option maxRecDepth 20000 in
theorem L_law_L368_eq (l3 : Int32) (σ : pd_H) : L_law_L368 l3 σ =
 cond (pd_ob (l3 + 1) ((σ.1 266 0).toNatClampNeg)) none
 (cond (pd_ob (l3 + 2) ((σ.1 266 0).toNatClampNeg)) none
 (pd_bI (X_what (σ.1 265 (Int32.toNatClampNeg (l3 + 1))) (σ.1 265 (Int32.toNatClampNeg (l3 + 2))) σ) fun s1 v2 =>
 cond (pd_ob (l3 + 1) ((s1.1 266 0).toNatClampNeg)) none
 (cond (pd_ob (l3 + 2) ((s1.1 266 0).toNatClampNeg)) none
 (pd_bI (M_what (s1.1 265 (Int32.toNatClampNeg (l3 + 1))) (s1.1 265 (Int32.toNatClampNeg (l3 + 2))) s1) fun s3 v4 =>
 cond (decide (v2 = v4))
 (L_law_L1270 l3 s3)
 (some (s3, some (pd_i 0))))))) := (pd_dr_eq (cd := pd_cd) (fun q => Nat.beq q 18 || Nat.beq q 212 || Nat.beq q 255 || Nat.beq q 278 || Nat.beq q 301 || Nat.beq q 324 || Nat.beq q 368 || Nat.beq q 401 || Nat.beq q 435 || Nat.beq q 458 || Nat.beq q 511 || Nat.beq q 574 || Nat.beq q 587 || Nat.beq q 610 || Nat.beq q 633 || Nat.beq q 646 || Nat.beq q 659 || Nat.beq q 672 || Nat.beq q 705 || Nat.beq q 718 || Nat.beq q 731 || Nat.beq q 744 || Nat.beq q 767 || Nat.beq q 790 || Nat.beq q 813 || Nat.beq q 836 || Nat.beq q 859 || Nat.beq q 882 || Nat.beq q 926 || Nat.beq q 970 || Nat.beq q 993 || Nat.beq q 1006 || Nat.beq q 1029 || Nat.beq q 1062 || Nat.beq q 1095 || Nat.beq q 1108 || Nat.beq q 1121 || Nat.beq q 1144 || Nat.beq q 1177 || Nat.beq q 1200 || Nat.beq q 1233 || Nat.beq q 1256 || Nat.beq q 1270) 27 _).symm.trans rfl
set_option maxRecDepth 20000 in
theorem L_law_L324_eq (l3 : Int32) (σ : pd_H) : L_law_L324 l3 σ =
 cond (pd_ob (l3 + 1) ((σ.1 266 0).toNatClampNeg)) none
 (cond (pd_ob (l3 + 2) ((σ.1 266 0).toNatClampNeg)) none
 (cond (pd_ob (l3 + 3) ((σ.1 266 0).toNatClampNeg)) none
 (pd_bJ (X_get (σ.1 265 (Int32.toNatClampNeg (l3 + 1))) (σ.1 265 (Int32.toNatClampNeg (l3 + 2))) (σ.1 265 (Int32.toNatClampNeg (l3 + 3))) σ) fun s1 v2 =>
 cond (pd_ob (l3 + 1) ((s1.1 266 0).toNatClampNeg)) none
 (cond (pd_ob (l3 + 2) ((s1.1 266 0).toNatClampNeg)) none
 (cond (pd_ob (l3 + 3) ((s1.1 266 0).toNatClampNeg)) none
 (pd_bJ (M_get (s1.1 265 (Int32.toNatClampNeg (l3 + 1))) (s1.1 265 (Int32.toNatClampNeg (l3 + 2))) (s1.1 265 (Int32.toNatClampNeg (l3 + 3))) s1) fun s3 v4 =>
 cond (decide ((lg_cmp v2 v4) = 0))
 (L_law_L1270 l3 s3)
 (some (s3, some (pd_i 0))))))))) := (pd_dr_eq (cd := pd_cd) (fun q => Nat.beq q 18 || Nat.beq q 212 || Nat.beq q 255 || Nat.beq q 278 || Nat.beq q 301 || Nat.beq q 324 || Nat.beq q 368 || Nat.beq q 401 || Nat.beq q 435 || Nat.beq q 458 || Nat.beq q 511 || Nat.beq q 574 || Nat.beq q 587 || Nat.beq q 610 || Nat.beq q 633 || Nat.beq q 646 || Nat.beq q 659 || Nat.beq q 672 || Nat.beq q 705 || Nat.beq q 718 || Nat.beq q 731 || Nat.beq q 744 || Nat.beq q 767 || Nat.beq q 790 || Nat.beq q 813 || Nat.beq q 836 || Nat.beq q 859 || Nat.beq q 882 || Nat.beq q 926 || Nat.beq q 970 || Nat.beq q 993 || Nat.beq q 1006 || Nat.beq q 1029 || Nat.beq q 1062 || Nat.beq q 1095 || Nat.beq q 1108 || Nat.beq q 1121 || Nat.beq q 1144 || Nat.beq q 1177 || Nat.beq q 1200 || Nat.beq q 1233 || Nat.beq q 1256 || Nat.beq q 1270) 38 _).symm.trans rfl
set_option maxRecDepth 20000 in
theorem L_law_L301_eq (l3 : Int32) (σ : pd_H) : L_law_L301 l3 σ =
 cond (pd_ob (l3 + 1) ((σ.1 266 0).toNatClampNeg)) none
 (pd_bI (X_size (σ.1 265 (Int32.toNatClampNeg (l3 + 1))) σ) fun s1 v2 =>
 cond (pd_ob (l3 + 1) ((s1.1 266 0).toNatClampNeg)) none
 (pd_bI (M_size (s1.1 265 (Int32.toNatClampNeg (l3 + 1))) s1) fun s3 v4 =>
 cond (decide (v2 = v4))
 (L_law_L1270 l3 s3)
 (some (s3, some (pd_i 0))))) := (pd_dr_eq (cd := pd_cd) (fun q => Nat.beq q 18 || Nat.beq q 212 || Nat.beq q 255 || Nat.beq q 278 || Nat.beq q 301 || Nat.beq q 324 || Nat.beq q 368 || Nat.beq q 401 || Nat.beq q 435 || Nat.beq q 458 || Nat.beq q 511 || Nat.beq q 574 || Nat.beq q 587 || Nat.beq q 610 || Nat.beq q 633 || Nat.beq q 646 || Nat.beq q 659 || Nat.beq q 672 || Nat.beq q 705 || Nat.beq q 718 || Nat.beq q 731 || Nat.beq q 744 || Nat.beq q 767 || Nat.beq q 790 || Nat.beq q 813 || Nat.beq q 836 || Nat.beq q 859 || Nat.beq q 882 || Nat.beq q 926 || Nat.beq q 970 || Nat.beq q 993 || Nat.beq q 1006 || Nat.beq q 1029 || Nat.beq q 1062 || Nat.beq q 1095 || Nat.beq q 1108 || Nat.beq q 1121 || Nat.beq q 1144 || Nat.beq q 1177 || Nat.beq q 1200 || Nat.beq q 1233 || Nat.beq q 1256 || Nat.beq q 1270) 17 _).symm.trans rfl
set_option maxRecDepth 20000 in
theorem L_law_L278_eq (l3 : Int32) (σ : pd_H) : L_law_L278 l3 σ =
 cond (pd_ob (l3 + 1) ((σ.1 266 0).toNatClampNeg)) none
 (pd_bI (X_kind (σ.1 265 (Int32.toNatClampNeg (l3 + 1))) σ) fun s1 v2 =>
 cond (pd_ob (l3 + 1) ((s1.1 266 0).toNatClampNeg)) none
 (pd_bI (M_kind (s1.1 265 (Int32.toNatClampNeg (l3 + 1))) s1) fun s3 v4 =>
 cond (decide (v2 = v4))
 (L_law_L1270 l3 s3)
 (some (s3, some (pd_i 0))))) := (pd_dr_eq (cd := pd_cd) (fun q => Nat.beq q 18 || Nat.beq q 212 || Nat.beq q 255 || Nat.beq q 278 || Nat.beq q 301 || Nat.beq q 324 || Nat.beq q 368 || Nat.beq q 401 || Nat.beq q 435 || Nat.beq q 458 || Nat.beq q 511 || Nat.beq q 574 || Nat.beq q 587 || Nat.beq q 610 || Nat.beq q 633 || Nat.beq q 646 || Nat.beq q 659 || Nat.beq q 672 || Nat.beq q 705 || Nat.beq q 718 || Nat.beq q 731 || Nat.beq q 744 || Nat.beq q 767 || Nat.beq q 790 || Nat.beq q 813 || Nat.beq q 836 || Nat.beq q 859 || Nat.beq q 882 || Nat.beq q 926 || Nat.beq q 970 || Nat.beq q 993 || Nat.beq q 1006 || Nat.beq q 1029 || Nat.beq q 1062 || Nat.beq q 1095 || Nat.beq q 1108 || Nat.beq q 1121 || Nat.beq q 1144 || Nat.beq q 1177 || Nat.beq q 1200 || Nat.beq q 1233 || Nat.beq q 1256 || Nat.beq q 1270) 17 _).symm.trans rfl
set_option maxRecDepth 20000 in
theorem L_law_L255_eq (l3 : Int32) (σ : pd_H) : L_law_L255 l3 σ =
 cond (pd_ob (l3 + 1) ((σ.1 266 0).toNatClampNeg)) none
 (pd_bI (X_lose (σ.1 265 (Int32.toNatClampNeg (l3 + 1))) σ) fun s1 v2 =>
 cond (pd_ob (l3 + 1) ((s1.1 266 0).toNatClampNeg)) none
 (pd_bI (M_lose (s1.1 265 (Int32.toNatClampNeg (l3 + 1))) s1) fun s3 v4 =>
 cond (decide (v2 = v4))
 (L_law_L1270 l3 s3)
 (some (s3, some (pd_i 0))))) := (pd_dr_eq (cd := pd_cd) (fun q => Nat.beq q 18 || Nat.beq q 212 || Nat.beq q 255 || Nat.beq q 278 || Nat.beq q 301 || Nat.beq q 324 || Nat.beq q 368 || Nat.beq q 401 || Nat.beq q 435 || Nat.beq q 458 || Nat.beq q 511 || Nat.beq q 574 || Nat.beq q 587 || Nat.beq q 610 || Nat.beq q 633 || Nat.beq q 646 || Nat.beq q 659 || Nat.beq q 672 || Nat.beq q 705 || Nat.beq q 718 || Nat.beq q 731 || Nat.beq q 744 || Nat.beq q 767 || Nat.beq q 790 || Nat.beq q 813 || Nat.beq q 836 || Nat.beq q 859 || Nat.beq q 882 || Nat.beq q 926 || Nat.beq q 970 || Nat.beq q 993 || Nat.beq q 1006 || Nat.beq q 1029 || Nat.beq q 1062 || Nat.beq q 1095 || Nat.beq q 1108 || Nat.beq q 1121 || Nat.beq q 1144 || Nat.beq q 1177 || Nat.beq q 1200 || Nat.beq q 1233 || Nat.beq q 1256 || Nat.beq q 1270) 17 _).symm.trans rfl
set_option maxRecDepth 20000 in
theorem L_law_L212_eq (l3 : Int32) (σ : pd_H) : L_law_L212 l3 σ =
 cond (pd_ob (l3 + 1) ((σ.1 266 0).toNatClampNeg)) none
 (cond (pd_ob (l3 + 2) ((σ.1 266 0).toNatClampNeg)) none
 (cond (pd_ob (l3 + 3) ((σ.1 266 0).toNatClampNeg)) none
 (pd_bI (X_row (σ.1 265 (Int32.toNatClampNeg (l3 + 1))) (σ.1 265 (Int32.toNatClampNeg (l3 + 2))) (σ.1 265 (Int32.toNatClampNeg (l3 + 3))) σ) fun s1 v2 =>
 cond (pd_ob (l3 + 1) ((s1.1 266 0).toNatClampNeg)) none
 (cond (pd_ob (l3 + 2) ((s1.1 266 0).toNatClampNeg)) none
 (cond (pd_ob (l3 + 3) ((s1.1 266 0).toNatClampNeg)) none
 (pd_bI (M_row (s1.1 265 (Int32.toNatClampNeg (l3 + 1))) (s1.1 265 (Int32.toNatClampNeg (l3 + 2))) (s1.1 265 (Int32.toNatClampNeg (l3 + 3))) s1) fun s3 v4 =>
 cond (decide (v2 = v4))
 (L_law_L1270 l3 s3)
 (some (s3, some (pd_i 0))))))))) := (pd_dr_eq (cd := pd_cd) (fun q => Nat.beq q 18 || Nat.beq q 212 || Nat.beq q 255 || Nat.beq q 278 || Nat.beq q 301 || Nat.beq q 324 || Nat.beq q 368 || Nat.beq q 401 || Nat.beq q 435 || Nat.beq q 458 || Nat.beq q 511 || Nat.beq q 574 || Nat.beq q 587 || Nat.beq q 610 || Nat.beq q 633 || Nat.beq q 646 || Nat.beq q 659 || Nat.beq q 672 || Nat.beq q 705 || Nat.beq q 718 || Nat.beq q 731 || Nat.beq q 744 || Nat.beq q 767 || Nat.beq q 790 || Nat.beq q 813 || Nat.beq q 836 || Nat.beq q 859 || Nat.beq q 882 || Nat.beq q 926 || Nat.beq q 970 || Nat.beq q 993 || Nat.beq q 1006 || Nat.beq q 1029 || Nat.beq q 1062 || Nat.beq q 1095 || Nat.beq q 1108 || Nat.beq q 1121 || Nat.beq q 1144 || Nat.beq q 1177 || Nat.beq q 1200 || Nat.beq q 1233 || Nat.beq q 1256 || Nat.beq q 1270) 37 _).symm.trans rfl
