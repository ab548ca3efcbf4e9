theorem L_cell_eq (b : Int32) (σ : pd_H) : L_cell b σ =
 cond (decide ((σ.1 923 0) ≤ b))
 (some (σ, some (pd_i ((40503 : Int32) * (b + 3)))))
 (cond (pd_ob b ((σ.1 923 0).toNatClampNeg)) none
  (some (σ, some (pd_i (σ.1 922 (Int32.toNatClampNeg b)))))) := (p4_dr_eq (cd := pd_cd) (fun q => false) 10 _).symm.trans rfl
theorem L_low_eq (a : Int32) (b : Int32) (σ : pd_H) : L_low a b σ =
 cond (decide (b = 0)) none
 (some (σ, some (pd_i ((a &&& 2147483647) - (a &&& 2147483647) / b * b)))) := (p4_dr_eq (cd := pd_cd) (fun q => false) 6 _).symm.trans rfl
noncomputable def L_rows_L5 (l0 : Nat) (l3 : Int32) (l4 : Int32) (d5 : Option pd_V) (σ : pd_H) : Option pd_R := p4_u (82, 5, [some (pd_r 9 l0), some (pd_r 30 922), some (pd_r 20 920), some (pd_i l3), some (pd_i l4), d5], [], σ)
theorem L_rows_eq (a : Nat) (σ : pd_H) : L_rows a σ =
 L_rows_L5 a 1 0 none σ := (p4_dr_eq (cd := pd_cd) (fun q => Nat.beq q 5) 5 _).symm.trans rfl
theorem L_rows_L5_eq (l0 : Nat) (l3 : Int32) (l4 : Int32) (d5 : Option pd_V) (σ : pd_H) : L_rows_L5 l0 l3 l4 d5 σ =
 cond (decide ((6 : Int32) ≤ l4))
 (cond (decide (l3 = 0 ∨ l3 = 1)) (some (σ, some (pd_i l3))) none)
 (cond (decide (l3 = 0))
  (cond (decide (l3 = 0 ∨ l3 = 1)) (some (σ, some (pd_i l3))) none)
  (pd_bI (L_cell l4 σ) fun s1 v2 =>
   pd_bI (L_low v2 13 s1) fun s3 v4 =>
   cond (pd_ob l4 (p4_len 920)) none
   (pd_bI (L_low (v2 >>> (5 &&& 31)) 12 (pd_upI s3 920 (Int32.toNatClampNeg l4) v4)) fun s5 v6 =>
   cond (pd_ob ((6 : Int32) + l4) (p4_len 920)) none
   (cond (pd_ob l4 (p4_len 920)) none
   (cond (pd_ob ((6 : Int32) + l4) (p4_len 920)) none
   (pd_bI (Y_row l0 l4 ((pd_upI s5 920 (Int32.toNatClampNeg ((6 : Int32) + l4)) ((1 : Int32) + v6)).1 920 (Int32.toNatClampNeg l4)) ((pd_upI s5 920 (Int32.toNatClampNeg ((6 : Int32) + l4)) ((1 : Int32) + v6)).1 920 (Int32.toNatClampNeg ((6 : Int32) + l4))) (pd_upI s5 920 (Int32.toNatClampNeg ((6 : Int32) + l4)) ((1 : Int32) + v6))) fun s7 v8 =>
   cond (pd_ob ((6 : Int32) + l4) (p4_len 920)) none
   (cond (decide (v8 = (s7.1 920 (Int32.toNatClampNeg ((6 : Int32) + l4)))))
   (L_rows_L5 l0 1 (l4 + 1) (some (pd_i v2)) s7)
   (L_rows_L5 l0 0 (l4 + 1) (some (pd_i v2)) s7)))))))) := (p4_dr_eq (cd := pd_cd) (fun q => Nat.beq q 5) 50 _).symm.trans rfl
noncomputable def L_way_L80 (l0 : Int32) (l1 : Int32) (l2 : Int32) (d3 : Option pd_V) (t0 : Int32) (σ : pd_H) : Option pd_R := p4_u (83, 80, [some (pd_i l0), some (pd_i l1), some (pd_i l2), d3], [pd_i t0], σ)
theorem L_way_eq (a : Int32) (b : Int32) (σ : pd_H) : L_way a b σ =
 pd_bI (L_low b 3 σ) fun s1 v2 =>
 cond (decide (a = (8 : Int32)))
 (cond (decide (v2 = 0))
  (L_way_L80 a b v2 none 19 s1)
  (L_way_L80 a b v2 none 16 s1))
 (cond (decide (a = (9 : Int32)))
  (L_way_L80 a b v2 none ((17 : Int32) + v2) s1)
  (cond (decide (a = (10 : Int32)))
   (cond (decide (v2 = 0))
    (L_way_L80 a b v2 none 19 s1)
    (cond (decide (v2 = (1 : Int32)))
     (L_way_L80 a b v2 none 18 s1)
     (L_way_L80 a b v2 none 21 s1)))
   (cond (decide (v2 = 0))
    (L_way_L80 a b v2 none 19 s1)
    (L_way_L80 a b v2 none 12 s1)))) := (p4_dr_eq (cd := pd_cd) (fun q => Nat.beq q 80) 21 _).symm.trans rfl
theorem L_way_L80_eq (l0 : Int32) (l1 : Int32) (l2 : Int32) (d3 : Option pd_V) (t0 : Int32) (σ : pd_H) : L_way_L80 l0 l1 l2 d3 t0 σ =
 cond (decide ((8 : Int32) ≤ l0))
 (cond (decide (l0 = (12 : Int32)))
  (pd_bI (L_low (l1 >>> (2 &&& 31)) 9 σ) fun s1 v2 =>
   some (s1, some (pd_i ((8 : Int32) + v2))))
  (some (σ, some (pd_i t0))))
 (cond (decide (l2 = 0))
  (some (σ, some (pd_i l0)))
  (some (σ, some (pd_i ((8 : Int32) + l0))))) := (p4_dr_eq (cd := pd_cd) (fun q => Nat.beq q 80) 16 _).symm.trans rfl
noncomputable def L_change_L45 (l0 : Nat) (l1 : Int32) (l3 : Int32) (l4 : Int32) (d5 : Option pd_V) (d6 : Option pd_V) (d7 : Option pd_V) (t0 : Int32) (σ : pd_H) : Option pd_R := p4_u (84, 45, [some (pd_r 9 l0), some (pd_i l1), some (pd_r 20 920), some (pd_i l3), some (pd_i l4), d5, d6, d7], [pd_i t0], σ)
noncomputable def L_change_L92 (l0 : Nat) (l1 : Int32) (l3 : Int32) (l4 : Int32) (l5 : Int32) (l6 : Int32) (d7 : Option pd_V) (t0 : Int32) (σ : pd_H) : Option pd_R := p4_u (84, 92, [some (pd_r 9 l0), some (pd_i l1), some (pd_r 20 920), some (pd_i l3), some (pd_i l4), some (pd_i l5), some (pd_i l6), d7], [pd_i t0], σ)
theorem L_change_eq (a : Nat) (b : Int32) (σ : pd_H) : L_change a b σ =
 pd_bI (L_low b 6 σ) fun s1 v2 =>
 cond (pd_ob ((6 : Int32) + v2) (p4_len 920)) none
 (pd_bI (L_low (b >>> (3 &&& 31)) (s1.1 920 (Int32.toNatClampNeg ((6 : Int32) + v2))) s1) fun s3 v4 =>
 pd_bI (L_low (b >>> (9 &&& 31)) 2 s3) fun s5 v6 =>
 cond (decide (v6 = 0))
 (L_change_L45 a b v2 v4 none none none v2 s5)
 (pd_bI (L_low (b >>> (10 &&& 31)) 6 s5) fun s7 v8 =>
  L_change_L45 a b v2 v4 none none none v8 s7)) := (p4_dr_eq (cd := pd_cd) (fun q => Nat.beq q 45 || Nat.beq q 92) 26 _).symm.trans rfl
theorem L_change_L45_eq (l0 : Nat) (l1 : Int32) (l3 : Int32) (l4 : Int32) (d5 : Option pd_V) (d6 : Option pd_V) (d7 : Option pd_V) (t0 : Int32) (σ : pd_H) : L_change_L45 l0 l1 l3 l4 d5 d6 d7 t0 σ =
 cond (pd_ob ((6 : Int32) + t0) (p4_len 920)) none
 (pd_bI (L_low (l1 >>> (12 &&& 31)) (σ.1 920 (Int32.toNatClampNeg ((6 : Int32) + t0))) σ) fun s1 v2 =>
 pd_bI (L_low (l1 >>> (15 &&& 31)) 3 s1) fun s3 v4 =>
 cond (decide (v4 = 0))
 (cond (pd_ob t0 (p4_len 920)) none
  (cond (decide ((8 : Int32) ≤ (s3.1 920 (Int32.toNatClampNeg t0))))
  (L_change_L92 l0 l1 l3 l4 t0 v2 d7 8 s3)
  (cond (pd_ob t0 (p4_len 920)) none
   (L_change_L92 l0 l1 l3 l4 t0 v2 d7 (s3.1 920 (Int32.toNatClampNeg t0)) s3))))
 (L_change_L92 l0 l1 l3 l4 t0 v2 d7 8 s3)) := (p4_dr_eq (cd := pd_cd) (fun q => Nat.beq q 45 || Nat.beq q 92) 27 _).symm.trans rfl
theorem L_change_L92_eq (l0 : Nat) (l1 : Int32) (l3 : Int32) (l4 : Int32) (l5 : Int32) (l6 : Int32) (d7 : Option pd_V) (t0 : Int32) (σ : pd_H) : L_change_L92 l0 l1 l3 l4 l5 l6 d7 t0 σ =
 pd_bI (L_low (l1 >>> (7 &&& 31)) 3 σ) fun s1 v2 =>
 cond (decide (v2 = 0))
 (pd_bI (Y_move l0 l5 l6 t0 l3 l4 s1) fun s7 v8 =>
  cond (decide (v8 ≤ 0))
  (some (s7, some (pd_i 0)))
  (some (s7, some (pd_i 1))))
 (cond (pd_ob l3 (p4_len 920)) none
  (pd_bI (L_way (s1.1 920 (Int32.toNatClampNeg l3)) (l1 >>> (9 &&& 31)) s1) fun s3 v4 =>
  pd_bI (Y_change l0 l3 v4 l4 (l1 >>> (11 &&& 31)) s3) fun s5 v6 =>
  cond (decide (v6 ≤ 0))
  (some (s5, some (pd_i 0)))
  (some (s5, some (pd_i 1))))) := (p4_dr_eq (cd := pd_cd) (fun q => Nat.beq q 45 || Nat.beq q 92) 25 _).symm.trans rfl
noncomputable def L_draft_L6 (l0 : Nat) (l2 : Int32) (l4 : Int32) (l5 : Int32) (σ : pd_H) : Option pd_R := p4_u (85, 6, [some (pd_r 9 l0), some (pd_r 30 922), some (pd_i l2), some (pd_r 20 920), some (pd_i l4), some (pd_i l5)], [], σ)
theorem L_draft_eq (a : Nat) (c : Int32) (σ : pd_H) : L_draft a c σ =
 L_draft_L6 a c 1 0 σ := (p4_dr_eq (cd := pd_cd) (fun q => Nat.beq q 6) 5 _).symm.trans rfl
theorem L_draft_L6_eq (l0 : Nat) (l2 : Int32) (l4 : Int32) (l5 : Int32) (σ : pd_H) : L_draft_L6 l0 l2 l4 l5 σ =
 cond (decide ((3 : Int32) ≤ l5))
 (cond (decide (l4 = 0 ∨ l4 = 1)) (some (σ, some (pd_i l4))) none)
 (cond (decide (l4 = 0))
  (cond (decide (l4 = 0 ∨ l4 = 1)) (some (σ, some (pd_i l4))) none)
  (pd_bI (L_cell (((6 : Int32) + ((3 : Int32) * l2)) + l5) σ) fun s1 v2 =>
   pd_bI (L_change l0 v2 s1) fun s3 v4 =>
   L_draft_L6 l0 l2 v4 (l5 + 1) s3)) := (p4_dr_eq (cd := pd_cd) (fun q => Nat.beq q 6) 21 _).symm.trans rfl
noncomputable def L_alike_L5 (l0 : Nat) (l1 : Nat) (l3 : Int32) (l4 : Int32) (d5 : Option pd_V) (σ : pd_H) : Option pd_R := p4_u (86, 5, [some (pd_r 9 l0), some (pd_r 9 l1), some (pd_r 20 920), some (pd_i l3), some (pd_i l4), d5], [], σ)
noncomputable def L_alike_L19 (l0 : Nat) (l1 : Nat) (l3 : Int32) (l4 : Int32) (l5 : Int32) (σ : pd_H) : Option pd_R := p4_u (86, 19, [some (pd_r 9 l0), some (pd_r 9 l1), some (pd_r 20 920), some (pd_i l3), some (pd_i l4), some (pd_i l5)], [], σ)
theorem L_alike_eq (a : Nat) (b : Nat) (σ : pd_H) : L_alike a b σ =
 L_alike_L5 a b 1 0 none σ := (p4_dr_eq (cd := pd_cd) (fun q => Nat.beq q 5 || Nat.beq q 19) 5 _).symm.trans rfl
theorem L_alike_L5_eq (l0 : Nat) (l1 : Nat) (l3 : Int32) (l4 : Int32) (d5 : Option pd_V) (σ : pd_H) : L_alike_L5 l0 l1 l3 l4 d5 σ =
 cond (decide ((6 : Int32) ≤ l4))
 (cond (decide (l3 = 0 ∨ l3 = 1)) (some (σ, some (pd_i l3))) none)
 (cond (decide (l3 = 0))
  (cond (decide (l3 = 0 ∨ l3 = 1)) (some (σ, some (pd_i l3))) none)
  (L_alike_L19 l0 l1 l3 l4 0 σ)) := (p4_dr_eq (cd := pd_cd) (fun q => Nat.beq q 5 || Nat.beq q 19) 8 _).symm.trans rfl
theorem L_alike_L19_eq (l0 : Nat) (l1 : Nat) (l3 : Int32) (l4 : Int32) (l5 : Int32) (σ : pd_H) : L_alike_L19 l0 l1 l3 l4 l5 σ =
 cond (pd_ob ((6 : Int32) + l4) (p4_len 920)) none
 (cond (decide ((σ.1 920 (Int32.toNatClampNeg ((6 : Int32) + l4))) ≤ l5))
 (L_alike_L5 l0 l1 l3 (l4 + 1) (some (pd_i l5)) σ)
 (cond (decide (l3 = 0))
  (L_alike_L5 l0 l1 l3 (l4 + 1) (some (pd_i l5)) σ)
  (pd_bI (Y_what l0 l4 l5 σ) fun s1 v2 =>
   pd_bI (Y_what l1 l4 l5 s1) fun s3 v4 =>
   cond (decide (v2 = v4))
   (pd_bJ (Y_get l0 l4 8 l5 s3) fun s5 v6 =>
    pd_bJ (Y_get l1 l4 8 l5 s5) fun s7 v8 =>
    cond (decide ((lg_cmp v6 v8) = 0))
    (L_alike_L19 l0 l1 1 l4 (l5 + 1) s7)
    (L_alike_L19 l0 l1 0 l4 (l5 + 1) s7))
   (L_alike_L19 l0 l1 0 l4 (l5 + 1) s3)))) := (p4_dr_eq (cd := pd_cd) (fun q => Nat.beq q 5 || Nat.beq q 19) 36 _).symm.trans rfl
noncomputable def L_size_L4 (l0 : Int32) (l1 : Int32) (l2 : Int32) (σ : pd_H) : Option pd_R := p4_u (87, 4, [some (pd_i l0), some (pd_i l1), some (pd_i l2)], [], σ)
theorem L_size_eq (a : Int32) (σ : pd_H) : L_size a σ =
 L_size_L4 a 0 0 σ := (p4_dr_eq (cd := pd_cd) (fun q => Nat.beq q 4) 5 _).symm.trans rfl
theorem L_size_L4_eq (l0 : Int32) (l1 : Int32) (l2 : Int32) (σ : pd_H) : L_size_L4 l0 l1 l2 σ =
 cond (decide ((24 : Int32) ≤ l2))
 (some (σ, some (pd_i l1)))
 (L_size_L4 l0 (l1 + ((l0 >>> (l2 &&& 31)) &&& 1)) (l2 + 1) σ) := (p4_dr_eq (cd := pd_cd) (fun q => Nat.beq q 4) 14 _).symm.trans rfl
noncomputable def L_lays_L6 (l0 : Nat) (l3 : Int32) (l4 : Int32) (l5 : Int32) (d6 : Option pd_V) (d7 : Option pd_V) (σ : pd_H) : Option pd_R := p4_u (88, 6, [some (pd_r 9 l0), some (pd_r 30 922), some (pd_r 20 920), some (pd_i l3), some (pd_i l4), some (pd_i l5), d6, d7], [], σ)
noncomputable def L_lays_L47 (l0 : Nat) (l3 : Int32) (l4 : Int32) (l5 : Int32) (d6 : Option pd_V) (d7 : Option pd_V) (t0 : Int32) (σ : pd_H) : Option pd_R := p4_u (88, 47, [some (pd_r 9 l0), some (pd_r 30 922), some (pd_r 20 920), some (pd_i l3), some (pd_i l4), some (pd_i l5), d6, d7], [pd_i t0], σ)
theorem L_lays_eq (a : Nat) (d : Int32) (σ : pd_H) : L_lays a d σ =
 L_lays_L6 a d 0 0 none none σ := (p4_dr_eq (cd := pd_cd) (fun q => Nat.beq q 6 || Nat.beq q 47) 5 _).symm.trans rfl
theorem L_lays_L6_eq (l0 : Nat) (l3 : Int32) (l4 : Int32) (l5 : Int32) (d6 : Option pd_V) (d7 : Option pd_V) (σ : pd_H) : L_lays_L6 l0 l3 l4 l5 d6 d7 σ =
 cond (decide ((7 : Int32) ≤ l5))
 (some (σ, some (pd_i l4)))
 (cond (decide (l4 = 0))
  (cond (pd_ob ((12 : Int32) + l5) (p4_len 920)) none
   (cond (decide ((σ.1 920 (Int32.toNatClampNeg ((12 : Int32) + l5))) < 0))
   (L_lays_L47 l0 l3 l4 l5 d6 d7 0 σ)
   (cond (pd_ob ((12 : Int32) + l5) (p4_len 920)) none
    (cond (decide (((l3 >>> ((σ.1 920 (Int32.toNatClampNeg ((12 : Int32) + l5))) &&& 31)) &&& 1) = 0))
    (L_lays_L47 l0 l3 l4 l5 d6 d7 1 σ)
    (L_lays_L47 l0 l3 l4 l5 d6 d7 0 σ)))))
  (some (σ, some (pd_i l4)))) := (p4_dr_eq (cd := pd_cd) (fun q => Nat.beq q 6 || Nat.beq q 47) 24 _).symm.trans rfl
theorem L_lays_L47_eq (l0 : Nat) (l3 : Int32) (l4 : Int32) (l5 : Int32) (d6 : Option pd_V) (d7 : Option pd_V) (t0 : Int32) (σ : pd_H) : L_lays_L47 l0 l3 l4 l5 d6 d7 t0 σ =
 cond (decide (t0 = 0))
 (L_lays_L6 l0 l3 l4 (l5 + 1) (some (pd_i t0)) d7 σ)
 (pd_bI (L_draft l0 l5 σ) fun s1 v2 =>
  cond (decide (v2 = 0))
  (L_lays_L6 l0 l3 l4 (l5 + 1) (some (pd_i t0)) d7 s1)
  (pd_bI (Y_lay l0 s1) fun s3 v4 =>
   cond (decide (0 ≤ v4))
   (L_lays_L6 l0 l3 0 (l5 + 1) (some (pd_i t0)) (some (pd_i v4)) s3)
   (L_lays_L6 l0 l3 v4 (l5 + 1) (some (pd_i t0)) (some (pd_i v4)) s3))) := (p4_dr_eq (cd := pd_cd) (fun q => Nat.beq q 6 || Nat.beq q 47) 20 _).symm.trans rfl
