noncomputable def L_law_L45 (d7 : Option pd_V) (d8 : Option pd_V) (d9 : Option pd_V) (d10 : Option pd_V) (d11 : Option pd_V) (d12 : Option pd_V) (d13 : Option pd_V) (d14 : Option pd_V) (d15 : Option pd_V) (d16 : Option pd_V) (d17 : Option pd_V) (d18 : Option pd_V) (d19 : Option pd_V) (d20 : Option pd_V) (d21 : Option pd_V) (d22 : Option pd_V) (d23 : Option pd_V) (σ : pd_H) : Option pd_R := p4_u (89, 45, [some (pd_r 30 922), some (pd_r 9 0), some (pd_r 9 230), some (pd_r 9 460), some (pd_r 9 690), some (pd_r 20 920), some (pd_r 21 921), d7, d8, d9, d10, d11, d12, d13, d14, d15, d16, d17, d18, d19, d20, d21, d22, d23], [], σ)
noncomputable def L_law_L104 (l7 : Int64) (l9 : Int32) (l10 : Int32) (l11 : Int32) (d12 : Option pd_V) (d13 : Option pd_V) (d14 : Option pd_V) (d15 : Option pd_V) (d16 : Option pd_V) (d17 : Option pd_V) (d18 : Option pd_V) (d19 : Option pd_V) (d20 : Option pd_V) (d21 : Option pd_V) (d22 : Option pd_V) (d23 : Option pd_V) (σ : pd_H) : Option pd_R := p4_u (89, 104, [some (pd_r 30 922), some (pd_r 9 0), some (pd_r 9 230), some (pd_r 9 460), some (pd_r 9 690), some (pd_r 20 920), some (pd_r 21 921), some (pd_j l7), none, some (pd_i l9), some (pd_i l10), some (pd_i l11), d12, d13, d14, d15, d16, d17, d18, d19, d20, d21, d22, d23], [], σ)
noncomputable def L_law_L260 (l7 : Int64) (l9 : Int32) (l10 : Int32) (d11 : Option pd_V) (d12 : Option pd_V) (d13 : Option pd_V) (d14 : Option pd_V) (d15 : Option pd_V) (d16 : Option pd_V) (d17 : Option pd_V) (d18 : Option pd_V) (d19 : Option pd_V) (d20 : Option pd_V) (d21 : Option pd_V) (d22 : Option pd_V) (d23 : Option pd_V) (σ : pd_H) : Option pd_R := p4_u (89, 260, [some (pd_r 30 922), some (pd_r 9 0), some (pd_r 9 230), some (pd_r 9 460), some (pd_r 9 690), some (pd_r 20 920), some (pd_r 21 921), some (pd_j l7), none, some (pd_i l9), some (pd_i l10), d11, d12, d13, d14, d15, d16, d17, d18, d19, d20, d21, d22, d23], [], σ)
noncomputable def L_law_L151 (l7 : Int64) (l9 : Int32) (l10 : Int32) (l11 : Int32) (l12 : Int32) (d13 : Option pd_V) (d14 : Option pd_V) (d15 : Option pd_V) (d16 : Option pd_V) (d17 : Option pd_V) (d18 : Option pd_V) (d19 : Option pd_V) (d20 : Option pd_V) (d21 : Option pd_V) (d22 : Option pd_V) (d23 : Option pd_V) (t0 : Int32) (t1 : Int32) (σ : pd_H) : Option pd_R := p4_u (89, 151, [some (pd_r 30 922), some (pd_r 9 0), some (pd_r 9 230), some (pd_r 9 460), some (pd_r 9 690), some (pd_r 20 920), some (pd_r 21 921), some (pd_j l7), none, some (pd_i l9), some (pd_i l10), some (pd_i l11), some (pd_i l12), d13, d14, d15, d16, d17, d18, d19, d20, d21, d22, d23], [pd_i t0, pd_i t1, pd_r 20 920], σ)
noncomputable def L_law_L311 (l7 : Int64) (d9 : Option pd_V) (l10 : Int32) (d11 : Option pd_V) (d12 : Option pd_V) (d13 : Option pd_V) (d14 : Option pd_V) (d15 : Option pd_V) (d16 : Option pd_V) (d17 : Option pd_V) (d18 : Option pd_V) (d19 : Option pd_V) (d20 : Option pd_V) (d21 : Option pd_V) (d22 : Option pd_V) (d23 : Option pd_V) (t0 : Int32) (σ : pd_H) : Option pd_R := p4_u (89, 311, [some (pd_r 30 922), some (pd_r 9 0), some (pd_r 9 230), some (pd_r 9 460), some (pd_r 9 690), some (pd_r 20 920), some (pd_r 21 921), some (pd_j l7), none, d9, some (pd_i l10), d11, d12, d13, d14, d15, d16, d17, d18, d19, d20, d21, d22, d23], [pd_i t0], σ)
noncomputable def L_law_L237 (l7 : Int64) (d9 : Option pd_V) (l10 : Int32) (l11 : Int32) (l12 : Int32) (d13 : Option pd_V) (d14 : Option pd_V) (d15 : Option pd_V) (d16 : Option pd_V) (d17 : Option pd_V) (d18 : Option pd_V) (d19 : Option pd_V) (d20 : Option pd_V) (d21 : Option pd_V) (d22 : Option pd_V) (d23 : Option pd_V) (t0 : Int32) (σ : pd_H) : Option pd_R := p4_u (89, 237, [some (pd_r 30 922), some (pd_r 9 0), some (pd_r 9 230), some (pd_r 9 460), some (pd_r 9 690), some (pd_r 20 920), some (pd_r 21 921), some (pd_j l7), none, d9, some (pd_i l10), some (pd_i l11), some (pd_i l12), d13, d14, d15, d16, d17, d18, d19, d20, d21, d22, d23], [pd_i t0], σ)
noncomputable def L_law_L323 (d0 : Option pd_V) (d2 : Option pd_V) (d3 : Option pd_V) (d4 : Option pd_V) (d5 : Option pd_V) (d6 : Option pd_V) (d7 : Option pd_V) (d8 : Option pd_V) (l9 : Int32) (d10 : Option pd_V) (d11 : Option pd_V) (d12 : Option pd_V) (d13 : Option pd_V) (d14 : Option pd_V) (d15 : Option pd_V) (d16 : Option pd_V) (d17 : Option pd_V) (d18 : Option pd_V) (d19 : Option pd_V) (d20 : Option pd_V) (d21 : Option pd_V) (d22 : Option pd_V) (d23 : Option pd_V) (σ : pd_H) : Option pd_R := p4_u (89, 323, [d0, some (pd_r 9 0), d2, d3, d4, d5, d6, d7, d8, some (pd_i l9), d10, d11, d12, d13, d14, d15, d16, d17, d18, d19, d20, d21, d22, d23], [], σ)
noncomputable def L_law_L460 (l7 : Int64) (d9 : Option pd_V) (l10 : Int32) (l11 : Int32) (l12 : Int32) (l13 : Int32) (l14 : Int32) (l15 : Int64) (l17 : Int32) (l18 : Int32) (d19 : Option pd_V) (d20 : Option pd_V) (d21 : Option pd_V) (d22 : Option pd_V) (d23 : Option pd_V) (t0 : Nat) (t1 : Nat) (σ : pd_H) : Option pd_R := p4_u (89, 460, [some (pd_r 30 922), some (pd_r 9 0), some (pd_r 9 230), some (pd_r 9 460), some (pd_r 9 690), some (pd_r 20 920), some (pd_r 21 921), some (pd_j l7), none, d9, some (pd_i l10), some (pd_i l11), some (pd_i l12), some (pd_i l13), some (pd_i l14), some (pd_j l15), none, some (pd_i l17), some (pd_i l18), d19, d20, d21, d22, d23], [pd_r 9 t0, pd_r 9 t1], σ)
noncomputable def L_law_L573 (l7 : Int64) (l9 : Int32) (l10 : Int32) (l11 : Int32) (l12 : Int32) (d13 : Option pd_V) (d14 : Option pd_V) (d15 : Option pd_V) (d16 : Option pd_V) (l17 : Int32) (d18 : Option pd_V) (l19 : Int32) (d20 : Option pd_V) (d21 : Option pd_V) (d22 : Option pd_V) (d23 : Option pd_V) (σ : pd_H) : Option pd_R := p4_u (89, 573, [some (pd_r 30 922), some (pd_r 9 0), some (pd_r 9 230), some (pd_r 9 460), some (pd_r 9 690), some (pd_r 20 920), some (pd_r 21 921), some (pd_j l7), none, some (pd_i l9), some (pd_i l10), some (pd_i l11), some (pd_i l12), d13, d14, d15, d16, some (pd_i l17), d18, some (pd_i l19), d20, d21, d22, d23], [], σ)
noncomputable def L_law_L523 (l7 : Int64) (d9 : Option pd_V) (l10 : Int32) (l11 : Int32) (l12 : Int32) (l13 : Int32) (l14 : Int32) (l15 : Int64) (l17 : Int32) (d18 : Option pd_V) (d19 : Option pd_V) (d20 : Option pd_V) (d21 : Option pd_V) (d22 : Option pd_V) (d23 : Option pd_V) (σ : pd_H) : Option pd_R := p4_u (89, 523, [some (pd_r 30 922), some (pd_r 9 0), some (pd_r 9 230), some (pd_r 9 460), some (pd_r 9 690), some (pd_r 20 920), some (pd_r 21 921), some (pd_j l7), none, d9, some (pd_i l10), some (pd_i l11), some (pd_i l12), some (pd_i l13), some (pd_i l14), some (pd_j l15), none, some (pd_i l17), d18, d19, d20, d21, d22, d23], [], σ)
noncomputable def L_law_L698 (d1 : Option pd_V) (d2 : Option pd_V) (l7 : Int64) (l9 : Int32) (l10 : Int32) (l11 : Int32) (l12 : Int32) (d13 : Option pd_V) (d14 : Option pd_V) (d15 : Option pd_V) (d16 : Option pd_V) (d17 : Option pd_V) (d18 : Option pd_V) (l19 : Int32) (l20 : Int32) (d21 : Option pd_V) (d22 : Option pd_V) (d23 : Option pd_V) (σ : pd_H) : Option pd_R := p4_u (89, 698, [some (pd_r 30 922), d1, d2, some (pd_r 9 460), some (pd_r 9 690), some (pd_r 20 920), some (pd_r 21 921), some (pd_j l7), none, some (pd_i l9), some (pd_i l10), some (pd_i l11), some (pd_i l12), d13, d14, d15, d16, d17, d18, some (pd_i l19), some (pd_i l20), d21, d22, d23], [], σ)
noncomputable def L_law_L593 (l7 : Int64) (l9 : Int32) (l10 : Int32) (l11 : Int32) (l12 : Int32) (d13 : Option pd_V) (d14 : Option pd_V) (d15 : Option pd_V) (d16 : Option pd_V) (l17 : Int32) (d18 : Option pd_V) (l19 : Int32) (l20 : Int32) (d21 : Option pd_V) (d22 : Option pd_V) (d23 : Option pd_V) (σ : pd_H) : Option pd_R := p4_u (89, 593, [some (pd_r 30 922), some (pd_r 9 0), some (pd_r 9 230), some (pd_r 9 460), some (pd_r 9 690), some (pd_r 20 920), some (pd_r 21 921), some (pd_j l7), none, some (pd_i l9), some (pd_i l10), some (pd_i l11), some (pd_i l12), d13, d14, d15, d16, some (pd_i l17), d18, some (pd_i l19), some (pd_i l20), d21, d22, d23], [], σ)
noncomputable def L_law_L549 (l7 : Int64) (d9 : Option pd_V) (l10 : Int32) (l11 : Int32) (l12 : Int32) (d13 : Option pd_V) (d14 : Option pd_V) (d15 : Option pd_V) (d16 : Option pd_V) (l17 : Int32) (d18 : Option pd_V) (d19 : Option pd_V) (d20 : Option pd_V) (d21 : Option pd_V) (d22 : Option pd_V) (d23 : Option pd_V) (t0 : Int64) (t1 : Int64) (σ : pd_H) : Option pd_R := p4_u (89, 549, [some (pd_r 30 922), some (pd_r 9 0), some (pd_r 9 230), some (pd_r 9 460), some (pd_r 9 690), some (pd_r 20 920), some (pd_r 21 921), some (pd_j l7), none, d9, some (pd_i l10), some (pd_i l11), some (pd_i l12), d13, d14, d15, d16, some (pd_i l17), d18, d19, d20, d21, d22, d23], [pd_j t0, pd_j t1], σ)
noncomputable def L_law_L797 (d1 : Option pd_V) (d2 : Option pd_V) (l7 : Int64) (l9 : Int32) (l10 : Int32) (d11 : Option pd_V) (d12 : Option pd_V) (d13 : Option pd_V) (d14 : Option pd_V) (d15 : Option pd_V) (d16 : Option pd_V) (d17 : Option pd_V) (d18 : Option pd_V) (l19 : Int32) (l20 : Int32) (d21 : Option pd_V) (d22 : Option pd_V) (d23 : Option pd_V) (σ : pd_H) : Option pd_R := p4_u (89, 797, [some (pd_r 30 922), d1, d2, some (pd_r 9 460), some (pd_r 9 690), some (pd_r 20 920), some (pd_r 21 921), some (pd_j l7), none, some (pd_i l9), some (pd_i l10), d11, d12, d13, d14, d15, d16, d17, d18, some (pd_i l19), some (pd_i l20), d21, d22, d23], [], σ)
noncomputable def L_law_L645 (l7 : Int64) (d9 : Option pd_V) (l10 : Int32) (l11 : Int32) (l12 : Int32) (d13 : Option pd_V) (d14 : Option pd_V) (d15 : Option pd_V) (d16 : Option pd_V) (l17 : Int32) (d18 : Option pd_V) (l19 : Int32) (l20 : Int32) (d21 : Option pd_V) (d22 : Option pd_V) (d23 : Option pd_V) (t0 : Int32) (t1 : Int32) (σ : pd_H) : Option pd_R := p4_u (89, 645, [some (pd_r 30 922), some (pd_r 9 0), some (pd_r 9 230), some (pd_r 9 460), some (pd_r 9 690), some (pd_r 20 920), some (pd_r 21 921), some (pd_j l7), none, d9, some (pd_i l10), some (pd_i l11), some (pd_i l12), d13, d14, d15, d16, some (pd_i l17), d18, some (pd_i l19), some (pd_i l20), d21, d22, d23], [pd_i t0, pd_i t1], σ)
noncomputable def L_law_L868 (d1 : Option pd_V) (d2 : Option pd_V) (d6 : Option pd_V) (d7 : Option pd_V) (d8 : Option pd_V) (l9 : Int32) (d10 : Option pd_V) (d11 : Option pd_V) (d12 : Option pd_V) (d13 : Option pd_V) (d14 : Option pd_V) (d15 : Option pd_V) (d16 : Option pd_V) (d17 : Option pd_V) (d18 : Option pd_V) (l19 : Int32) (d20 : Option pd_V) (d21 : Option pd_V) (d22 : Option pd_V) (d23 : Option pd_V) (σ : pd_H) : Option pd_R := p4_u (89, 868, [some (pd_r 30 922), d1, d2, some (pd_r 9 460), some (pd_r 9 690), some (pd_r 20 920), d6, d7, d8, some (pd_i l9), d10, d11, d12, d13, d14, d15, d16, d17, d18, some (pd_i l19), d20, d21, d22, d23], [], σ)
noncomputable def L_law_L851 (d1 : Option pd_V) (d2 : Option pd_V) (l7 : Int64) (d9 : Option pd_V) (l10 : Int32) (d11 : Option pd_V) (d12 : Option pd_V) (d13 : Option pd_V) (d14 : Option pd_V) (d15 : Option pd_V) (d16 : Option pd_V) (d17 : Option pd_V) (d18 : Option pd_V) (l19 : Int32) (l20 : Int32) (d21 : Option pd_V) (d22 : Option pd_V) (d23 : Option pd_V) (t0 : Int64) (t1 : Int64) (σ : pd_H) : Option pd_R := p4_u (89, 851, [some (pd_r 30 922), d1, d2, some (pd_r 9 460), some (pd_r 9 690), some (pd_r 20 920), some (pd_r 21 921), some (pd_j l7), none, d9, some (pd_i l10), d11, d12, d13, d14, d15, d16, d17, d18, some (pd_i l19), some (pd_i l20), d21, d22, d23], [pd_j t0, pd_j t1], σ)
noncomputable def L_law_L902 (d0 : Option pd_V) (d1 : Option pd_V) (d2 : Option pd_V) (d6 : Option pd_V) (d7 : Option pd_V) (d8 : Option pd_V) (d9 : Option pd_V) (d10 : Option pd_V) (d11 : Option pd_V) (d12 : Option pd_V) (d13 : Option pd_V) (d14 : Option pd_V) (d15 : Option pd_V) (d16 : Option pd_V) (d17 : Option pd_V) (d18 : Option pd_V) (d19 : Option pd_V) (d20 : Option pd_V) (d21 : Option pd_V) (d22 : Option pd_V) (d23 : Option pd_V) (t0 : Int32) (σ : pd_H) : Option pd_R := p4_u (89, 902, [d0, d1, d2, some (pd_r 9 460), some (pd_r 9 690), some (pd_r 20 920), d6, d7, d8, d9, d10, d11, d12, d13, d14, d15, d16, d17, d18, d19, d20, d21, d22, d23], [pd_i t0], σ)
noncomputable def L_law_L992 (d0 : Option pd_V) (d1 : Option pd_V) (d2 : Option pd_V) (d4 : Option pd_V) (d5 : Option pd_V) (d6 : Option pd_V) (d7 : Option pd_V) (d8 : Option pd_V) (l9 : Int32) (d10 : Option pd_V) (d11 : Option pd_V) (d12 : Option pd_V) (d13 : Option pd_V) (d14 : Option pd_V) (d15 : Option pd_V) (d16 : Option pd_V) (d17 : Option pd_V) (d18 : Option pd_V) (d19 : Option pd_V) (d20 : Option pd_V) (d21 : Option pd_V) (l22 : Int32) (l23 : Int32) (σ : pd_H) : Option pd_R := p4_u (89, 992, [d0, d1, d2, some (pd_r 9 460), d4, d5, d6, d7, d8, some (pd_i l9), d10, d11, d12, d13, d14, d15, d16, d17, d18, d19, d20, d21, some (pd_i l22), some (pd_i l23)], [], σ)
noncomputable def L_law_L1024 (d0 : Option pd_V) (d1 : Option pd_V) (d2 : Option pd_V) (d4 : Option pd_V) (d5 : Option pd_V) (d6 : Option pd_V) (d7 : Option pd_V) (d8 : Option pd_V) (l9 : Int32) (d10 : Option pd_V) (d11 : Option pd_V) (d12 : Option pd_V) (d13 : Option pd_V) (d14 : Option pd_V) (d15 : Option pd_V) (d16 : Option pd_V) (d17 : Option pd_V) (d18 : Option pd_V) (d19 : Option pd_V) (d20 : Option pd_V) (d21 : Option pd_V) (l22 : Int32) (d23 : Option pd_V) (σ : pd_H) : Option pd_R := p4_u (89, 1024, [d0, d1, d2, some (pd_r 9 460), d4, d5, d6, d7, d8, some (pd_i l9), d10, d11, d12, d13, d14, d15, d16, d17, d18, d19, d20, d21, some (pd_i l22), d23], [], σ)
set_option maxRecDepth 20000 in
theorem L_law_L45_eq (d7 : Option pd_V) (d8 : Option pd_V) (d9 : Option pd_V) (d10 : Option pd_V) (d11 : Option pd_V) (d12 : Option pd_V) (d13 : Option pd_V) (d14 : Option pd_V) (d15 : Option pd_V) (d16 : Option pd_V) (d17 : Option pd_V) (d18 : Option pd_V) (d19 : Option pd_V) (d20 : Option pd_V) (d21 : Option pd_V) (d22 : Option pd_V) (d23 : Option pd_V) (σ : pd_H) : L_law_L45 d7 d8 d9 d10 d11 d12 d13 d14 d15 d16 d17 d18 d19 d20 d21 d22 d23 σ =
 pd_bI (L_rows 0 σ) fun s1 v2 =>
 cond (decide (v2 = 0))
 (L_law_L104 (-9223372036854775808) 0 0 0 d12 d13 d14 d15 d16 d17 d18 d19 d20 d21 d22 d23 s1)
 (pd_bI (L_rows 230 s1) fun s3 v4 =>
  cond (decide (v4 = 0))
  (L_law_L104 (-9223372036854775808) 0 0 0 d12 d13 d14 d15 d16 d17 d18 d19 d20 d21 d22 d23 s3)
  (pd_bI (L_rows 460 s3) fun s5 v6 =>
   cond (decide (v6 = 0))
   (L_law_L104 (-9223372036854775808) 0 0 0 d12 d13 d14 d15 d16 d17 d18 d19 d20 d21 d22 d23 s5)
   (pd_bI (L_rows 690 s5) fun s7 v8 =>
    cond (decide (v8 = 0))
    (L_law_L104 (-9223372036854775808) 0 0 0 d12 d13 d14 d15 d16 d17 d18 d19 d20 d21 d22 d23 s7)
    (L_law_L104 (-9223372036854775808) 1 0 0 d12 d13 d14 d15 d16 d17 d18 d19 d20 d21 d22 d23 s7)))) := (p4_dr_eq (cd := pd_cd) (fun q => Nat.beq q 45 || Nat.beq q 104 || Nat.beq q 151 || Nat.beq q 237 || Nat.beq q 260 || Nat.beq q 311 || Nat.beq q 323 || Nat.beq q 460 || Nat.beq q 523 || Nat.beq q 549 || Nat.beq q 573 || Nat.beq q 593 || Nat.beq q 645 || Nat.beq q 698 || Nat.beq q 797 || Nat.beq q 851 || Nat.beq q 868 || Nat.beq q 902 || Nat.beq q 992 || Nat.beq q 1024) 30 _).symm.trans rfl
set_option maxRecDepth 20000 in
theorem L_law_L104_eq (l7 : Int64) (l9 : Int32) (l10 : Int32) (l11 : Int32) (d12 : Option pd_V) (d13 : Option pd_V) (d14 : Option pd_V) (d15 : Option pd_V) (d16 : Option pd_V) (d17 : Option pd_V) (d18 : Option pd_V) (d19 : Option pd_V) (d20 : Option pd_V) (d21 : Option pd_V) (d22 : Option pd_V) (d23 : Option pd_V) (σ : pd_H) : L_law_L104 l7 l9 l10 l11 d12 d13 d14 d15 d16 d17 d18 d19 d20 d21 d22 d23 σ =
 cond (decide ((7 : Int32) ≤ l11))
 (L_law_L260 l7 l9 l10 (some (pd_i l11)) d12 d13 d14 d15 d16 d17 d18 d19 d20 d21 d22 d23 σ)
 (cond (decide (l9 = 0))
  (L_law_L260 l7 l9 l10 (some (pd_i l11)) d12 d13 d14 d15 d16 d17 d18 d19 d20 d21 d22 d23 σ)
  (pd_bI (L_draft 0 l11 σ) fun s1 v2 =>
   pd_bI (Y_lay 0 s1) fun s3 v4 =>
   cond (decide (v4 < 0))
   (L_law_L151 l7 v2 l10 l11 v4 d13 d14 d15 d16 d17 d18 d19 d20 d21 d22 d23 (-1) ((12 : Int32) + l11) s3)
   (L_law_L151 l7 v2 l10 l11 v4 d13 d14 d15 d16 d17 d18 d19 d20 d21 d22 d23 v4 ((12 : Int32) + l11) s3))) := (p4_dr_eq (cd := pd_cd) (fun q => Nat.beq q 45 || Nat.beq q 104 || Nat.beq q 151 || Nat.beq q 237 || Nat.beq q 260 || Nat.beq q 311 || Nat.beq q 323 || Nat.beq q 460 || Nat.beq q 523 || Nat.beq q 549 || Nat.beq q 573 || Nat.beq q 593 || Nat.beq q 645 || Nat.beq q 698 || Nat.beq q 797 || Nat.beq q 851 || Nat.beq q 868 || Nat.beq q 902 || Nat.beq q 992 || Nat.beq q 1024) 23 _).symm.trans rfl
set_option maxRecDepth 20000 in
theorem L_law_L260_eq (l7 : Int64) (l9 : Int32) (l10 : Int32) (d11 : Option pd_V) (d12 : Option pd_V) (d13 : Option pd_V) (d14 : Option pd_V) (d15 : Option pd_V) (d16 : Option pd_V) (d17 : Option pd_V) (d18 : Option pd_V) (d19 : Option pd_V) (d20 : Option pd_V) (d21 : Option pd_V) (d22 : Option pd_V) (d23 : Option pd_V) (σ : pd_H) : L_law_L260 l7 l9 l10 d11 d12 d13 d14 d15 d16 d17 d18 d19 d20 d21 d22 d23 σ =
 cond (decide (l9 = 0))
 (L_law_L311 l7 (some (pd_i l9)) l10 d11 d12 d13 d14 d15 d16 d17 d18 d19 d20 d21 d22 d23 0 σ)
 (pd_bI (L_lays 460 0 σ) fun s1 v2 =>
  cond (decide (v2 = 0))
  (pd_bI (Y_count 0 1 s1) fun s3 v4 =>
   cond (decide (v4 = l10))
   (pd_bI (Y_count 460 0 s3) fun s5 v6 =>
    cond (decide (v6 = l10))
    (pd_bI (L_alike 0 460 s5) fun s7 v8 =>
     cond (decide (v8 = 0))
     (L_law_L311 l7 (some (pd_i l9)) l10 d11 d12 d13 d14 d15 d16 d17 d18 d19 d20 d21 d22 d23 0 s7)
     (L_law_L311 l7 (some (pd_i l9)) l10 d11 d12 d13 d14 d15 d16 d17 d18 d19 d20 d21 d22 d23 1 s7))
    (L_law_L311 l7 (some (pd_i l9)) l10 d11 d12 d13 d14 d15 d16 d17 d18 d19 d20 d21 d22 d23 0 s5))
   (L_law_L311 l7 (some (pd_i l9)) l10 d11 d12 d13 d14 d15 d16 d17 d18 d19 d20 d21 d22 d23 0 s3))
  (L_law_L311 l7 (some (pd_i l9)) l10 d11 d12 d13 d14 d15 d16 d17 d18 d19 d20 d21 d22 d23 0 s1)) := (p4_dr_eq (cd := pd_cd) (fun q => Nat.beq q 45 || Nat.beq q 104 || Nat.beq q 151 || Nat.beq q 237 || Nat.beq q 260 || Nat.beq q 311 || Nat.beq q 323 || Nat.beq q 460 || Nat.beq q 523 || Nat.beq q 549 || Nat.beq q 573 || Nat.beq q 593 || Nat.beq q 645 || Nat.beq q 698 || Nat.beq q 797 || Nat.beq q 851 || Nat.beq q 868 || Nat.beq q 902 || Nat.beq q 992 || Nat.beq q 1024) 26 _).symm.trans rfl
set_option maxRecDepth 20000 in
theorem L_law_L151_eq (l7 : Int64) (l9 : Int32) (l10 : Int32) (l11 : Int32) (l12 : Int32) (d13 : Option pd_V) (d14 : Option pd_V) (d15 : Option pd_V) (d16 : Option pd_V) (d17 : Option pd_V) (d18 : Option pd_V) (d19 : Option pd_V) (d20 : Option pd_V) (d21 : Option pd_V) (d22 : Option pd_V) (d23 : Option pd_V) (t0 : Int32) (t1 : Int32) (σ : pd_H) : L_law_L151 l7 l9 l10 l11 l12 d13 d14 d15 d16 d17 d18 d19 d20 d21 d22 d23 t0 t1 σ =
 cond (pd_ob t1 (p4_len 920)) none
 (cond (decide (l9 = 0))
 (L_law_L237 l7 (some (pd_i l9)) l10 l11 l12 d13 d14 d15 d16 d17 d18 d19 d20 d21 d22 d23 0 (pd_upI σ 920 (Int32.toNatClampNeg t1) t0))
 (cond (decide (l12 < 0))
  (cond (decide (((-11) : Int32) < l12))
   (L_law_L237 l7 (some (pd_i l9)) l10 l11 l12 d13 d14 d15 d16 d17 d18 d19 d20 d21 d22 d23 0 (pd_upI σ 920 (Int32.toNatClampNeg t1) t0))
   (cond (decide (l12 < ((-15) : Int32)))
    (L_law_L237 l7 (some (pd_i l9)) l10 l11 l12 d13 d14 d15 d16 d17 d18 d19 d20 d21 d22 d23 0 (pd_upI σ 920 (Int32.toNatClampNeg t1) t0))
    (pd_bI (Y_fault 0 0 (pd_upI σ 920 (Int32.toNatClampNeg t1) t0)) fun s1 v2 =>
     cond (decide (v2 = (24 : Int32)))
     (pd_bI (Y_fault 0 2 s1) fun s3 v4 =>
      cond (decide (v4 = (((-10) : Int32) - l12)))
      (pd_bI (Y_drop 0 s3) fun s5 v6 =>
       cond (decide (v6 = (2 : Int32)))
       (pd_bI (Y_drop 0 s5) fun s7 v8 =>
        cond (decide (v8 = (1 : Int32)))
        (pd_bI (Y_drop 0 s7) fun s9 v10 =>
         cond (decide (v10 = 0))
         (L_law_L237 l7 (some (pd_i l9)) l10 l11 l12 d13 d14 d15 d16 d17 d18 d19 d20 d21 d22 d23 1 s9)
         (L_law_L237 l7 (some (pd_i l9)) l10 l11 l12 d13 d14 d15 d16 d17 d18 d19 d20 d21 d22 d23 0 s9))
        (L_law_L237 l7 (some (pd_i l9)) l10 l11 l12 d13 d14 d15 d16 d17 d18 d19 d20 d21 d22 d23 0 s7))
       (L_law_L237 l7 (some (pd_i l9)) l10 l11 l12 d13 d14 d15 d16 d17 d18 d19 d20 d21 d22 d23 0 s5))
      (L_law_L237 l7 (some (pd_i l9)) l10 l11 l12 d13 d14 d15 d16 d17 d18 d19 d20 d21 d22 d23 0 s3))
     (L_law_L237 l7 (some (pd_i l9)) l10 l11 l12 d13 d14 d15 d16 d17 d18 d19 d20 d21 d22 d23 0 s1))))
  (cond (decide (l12 = l10))
   (L_law_L237 l7 (some (pd_i l9)) l10 l11 l12 d13 d14 d15 d16 d17 d18 d19 d20 d21 d22 d23 1 (pd_upI σ 920 (Int32.toNatClampNeg t1) t0))
   (L_law_L237 l7 (some (pd_i l9)) l10 l11 l12 d13 d14 d15 d16 d17 d18 d19 d20 d21 d22 d23 0 (pd_upI σ 920 (Int32.toNatClampNeg t1) t0))))) := (p4_dr_eq (cd := pd_cd) (fun q => Nat.beq q 45 || Nat.beq q 104 || Nat.beq q 151 || Nat.beq q 237 || Nat.beq q 260 || Nat.beq q 311 || Nat.beq q 323 || Nat.beq q 460 || Nat.beq q 523 || Nat.beq q 549 || Nat.beq q 573 || Nat.beq q 593 || Nat.beq q 645 || Nat.beq q 698 || Nat.beq q 797 || Nat.beq q 851 || Nat.beq q 868 || Nat.beq q 902 || Nat.beq q 992 || Nat.beq q 1024) 37 _).symm.trans rfl
set_option maxRecDepth 20000 in
theorem L_law_L311_eq (l7 : Int64) (d9 : Option pd_V) (l10 : Int32) (d11 : Option pd_V) (d12 : Option pd_V) (d13 : Option pd_V) (d14 : Option pd_V) (d15 : Option pd_V) (d16 : Option pd_V) (d17 : Option pd_V) (d18 : Option pd_V) (d19 : Option pd_V) (d20 : Option pd_V) (d21 : Option pd_V) (d22 : Option pd_V) (d23 : Option pd_V) (t0 : Int32) (σ : pd_H) : L_law_L311 l7 d9 l10 d11 d12 d13 d14 d15 d16 d17 d18 d19 d20 d21 d22 d23 t0 σ =
 cond (decide (l10 = 0))
 (L_law_L323 (some (pd_r 30 922)) (some (pd_r 9 230)) (some (pd_r 9 460)) (some (pd_r 9 690)) (some (pd_r 20 920)) (some (pd_r 21 921)) (some (pd_j l7)) none t0 (some (pd_i l10)) d11 d12 d13 d14 d15 d16 d17 d18 d19 d20 d21 d22 d23 σ)
 (cond (decide (t0 = 0))
  (L_law_L323 (some (pd_r 30 922)) (some (pd_r 9 230)) (some (pd_r 9 460)) (some (pd_r 9 690)) (some (pd_r 20 920)) (some (pd_r 21 921)) (some (pd_j l7)) none t0 (some (pd_i l10)) d11 d12 d13 d14 d15 d16 d17 d18 d19 d20 d21 d22 d23 σ)
  (pd_bI (L_cell 27 σ) fun s1 v2 =>
   pd_bI (L_low v2 l10 s1) fun s3 v4 =>
   pd_bI (Y_hangs 460 v4 s3) fun s5 v6 =>
   pd_bI (L_cell 28 s5) fun s7 v8 =>
   pd_bI (L_low v8 6 s7) fun s9 v10 =>
   pd_bI (L_cell 28 s9) fun s11 v12 =>
   cond (pd_ob ((6 : Int32) + v10) (p4_len 920)) none
   (pd_bI (L_low (v12 >>> (4 &&& 31)) (s11.1 920 (Int32.toNatClampNeg ((6 : Int32) + v10))) s11) fun s13 v14 =>
   pd_bJ (Y_without 460 v4 v10 v14 s13) fun s15 v16 =>
   pd_bI (Y_out 0 v4 s15) fun s17 v18 =>
   pd_bI (L_lays 230 ((1 : Int32) <<< (v4 &&& 31)) s17) fun s19 v20 =>
   cond (decide (0 ≤ v18))
   (L_law_L460 l7 (some (pd_i t0)) l10 v4 v6 v10 v14 v16 v18 v20 d19 d20 d21 d22 d23 230 0 s19)
   (L_law_L460 l7 (some (pd_i t0)) l10 v4 v6 v10 v14 v16 v18 v20 d19 d20 d21 d22 d23 460 0 s19)))) := (p4_dr_eq (cd := pd_cd) (fun q => Nat.beq q 45 || Nat.beq q 104 || Nat.beq q 151 || Nat.beq q 237 || Nat.beq q 260 || Nat.beq q 311 || Nat.beq q 323 || Nat.beq q 460 || Nat.beq q 523 || Nat.beq q 549 || Nat.beq q 573 || Nat.beq q 593 || Nat.beq q 645 || Nat.beq q 698 || Nat.beq q 797 || Nat.beq q 851 || Nat.beq q 868 || Nat.beq q 902 || Nat.beq q 992 || Nat.beq q 1024) 57 _).symm.trans rfl
set_option maxRecDepth 20000 in
theorem L_law_L237_eq (l7 : Int64) (d9 : Option pd_V) (l10 : Int32) (l11 : Int32) (l12 : Int32) (d13 : Option pd_V) (d14 : Option pd_V) (d15 : Option pd_V) (d16 : Option pd_V) (d17 : Option pd_V) (d18 : Option pd_V) (d19 : Option pd_V) (d20 : Option pd_V) (d21 : Option pd_V) (d22 : Option pd_V) (d23 : Option pd_V) (t0 : Int32) (σ : pd_H) : L_law_L237 l7 d9 l10 l11 l12 d13 d14 d15 d16 d17 d18 d19 d20 d21 d22 d23 t0 σ =
 cond (decide (l12 < 0))
 (L_law_L104 l7 t0 (l10 + 0) (l11 + 1) (some (pd_i l12)) d13 d14 d15 d16 d17 d18 d19 d20 d21 d22 d23 σ)
 (L_law_L104 l7 t0 (l10 + 1) (l11 + 1) (some (pd_i l12)) d13 d14 d15 d16 d17 d18 d19 d20 d21 d22 d23 σ) := (p4_dr_eq (cd := pd_cd) (fun q => Nat.beq q 45 || Nat.beq q 104 || Nat.beq q 151 || Nat.beq q 237 || Nat.beq q 260 || Nat.beq q 311 || Nat.beq q 323 || Nat.beq q 460 || Nat.beq q 523 || Nat.beq q 549 || Nat.beq q 573 || Nat.beq q 593 || Nat.beq q 645 || Nat.beq q 698 || Nat.beq q 797 || Nat.beq q 851 || Nat.beq q 868 || Nat.beq q 902 || Nat.beq q 992 || Nat.beq q 1024) 11 _).symm.trans rfl
set_option maxRecDepth 20000 in
theorem L_law_L323_eq (d0 : Option pd_V) (d2 : Option pd_V) (d3 : Option pd_V) (d4 : Option pd_V) (d5 : Option pd_V) (d6 : Option pd_V) (d7 : Option pd_V) (d8 : Option pd_V) (l9 : Int32) (d10 : Option pd_V) (d11 : Option pd_V) (d12 : Option pd_V) (d13 : Option pd_V) (d14 : Option pd_V) (d15 : Option pd_V) (d16 : Option pd_V) (d17 : Option pd_V) (d18 : Option pd_V) (d19 : Option pd_V) (d20 : Option pd_V) (d21 : Option pd_V) (d22 : Option pd_V) (d23 : Option pd_V) (σ : pd_H) : L_law_L323 d0 d2 d3 d4 d5 d6 d7 d8 l9 d10 d11 d12 d13 d14 d15 d16 d17 d18 d19 d20 d21 d22 d23 σ =
 cond (decide (l9 = 0))
 (some (σ, some (pd_i 0)))
 (pd_bI (Y_undo 0 σ) fun s1 v2 =>
  cond (decide (v2 = ((-3) : Int32)))
  (pd_bI (Y_count 0 5 s1) fun s3 v4 =>
   cond (decide (v4 = 0))
   (pd_bI (Y_out 0 0 s3) fun s5 v6 =>
    cond (decide (v6 = ((-2) : Int32)))
    (some (s5, some (pd_i 1)))
    (some (s5, some (pd_i 0))))
   (some (s3, some (pd_i 0))))
  (some (s1, some (pd_i 0)))) := (p4_dr_eq (cd := pd_cd) (fun q => Nat.beq q 45 || Nat.beq q 104 || Nat.beq q 151 || Nat.beq q 237 || Nat.beq q 260 || Nat.beq q 311 || Nat.beq q 323 || Nat.beq q 460 || Nat.beq q 523 || Nat.beq q 549 || Nat.beq q 573 || Nat.beq q 593 || Nat.beq q 645 || Nat.beq q 698 || Nat.beq q 797 || Nat.beq q 851 || Nat.beq q 868 || Nat.beq q 902 || Nat.beq q 992 || Nat.beq q 1024) 18 _).symm.trans rfl
set_option maxRecDepth 20000 in
theorem L_law_L460_eq (l7 : Int64) (d9 : Option pd_V) (l10 : Int32) (l11 : Int32) (l12 : Int32) (l13 : Int32) (l14 : Int32) (l15 : Int64) (l17 : Int32) (l18 : Int32) (d19 : Option pd_V) (d20 : Option pd_V) (d21 : Option pd_V) (d22 : Option pd_V) (d23 : Option pd_V) (t0 : Nat) (t1 : Nat) (σ : pd_H) : L_law_L460 l7 d9 l10 l11 l12 l13 l14 l15 l17 l18 d19 d20 d21 d22 d23 t0 t1 σ =
 pd_bI (L_alike t1 t0 σ) fun s1 v2 =>
 cond (decide (v2 = 0))
 (L_law_L573 l7 0 l10 l11 l12 (some (pd_i l13)) (some (pd_i l14)) (some (pd_j l15)) none l17 (some (pd_i l18)) 0 d20 d21 d22 d23 s1)
 (cond (decide (0 ≤ l17))
  (cond (decide (l18 = 0))
   (pd_bI (Y_count 0 1 s1) fun s3 v4 =>
    cond (decide (v4 = (l10 - 1)))
    (L_law_L523 l7 d9 l10 l11 l12 l13 l14 l15 l17 (some (pd_i l18)) d19 d20 d21 d22 d23 s3)
    (L_law_L573 l7 0 l10 l11 l12 (some (pd_i l13)) (some (pd_i l14)) (some (pd_j l15)) none l17 (some (pd_i l18)) 0 d20 d21 d22 d23 s3))
   (L_law_L573 l7 0 l10 l11 l12 (some (pd_i l13)) (some (pd_i l14)) (some (pd_j l15)) none l17 (some (pd_i l18)) 0 d20 d21 d22 d23 s1))
  (cond (decide (l17 = l18))
   (pd_bI (Y_fault 0 2 s1) fun s5 v6 =>
    cond (decide (v6 = (((-10) : Int32) - l17)))
    (pd_bI (Y_count 0 1 s5) fun s7 v8 =>
     cond (decide (v8 = l10))
     (L_law_L523 l7 d9 l10 l11 l12 l13 l14 l15 l17 (some (pd_i l18)) d19 d20 d21 d22 d23 s7)
     (L_law_L573 l7 0 l10 l11 l12 (some (pd_i l13)) (some (pd_i l14)) (some (pd_j l15)) none l17 (some (pd_i l18)) 0 d20 d21 d22 d23 s7))
    (L_law_L573 l7 0 l10 l11 l12 (some (pd_i l13)) (some (pd_i l14)) (some (pd_j l15)) none l17 (some (pd_i l18)) 0 d20 d21 d22 d23 s5))
   (L_law_L573 l7 0 l10 l11 l12 (some (pd_i l13)) (some (pd_i l14)) (some (pd_j l15)) none l17 (some (pd_i l18)) 0 d20 d21 d22 d23 s1))) := (p4_dr_eq (cd := pd_cd) (fun q => Nat.beq q 45 || Nat.beq q 104 || Nat.beq q 151 || Nat.beq q 237 || Nat.beq q 260 || Nat.beq q 311 || Nat.beq q 323 || Nat.beq q 460 || Nat.beq q 523 || Nat.beq q 549 || Nat.beq q 573 || Nat.beq q 593 || Nat.beq q 645 || Nat.beq q 698 || Nat.beq q 797 || Nat.beq q 851 || Nat.beq q 868 || Nat.beq q 902 || Nat.beq q 992 || Nat.beq q 1024) 25 _).symm.trans rfl
set_option maxRecDepth 20000 in
theorem L_law_L573_eq (l7 : Int64) (l9 : Int32) (l10 : Int32) (l11 : Int32) (l12 : Int32) (d13 : Option pd_V) (d14 : Option pd_V) (d15 : Option pd_V) (d16 : Option pd_V) (l17 : Int32) (d18 : Option pd_V) (l19 : Int32) (d20 : Option pd_V) (d21 : Option pd_V) (d22 : Option pd_V) (d23 : Option pd_V) (σ : pd_H) : L_law_L573 l7 l9 l10 l11 l12 d13 d14 d15 d16 l17 d18 l19 d20 d21 d22 d23 σ =
 cond (decide ((6 : Int32) ≤ l19))
 (L_law_L698 (some (pd_r 9 0)) (some (pd_r 9 230)) l7 l9 l10 l11 l12 d13 d14 d15 d16 (some (pd_i l17)) (cond (pd_is2 d18) none d18) (l12 ||| ((1 : Int32) <<< (l11 &&& 31))) 0 d21 d22 d23 σ)
 (cond (decide (l9 = 0))
  (L_law_L698 (some (pd_r 9 0)) (some (pd_r 9 230)) l7 l9 l10 l11 l12 d13 d14 d15 d16 (some (pd_i l17)) (cond (pd_is2 d18) none d18) (l12 ||| ((1 : Int32) <<< (l11 &&& 31))) 0 d21 d22 d23 σ)
  (cond (decide (l17 < 0))
   (L_law_L698 (some (pd_r 9 0)) (some (pd_r 9 230)) l7 l9 l10 l11 l12 d13 d14 d15 d16 (some (pd_i l17)) (cond (pd_is2 d18) none d18) (l12 ||| ((1 : Int32) <<< (l11 &&& 31))) 0 d21 d22 d23 σ)
   (L_law_L593 l7 l9 l10 l11 l12 d13 d14 d15 d16 l17 d18 l19 0 d21 d22 d23 σ))) := (p4_dr_eq (cd := pd_cd) (fun q => Nat.beq q 45 || Nat.beq q 104 || Nat.beq q 151 || Nat.beq q 237 || Nat.beq q 260 || Nat.beq q 311 || Nat.beq q 323 || Nat.beq q 460 || Nat.beq q 523 || Nat.beq q 549 || Nat.beq q 573 || Nat.beq q 593 || Nat.beq q 645 || Nat.beq q 698 || Nat.beq q 797 || Nat.beq q 851 || Nat.beq q 868 || Nat.beq q 902 || Nat.beq q 992 || Nat.beq q 1024) 16 _).symm.trans rfl
set_option maxRecDepth 20000 in
theorem L_law_L523_eq (l7 : Int64) (d9 : Option pd_V) (l10 : Int32) (l11 : Int32) (l12 : Int32) (l13 : Int32) (l14 : Int32) (l15 : Int64) (l17 : Int32) (d18 : Option pd_V) (d19 : Option pd_V) (d20 : Option pd_V) (d21 : Option pd_V) (d22 : Option pd_V) (d23 : Option pd_V) (σ : pd_H) : L_law_L523 l7 d9 l10 l11 l12 l13 l14 l15 l17 d18 d19 d20 d21 d22 d23 σ =
 cond (decide (0 ≤ l17))
 (pd_bJ (Y_get 0 l13 8 l14 σ) fun s1 v2 =>
  L_law_L549 l7 d9 l10 l11 l12 (some (pd_i l13)) (some (pd_i l14)) (some (pd_j l15)) none l17 d18 d19 d20 d21 d22 d23 v2 l15 s1)
 (L_law_L549 l7 d9 l10 l11 l12 (some (pd_i l13)) (some (pd_i l14)) (some (pd_j l15)) none l17 d18 d19 d20 d21 d22 d23 (l7 - (Int32.toInt64 l17)) l15 σ) := (p4_dr_eq (cd := pd_cd) (fun q => Nat.beq q 45 || Nat.beq q 104 || Nat.beq q 151 || Nat.beq q 237 || Nat.beq q 260 || Nat.beq q 311 || Nat.beq q 323 || Nat.beq q 460 || Nat.beq q 523 || Nat.beq q 549 || Nat.beq q 573 || Nat.beq q 593 || Nat.beq q 645 || Nat.beq q 698 || Nat.beq q 797 || Nat.beq q 851 || Nat.beq q 868 || Nat.beq q 902 || Nat.beq q 992 || Nat.beq q 1024) 9 _).symm.trans rfl
set_option maxRecDepth 20000 in
theorem L_law_L698_eq (d1 : Option pd_V) (d2 : Option pd_V) (l7 : Int64) (l9 : Int32) (l10 : Int32) (l11 : Int32) (l12 : Int32) (d13 : Option pd_V) (d14 : Option pd_V) (d15 : Option pd_V) (d16 : Option pd_V) (d17 : Option pd_V) (d18 : Option pd_V) (l19 : Int32) (l20 : Int32) (d21 : Option pd_V) (d22 : Option pd_V) (d23 : Option pd_V) (σ : pd_H) : L_law_L698 d1 d2 l7 l9 l10 l11 l12 d13 d14 d15 d16 d17 d18 l19 l20 d21 d22 d23 σ =
 cond (decide (((3 : Int32) * l10) ≤ l20))
 (cond (decide (l9 = 0))
  (L_law_L797 d1 d2 l7 0 l10 (some (pd_i l11)) (some (pd_i l12)) d13 d14 d15 d16 d17 d18 l19 0 d21 d22 d23 σ)
  (cond (decide (((l12 >>> (l11 &&& 31)) &&& 1) = 0))
   (pd_bI (Y_with 460 l11 σ) fun s1 v2 =>
    pd_bI (L_size l19 s1) fun s3 v4 =>
    cond (decide (v2 = v4))
    (pd_bI (Y_count 460 1 s3) fun s5 v6 =>
     pd_bI (L_size l19 s5) fun s7 v8 =>
     cond (decide (v6 = (l10 - v8)))
     (pd_bI (Y_hangs 460 l11 s7) fun s9 v10 =>
      cond (decide (v10 = ((-3) : Int32)))
      (L_law_L797 d1 d2 l7 1 l10 (some (pd_i l11)) (some (pd_i l12)) d13 d14 d15 d16 d17 d18 l19 0 d21 d22 d23 s9)
      (L_law_L797 d1 d2 l7 0 l10 (some (pd_i l11)) (some (pd_i l12)) d13 d14 d15 d16 d17 d18 l19 0 d21 d22 d23 s9))
     (L_law_L797 d1 d2 l7 0 l10 (some (pd_i l11)) (some (pd_i l12)) d13 d14 d15 d16 d17 d18 l19 0 d21 d22 d23 s7))
    (L_law_L797 d1 d2 l7 0 l10 (some (pd_i l11)) (some (pd_i l12)) d13 d14 d15 d16 d17 d18 l19 0 d21 d22 d23 s3))
   (L_law_L797 d1 d2 l7 0 l10 (some (pd_i l11)) (some (pd_i l12)) d13 d14 d15 d16 d17 d18 l19 0 d21 d22 d23 σ)))
 (pd_bJ (Y_trace 460 (l20 / (3 : Int32)) (l20 - l20 / (3 : Int32) * (3 : Int32)) 0 σ) fun s11 v12 =>
  cond (pd_ob l20 (p4_len 921)) none
  (L_law_L698 d1 d2 l7 l9 l10 l11 l12 d13 d14 d15 d16 d17 d18 l19 (l20 + 1) d21 d22 d23 (pd_upJ s11 921 (Int32.toNatClampNeg l20) v12))) := (p4_dr_eq (cd := pd_cd) (fun q => Nat.beq q 45 || Nat.beq q 104 || Nat.beq q 151 || Nat.beq q 237 || Nat.beq q 260 || Nat.beq q 311 || Nat.beq q 323 || Nat.beq q 460 || Nat.beq q 523 || Nat.beq q 549 || Nat.beq q 573 || Nat.beq q 593 || Nat.beq q 645 || Nat.beq q 698 || Nat.beq q 797 || Nat.beq q 851 || Nat.beq q 868 || Nat.beq q 902 || Nat.beq q 992 || Nat.beq q 1024) 38 _).symm.trans rfl
set_option maxRecDepth 20000 in
theorem L_law_L593_eq (l7 : Int64) (l9 : Int32) (l10 : Int32) (l11 : Int32) (l12 : Int32) (d13 : Option pd_V) (d14 : Option pd_V) (d15 : Option pd_V) (d16 : Option pd_V) (l17 : Int32) (d18 : Option pd_V) (l19 : Int32) (l20 : Int32) (d21 : Option pd_V) (d22 : Option pd_V) (d23 : Option pd_V) (σ : pd_H) : L_law_L593 l7 l9 l10 l11 l12 d13 d14 d15 d16 l17 d18 l19 l20 d21 d22 d23 σ =
 cond (pd_ob ((6 : Int32) + l19) (p4_len 920)) none
 (cond (decide ((σ.1 920 (Int32.toNatClampNeg ((6 : Int32) + l19))) ≤ l20))
 (L_law_L573 l7 l9 l10 l11 l12 d13 d14 d15 d16 l17 (cond (pd_is2 d18) none d18) (l19 + 1) (some (pd_i l20)) d21 d22 d23 σ)
 (cond (decide (l9 = 0))
  (L_law_L573 l7 l9 l10 l11 l12 d13 d14 d15 d16 l17 (cond (pd_is2 d18) none d18) (l19 + 1) (some (pd_i l20)) d21 d22 d23 σ)
  (pd_bI (Y_blame 230 l19 l20 σ) fun s1 v2 =>
   pd_bI (Y_blame 0 l19 l20 s1) fun s3 v4 =>
   cond (decide (v2 < l11))
   (L_law_L645 l7 (some (pd_i l9)) l10 l11 l12 d13 d14 d15 d16 l17 d18 l19 l20 (some (pd_i v2)) d22 d23 v2 v4 s3)
   (L_law_L645 l7 (some (pd_i l9)) l10 l11 l12 d13 d14 d15 d16 l17 d18 l19 l20 (some (pd_i v2)) d22 d23 (v2 + 1) v4 s3)))) := (p4_dr_eq (cd := pd_cd) (fun q => Nat.beq q 45 || Nat.beq q 104 || Nat.beq q 151 || Nat.beq q 237 || Nat.beq q 260 || Nat.beq q 311 || Nat.beq q 323 || Nat.beq q 460 || Nat.beq q 523 || Nat.beq q 549 || Nat.beq q 573 || Nat.beq q 593 || Nat.beq q 645 || Nat.beq q 698 || Nat.beq q 797 || Nat.beq q 851 || Nat.beq q 868 || Nat.beq q 902 || Nat.beq q 992 || Nat.beq q 1024) 26 _).symm.trans rfl
set_option maxRecDepth 20000 in
theorem L_law_L549_eq (l7 : Int64) (d9 : Option pd_V) (l10 : Int32) (l11 : Int32) (l12 : Int32) (d13 : Option pd_V) (d14 : Option pd_V) (d15 : Option pd_V) (d16 : Option pd_V) (l17 : Int32) (d18 : Option pd_V) (d19 : Option pd_V) (d20 : Option pd_V) (d21 : Option pd_V) (d22 : Option pd_V) (d23 : Option pd_V) (t0 : Int64) (t1 : Int64) (σ : pd_H) : L_law_L549 l7 d9 l10 l11 l12 d13 d14 d15 d16 l17 d18 d19 d20 d21 d22 d23 t0 t1 σ =
 cond (decide ((lg_cmp t1 t0) = 0))
 (cond (decide (l12 = 0))
  (cond (decide (l17 = 0))
   (L_law_L573 l7 1 l10 l11 l12 d13 d14 d15 d16 l17 (cond (pd_is2 d18) none d18) 0 d20 d21 d22 d23 σ)
   (L_law_L573 l7 0 l10 l11 l12 d13 d14 d15 d16 l17 (cond (pd_is2 d18) none d18) 0 d20 d21 d22 d23 σ))
  (L_law_L573 l7 1 l10 l11 l12 d13 d14 d15 d16 l17 (cond (pd_is2 d18) none d18) 0 d20 d21 d22 d23 σ))
 (L_law_L573 l7 0 l10 l11 l12 d13 d14 d15 d16 l17 (cond (pd_is2 d18) none d18) 0 d20 d21 d22 d23 σ) := (p4_dr_eq (cd := pd_cd) (fun q => Nat.beq q 45 || Nat.beq q 104 || Nat.beq q 151 || Nat.beq q 237 || Nat.beq q 260 || Nat.beq q 311 || Nat.beq q 323 || Nat.beq q 460 || Nat.beq q 523 || Nat.beq q 549 || Nat.beq q 573 || Nat.beq q 593 || Nat.beq q 645 || Nat.beq q 698 || Nat.beq q 797 || Nat.beq q 851 || Nat.beq q 868 || Nat.beq q 902 || Nat.beq q 992 || Nat.beq q 1024) 12 _).symm.trans rfl
set_option maxRecDepth 20000 in
theorem L_law_L797_eq (d1 : Option pd_V) (d2 : Option pd_V) (l7 : Int64) (l9 : Int32) (l10 : Int32) (d11 : Option pd_V) (d12 : Option pd_V) (d13 : Option pd_V) (d14 : Option pd_V) (d15 : Option pd_V) (d16 : Option pd_V) (d17 : Option pd_V) (d18 : Option pd_V) (l19 : Int32) (l20 : Int32) (d21 : Option pd_V) (d22 : Option pd_V) (d23 : Option pd_V) (σ : pd_H) : L_law_L797 d1 d2 l7 l9 l10 d11 d12 d13 d14 d15 d16 d17 d18 l19 l20 d21 d22 d23 σ =
 cond (decide (((3 : Int32) * l10) ≤ l20))
 (L_law_L868 d1 d2 (some (pd_r 21 921)) (some (pd_j l7)) none l9 (some (pd_i l10)) d11 d12 d13 d14 d15 d16 d17 d18 l19 (some (pd_i l20)) d21 d22 d23 σ)
 (cond (decide (l9 = 0))
  (L_law_L868 d1 d2 (some (pd_r 21 921)) (some (pd_j l7)) none l9 (some (pd_i l10)) d11 d12 d13 d14 d15 d16 d17 d18 l19 (some (pd_i l20)) d21 d22 d23 σ)
  (pd_bJ (Y_trace 460 (l20 / (3 : Int32)) (l20 - l20 / (3 : Int32) * (3 : Int32)) 0 σ) fun s1 v2 =>
   cond (decide (((l19 >>> ((l20 / (3 : Int32)) &&& 31)) &&& 1) = (1 : Int32)))
   (L_law_L851 d1 d2 l7 (some (pd_i l9)) l10 d11 d12 d13 d14 d15 d16 d17 d18 l19 l20 d21 d22 d23 (l7 + 3) v2 s1)
   (cond (pd_ob l20 (p4_len 921)) none
    (L_law_L851 d1 d2 l7 (some (pd_i l9)) l10 d11 d12 d13 d14 d15 d16 d17 d18 l19 l20 d21 d22 d23 (s1.2.1 921 (Int32.toNatClampNeg l20)) v2 s1)))) := (p4_dr_eq (cd := pd_cd) (fun q => Nat.beq q 45 || Nat.beq q 104 || Nat.beq q 151 || Nat.beq q 237 || Nat.beq q 260 || Nat.beq q 311 || Nat.beq q 323 || Nat.beq q 460 || Nat.beq q 523 || Nat.beq q 549 || Nat.beq q 573 || Nat.beq q 593 || Nat.beq q 645 || Nat.beq q 698 || Nat.beq q 797 || Nat.beq q 851 || Nat.beq q 868 || Nat.beq q 902 || Nat.beq q 992 || Nat.beq q 1024) 30 _).symm.trans rfl
set_option maxRecDepth 20000 in
theorem L_law_L645_eq (l7 : Int64) (d9 : Option pd_V) (l10 : Int32) (l11 : Int32) (l12 : Int32) (d13 : Option pd_V) (d14 : Option pd_V) (d15 : Option pd_V) (d16 : Option pd_V) (l17 : Int32) (d18 : Option pd_V) (l19 : Int32) (l20 : Int32) (d21 : Option pd_V) (d22 : Option pd_V) (d23 : Option pd_V) (t0 : Int32) (t1 : Int32) (σ : pd_H) : L_law_L645 l7 d9 l10 l11 l12 d13 d14 d15 d16 l17 d18 l19 l20 d21 d22 d23 t0 t1 σ =
 cond (decide (t1 = t0))
 (pd_bI (Y_since 0 l19 l20 σ) fun s1 v2 =>
  pd_bI (Y_since 230 l19 l20 s1) fun s3 v4 =>
  cond (decide (v2 = v4))
  (L_law_L593 l7 1 l10 l11 l12 d13 d14 d15 d16 l17 d18 l19 (l20 + 1) d21 d22 d23 s3)
  (L_law_L593 l7 0 l10 l11 l12 d13 d14 d15 d16 l17 d18 l19 (l20 + 1) d21 d22 d23 s3))
 (L_law_L593 l7 0 l10 l11 l12 d13 d14 d15 d16 l17 d18 l19 (l20 + 1) d21 d22 d23 σ) := (p4_dr_eq (cd := pd_cd) (fun q => Nat.beq q 45 || Nat.beq q 104 || Nat.beq q 151 || Nat.beq q 237 || Nat.beq q 260 || Nat.beq q 311 || Nat.beq q 323 || Nat.beq q 460 || Nat.beq q 523 || Nat.beq q 549 || Nat.beq q 573 || Nat.beq q 593 || Nat.beq q 645 || Nat.beq q 698 || Nat.beq q 797 || Nat.beq q 851 || Nat.beq q 868 || Nat.beq q 902 || Nat.beq q 992 || Nat.beq q 1024) 16 _).symm.trans rfl
set_option maxRecDepth 20000 in
theorem L_law_L868_eq (d1 : Option pd_V) (d2 : Option pd_V) (d6 : Option pd_V) (d7 : Option pd_V) (d8 : Option pd_V) (l9 : Int32) (d10 : Option pd_V) (d11 : Option pd_V) (d12 : Option pd_V) (d13 : Option pd_V) (d14 : Option pd_V) (d15 : Option pd_V) (d16 : Option pd_V) (d17 : Option pd_V) (d18 : Option pd_V) (l19 : Int32) (d20 : Option pd_V) (d21 : Option pd_V) (d22 : Option pd_V) (d23 : Option pd_V) (σ : pd_H) : L_law_L868 d1 d2 d6 d7 d8 l9 d10 d11 d12 d13 d14 d15 d16 d17 d18 l19 d20 d21 d22 d23 σ =
 cond (decide (l9 = 0))
 (L_law_L902 (some (pd_r 30 922)) d1 d2 d6 d7 d8 (some (pd_i l9)) d10 d11 d12 d13 d14 d15 d16 d17 d18 (some (pd_i l19)) d20 d21 d22 d23 0 σ)
 (pd_bI (L_lays 690 l19 σ) fun s1 v2 =>
  cond (decide (v2 = 0))
  (pd_bI (L_alike 460 690 s1) fun s3 v4 =>
   cond (decide (v4 = 0))
   (L_law_L902 (some (pd_r 30 922)) d1 d2 d6 d7 d8 (some (pd_i l9)) d10 d11 d12 d13 d14 d15 d16 d17 d18 (some (pd_i l19)) d20 d21 d22 d23 0 s3)
   (L_law_L902 (some (pd_r 30 922)) d1 d2 d6 d7 d8 (some (pd_i l9)) d10 d11 d12 d13 d14 d15 d16 d17 d18 (some (pd_i l19)) d20 d21 d22 d23 1 s3))
  (L_law_L902 (some (pd_r 30 922)) d1 d2 d6 d7 d8 (some (pd_i l9)) d10 d11 d12 d13 d14 d15 d16 d17 d18 (some (pd_i l19)) d20 d21 d22 d23 0 s1)) := (p4_dr_eq (cd := pd_cd) (fun q => Nat.beq q 45 || Nat.beq q 104 || Nat.beq q 151 || Nat.beq q 237 || Nat.beq q 260 || Nat.beq q 311 || Nat.beq q 323 || Nat.beq q 460 || Nat.beq q 523 || Nat.beq q 549 || Nat.beq q 573 || Nat.beq q 593 || Nat.beq q 645 || Nat.beq q 698 || Nat.beq q 797 || Nat.beq q 851 || Nat.beq q 868 || Nat.beq q 902 || Nat.beq q 992 || Nat.beq q 1024) 16 _).symm.trans rfl
set_option maxRecDepth 20000 in
theorem L_law_L851_eq (d1 : Option pd_V) (d2 : Option pd_V) (l7 : Int64) (d9 : Option pd_V) (l10 : Int32) (d11 : Option pd_V) (d12 : Option pd_V) (d13 : Option pd_V) (d14 : Option pd_V) (d15 : Option pd_V) (d16 : Option pd_V) (d17 : Option pd_V) (d18 : Option pd_V) (l19 : Int32) (l20 : Int32) (d21 : Option pd_V) (d22 : Option pd_V) (d23 : Option pd_V) (t0 : Int64) (t1 : Int64) (σ : pd_H) : L_law_L851 d1 d2 l7 d9 l10 d11 d12 d13 d14 d15 d16 d17 d18 l19 l20 d21 d22 d23 t0 t1 σ =
 cond (decide ((lg_cmp t1 t0) = 0))
 (L_law_L797 d1 d2 l7 1 l10 d11 d12 d13 d14 d15 d16 d17 d18 l19 (l20 + 1) d21 d22 d23 σ)
 (L_law_L797 d1 d2 l7 0 l10 d11 d12 d13 d14 d15 d16 d17 d18 l19 (l20 + 1) d21 d22 d23 σ) := (p4_dr_eq (cd := pd_cd) (fun q => Nat.beq q 45 || Nat.beq q 104 || Nat.beq q 151 || Nat.beq q 237 || Nat.beq q 260 || Nat.beq q 311 || Nat.beq q 323 || Nat.beq q 460 || Nat.beq q 523 || Nat.beq q 549 || Nat.beq q 573 || Nat.beq q 593 || Nat.beq q 645 || Nat.beq q 698 || Nat.beq q 797 || Nat.beq q 851 || Nat.beq q 868 || Nat.beq q 902 || Nat.beq q 992 || Nat.beq q 1024) 8 _).symm.trans rfl
set_option maxRecDepth 20000 in
theorem L_law_L902_eq (d0 : Option pd_V) (d1 : Option pd_V) (d2 : Option pd_V) (d6 : Option pd_V) (d7 : Option pd_V) (d8 : Option pd_V) (d9 : Option pd_V) (d10 : Option pd_V) (d11 : Option pd_V) (d12 : Option pd_V) (d13 : Option pd_V) (d14 : Option pd_V) (d15 : Option pd_V) (d16 : Option pd_V) (d17 : Option pd_V) (d18 : Option pd_V) (d19 : Option pd_V) (d20 : Option pd_V) (d21 : Option pd_V) (d22 : Option pd_V) (d23 : Option pd_V) (t0 : Int32) (σ : pd_H) : L_law_L902 d0 d1 d2 d6 d7 d8 d9 d10 d11 d12 d13 d14 d15 d16 d17 d18 d19 d20 d21 d22 d23 t0 σ =
 pd_bI (Y_count 460 7 σ) fun s1 v2 =>
 pd_bI (Y_count 460 6 s1) fun s3 v4 =>
 cond (decide (t0 = 0))
 (pd_bI (Y_count 460 1 s3) fun s5 v6 =>
  L_law_L992 d0 d1 d2 (some (pd_r 9 690)) (some (pd_r 20 920)) d6 d7 (cond (pd_is2 (cond (pd_is2 d8) none d8)) none (cond (pd_is2 d8) none d8)) 0 d10 d11 d12 d13 d14 d15 d16 d17 d18 (cond (pd_is2 d19) none d19) (some (pd_i v2)) (some (pd_i v4)) v6 0 s5)
 (pd_bI (Y_prune 460 s3) fun s7 v8 =>
  cond (decide (v8 = v2))
  (pd_bI (Y_count 460 6 s7) fun s11 v12 =>
   cond (decide (v12 = (v4 - v2)))
   (pd_bI (Y_count 460 7 s11) fun s15 v16 =>
    cond (decide (v16 = 0))
    (pd_bI (L_alike 460 690 s15) fun s19 v20 =>
     cond (decide (v20 = 0))
     (pd_bI (Y_count 460 1 s19) fun s21 v22 =>
      L_law_L992 d0 d1 d2 (some (pd_r 9 690)) (some (pd_r 20 920)) d6 d7 (cond (pd_is2 (cond (pd_is2 d8) none d8)) none (cond (pd_is2 d8) none d8)) 0 d10 d11 d12 d13 d14 d15 d16 d17 d18 (cond (pd_is2 d19) none d19) (some (pd_i v2)) (some (pd_i v4)) v22 0 s21)
     (pd_bI (Y_prune 460 s19) fun s23 v24 =>
      cond (decide (v24 = 0))
      (pd_bI (Y_count 460 1 s23) fun s27 v28 =>
       L_law_L992 d0 d1 d2 (some (pd_r 9 690)) (some (pd_r 20 920)) d6 d7 (cond (pd_is2 (cond (pd_is2 d8) none d8)) none (cond (pd_is2 d8) none d8)) 1 d10 d11 d12 d13 d14 d15 d16 d17 d18 (cond (pd_is2 d19) none d19) (some (pd_i v2)) (some (pd_i v4)) v28 0 s27)
      (pd_bI (Y_count 460 1 s23) fun s25 v26 =>
       L_law_L992 d0 d1 d2 (some (pd_r 9 690)) (some (pd_r 20 920)) d6 d7 (cond (pd_is2 (cond (pd_is2 d8) none d8)) none (cond (pd_is2 d8) none d8)) 0 d10 d11 d12 d13 d14 d15 d16 d17 d18 (cond (pd_is2 d19) none d19) (some (pd_i v2)) (some (pd_i v4)) v26 0 s25)))
    (pd_bI (Y_count 460 1 s15) fun s17 v18 =>
     L_law_L992 d0 d1 d2 (some (pd_r 9 690)) (some (pd_r 20 920)) d6 d7 (cond (pd_is2 (cond (pd_is2 d8) none d8)) none (cond (pd_is2 d8) none d8)) 0 d10 d11 d12 d13 d14 d15 d16 d17 d18 (cond (pd_is2 d19) none d19) (some (pd_i v2)) (some (pd_i v4)) v18 0 s17))
   (pd_bI (Y_count 460 1 s11) fun s13 v14 =>
    L_law_L992 d0 d1 d2 (some (pd_r 9 690)) (some (pd_r 20 920)) d6 d7 (cond (pd_is2 (cond (pd_is2 d8) none d8)) none (cond (pd_is2 d8) none d8)) 0 d10 d11 d12 d13 d14 d15 d16 d17 d18 (cond (pd_is2 d19) none d19) (some (pd_i v2)) (some (pd_i v4)) v14 0 s13))
  (pd_bI (Y_count 460 1 s7) fun s9 v10 =>
   L_law_L992 d0 d1 d2 (some (pd_r 9 690)) (some (pd_r 20 920)) d6 d7 (cond (pd_is2 (cond (pd_is2 d8) none d8)) none (cond (pd_is2 d8) none d8)) 0 d10 d11 d12 d13 d14 d15 d16 d17 d18 (cond (pd_is2 d19) none d19) (some (pd_i v2)) (some (pd_i v4)) v10 0 s9)) := (p4_dr_eq (cd := pd_cd) (fun q => Nat.beq q 45 || Nat.beq q 104 || Nat.beq q 151 || Nat.beq q 237 || Nat.beq q 260 || Nat.beq q 311 || Nat.beq q 323 || Nat.beq q 460 || Nat.beq q 523 || Nat.beq q 549 || Nat.beq q 573 || Nat.beq q 593 || Nat.beq q 645 || Nat.beq q 698 || Nat.beq q 797 || Nat.beq q 851 || Nat.beq q 868 || Nat.beq q 902 || Nat.beq q 992 || Nat.beq q 1024) 44 _).symm.trans rfl
set_option maxRecDepth 20000 in
theorem L_law_L992_eq (d0 : Option pd_V) (d1 : Option pd_V) (d2 : Option pd_V) (d4 : Option pd_V) (d5 : Option pd_V) (d6 : Option pd_V) (d7 : Option pd_V) (d8 : Option pd_V) (l9 : Int32) (d10 : Option pd_V) (d11 : Option pd_V) (d12 : Option pd_V) (d13 : Option pd_V) (d14 : Option pd_V) (d15 : Option pd_V) (d16 : Option pd_V) (d17 : Option pd_V) (d18 : Option pd_V) (d19 : Option pd_V) (d20 : Option pd_V) (d21 : Option pd_V) (l22 : Int32) (l23 : Int32) (σ : pd_H) : L_law_L992 d0 d1 d2 d4 d5 d6 d7 d8 l9 d10 d11 d12 d13 d14 d15 d16 d17 d18 d19 d20 d21 l22 l23 σ =
 cond (decide (l22 ≤ l23))
 (L_law_L1024 d0 d1 d2 d4 d5 d6 d7 d8 l9 d10 d11 d12 d13 d14 d15 d16 d17 d18 d19 d20 d21 l22 (some (pd_i l23)) σ)
 (cond (decide (l9 = 0))
  (L_law_L1024 d0 d1 d2 d4 d5 d6 d7 d8 l9 d10 d11 d12 d13 d14 d15 d16 d17 d18 d19 d20 d21 l22 (some (pd_i l23)) σ)
  (pd_bI (Y_undo 460 σ) fun s1 v2 =>
   cond (decide (v2 < 0))
   (L_law_L992 d0 d1 d2 d4 d5 d6 d7 (cond (pd_is2 d8) none d8) 0 d10 d11 d12 d13 d14 d15 d16 d17 d18 d19 d20 d21 l22 (l23 + 1) s1)
   (L_law_L992 d0 d1 d2 d4 d5 d6 d7 (cond (pd_is2 d8) none d8) 1 d10 d11 d12 d13 d14 d15 d16 d17 d18 d19 d20 d21 l22 (l23 + 1) s1))) := (p4_dr_eq (cd := pd_cd) (fun q => Nat.beq q 45 || Nat.beq q 104 || Nat.beq q 151 || Nat.beq q 237 || Nat.beq q 260 || Nat.beq q 311 || Nat.beq q 323 || Nat.beq q 460 || Nat.beq q 523 || Nat.beq q 549 || Nat.beq q 573 || Nat.beq q 593 || Nat.beq q 645 || Nat.beq q 698 || Nat.beq q 797 || Nat.beq q 851 || Nat.beq q 868 || Nat.beq q 902 || Nat.beq q 992 || Nat.beq q 1024) 14 _).symm.trans rfl
set_option maxRecDepth 20000 in
theorem L_law_L1024_eq (d0 : Option pd_V) (d1 : Option pd_V) (d2 : Option pd_V) (d4 : Option pd_V) (d5 : Option pd_V) (d6 : Option pd_V) (d7 : Option pd_V) (d8 : Option pd_V) (l9 : Int32) (d10 : Option pd_V) (d11 : Option pd_V) (d12 : Option pd_V) (d13 : Option pd_V) (d14 : Option pd_V) (d15 : Option pd_V) (d16 : Option pd_V) (d17 : Option pd_V) (d18 : Option pd_V) (d19 : Option pd_V) (d20 : Option pd_V) (d21 : Option pd_V) (l22 : Int32) (d23 : Option pd_V) (σ : pd_H) : L_law_L1024 d0 d1 d2 d4 d5 d6 d7 d8 l9 d10 d11 d12 d13 d14 d15 d16 d17 d18 d19 d20 d21 l22 d23 σ =
 cond (decide (l9 = 0))
 (some (σ, some (pd_i 0)))
 (pd_bI (Y_undo 460 σ) fun s1 v2 =>
  cond (decide (v2 = ((-3) : Int32)))
  (pd_bI (Y_count 460 5 s1) fun s3 v4 =>
   cond (decide (v4 = 0))
   (pd_bI (Y_count 460 3 s3) fun s5 v6 =>
    cond (decide (v6 = l22))
    (pd_bI (Y_settle 460 s5) fun s7 v8 =>
     cond (decide (v8 = 0))
     (pd_bI (Y_count 460 0 s7) fun s9 v10 =>
      cond (decide (v10 = 0))
      (some (s9, some (pd_i 1)))
      (some (s9, some (pd_i 0))))
     (some (s7, some (pd_i 0))))
    (some (s5, some (pd_i 0))))
   (some (s3, some (pd_i 0))))
  (some (s1, some (pd_i 0)))) := (p4_dr_eq (cd := pd_cd) (fun q => Nat.beq q 45 || Nat.beq q 104 || Nat.beq q 151 || Nat.beq q 237 || Nat.beq q 260 || Nat.beq q 311 || Nat.beq q 323 || Nat.beq q 460 || Nat.beq q 523 || Nat.beq q 549 || Nat.beq q 573 || Nat.beq q 593 || Nat.beq q 645 || Nat.beq q 698 || Nat.beq q 797 || Nat.beq q 851 || Nat.beq q 868 || Nat.beq q 902 || Nat.beq q 992 || Nat.beq q 1024) 25 _).symm.trans rfl
