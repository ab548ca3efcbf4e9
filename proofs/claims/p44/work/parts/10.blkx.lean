theorem Book_nextOfDraft_eq  (σ : pd_H) : Book_nextOfDraft  σ =
 pd_bI (X_stepOf 24 (σ.1 9 24) σ) fun s1 v2 =>
 cond (pd_ob v2 (pd_len 8)) none
 (some (s1, some (pd_r 1 (80 + Int32.toNatClampNeg v2)))) := (pd_dr_eq (cd := pd_cd) (fun q => false) 10 _).symm.trans rfl
noncomputable def Book_makePatchOfDraft_L7 (l1 : Int32) (l2 : Int32) (σ : pd_H) : Option pd_R := pd_u (1, 7, [some (pd_r 0 7), some (pd_i l1), some (pd_i l2)], [], σ)
theorem Book_makePatchOfDraft_eq  (σ : pd_H) : Book_makePatchOfDraft  σ =
 Book_makePatchOfDraft_L7 (σ.1 7 2) 0 σ := (pd_dr_eq (cd := pd_cd) (fun q => Nat.beq q 7) 6 _).symm.trans rfl
theorem Book_makePatchOfDraft_L7_eq (l1 : Int32) (l2 : Int32) (σ : pd_H) : Book_makePatchOfDraft_L7 l1 l2 σ =
 cond (decide ((σ.1 9 24) ≤ l2))
 (cond (pd_ob l1 (pd_len 9)) none
  (some (pd_upI (pd_upI (pd_upI σ 9 (Int32.toNatClampNeg l1) (σ.1 9 24)) 9 24 0) 7 2 (((pd_upI (pd_upI σ 9 (Int32.toNatClampNeg l1) (σ.1 9 24)) 9 24 0).1 7 2) + 1), some (pd_i l1))))
 (pd_bI (X_stepOf l1 l2 σ) fun s1 v2 =>
  cond (pd_ob v2 (pd_len 8)) none
  (pd_bI (X_stepOf 24 l2 s1) fun s3 v4 =>
  cond (pd_ob v4 (pd_len 8)) none
  (pd_bV (Change_becomeLike (80 + Int32.toNatClampNeg v2) (80 + Int32.toNatClampNeg v4) s3) fun s5 =>
  Book_makePatchOfDraft_L7 l1 (l2 + 1) s5))) := (pd_dr_eq (cd := pd_cd) (fun q => Nat.beq q 7) 27 _).symm.trans rfl
noncomputable def Book_removeChanges_L13 (l1 : Int32) (l2 : Int32) (l3 : Int32) (l4 : Int32) (l5 : Int32) (σ : pd_H) : Option pd_R := pd_u (2, 13, [some (pd_r 0 7), some (pd_i l1), some (pd_i l2), some (pd_i l3), some (pd_i l4), some (pd_i l5)], [], σ)
theorem Book_removeChanges_eq (a : Int32) (b : Int32) (σ : pd_H) : Book_removeChanges a b σ =
 cond (pd_ob a (pd_len 9)) none
 (Book_removeChanges_L13 a b (σ.1 9 (Int32.toNatClampNeg a)) 0 0 σ) := (pd_dr_eq (cd := pd_cd) (fun q => Nat.beq q 13) 10 _).symm.trans rfl
theorem Book_removeChanges_L13_eq (l1 : Int32) (l2 : Int32) (l3 : Int32) (l4 : Int32) (l5 : Int32) (σ : pd_H) : Book_removeChanges_L13 l1 l2 l3 l4 l5 σ =
 cond (decide (l3 ≤ l5))
 (cond (pd_ob l1 (pd_len 9)) none
  (some (pd_upI σ 9 (Int32.toNatClampNeg l1) l4, some (pd_i (l3 - l4)))))
 (cond (decide (((l2 >>> (l5 &&& 31)) &&& 1) = 0))
  (pd_bI (X_stepOf l1 l4 σ) fun s1 v2 =>
   cond (pd_ob v2 (pd_len 8)) none
   (pd_bI (X_stepOf l1 l5 s1) fun s3 v4 =>
   cond (pd_ob v4 (pd_len 8)) none
   (pd_bV (Change_becomeLike (80 + Int32.toNatClampNeg v2) (80 + Int32.toNatClampNeg v4) s3) fun s5 =>
   Book_removeChanges_L13 l1 l2 l3 (l4 + 1) (l5 + 1) s5)))
  (Book_removeChanges_L13 l1 l2 l3 l4 (l5 + 1) σ)) := (pd_dr_eq (cd := pd_cd) (fun q => Nat.beq q 13) 26 _).symm.trans rfl
noncomputable def Book_touches_L2 (l1 : Int32) (l2 : Int32) (l3 : Int32) (d4 : Option pd_V) (σ : pd_H) : Option pd_R := pd_u (3, 2, [some (pd_r 0 7), some (pd_i l1), some (pd_i l2), some (pd_i l3), d4], [], σ)
theorem Book_touches_eq (a : Int32) (b : Int32) (σ : pd_H) : Book_touches a b σ =
 Book_touches_L2 a b 0 none σ := (pd_dr_eq (cd := pd_cd) (fun q => Nat.beq q 2) 3 _).symm.trans rfl
theorem Book_touches_L2_eq (l1 : Int32) (l2 : Int32) (l3 : Int32) (d4 : Option pd_V) (σ : pd_H) : Book_touches_L2 l1 l2 l3 d4 σ =
 cond (pd_ob l1 (pd_len 9)) none
 (cond (decide ((σ.1 9 (Int32.toNatClampNeg l1)) ≤ l3))
 (some (σ, some (pd_i 0)))
 (pd_bI (X_stepOf l1 l3 σ) fun s1 v2 =>
  cond (pd_ob v2 (pd_len 8)) none
  (cond (decide ((s1.1 (80 + Int32.toNatClampNeg v2) 3) = l2))
  (some (s1, some (pd_i 1)))
  (cond (decide ((s1.1 (80 + Int32.toNatClampNeg v2) 0) = l2))
   (some (s1, some (pd_i 1)))
   (Book_touches_L2 l1 l2 (l3 + 1) (some (pd_r 1 (80 + Int32.toNatClampNeg v2))) s1))))) := (pd_dr_eq (cd := pd_cd) (fun q => Nat.beq q 2) 24 _).symm.trans rfl
theorem Change_become_eq (o : Nat) (a : Int32) (b : Int32) (c : Int32) (d : Int32) (e : Int32) (f : Int32) (σ : pd_H) : Change_become o a b c d e f σ =
 some (pd_upI (pd_upI (pd_upI (pd_upI (pd_upI (pd_upI σ o 0 a) o 1 b) o 2 c) o 3 d) o 4 e) o 5 f, none) := (pd_dr_eq (cd := pd_cd) (fun q => false) 19 _).symm.trans rfl
theorem Change_becomeLike_eq (o : Nat) (a : Nat) (σ : pd_H) : Change_becomeLike o a σ =
 pd_bV (Change_become o (σ.1 a 0) (σ.1 a 1) (σ.1 a 2) (σ.1 a 3) (σ.1 a 4) (σ.1 a 5) σ) fun s1 =>
 some (s1, none) := (pd_dr_eq (cd := pd_cd) (fun q => false) 15 _).symm.trans rfl
theorem Change_isCopy_eq (o : Nat) (σ : pd_H) : Change_isCopy o σ =
 cond (decide ((σ.1 o 0) = ((-1) : Int32)))
 (some (σ, some (pd_i 0)))
 (some (σ, some (pd_i 1))) := (pd_dr_eq (cd := pd_cd) (fun q => false) 7 _).symm.trans rfl
theorem Run_standLike_eq (o : Nat) (a : Nat) (σ : pd_H) : Run_standLike o a σ =
 pd_bV (Values_becomeLike (o + 3) (a + 3) σ) fun s1 =>
 some (s1, none) := (pd_dr_eq (cd := pd_cd) (fun q => false) 6 _).symm.trans rfl
noncomputable def Run_play_L16 (l0 : Nat) (l1 : Int32) (d2 : Option pd_V) (d3 : Option pd_V) (σ : pd_H) : Option pd_R := pd_u (8, 16, [some (pd_r 2 l0), some (pd_i l1), d2, d3], [], σ)
noncomputable def Run_play_L42 (l0 : Nat) (l1 : Int32) (d2 : Option pd_V) (d3 : Option pd_V) (σ : pd_H) : Option pd_R := pd_u (8, 42, [some (pd_r 2 l0), some (pd_i l1), d2, d3], [], σ)
noncomputable def Run_play_L65 (l0 : Nat) (l1 : Int32) (l2 : Int32) (l3 : Int32) (σ : pd_H) : Option pd_R := pd_u (8, 65, [some (pd_r 2 l0), some (pd_i l1), some (pd_i l2), some (pd_i l3)], [], σ)
theorem Run_play_eq (o : Nat) (σ : pd_H) : Run_play o σ =
 pd_bV (Values_becomeLike (o + 3) 4 σ) fun s1 =>
 Run_play_L16 o 0 none none s1 := (pd_dr_eq (cd := pd_cd) (fun q => Nat.beq q 16 || Nat.beq q 42 || Nat.beq q 65) 9 _).symm.trans rfl
theorem Run_play_L16_eq (l0 : Nat) (l1 : Int32) (d2 : Option pd_V) (d3 : Option pd_V) (σ : pd_H) : Run_play_L16 l0 l1 d2 d3 σ =
 cond (decide ((72 : Int32) ≤ l1))
 (Run_play_L42 l0 0 d2 d3 (pd_upI σ l0 10 0))
 (cond (pd_ob l1 (pd_len (l0 + 6))) none
  (Run_play_L16 l0 (l1 + 1) d2 d3 (pd_upI σ (l0 + 6) (Int32.toNatClampNeg l1) (-1)))) := (pd_dr_eq (cd := pd_cd) (fun q => Nat.beq q 16 || Nat.beq q 42 || Nat.beq q 65) 11 _).symm.trans rfl
theorem Run_play_L42_eq (l0 : Nat) (l1 : Int32) (d2 : Option pd_V) (d3 : Option pd_V) (σ : pd_H) : Run_play_L42 l0 l1 d2 d3 σ =
 cond (decide ((σ.1 (l0 + 1) 1) ≤ l1))
 (pd_bV (Run_markDead l0 σ) fun s1 =>
  some (s1, none))
 (cond (pd_ob l1 (pd_len (l0 + 2))) none
  (Run_play_L65 l0 l1 (σ.1 (l0 + 2) (Int32.toNatClampNeg l1)) 0 σ)) := (pd_dr_eq (cd := pd_cd) (fun q => Nat.beq q 16 || Nat.beq q 42 || Nat.beq q 65) 14 _).symm.trans rfl
theorem Run_play_L65_eq (l0 : Nat) (l1 : Int32) (l2 : Int32) (l3 : Int32) (σ : pd_H) : Run_play_L65 l0 l1 l2 l3 σ =
 cond (pd_ob l2 (pd_len 9)) none
 (cond (decide ((σ.1 9 (Int32.toNatClampNeg l2)) ≤ l3))
 (Run_play_L42 l0 (l1 + 1) (some (pd_i l2)) (some (pd_i l3)) σ)
 (pd_bI (Run_step l0 l2 l3 σ) fun s1 v2 =>
  cond (decide (((pd_upI s1 l0 10 v2).1 l0 10) = 0))
  (Run_play_L65 l0 l1 l2 (l3 + 1) (pd_upI s1 l0 10 v2))
  (some (pd_upI (pd_upI (pd_upI s1 l0 10 v2) l0 11 l2) l0 12 l3, none)))) := (pd_dr_eq (cd := pd_cd) (fun q => Nat.beq q 16 || Nat.beq q 42 || Nat.beq q 65) 23 _).symm.trans rfl
noncomputable def Run_step_L98 (l0 : Nat) (l1 : Int32) (d2 : Option pd_V) (l3 : Int32) (l4 : Nat) (σ : pd_H) : Option pd_R := pd_u (9, 98, [some (pd_r 2 l0), some (pd_i l1), d2, some (pd_i l3), some (pd_r 1 l4)], [], σ)
theorem Run_step_eq (o : Nat) (a : Int32) (b : Int32) (σ : pd_H) : Run_step o a b σ =
 pd_bI (X_stepOf a b σ) fun s1 v2 =>
 cond (pd_ob v2 (pd_len 8)) none
 (cond (pd_ob v2 (pd_len (o + 14))) none
 (pd_bI (Change_isCopy (80 + Int32.toNatClampNeg v2) (pd_upI (pd_upI (pd_upI s1 o 13 (-1)) o 15 (-1)) (o + 14) (Int32.toNatClampNeg v2) (-1))) fun s3 v4 =>
 cond (decide (v4 = 0))
 (pd_bI (X_typeWritten ((pd_upI s3 o 15 (s3.1 (80 + Int32.toNatClampNeg v2) 2)).1 (80 + Int32.toNatClampNeg v2) 2) (pd_upI s3 o 15 (s3.1 (80 + Int32.toNatClampNeg v2) 2))) fun s5 v6 =>
  pd_bJ (X_numberMade ((pd_upI s5 o 17 v6).1 o 17) ((pd_upI s5 o 17 v6).1 (80 + Int32.toNatClampNeg v2) 5) (pd_upI s5 o 17 v6)) fun s7 v8 =>
  Run_step_L98 o a (some (pd_i b)) v2 (80 + Int32.toNatClampNeg v2) (pd_upJ s7 o 18 v8))
 (pd_bV (Run_pickUp o (80 + Int32.toNatClampNeg v2) v2 s3) fun s9 =>
  cond (decide ((s9.1 o 14) = 0))
  (Run_step_L98 o a (some (pd_i b)) v2 (80 + Int32.toNatClampNeg v2) s9)
  (some (s9, some (pd_i (s9.1 o 14))))))) := (pd_dr_eq (cd := pd_cd) (fun q => Nat.beq q 98) 41 _).symm.trans rfl
theorem Run_step_L98_eq (l0 : Nat) (l1 : Int32) (d2 : Option pd_V) (l3 : Int32) (l4 : Nat) (σ : pd_H) : Run_step_L98 l0 l1 d2 l3 l4 σ =
 pd_bI (Shelf_writingFinding (σ.1 l4 3) (σ.1 l0 15) (σ.1 l4 4) σ) fun s1 v2 =>
 cond (decide (((pd_upI s1 l0 16 v2).1 l0 16) = 0))
 (pd_bV (Run_putDown l0 l4 l3 (pd_upI s1 l0 16 v2)) fun s3 =>
  pd_bI (X_cellOf (s3.1 l4 3) (s3.1 l4 4) s3) fun s4 v5 =>
  cond (pd_ob v5 (pd_len (l0 + 6))) none
  (some (pd_upI s4 (l0 + 6) (Int32.toNatClampNeg v5) l1, some (pd_i ((pd_upI s4 (l0 + 6) (Int32.toNatClampNeg v5) l1).1 l0 16)))))
 (some (pd_upI s1 l0 16 v2, some (pd_i ((pd_upI s1 l0 16 v2).1 l0 16)))) := (pd_dr_eq (cd := pd_cd) (fun q => Nat.beq q 98) 30 _).symm.trans rfl
theorem Run_pickUp_eq (o : Nat) (a : Nat) (b : Int32) (σ : pd_H) : Run_pickUp o a b σ =
 pd_bI (Shelf_readingFinding ((pd_upI σ o 13 (σ.1 a 2)).1 a 0) ((pd_upI σ o 13 (σ.1 a 2)).1 o 13) ((pd_upI σ o 13 (σ.1 a 2)).1 a 1) (pd_upI σ o 13 (σ.1 a 2))) fun s1 v2 =>
 cond (decide (((pd_upI s1 o 14 v2).1 o 14) = 0))
 (pd_bI (X_cellOf ((pd_upI s1 o 14 v2).1 a 0) ((pd_upI s1 o 14 v2).1 a 1) (pd_upI s1 o 14 v2)) fun s3 v4 =>
  cond (pd_ob v4 (pd_len (o + 6))) none
  (cond (pd_ob b (pd_len (o + 14))) none
  (cond (pd_ob v4 (pd_len (o + 4))) none
  (cond (decide (((pd_upI s3 (o + 14) (Int32.toNatClampNeg b) (s3.1 (o + 6) (Int32.toNatClampNeg v4))).1 o 13) = (8 : Int32)))
  (cond (pd_ob v4 (pd_len (o + 5))) none
   (some (pd_upI (pd_upJ (pd_upI (pd_upI s3 (o + 14) (Int32.toNatClampNeg b) (s3.1 (o + 6) (Int32.toNatClampNeg v4))) o 17 ((pd_upI s3 (o + 14) (Int32.toNatClampNeg b) (s3.1 (o + 6) (Int32.toNatClampNeg v4))).1 (o + 4) (Int32.toNatClampNeg v4))) o 18 ((pd_upI (pd_upI s3 (o + 14) (Int32.toNatClampNeg b) (s3.1 (o + 6) (Int32.toNatClampNeg v4))) o 17 ((pd_upI s3 (o + 14) (Int32.toNatClampNeg b) (s3.1 (o + 6) (Int32.toNatClampNeg v4))).1 (o + 4) (Int32.toNatClampNeg v4))).2.1 (o + 5) (Int32.toNatClampNeg v4))) o 15 ((8 : Int32) + ((pd_upI s3 (o + 14) (Int32.toNatClampNeg b) (s3.1 (o + 6) (Int32.toNatClampNeg v4))).1 (o + 4) (Int32.toNatClampNeg v4))), none)))
  (cond (pd_ob v4 (pd_len (o + 5))) none
   (pd_bJ (X_widened ((pd_upI s3 (o + 14) (Int32.toNatClampNeg b) (s3.1 (o + 6) (Int32.toNatClampNeg v4))).1 (o + 4) (Int32.toNatClampNeg v4)) ((pd_upI (pd_upI s3 (o + 14) (Int32.toNatClampNeg b) (s3.1 (o + 6) (Int32.toNatClampNeg v4))) o 17 ((pd_upI s3 (o + 14) (Int32.toNatClampNeg b) (s3.1 (o + 6) (Int32.toNatClampNeg v4))).1 o 13)).2.1 (o + 5) (Int32.toNatClampNeg v4)) ((pd_upI (pd_upI s3 (o + 14) (Int32.toNatClampNeg b) (s3.1 (o + 6) (Int32.toNatClampNeg v4))) o 17 ((pd_upI s3 (o + 14) (Int32.toNatClampNeg b) (s3.1 (o + 6) (Int32.toNatClampNeg v4))).1 o 13)).1 o 13) (pd_upI (pd_upI s3 (o + 14) (Int32.toNatClampNeg b) (s3.1 (o + 6) (Int32.toNatClampNeg v4))) o 17 ((pd_upI s3 (o + 14) (Int32.toNatClampNeg b) (s3.1 (o + 6) (Int32.toNatClampNeg v4))).1 o 13))) fun s5 v6 =>
   some (pd_upI (pd_upJ s5 o 18 v6) o 15 ((pd_upJ s5 o 18 v6).1 o 13), none)))))))
 (some (pd_upI s1 o 14 v2, none)) := (pd_dr_eq (cd := pd_cd) (fun q => false) 62 _).symm.trans rfl
noncomputable def Run_putDown_L101 (l0 : Nat) (d1 : Option pd_V) (l2 : Int32) (l3 : Int32) (d4 : Option pd_V) (σ : pd_H) : Option pd_R := pd_u (11, 101, [some (pd_r 2 l0), d1, some (pd_i l2), some (pd_i l3), d4], [], σ)
theorem Run_putDown_eq (o : Nat) (a : Nat) (b : Int32) (σ : pd_H) : Run_putDown o a b σ =
 pd_bI (X_cellOf (σ.1 a 3) (σ.1 a 4) σ) fun s1 v2 =>
 cond (pd_ob v2 (pd_len (o + 4))) none
 (cond (pd_ob v2 (pd_len (o + 5))) none
 (pd_bV (Values_put (o + 8) b (s1.1 (o + 4) (Int32.toNatClampNeg v2)) (s1.2.1 (o + 5) (Int32.toNatClampNeg v2)) s1) fun s3 =>
 cond (pd_ob (s3.1 a 3) (pd_len 2)) none
 (cond (decide ((7 : Int32) < (s3.1 2 (Int32.toNatClampNeg (s3.1 a 3)))))
 (pd_bV (Values_put (o + 3) v2 (s3.1 o 17) (s3.2.1 o 18) s3) fun s4 =>
  Run_putDown_L101 o (some (pd_r 1 a)) b v2 (some (pd_i (s3.1 2 (Int32.toNatClampNeg (s3.1 a 3))))) s4)
 (pd_bJ (X_widened (s3.1 o 17) (s3.2.1 o 18) (s3.1 2 (Int32.toNatClampNeg (s3.1 a 3))) s3) fun s5 v6 =>
  pd_bV (Values_put (o + 3) v2 (s3.1 2 (Int32.toNatClampNeg (s3.1 a 3))) v6 s5) fun s7 =>
  Run_putDown_L101 o (some (pd_r 1 a)) b v2 (some (pd_i (s3.1 2 (Int32.toNatClampNeg (s3.1 a 3))))) s7)))) := (pd_dr_eq (cd := pd_cd) (fun q => Nat.beq q 101) 43 _).symm.trans rfl
theorem Run_putDown_L101_eq (l0 : Nat) (d1 : Option pd_V) (l2 : Int32) (l3 : Int32) (d4 : Option pd_V) (σ : pd_H) : Run_putDown_L101 l0 d1 l2 l3 d4 σ =
 cond (pd_ob l3 (pd_len (l0 + 4))) none
 (cond (pd_ob l3 (pd_len (l0 + 5))) none
 (pd_bV (Values_put (l0 + 11) l2 (σ.1 (l0 + 4) (Int32.toNatClampNeg l3)) (σ.2.1 (l0 + 5) (Int32.toNatClampNeg l3)) σ) fun s1 =>
 some (s1, none))) := (pd_dr_eq (cd := pd_cd) (fun q => Nat.beq q 101) 15 _).symm.trans rfl
noncomputable def Run_markDead_L2 (l0 : Nat) (l1 : Int32) (d2 : Option pd_V) (d3 : Option pd_V) (σ : pd_H) : Option pd_R := pd_u (12, 2, [some (pd_r 2 l0), some (pd_i l1), d2, d3], [], σ)
noncomputable def Run_markDead_L31 (l0 : Nat) (l1 : Int32) (d2 : Option pd_V) (d3 : Option pd_V) (σ : pd_H) : Option pd_R := pd_u (12, 31, [some (pd_r 2 l0), some (pd_i l1), d2, d3], [], σ)
noncomputable def Run_markDead_L64 (l0 : Nat) (l1 : Int32) (l2 : Int32) (l3 : Int32) (σ : pd_H) : Option pd_R := pd_u (12, 64, [some (pd_r 2 l0), some (pd_i l1), some (pd_i l2), some (pd_i l3)], [], σ)
theorem Run_markDead_eq (o : Nat) (σ : pd_H) : Run_markDead o σ =
 Run_markDead_L2 o 0 none none σ := (pd_dr_eq (cd := pd_cd) (fun q => Nat.beq q 2 || Nat.beq q 31 || Nat.beq q 64) 3 _).symm.trans rfl
theorem Run_markDead_L2_eq (l0 : Nat) (l1 : Int32) (d2 : Option pd_V) (d3 : Option pd_V) (σ : pd_H) : Run_markDead_L2 l0 l1 d2 d3 σ =
 cond (decide ((72 : Int32) ≤ l1))
 (Run_markDead_L31 l0 ((σ.1 (l0 + 1) 1) - 1) d2 d3 σ)
 (cond (pd_ob l1 (pd_len (l0 + 7))) none
  (Run_markDead_L2 l0 (l1 + 1) d2 d3 (pd_upI σ (l0 + 7) (Int32.toNatClampNeg l1) (vp_nar .boolean 1)))) := (pd_dr_eq (cd := pd_cd) (fun q => Nat.beq q 2 || Nat.beq q 31 || Nat.beq q 64) 11 _).symm.trans rfl
theorem Run_markDead_L31_eq (l0 : Nat) (l1 : Int32) (d2 : Option pd_V) (d3 : Option pd_V) (σ : pd_H) : Run_markDead_L31 l0 l1 d2 d3 σ =
 cond (decide (l1 < 0))
 (some (σ, none))
 (cond (pd_ob l1 (pd_len (l0 + 2))) none
  (cond (pd_ob (σ.1 (l0 + 2) (Int32.toNatClampNeg l1)) (pd_len (l0 + 15))) none
  (cond (pd_ob (σ.1 (l0 + 2) (Int32.toNatClampNeg l1)) (pd_len 9)) none
  (Run_markDead_L64 l0 l1 (σ.1 (l0 + 2) (Int32.toNatClampNeg l1)) (((pd_upI σ (l0 + 15) (Int32.toNatClampNeg (σ.1 (l0 + 2) (Int32.toNatClampNeg l1))) 0).1 9 (Int32.toNatClampNeg (σ.1 (l0 + 2) (Int32.toNatClampNeg l1)))) - 1) (pd_upI σ (l0 + 15) (Int32.toNatClampNeg (σ.1 (l0 + 2) (Int32.toNatClampNeg l1))) 0))))) := (pd_dr_eq (cd := pd_cd) (fun q => Nat.beq q 2 || Nat.beq q 31 || Nat.beq q 64) 22 _).symm.trans rfl
theorem Run_markDead_L64_eq (l0 : Nat) (l1 : Int32) (l2 : Int32) (l3 : Int32) (σ : pd_H) : Run_markDead_L64 l0 l1 l2 l3 σ =
 cond (decide (l3 < 0))
 (Run_markDead_L31 l0 (l1 + (-1)) (some (pd_i l2)) (some (pd_i l3)) σ)
 (pd_bI (X_stepOf l2 l3 σ) fun s1 v2 =>
  cond (pd_ob v2 (pd_len 8)) none
  (pd_bI (Run_isNeeded l0 (80 + Int32.toNatClampNeg v2) s1) fun s3 v4 =>
  cond (decide (v4 = 0))
  (cond (pd_ob l2 (pd_len (l0 + 15))) none
   (cond (pd_ob l2 (pd_len (l0 + 15))) none
   (Run_markDead_L64 l0 l1 l2 (l3 + (-1)) (pd_upI s3 (l0 + 15) (Int32.toNatClampNeg l2) ((s3.1 (l0 + 15) (Int32.toNatClampNeg l2)) ||| ((1 : Int32) <<< (l3 &&& 31)))))))
  (Run_markDead_L64 l0 l1 l2 (l3 + (-1)) s3))) := (pd_dr_eq (cd := pd_cd) (fun q => Nat.beq q 2 || Nat.beq q 31 || Nat.beq q 64) 25 _).symm.trans rfl
theorem Run_isNeeded_eq (o : Nat) (a : Nat) (σ : pd_H) : Run_isNeeded o a σ =
 pd_bI (X_cellOf (σ.1 a 3) (σ.1 a 4) σ) fun s1 v2 =>
 cond (pd_ob v2 (pd_len (o + 7))) none
 (cond (pd_ob v2 (pd_len (o + 7))) none
 (cond (decide ((s1.1 (o + 7) (Int32.toNatClampNeg v2)) = 0))
 (cond (decide ((s1.1 (o + 7) (Int32.toNatClampNeg v2)) = 0 ∨ (s1.1 (o + 7) (Int32.toNatClampNeg v2)) = 1)) (some (pd_upI s1 (o + 7) (Int32.toNatClampNeg v2) (vp_nar .boolean 0), some (pd_i (s1.1 (o + 7) (Int32.toNatClampNeg v2))))) none)
 (pd_bI (Change_isCopy a (pd_upI s1 (o + 7) (Int32.toNatClampNeg v2) (vp_nar .boolean 0))) fun s3 v4 =>
  cond (decide (v4 = 0))
  (cond (decide ((s1.1 (o + 7) (Int32.toNatClampNeg v2)) = 0 ∨ (s1.1 (o + 7) (Int32.toNatClampNeg v2)) = 1)) (some (s3, some (pd_i (s1.1 (o + 7) (Int32.toNatClampNeg v2))))) none)
  (pd_bI (X_cellOf (s3.1 a 0) (s3.1 a 1) s3) fun s5 v6 =>
   cond (pd_ob v6 (pd_len (o + 7))) none
   (cond (decide ((s1.1 (o + 7) (Int32.toNatClampNeg v2)) = 0 ∨ (s1.1 (o + 7) (Int32.toNatClampNeg v2)) = 1)) (some (pd_upI s5 (o + 7) (Int32.toNatClampNeg v6) (vp_nar .boolean 1), some (pd_i (s1.1 (o + 7) (Int32.toNatClampNeg v2))))) none))))) := (pd_dr_eq (cd := pd_cd) (fun q => false) 32 _).symm.trans rfl
noncomputable def Run_dependents_L13 (l0 : Nat) (l1 : Int32) (l2 : Int32) (l3 : Int32) (d4 : Option pd_V) (σ : pd_H) : Option pd_R := pd_u (14, 13, [some (pd_r 2 l0), some (pd_i l1), some (pd_i l2), some (pd_i l3), d4], [], σ)
theorem Run_dependents_eq (o : Nat) (a : Int32) (σ : pd_H) : Run_dependents o a σ =
 pd_bI (Seq_indexOf (o + 1) a σ) fun s1 v2 =>
 Run_dependents_L13 o a 0 (v2 + 1) none s1 := (pd_dr_eq (cd := pd_cd) (fun q => Nat.beq q 13) 10 _).symm.trans rfl
theorem Run_dependents_L13_eq (l0 : Nat) (l1 : Int32) (l2 : Int32) (l3 : Int32) (d4 : Option pd_V) (σ : pd_H) : Run_dependents_L13 l0 l1 l2 l3 d4 σ =
 cond (decide ((σ.1 (l0 + 1) 1) ≤ l3))
 (some (σ, some (pd_i l2)))
 (cond (pd_ob l3 (pd_len (l0 + 2))) none
  (pd_bI (Run_readsFrom l0 (σ.1 (l0 + 2) (Int32.toNatClampNeg l3)) (l2 ||| ((1 : Int32) <<< (l1 &&& 31))) σ) fun s1 v2 =>
  cond (decide (v2 = 0))
  (Run_dependents_L13 l0 l1 l2 (l3 + 1) (some (pd_i (σ.1 (l0 + 2) (Int32.toNatClampNeg l3)))) s1)
  (Run_dependents_L13 l0 l1 (l2 ||| ((1 : Int32) <<< ((σ.1 (l0 + 2) (Int32.toNatClampNeg l3)) &&& 31))) (l3 + 1) (some (pd_i (σ.1 (l0 + 2) (Int32.toNatClampNeg l3)))) s1))) := (pd_dr_eq (cd := pd_cd) (fun q => Nat.beq q 13) 29 _).symm.trans rfl
noncomputable def Run_readsFrom_L2 (l0 : Nat) (l1 : Int32) (l2 : Int32) (l3 : Int32) (d4 : Option pd_V) (σ : pd_H) : Option pd_R := pd_u (15, 2, [some (pd_r 2 l0), some (pd_i l1), some (pd_i l2), some (pd_i l3), d4], [], σ)
theorem Run_readsFrom_eq (o : Nat) (a : Int32) (b : Int32) (σ : pd_H) : Run_readsFrom o a b σ =
 Run_readsFrom_L2 o a b 0 none σ := (pd_dr_eq (cd := pd_cd) (fun q => Nat.beq q 2) 3 _).symm.trans rfl
theorem Run_readsFrom_L2_eq (l0 : Nat) (l1 : Int32) (l2 : Int32) (l3 : Int32) (d4 : Option pd_V) (σ : pd_H) : Run_readsFrom_L2 l0 l1 l2 l3 d4 σ =
 cond (pd_ob l1 (pd_len 9)) none
 (cond (decide ((σ.1 9 (Int32.toNatClampNeg l1)) ≤ l3))
 (some (σ, some (pd_i 0)))
 (pd_bI (X_stepOf l1 l3 σ) fun s1 v2 =>
  cond (pd_ob v2 (pd_len (l0 + 14))) none
  (cond (decide ((s1.1 (l0 + 14) (Int32.toNatClampNeg v2)) = ((-1) : Int32)))
  (Run_readsFrom_L2 l0 l1 l2 (l3 + 1) (some (pd_i (s1.1 (l0 + 14) (Int32.toNatClampNeg v2)))) s1)
  (cond (decide (((l2 >>> ((s1.1 (l0 + 14) (Int32.toNatClampNeg v2)) &&& 31)) &&& 1) = 0))
   (Run_readsFrom_L2 l0 l1 l2 (l3 + 1) (some (pd_i (s1.1 (l0 + 14) (Int32.toNatClampNeg v2)))) s1)
   (some (s1, some (pd_i 1))))))) := (pd_dr_eq (cd := pd_cd) (fun q => Nat.beq q 2) 26 _).symm.trans rfl
noncomputable def Run_movedFrom_L4 (l0 : Nat) (l1 : Nat) (l2 : Int32) (l3 : Int32) (d4 : Option pd_V) (d5 : Option pd_V) (d6 : Option pd_V) (σ : pd_H) : Option pd_R := pd_u (16, 4, [some (pd_r 2 l0), some (pd_r 2 l1), some (pd_i l2), some (pd_i l3), d4, d5, d6], [], σ)
noncomputable def Run_movedFrom_L49 (l0 : Nat) (l1 : Nat) (l2 : Int32) (l3 : Int32) (l4 : Int32) (l5 : Int32) (l6 : Int32) (σ : pd_H) : Option pd_R := pd_u (16, 49, [some (pd_r 2 l0), some (pd_r 2 l1), some (pd_i l2), some (pd_i l3), some (pd_i l4), some (pd_i l5), some (pd_i l6)], [], σ)
theorem Run_movedFrom_eq (o : Nat) (a : Nat) (σ : pd_H) : Run_movedFrom o a σ =
 Run_movedFrom_L4 o a 0 0 none none none σ := (pd_dr_eq (cd := pd_cd) (fun q => Nat.beq q 4 || Nat.beq q 49) 5 _).symm.trans rfl
theorem Run_movedFrom_L4_eq (l0 : Nat) (l1 : Nat) (l2 : Int32) (l3 : Int32) (d4 : Option pd_V) (d5 : Option pd_V) (d6 : Option pd_V) (σ : pd_H) : Run_movedFrom_L4 l0 l1 l2 l3 d4 d5 d6 σ =
 cond (decide ((σ.1 (l0 + 1) 1) ≤ l3))
 (some (σ, some (pd_i l2)))
 (cond (pd_ob l3 (pd_len (l0 + 2))) none
  (pd_bI (Seq_indexOf (l1 + 1) (σ.1 (l0 + 2) (Int32.toNatClampNeg l3)) σ) fun s1 v2 =>
  cond (decide (v2 = ((-1) : Int32)))
  (Run_movedFrom_L49 l0 l1 l2 l3 (σ.1 (l0 + 2) (Int32.toNatClampNeg l3)) 0 0 s1)
  (Run_movedFrom_L49 l0 l1 l2 l3 (σ.1 (l0 + 2) (Int32.toNatClampNeg l3)) 1 0 s1))) := (pd_dr_eq (cd := pd_cd) (fun q => Nat.beq q 4 || Nat.beq q 49) 23 _).symm.trans rfl
theorem Run_movedFrom_L49_eq (l0 : Nat) (l1 : Nat) (l2 : Int32) (l3 : Int32) (l4 : Int32) (l5 : Int32) (l6 : Int32) (σ : pd_H) : Run_movedFrom_L49 l0 l1 l2 l3 l4 l5 l6 σ =
 cond (pd_ob l4 (pd_len 9)) none
 (cond (decide ((σ.1 9 (Int32.toNatClampNeg l4)) ≤ l6))
 (Run_movedFrom_L4 l0 l1 l2 (l3 + 1) (some (pd_i l4)) (some (pd_i l5)) (some (pd_i l6)) σ)
 (cond (decide (l5 = 0))
  (Run_movedFrom_L4 l0 l1 l2 (l3 + 1) (some (pd_i l4)) (some (pd_i l5)) (some (pd_i l6)) σ)
  (pd_bI (X_stepOf l4 l6 σ) fun s1 v2 =>
   pd_bI (Values_equalAt (l0 + 11) v2 (l1 + 11) s1) fun s3 v4 =>
   cond (decide (v4 = 0))
   (Run_movedFrom_L49 l0 l1 (l2 + 1) l3 l4 l5 (l6 + 1) s3)
   (Run_movedFrom_L49 l0 l1 l2 l3 l4 l5 (l6 + 1) s3)))) := (pd_dr_eq (cd := pd_cd) (fun q => Nat.beq q 4 || Nat.beq q 49) 22 _).symm.trans rfl
noncomputable def Run_unchangedAfter_L49 (l0 : Nat) (l1 : Int32) (l2 : Int32) (l3 : Int64) (l5 : Int32) (l6 : Int32) (d7 : Option pd_V) (σ : pd_H) : Option pd_R := pd_u (17, 49, [some (pd_r 2 l0), some (pd_i l1), some (pd_i l2), some (pd_j l3), none, some (pd_i l5), some (pd_i l6), d7], [], σ)
noncomputable def Run_unchangedAfter_L106 (l0 : Nat) (l1 : Int32) (l2 : Int32) (l3 : Int64) (l5 : Int32) (l6 : Int32) (d7 : Option pd_V) (σ : pd_H) : Option pd_R := pd_u (17, 106, [some (pd_r 2 l0), some (pd_i l1), some (pd_i l2), some (pd_j l3), none, some (pd_i l5), some (pd_i l6), d7], [], σ)
theorem Run_unchangedAfter_eq (o : Nat) (a : Int32) (σ : pd_H) : Run_unchangedAfter o a σ =
 cond (pd_ob a (pd_len 5)) none
 (cond (pd_ob a (pd_len 6)) none
 (pd_bI (Values_isAt (o + 3) a (σ.1 5 (Int32.toNatClampNeg a)) (σ.2.1 6 (Int32.toNatClampNeg a)) σ) fun s1 v2 =>
 cond (decide (v2 = 0))
 (Run_unchangedAfter_L49 o a (σ.1 5 (Int32.toNatClampNeg a)) (σ.2.1 6 (Int32.toNatClampNeg a)) 1 0 none s1)
 (Run_unchangedAfter_L49 o a (σ.1 5 (Int32.toNatClampNeg a)) (σ.2.1 6 (Int32.toNatClampNeg a)) 0 0 none s1))) := (pd_dr_eq (cd := pd_cd) (fun q => Nat.beq q 49 || Nat.beq q 106) 27 _).symm.trans rfl
theorem Run_unchangedAfter_L49_eq (l0 : Nat) (l1 : Int32) (l2 : Int32) (l3 : Int64) (l5 : Int32) (l6 : Int32) (d7 : Option pd_V) (σ : pd_H) : Run_unchangedAfter_L49 l0 l1 l2 l3 l5 l6 d7 σ =
 cond (decide ((σ.1 (l0 + 1) 1) ≤ l6))
 (some (σ, some (pd_i l5)))
 (cond (pd_ob l6 (pd_len (l0 + 2))) none
  (pd_bI (Run_lastChangeOf l0 l1 (σ.1 (l0 + 2) (Int32.toNatClampNeg l6)) σ) fun s1 v2 =>
  cond (decide (v2 = ((-1) : Int32)))
  (Run_unchangedAfter_L106 l0 l1 l2 l3 l5 l6 (some (pd_i v2)) s1)
  (cond (pd_ob v2 (pd_len (l0 + 12))) none
   (cond (pd_ob v2 (pd_len (l0 + 13))) none
   (Run_unchangedAfter_L106 l0 l1 (s1.1 (l0 + 12) (Int32.toNatClampNeg v2)) (s1.2.1 (l0 + 13) (Int32.toNatClampNeg v2)) l5 l6 (some (pd_i v2)) s1))))) := (pd_dr_eq (cd := pd_cd) (fun q => Nat.beq q 49 || Nat.beq q 106) 30 _).symm.trans rfl
theorem Run_unchangedAfter_L106_eq (l0 : Nat) (l1 : Int32) (l2 : Int32) (l3 : Int64) (l5 : Int32) (l6 : Int32) (d7 : Option pd_V) (σ : pd_H) : Run_unchangedAfter_L106 l0 l1 l2 l3 l5 l6 d7 σ =
 pd_bI (Values_isAt (l0 + 3) l1 l2 l3 σ) fun s1 v2 =>
 cond (decide (v2 = 0))
 (Run_unchangedAfter_L49 l0 l1 l2 l3 (l6 + 2) (l6 + 1) d7 s1)
 (Run_unchangedAfter_L49 l0 l1 l2 l3 l5 (l6 + 1) d7 s1) := (pd_dr_eq (cd := pd_cd) (fun q => Nat.beq q 49 || Nat.beq q 106) 14 _).symm.trans rfl
noncomputable def Run_lastChangeOf_L12 (l0 : Nat) (l1 : Int32) (l2 : Int32) (l3 : Int32) (d4 : Option pd_V) (σ : pd_H) : Option pd_R := pd_u (18, 12, [some (pd_r 2 l0), some (pd_i l1), some (pd_i l2), some (pd_i l3), d4], [], σ)
theorem Run_lastChangeOf_eq (o : Nat) (a : Int32) (b : Int32) (σ : pd_H) : Run_lastChangeOf o a b σ =
 cond (pd_ob b (pd_len 9)) none
 (Run_lastChangeOf_L12 o a b ((σ.1 9 (Int32.toNatClampNeg b)) - 1) none σ) := (pd_dr_eq (cd := pd_cd) (fun q => Nat.beq q 12) 9 _).symm.trans rfl
theorem Run_lastChangeOf_L12_eq (l0 : Nat) (l1 : Int32) (l2 : Int32) (l3 : Int32) (d4 : Option pd_V) (σ : pd_H) : Run_lastChangeOf_L12 l0 l1 l2 l3 d4 σ =
 cond (decide (l3 < 0))
 (some (σ, some (pd_i (-1))))
 (pd_bI (X_stepOf l2 l3 σ) fun s1 v2 =>
  cond (pd_ob v2 (pd_len 8)) none
  (pd_bI (X_cellOf (s1.1 (80 + Int32.toNatClampNeg v2) 3) (s1.1 (80 + Int32.toNatClampNeg v2) 4) s1) fun s3 v4 =>
  cond (decide (v4 = l1))
  (pd_bI (X_stepOf l2 l3 s3) fun s5 v6 =>
   some (s5, some (pd_i v6)))
  (Run_lastChangeOf_L12 l0 l1 l2 (l3 + (-1)) (some (pd_r 1 (80 + Int32.toNatClampNeg v2))) s3))) := (pd_dr_eq (cd := pd_cd) (fun q => Nat.beq q 12) 21 _).symm.trans rfl
theorem Seq_append_eq (o : Nat) (a : Int32) (σ : pd_H) : Seq_append o a σ =
 cond (decide ((24 : Int32) ≤ (σ.1 o 1)))
 (some (σ, none))
 (cond (pd_ob (σ.1 o 1) (pd_len (o + 1))) none
  (some (pd_upI (pd_upI σ (o + 1) (Int32.toNatClampNeg (σ.1 o 1)) a) o 1 (((pd_upI σ (o + 1) (Int32.toNatClampNeg (σ.1 o 1)) a).1 o 1) + 1), none))) := (pd_dr_eq (cd := pd_cd) (fun q => false) 17 _).symm.trans rfl
noncomputable def Seq_indexOf_L2 (l0 : Nat) (l1 : Int32) (l2 : Int32) (σ : pd_H) : Option pd_R := pd_u (20, 2, [some (pd_r 4 l0), some (pd_i l1), some (pd_i l2)], [], σ)
theorem Seq_indexOf_eq (o : Nat) (a : Int32) (σ : pd_H) : Seq_indexOf o a σ =
 Seq_indexOf_L2 o a 0 σ := (pd_dr_eq (cd := pd_cd) (fun q => Nat.beq q 2) 3 _).symm.trans rfl
theorem Seq_indexOf_L2_eq (l0 : Nat) (l1 : Int32) (l2 : Int32) (σ : pd_H) : Seq_indexOf_L2 l0 l1 l2 σ =
 cond (decide ((σ.1 l0 1) ≤ l2))
 (some (σ, some (pd_i (-1))))
 (cond (pd_ob l2 (pd_len (l0 + 1))) none
  (cond (decide ((σ.1 (l0 + 1) (Int32.toNatClampNeg l2)) = l1))
  (some (σ, some (pd_i l2)))
  (Seq_indexOf_L2 l0 l1 (l2 + 1) σ))) := (pd_dr_eq (cd := pd_cd) (fun q => Nat.beq q 2) 13 _).symm.trans rfl
noncomputable def Seq_remove_L4 (l0 : Nat) (l1 : Int32) (l2 : Int32) (l3 : Int32) (σ : pd_H) : Option pd_R := pd_u (21, 4, [some (pd_r 4 l0), some (pd_i l1), some (pd_i l2), some (pd_i l3)], [], σ)
theorem Seq_remove_eq (o : Nat) (a : Int32) (σ : pd_H) : Seq_remove o a σ =
 Seq_remove_L4 o a 0 0 σ := (pd_dr_eq (cd := pd_cd) (fun q => Nat.beq q 4) 5 _).symm.trans rfl
theorem Seq_remove_L4_eq (l0 : Nat) (l1 : Int32) (l2 : Int32) (l3 : Int32) (σ : pd_H) : Seq_remove_L4 l0 l1 l2 l3 σ =
 cond (decide ((σ.1 l0 1) ≤ l3))
 (some (pd_upI σ l0 1 l2, none))
 (cond (pd_ob l3 (pd_len (l0 + 1))) none
  (cond (decide ((σ.1 (l0 + 1) (Int32.toNatClampNeg l3)) = l1))
  (Seq_remove_L4 l0 l1 l2 (l3 + 1) σ)
  (cond (pd_ob l3 (pd_len (l0 + 1))) none
   (cond (pd_ob l2 (pd_len (l0 + 1))) none
   (Seq_remove_L4 l0 l1 (l2 + 1) (l3 + 1) (pd_upI σ (l0 + 1) (Int32.toNatClampNeg l2) (σ.1 (l0 + 1) (Int32.toNatClampNeg l3)))))))) := (pd_dr_eq (cd := pd_cd) (fun q => Nat.beq q 4) 22 _).symm.trans rfl
noncomputable def Seq_becomeLike_L10 (l0 : Nat) (l1 : Nat) (l2 : Int32) (σ : pd_H) : Option pd_R := pd_u (22, 10, [some (pd_r 4 l0), some (pd_r 4 l1), some (pd_i l2)], [], σ)
theorem Seq_becomeLike_eq (o : Nat) (a : Nat) (σ : pd_H) : Seq_becomeLike o a σ =
 Seq_becomeLike_L10 o a 0 (pd_upI σ o 1 (σ.1 a 1)) := (pd_dr_eq (cd := pd_cd) (fun q => Nat.beq q 10) 7 _).symm.trans rfl
theorem Seq_becomeLike_L10_eq (l0 : Nat) (l1 : Nat) (l2 : Int32) (σ : pd_H) : Seq_becomeLike_L10 l0 l1 l2 σ =
 cond (decide ((σ.1 l0 1) ≤ l2))
 (some (σ, none))
 (cond (pd_ob l2 (pd_len (l1 + 1))) none
  (cond (pd_ob l2 (pd_len (l0 + 1))) none
  (Seq_becomeLike_L10 l0 l1 (l2 + 1) (pd_upI σ (l0 + 1) (Int32.toNatClampNeg l2) (σ.1 (l1 + 1) (Int32.toNatClampNeg l2)))))) := (pd_dr_eq (cd := pd_cd) (fun q => Nat.beq q 10) 15 _).symm.trans rfl
noncomputable def Shelf_place_L31 (l1 : Int32) (d2 : Option pd_V) (l3 : Int32) (l4 : Int32) (l5 : Int32) (σ : pd_H) : Option pd_R := pd_u (23, 31, [some (pd_r 5 1), some (pd_i l1), d2, some (pd_i l3), some (pd_i l4), some (pd_i l5)], [], σ)
theorem Shelf_place_eq (a : Int32) (b : Int32) (c : Int32) (σ : pd_H) : Shelf_place a b c σ =
 cond (pd_ob a (pd_len 2)) none
 (cond (pd_ob a (pd_len 3)) none
 (cond (decide ((7 : Int32) < b))
 (Shelf_place_L31 a (some (pd_i b)) c 11 0 (pd_upI (pd_upI σ 2 (Int32.toNatClampNeg a) b) 3 (Int32.toNatClampNeg a) c))
 (Shelf_place_L31 a (some (pd_i b)) c b 0 (pd_upI (pd_upI σ 2 (Int32.toNatClampNeg a) b) 3 (Int32.toNatClampNeg a) c)))) := (pd_dr_eq (cd := pd_cd) (fun q => Nat.beq q 31) 19 _).symm.trans rfl
theorem Shelf_place_L31_eq (l1 : Int32) (d2 : Option pd_V) (l3 : Int32) (l4 : Int32) (l5 : Int32) (σ : pd_H) : Shelf_place_L31 l1 d2 l3 l4 l5 σ =
 cond (decide (l3 ≤ l5))
 (some (σ, none))
 (pd_bI (X_cellOf l1 l5 σ) fun s1 v2 =>
  pd_bV (Values_put 4 v2 l4 0 s1) fun s3 =>
  Shelf_place_L31 l1 d2 l3 l4 (l5 + 1) s3) := (pd_dr_eq (cd := pd_cd) (fun q => Nat.beq q 31) 14 _).symm.trans rfl
theorem Shelf_arrayFinding_eq (a : Int32) (σ : pd_H) : Shelf_arrayFinding a σ =
 cond (pd_ob a (pd_len 2)) none
 (cond (decide ((σ.1 2 (Int32.toNatClampNeg a)) = ((-1) : Int32)))
 (some (σ, some (pd_i 1)))
 (cond (pd_ob a (pd_len 2)) none
  (cond (decide ((σ.1 2 (Int32.toNatClampNeg a)) ≤ (12 : Int32)))
  (some (σ, some (pd_i 0)))
  (some (σ, some (pd_i 2)))))) := (pd_dr_eq (cd := pd_cd) (fun q => false) 15 _).symm.trans rfl
theorem Shelf_elementFinding_eq (a : Int32) (b : Int32) (σ : pd_H) : Shelf_elementFinding a b σ =
 pd_bI (Shelf_arrayFinding a σ) fun s1 v2 =>
 cond (decide (v2 = 0))
 (pd_bI (Shelf_indexFinding a b s1) fun s3 v4 =>
  some (s3, some (pd_i v4)))
 (some (s1, some (pd_i v2))) := (pd_dr_eq (cd := pd_cd) (fun q => false) 11 _).symm.trans rfl
theorem Shelf_indexFinding_eq (a : Int32) (b : Int32) (σ : pd_H) : Shelf_indexFinding a b σ =
 cond (decide (b < 0))
 (some (σ, some (pd_i 5)))
 (cond (pd_ob a (pd_len 3)) none
  (cond (decide (b < (σ.1 3 (Int32.toNatClampNeg a))))
  (some (σ, some (pd_i 0)))
  (some (σ, some (pd_i 5))))) := (pd_dr_eq (cd := pd_cd) (fun q => false) 11 _).symm.trans rfl
theorem Shelf_readingFinding_eq (a : Int32) (b : Int32) (c : Int32) (σ : pd_H) : Shelf_readingFinding a b c σ =
 pd_bI (Shelf_arrayFinding a σ) fun s1 v2 =>
 cond (decide (v2 = 0))
 (cond (decide (b = (8 : Int32)))
  (pd_bI (Shelf_indexFinding a c s1) fun s3 v4 =>
   some (s3, some (pd_i v4)))
  (cond (pd_ob a (pd_len 2)) none
   (cond (decide ((s1.1 2 (Int32.toNatClampNeg a)) ≤ (7 : Int32)))
   (cond (pd_ob a (pd_len 2)) none
    (pd_bI (X_widens (s1.1 2 (Int32.toNatClampNeg a)) b s1) fun s5 v6 =>
    cond (decide (v6 = 0))
    (some (s5, some (pd_i 4)))
    (pd_bI (Shelf_indexFinding a c s5) fun s7 v8 =>
     some (s7, some (pd_i v8)))))
   (some (s1, some (pd_i 3))))))
 (some (s1, some (pd_i v2))) := (pd_dr_eq (cd := pd_cd) (fun q => false) 27 _).symm.trans rfl
noncomputable def Shelf_writingFinding_L34 (l1 : Int32) (l2 : Int32) (l3 : Int32) (d4 : Option pd_V) (σ : pd_H) : Option pd_R := pd_u (28, 34, [some (pd_r 5 1), some (pd_i l1), some (pd_i l2), some (pd_i l3), d4], [], σ)
theorem Shelf_writingFinding_eq (a : Int32) (b : Int32) (c : Int32) (σ : pd_H) : Shelf_writingFinding a b c σ =
 pd_bI (Shelf_arrayFinding a σ) fun s1 v2 =>
 cond (decide (v2 = 0))
 (cond (pd_ob a (pd_len 2)) none
  (cond (decide ((s1.1 2 (Int32.toNatClampNeg a)) ≤ (7 : Int32)))
  (Shelf_writingFinding_L34 a b c (some (pd_i v2)) s1)
  (cond (decide ((8 : Int32) ≤ b))
   (Shelf_writingFinding_L34 a b c (some (pd_i v2)) s1)
   (some (s1, some (pd_i 3))))))
 (some (s1, some (pd_i v2))) := (pd_dr_eq (cd := pd_cd) (fun q => Nat.beq q 34) 17 _).symm.trans rfl
theorem Shelf_writingFinding_L34_eq (l1 : Int32) (l2 : Int32) (l3 : Int32) (d4 : Option pd_V) (σ : pd_H) : Shelf_writingFinding_L34 l1 l2 l3 d4 σ =
 cond (pd_ob l1 (pd_len 2)) none
 (pd_bI (X_typeWritten l2 σ) fun s1 v2 =>
 pd_bI (Shelf_takes (σ.1 2 (Int32.toNatClampNeg l1)) v2 s1) fun s3 v4 =>
 cond (decide (v4 = 0))
 (some (s3, some (pd_i 4)))
 (pd_bI (Shelf_indexFinding l1 l3 s3) fun s5 v6 =>
  some (s5, some (pd_i v6)))) := (pd_dr_eq (cd := pd_cd) (fun q => Nat.beq q 34) 13 _).symm.trans rfl
theorem Shelf_takes_eq (a : Int32) (b : Int32) (σ : pd_H) : Shelf_takes a b σ =
 cond (decide (b = 8))
 (cond (decide (a = (8 : Int32)))
  (some (σ, some (pd_i 1)))
  (cond (decide (a = (12 : Int32)))
   (some (σ, some (pd_i 1)))
   (some (σ, some (pd_i 0)))))
 (cond (decide (b = 9))
 (cond (decide (a = (9 : Int32)))
  (some (σ, some (pd_i 1)))
  (some (σ, some (pd_i 0))))
 (cond (decide (b = 10))
 (cond (decide (a = (9 : Int32)))
  (some (σ, some (pd_i 1)))
  (cond (decide (a = (10 : Int32)))
   (some (σ, some (pd_i 1)))
   (some (σ, some (pd_i 0)))))
 (cond (decide (b = 11))
 (cond (decide (a ≤ (7 : Int32)))
  (some (σ, some (pd_i 0)))
  (some (σ, some (pd_i 1))))
 (cond (decide ((7 : Int32) < a))
  (cond (decide (a = (12 : Int32)))
   (some (σ, some (pd_i 1)))
   (cond (decide (a = (11 : Int32)))
    (cond (decide (b = (4 : Int32)))
     (some (σ, some (pd_i 1)))
     (some (σ, some (pd_i 0))))
    (some (σ, some (pd_i 0)))))
  (pd_bI (X_widens b a σ) fun s1 v2 =>
   cond (decide (v2 = 0 ∨ v2 = 1)) (some (s1, some (pd_i v2))) none))))) := (pd_dr_eq (cd := pd_cd) (fun q => false) 17 _).symm.trans rfl
theorem Tally_add_eq (a : Int32) (b : Int32) (σ : pd_H) : Tally_add a b σ =
 cond (pd_ob ((a * 6) + b) (pd_len 16)) none
 (cond (pd_ob ((a * 6) + b) (pd_len 16)) none
 (some (pd_upI σ 16 (Int32.toNatClampNeg ((a * 6) + b)) ((σ.1 16 (Int32.toNatClampNeg ((a * 6) + b))) + 1), none))) := (pd_dr_eq (cd := pd_cd) (fun q => false) 13 _).symm.trans rfl
noncomputable def Tally_addStep_L20 (l1 : Nat) (σ : pd_H) : Option pd_R := pd_u (31, 20, [some (pd_r 6 15), some (pd_r 2 l1)], [], σ)
theorem Tally_addStep_eq (a : Nat) (σ : pd_H) : Tally_addStep a σ =
 cond (decide ((σ.1 a 13) = ((-1) : Int32)))
 (Tally_addStep_L20 a σ)
 (pd_bV (Tally_add (σ.1 a 13) (σ.1 a 14) σ) fun s1 =>
  Tally_addStep_L20 a s1) := (pd_dr_eq (cd := pd_cd) (fun q => Nat.beq q 20) 11 _).symm.trans rfl
theorem Tally_addStep_L20_eq (l1 : Nat) (σ : pd_H) : Tally_addStep_L20 l1 σ =
 cond (decide ((σ.1 l1 15) = ((-1) : Int32)))
 (some (σ, none))
 (cond (decide ((20 : Int32) ≤ (σ.1 l1 15)))
  (some (σ, none))
  (cond (decide ((8 : Int32) ≤ (σ.1 l1 15)))
   (pd_bV (Tally_add 17 (σ.1 l1 16) σ) fun s1 =>
    some (s1, none))
   (pd_bV (Tally_add ((9 : Int32) + (σ.1 l1 15)) (σ.1 l1 16) σ) fun s2 =>
    some (s2, none)))) := (pd_dr_eq (cd := pd_cd) (fun q => Nat.beq q 20) 22 _).symm.trans rfl
theorem Values_put_eq (o : Nat) (a : Int32) (b : Int32) (c : Int64) (σ : pd_H) : Values_put o a b c σ =
 cond (pd_ob a (pd_len (o + 1))) none
 (cond (pd_ob a (pd_len (o + 2))) none
 (some (pd_upJ (pd_upI σ (o + 1) (Int32.toNatClampNeg a) b) (o + 2) (Int32.toNatClampNeg a) c, none))) := (pd_dr_eq (cd := pd_cd) (fun q => false) 11 _).symm.trans rfl
theorem Values_isAt_eq (o : Nat) (a : Int32) (b : Int32) (c : Int64) (σ : pd_H) : Values_isAt o a b c σ =
 cond (pd_ob a (pd_len (o + 1))) none
 (cond (decide ((σ.1 (o + 1) (Int32.toNatClampNeg a)) = b))
 (cond (pd_ob a (pd_len (o + 2))) none
  (cond (decide ((lg_cmp (σ.2.1 (o + 2) (Int32.toNatClampNeg a)) c) = 0))
  (some (σ, some (pd_i 1)))
  (some (σ, some (pd_i 0)))))
 (some (σ, some (pd_i 0)))) := (pd_dr_eq (cd := pd_cd) (fun q => false) 16 _).symm.trans rfl
theorem Values_equalAt_eq (o : Nat) (a : Int32) (b : Nat) (σ : pd_H) : Values_equalAt o a b σ =
 cond (pd_ob a (pd_len (b + 1))) none
 (cond (pd_ob a (pd_len (b + 2))) none
 (pd_bI (Values_isAt o a (σ.1 (b + 1) (Int32.toNatClampNeg a)) (σ.2.1 (b + 2) (Int32.toNatClampNeg a)) σ) fun s1 v2 =>
 cond (decide (v2 = 0 ∨ v2 = 1)) (some (s1, some (pd_i v2))) none)) := (pd_dr_eq (cd := pd_cd) (fun q => false) 12 _).symm.trans rfl
noncomputable def Values_becomeLike_L16 (l0 : Nat) (l1 : Nat) (l2 : Int32) (l3 : Int32) (σ : pd_H) : Option pd_R := pd_u (35, 16, [some (pd_r 8 l0), some (pd_r 8 l1), some (pd_i l2), some (pd_i l3)], [], σ)
theorem Values_becomeLike_eq (o : Nat) (a : Nat) (σ : pd_H) : Values_becomeLike o a σ =
 pd_bI (J_min (Int32.ofNat (pd_len (o + 1))) (Int32.ofNat (pd_len (a + 1))) σ) fun s1 v2 =>
 Values_becomeLike_L16 o a v2 0 s1 := (pd_dr_eq (cd := pd_cd) (fun q => Nat.beq q 16) 11 _).symm.trans rfl
theorem Values_becomeLike_L16_eq (l0 : Nat) (l1 : Nat) (l2 : Int32) (l3 : Int32) (σ : pd_H) : Values_becomeLike_L16 l0 l1 l2 l3 σ =
 cond (decide (l2 ≤ l3))
 (some (σ, none))
 (cond (pd_ob l3 (pd_len (l1 + 1))) none
  (cond (pd_ob l3 (pd_len (l1 + 2))) none
  (pd_bV (Values_put l0 l3 (σ.1 (l1 + 1) (Int32.toNatClampNeg l3)) (σ.2.1 (l1 + 2) (Int32.toNatClampNeg l3)) σ) fun s1 =>
  Values_becomeLike_L16 l0 l1 l2 (l3 + 1) s1))) := (pd_dr_eq (cd := pd_cd) (fun q => Nat.beq q 16) 17 _).symm.trans rfl
noncomputable def X_row_L47 (l1 : Int32) (l2 : Int32) (l3 : Int32) (l4 : Int32) (σ : pd_H) : Option pd_R := pd_u (36, 47, [some (pd_r 9 0), some (pd_i l1), some (pd_i l2), some (pd_i l3), some (pd_i l4)], [], σ)
noncomputable def X_row_L73 (l1 : Int32) (l2 : Int32) (l3 : Int32) (l4 : Int32) (σ : pd_H) : Option pd_R := pd_u (36, 73, [some (pd_r 9 0), some (pd_i l1), some (pd_i l2), some (pd_i l3), some (pd_i l4)], [], σ)
noncomputable def X_row_L89 (d1 : Option pd_V) (d2 : Option pd_V) (l3 : Int32) (l4 : Int32) (t0 : Int32) (t1 : Int32) (t2 : Int32) (σ : pd_H) : Option pd_R := pd_u (36, 89, [some (pd_r 9 0), d1, d2, some (pd_i l3), some (pd_i l4)], [pd_i t0, pd_i t1, pd_i t2, pd_r 5 1], σ)
theorem X_row_eq (a : Int32) (b : Int32) (c : Int32) (σ : pd_H) : X_row a b c σ =
 pd_bI (X_isSlot a σ) fun s1 v2 =>
 cond (decide (v2 = 0))
 (some (s1, some (pd_i (-2))))
 (cond (decide (b < 0))
  (some (s1, some (pd_i (-2))))
  (cond (decide (b ≤ (14 : Int32)))
   (cond (decide ((12 : Int32) < b))
    (cond (decide ((0 : Int32) = 0))
     (X_row_L47 a b c 0 s1)
     (cond (decide (c ≤ (12 : Int32)))
      (X_row_L47 a b c 0 s1)
      (some (s1, some (pd_i (-2))))))
    (cond (decide ((1 : Int32) = 0))
     (X_row_L47 a b c 1 s1)
     (cond (decide (c ≤ (12 : Int32)))
      (X_row_L47 a b c 1 s1)
      (some (s1, some (pd_i (-2)))))))
   (some (s1, some (pd_i (-2)))))) := (pd_dr_eq (cd := pd_cd) (fun q => Nat.beq q 47 || Nat.beq q 73 || Nat.beq q 89) 21 _).symm.trans rfl
theorem X_row_L47_eq (l1 : Int32) (l2 : Int32) (l3 : Int32) (l4 : Int32) (σ : pd_H) : X_row_L47 l1 l2 l3 l4 σ =
 pd_bI (X_isInUse l1 σ) fun s1 v2 =>
 cond (decide (v2 = 0))
 (cond (decide (l4 = 0))
  (X_row_L73 l1 l2 l3 l4 s1)
  (cond (decide (0 ≤ l3))
   (X_row_L73 l1 l2 l3 l4 s1)
   (pd_bI (X_findingCode 7 s1) fun s3 v4 =>
    some (s3, some (pd_i v4)))))
 (some (s1, some (pd_i (-3)))) := (pd_dr_eq (cd := pd_cd) (fun q => Nat.beq q 47 || Nat.beq q 73 || Nat.beq q 89) 11 _).symm.trans rfl
theorem X_row_L73_eq (l1 : Int32) (l2 : Int32) (l3 : Int32) (l4 : Int32) (σ : pd_H) : X_row_L73 l1 l2 l3 l4 σ =
 cond (decide (l4 = 0))
 (X_row_L89 (some (pd_i l1)) (some (pd_i l2)) l3 l4 0 l2 l1 σ)
 (X_row_L89 (some (pd_i l1)) (some (pd_i l2)) l3 l4 l3 l2 l1 σ) := (pd_dr_eq (cd := pd_cd) (fun q => Nat.beq q 47 || Nat.beq q 73 || Nat.beq q 89) 9 _).symm.trans rfl
theorem X_row_L89_eq (d1 : Option pd_V) (d2 : Option pd_V) (l3 : Int32) (l4 : Int32) (t0 : Int32) (t1 : Int32) (t2 : Int32) (σ : pd_H) : X_row_L89 d1 d2 l3 l4 t0 t1 t2 σ =
 pd_bV (Shelf_place t2 t1 t0 σ) fun s1 =>
 pd_bV (Run_play (s1.2.2 0) s1) fun s2 =>
 cond (decide (l4 = 0))
 (some (s2, some (pd_i 0)))
 (some (s2, some (pd_i l3))) := (pd_dr_eq (cd := pd_cd) (fun q => Nat.beq q 47 || Nat.beq q 73 || Nat.beq q 89) 9 _).symm.trans rfl
theorem X_get_eq (a : Int32) (b : Int32) (c : Int32) (σ : pd_H) : X_get a b c σ =
 pd_bI (X_isSlot a σ) fun s1 v2 =>
 cond (decide (v2 = 0))
 (pd_bJ (X_longError (-2) s1) fun s3 v4 =>
  some (s3, some (pd_j v4)))
 (cond (decide (b < 0))
  (pd_bJ (X_longError (-2) s1) fun s5 v6 =>
   some (s5, some (pd_j v6)))
  (cond (decide (b ≤ (8 : Int32)))
   (pd_bI (Shelf_readingFinding a b c s1) fun s7 v8 =>
    pd_bV (Tally_add b v8 s7) fun s9 =>
    pd_bJ (X_numberRead a b c s9) fun s10 v11 =>
    some (s10, some (pd_j v11)))
   (pd_bJ (X_longError (-2) s1) fun s12 v13 =>
    some (s12, some (pd_j v13))))) := (pd_dr_eq (cd := pd_cd) (fun q => false) 24 _).symm.trans rfl
theorem X_what_eq (a : Int32) (b : Int32) (σ : pd_H) : X_what a b σ =
 pd_bI (X_elementError a b σ) fun s1 v2 =>
 cond (decide (v2 = 0))
 (pd_bI (X_cellOf a b s1) fun s3 v4 =>
  cond (pd_ob v4 (pd_len (((s1.2.2 0) + 3) + 1))) none
  (some (s3, some (pd_i (s3.1 (((s1.2.2 0) + 3) + 1) (Int32.toNatClampNeg v4))))))
 (some (s1, some (pd_i v2))) := (pd_dr_eq (cd := pd_cd) (fun q => false) 16 _).symm.trans rfl
theorem X_change_eq (a : Int32) (b : Int32) (c : Int32) (d : Int32) (σ : pd_H) : X_change a b c d σ =
 pd_bI (X_isSlot a σ) fun s1 v2 =>
 cond (decide (v2 = 0))
 (some (s1, some (pd_i (-2))))
 (cond (decide (b < 0))
  (some (s1, some (pd_i (-2))))
  (cond (decide (b ≤ (21 : Int32)))
   (cond (decide ((s1.1 9 24) < (6 : Int32)))
    (pd_bR (Book_nextOfDraft s1) 1 fun s3 v4 =>
     pd_bV (Change_become v4 (-1) 0 b a c d s3) fun s5 =>
     some (pd_upI s5 9 24 ((s5.1 9 24) + 1), some (pd_i ((pd_upI s5 9 24 ((s5.1 9 24) + 1)).1 9 24))))
    (some (s1, some (pd_i (-4)))))
   (some (s1, some (pd_i (-2)))))) := (pd_dr_eq (cd := pd_cd) (fun q => false) 40 _).symm.trans rfl
theorem X_move_eq (a : Int32) (b : Int32) (c : Int32) (d : Int32) (e : Int32) (σ : pd_H) : X_move a b c d e σ =
 pd_bI (X_isSlot a σ) fun s1 v2 =>
 cond (decide (v2 = 0))
 (some (s1, some (pd_i (-2))))
 (cond (decide (c < 0))
  (some (s1, some (pd_i (-2))))
  (cond (decide ((8 : Int32) < c))
   (some (s1, some (pd_i (-2))))
   (pd_bI (X_isSlot d s1) fun s3 v4 =>
    cond (decide (v4 = 0))
    (some (s3, some (pd_i (-2))))
    (cond (decide ((s3.1 9 24) < (6 : Int32)))
     (pd_bR (Book_nextOfDraft s3) 1 fun s5 v6 =>
      pd_bV (Change_become v6 a b c d e 0 s5) fun s7 =>
      some (pd_upI s7 9 24 ((s7.1 9 24) + 1), some (pd_i ((pd_upI s7 9 24 ((s7.1 9 24) + 1)).1 9 24))))
     (some (s3, some (pd_i (-4)))))))) := (pd_dr_eq (cd := pd_cd) (fun q => false) 43 _).symm.trans rfl
theorem X_drop_eq  (σ : pd_H) : X_drop  σ =
 cond (decide ((σ.1 9 24) = 0))
 (some (σ, some (pd_i (-3))))
 (some (pd_upI σ 9 24 ((σ.1 9 24) - 1), some (pd_i ((pd_upI σ 9 24 ((σ.1 9 24) - 1)).1 9 24)))) := (pd_dr_eq (cd := pd_cd) (fun q => false) 21 _).symm.trans rfl
noncomputable def X_lay_L46 (l1 : Int32) (l2 : Int32) (d3 : Option pd_V) (σ : pd_H) : Option pd_R := pd_u (42, 46, [some (pd_r 9 0), some (pd_i l1), some (pd_i l2), d3], [], σ)
theorem X_lay_eq  (σ : pd_H) : X_lay  σ =
 cond (decide ((σ.1 9 24) = 0))
 (some (σ, some (pd_i (-3))))
 (cond (decide ((σ.1 7 2) < (24 : Int32)))
  (pd_bV (Run_standLike (σ.2.2 1) (σ.2.2 0) σ) fun s1 =>
   X_lay_L46 (σ.1 9 24) 0 none s1)
  (some (σ, some (pd_i (-4))))) := (pd_dr_eq (cd := pd_cd) (fun q => Nat.beq q 46) 21 _).symm.trans rfl
theorem X_lay_L46_eq (l1 : Int32) (l2 : Int32) (d3 : Option pd_V) (σ : pd_H) : X_lay_L46 l1 l2 d3 σ =
 cond (decide (l1 ≤ l2))
 (pd_bI (Book_makePatchOfDraft σ) fun s1 v2 =>
  pd_bV (Seq_append ((s1.2.2 0) + 1) v2 s1) fun s3 =>
  pd_bV (Run_play (s3.2.2 0) s3) fun s4 =>
  some (pd_upI s4 17 1 0, some (pd_i v2)))
 (pd_bI (Run_step (σ.2.2 1) 24 l2 σ) fun s5 v6 =>
  pd_bV (Tally_addStep (s5.2.2 1) s5) fun s7 =>
  cond (decide (v6 = 0))
  (X_lay_L46 l1 (l2 + 1) (some (pd_i v6)) s7)
  (pd_bI (X_refuse 24 l2 v6 s7) fun s8 v9 =>
   some (s8, some (pd_i v9)))) := (pd_dr_eq (cd := pd_cd) (fun q => Nat.beq q 46) 22 _).symm.trans rfl
theorem X_undo_eq  (σ : pd_H) : X_undo  σ =
 cond (decide ((σ.1 ((σ.2.2 0) + 1) 1) = 0))
 (some (σ, some (pd_i (-3))))
 (cond (pd_ob ((σ.1 ((σ.2.2 0) + 1) 1) - 1) (pd_len (((σ.2.2 0) + 1) + 1))) none
  (pd_bV (Run_play ((pd_upI σ ((σ.2.2 0) + 1) 1 ((σ.1 ((σ.2.2 0) + 1) 1) - 1)).2.2 0) (pd_upI σ ((σ.2.2 0) + 1) 1 ((σ.1 ((σ.2.2 0) + 1) 1) - 1))) fun s1 =>
  pd_bV (Seq_append 17 (σ.1 (((σ.2.2 0) + 1) + 1) (Int32.toNatClampNeg ((σ.1 ((σ.2.2 0) + 1) 1) - 1))) s1) fun s2 =>
  some (s2, some (pd_i (σ.1 (((σ.2.2 0) + 1) + 1) (Int32.toNatClampNeg ((σ.1 ((σ.2.2 0) + 1) 1) - 1))))))) := (pd_dr_eq (cd := pd_cd) (fun q => false) 32 _).symm.trans rfl
theorem X_out_eq (a : Int32) (σ : pd_H) : X_out a σ =
 pd_bI (X_appliedError a σ) fun s1 v2 =>
 cond (decide (v2 = 0))
 (pd_bV (Seq_becomeLike ((s1.2.2 1) + 1) ((s1.2.2 0) + 1) s1) fun s3 =>
  pd_bV (Seq_remove ((s3.2.2 1) + 1) a s3) fun s4 =>
  pd_bI (X_carryOut s4) fun s5 v6 =>
  pd_bI (X_rearranged v6 s5) fun s7 v8 =>
  some (s7, some (pd_i v8)))
 (some (s1, some (pd_i v2))) := (pd_dr_eq (cd := pd_cd) (fun q => false) 23 _).symm.trans rfl
noncomputable def X_with_L51 (d1 : Option pd_V) (d2 : Option pd_V) (l3 : Int32) (l4 : Int32) (l5 : Int32) (d6 : Option pd_V) (σ : pd_H) : Option pd_R := pd_u (45, 51, [some (pd_r 9 0), d1, d2, some (pd_i l3), some (pd_i l4), some (pd_i l5), d6], [], σ)
theorem X_with_eq (a : Int32) (σ : pd_H) : X_with a σ =
 pd_bI (X_appliedError a σ) fun s1 v2 =>
 cond (decide (v2 = 0))
 (pd_bI (Run_dependents (s1.2.2 0) a s1) fun s3 v4 =>
  X_with_L51 (some (pd_i a)) (some (pd_i v2)) (s1.1 ((s1.2.2 0) + 1) 1) (v4 ||| ((1 : Int32) <<< (a &&& 31))) 0 none (pd_upI s3 ((s3.2.2 1) + 1) 1 0))
 (some (s1, some (pd_i v2))) := (pd_dr_eq (cd := pd_cd) (fun q => Nat.beq q 51) 28 _).symm.trans rfl
theorem X_with_L51_eq (d1 : Option pd_V) (d2 : Option pd_V) (l3 : Int32) (l4 : Int32) (l5 : Int32) (d6 : Option pd_V) (σ : pd_H) : X_with_L51 d1 d2 l3 l4 l5 d6 σ =
 cond (decide (l3 ≤ l5))
 (pd_bI (X_carryOut σ) fun s1 v2 =>
  some (pd_upI s1 17 1 0, some (pd_i (l3 - ((pd_upI s1 17 1 0).1 (((pd_upI s1 17 1 0).2.2 0) + 1) 1)))))
 (cond (pd_ob l5 (pd_len (((σ.2.2 0) + 1) + 1))) none
  (cond (decide (((l4 >>> ((σ.1 (((σ.2.2 0) + 1) + 1) (Int32.toNatClampNeg l5)) &&& 31)) &&& 1) = 0))
  (pd_bV (Seq_append ((σ.2.2 1) + 1) (σ.1 (((σ.2.2 0) + 1) + 1) (Int32.toNatClampNeg l5)) σ) fun s3 =>
   X_with_L51 d1 d2 l3 l4 (l5 + 1) (some (pd_i (σ.1 (((σ.2.2 0) + 1) + 1) (Int32.toNatClampNeg l5)))) s3)
  (X_with_L51 d1 d2 l3 l4 (l5 + 1) (some (pd_i (σ.1 (((σ.2.2 0) + 1) + 1) (Int32.toNatClampNeg l5)))) σ))) := (pd_dr_eq (cd := pd_cd) (fun q => Nat.beq q 51) 24 _).symm.trans rfl
theorem X_hangs_eq (a : Int32) (σ : pd_H) : X_hangs a σ =
 pd_bI (X_appliedError a σ) fun s1 v2 =>
 cond (decide (v2 = 0))
 (pd_bI (Run_dependents (s1.2.2 0) a s1) fun s3 v4 =>
  some (s3, some (pd_i v4)))
 (some (s1, some (pd_i v2))) := (pd_dr_eq (cd := pd_cd) (fun q => false) 11 _).symm.trans rfl
theorem X_without_eq (a : Int32) (b : Int32) (c : Int32) (σ : pd_H) : X_without a b c σ =
 pd_bI (X_isPatch a σ) fun s1 v2 =>
 cond (decide (v2 = 0))
 (pd_bJ (X_longError (-2) s1) fun s3 v4 =>
  some (s3, some (pd_j v4)))
 (pd_bI (X_isSlot b s1) fun s5 v6 =>
  cond (decide (v6 = 0))
  (pd_bJ (X_longError (-2) s5) fun s26 v27 =>
   some (s26, some (pd_j v27)))
  (pd_bI (X_isApplied a s5) fun s7 v8 =>
   cond (decide (v8 = 0))
   (pd_bJ (X_longError (-3) s7) fun s24 v25 =>
    some (s24, some (pd_j v25)))
   (pd_bI (X_elementError b c s7) fun s9 v10 =>
    cond (decide (v10 = 0))
    (pd_bV (Seq_becomeLike ((s9.2.2 1) + 1) ((s9.2.2 0) + 1) s9) fun s11 =>
     pd_bV (Seq_remove ((s11.2.2 1) + 1) a s11) fun s12 =>
     pd_bV (Run_play (s12.2.2 1) s12) fun s13 =>
     cond (decide ((s13.1 (s13.2.2 1) 10) = 0))
     (pd_bI (X_cellOf b c s13) fun s14 v15 =>
      pd_bJ (X_numberAt ((s13.2.2 1) + 3) v15 s14) fun s16 v17 =>
      some (s16, some (pd_j v17)))
     (pd_bI (X_findingCode (s13.1 (s13.2.2 1) 10) s13) fun s18 v19 =>
      pd_bJ (X_longError v19 s18) fun s20 v21 =>
      some (s20, some (pd_j v21))))
    (pd_bJ (X_longError v10 s9) fun s22 v23 =>
     some (s22, some (pd_j v23)))))) := (pd_dr_eq (cd := pd_cd) (fun q => false) 45 _).symm.trans rfl
theorem X_trace_eq (a : Int32) (b : Int32) (c : Int32) (σ : pd_H) : X_trace a b c σ =
 pd_bI (X_isPatch a σ) fun s1 v2 =>
 cond (decide (v2 = 0))
 (pd_bJ (X_longError (-2) s1) fun s3 v4 =>
  some (s3, some (pd_j v4)))
 (cond (decide (c < 0))
  (pd_bJ (X_longError (-2) s1) fun s5 v6 =>
   some (s5, some (pd_j v6)))
  (cond (decide ((1 : Int32) < c))
   (pd_bJ (X_longError (-2) s1) fun s7 v8 =>
    some (s7, some (pd_j v8)))
   (cond (decide (b < 0))
    (pd_bJ (X_longError (-2) s1) fun s9 v10 =>
     some (s9, some (pd_j v10)))
    (cond (pd_ob a (pd_len 9)) none
     (cond (decide (b < (s1.1 9 (Int32.toNatClampNeg a))))
     (pd_bI (X_isApplied a s1) fun s11 v12 =>
      cond (decide (v12 = 0))
      (pd_bJ (X_longError (-3) s11) fun s21 v22 =>
       some (s21, some (pd_j v22)))
      (cond (decide (c = 0))
       (pd_bI (X_stepOf a b s11) fun s17 v18 =>
        pd_bJ (X_numberAt ((s11.2.2 0) + 11) v18 s17) fun s19 v20 =>
        some (s19, some (pd_j v20)))
       (pd_bI (X_stepOf a b s11) fun s13 v14 =>
        pd_bJ (X_numberAt ((s11.2.2 0) + 8) v14 s13) fun s15 v16 =>
        some (s15, some (pd_j v16)))))
     (pd_bJ (X_longError (-2) s1) fun s23 v24 =>
      some (s23, some (pd_j v24)))))))) := (pd_dr_eq (cd := pd_cd) (fun q => false) 33 _).symm.trans rfl
noncomputable def X_prune_L4 (l1 : Int32) (l2 : Int32) (d3 : Option pd_V) (σ : pd_H) : Option pd_R := pd_u (49, 4, [some (pd_r 9 0), some (pd_i l1), some (pd_i l2), d3], [], σ)
theorem X_prune_eq  (σ : pd_H) : X_prune  σ =
 X_prune_L4 0 0 none σ := (pd_dr_eq (cd := pd_cd) (fun q => Nat.beq q 4) 5 _).symm.trans rfl
theorem X_prune_L4_eq (l1 : Int32) (l2 : Int32) (d3 : Option pd_V) (σ : pd_H) : X_prune_L4 l1 l2 d3 σ =
 cond (decide ((σ.1 ((σ.2.2 0) + 1) 1) ≤ l2))
 (pd_bV (Run_play (σ.2.2 0) σ) fun s1 =>
  some (s1, some (pd_i l1)))
 (cond (pd_ob l2 (pd_len (((σ.2.2 0) + 1) + 1))) none
  (cond (pd_ob (σ.1 (((σ.2.2 0) + 1) + 1) (Int32.toNatClampNeg l2)) (pd_len ((σ.2.2 0) + 15))) none
  (pd_bI (Book_removeChanges (σ.1 (((σ.2.2 0) + 1) + 1) (Int32.toNatClampNeg l2)) (σ.1 ((σ.2.2 0) + 15) (Int32.toNatClampNeg (σ.1 (((σ.2.2 0) + 1) + 1) (Int32.toNatClampNeg l2)))) σ) fun s2 v3 =>
  X_prune_L4 (l1 + v3) (l2 + 1) (some (pd_i (σ.1 (((σ.2.2 0) + 1) + 1) (Int32.toNatClampNeg l2)))) s2))) := (pd_dr_eq (cd := pd_cd) (fun q => Nat.beq q 4) 28 _).symm.trans rfl
theorem X_blame_eq (a : Int32) (b : Int32) (σ : pd_H) : X_blame a b σ =
 pd_bI (X_elementError a b σ) fun s1 v2 =>
 cond (decide (v2 = 0))
 (pd_bI (X_cellOf a b s1) fun s3 v4 =>
  cond (pd_ob v4 (pd_len ((s1.2.2 0) + 6))) none
  (some (s3, some (pd_i (s3.1 ((s1.2.2 0) + 6) (Int32.toNatClampNeg v4))))))
 (some (s1, some (pd_i v2))) := (pd_dr_eq (cd := pd_cd) (fun q => false) 15 _).symm.trans rfl
theorem X_since_eq (a : Int32) (b : Int32) (σ : pd_H) : X_since a b σ =
 pd_bI (X_elementError a b σ) fun s1 v2 =>
 cond (decide (v2 = 0))
 (pd_bI (X_cellOf a b s1) fun s3 v4 =>
  pd_bI (Run_unchangedAfter (s1.2.2 0) v4 s3) fun s5 v6 =>
  some (s5, some (pd_i v6)))
 (some (s1, some (pd_i v2))) := (pd_dr_eq (cd := pd_cd) (fun q => false) 14 _).symm.trans rfl
theorem X_settle_eq  (σ : pd_H) : X_settle  σ =
 pd_bV (Values_becomeLike 4 ((σ.2.2 0) + 3) σ) fun s1 =>
 pd_bV (Run_play ((pd_upI (pd_upI (pd_upI (pd_upI s1 7 2 0) 0 7 0) 17 1 0) (((pd_upI (pd_upI (pd_upI s1 7 2 0) 0 7 0) 17 1 0).2.2 0) + 1) 1 0).2.2 0) (pd_upI (pd_upI (pd_upI (pd_upI s1 7 2 0) 0 7 0) 17 1 0) (((pd_upI (pd_upI (pd_upI s1 7 2 0) 0 7 0) 17 1 0).2.2 0) + 1) 1 0)) fun s2 =>
 some (s2, some (pd_i (σ.1 ((σ.2.2 0) + 1) 1))) := (pd_dr_eq (cd := pd_cd) (fun q => false) 33 _).symm.trans rfl
theorem X_fault_eq (a : Int32) (σ : pd_H) : X_fault a σ =
 cond (decide (a = 0))
 (some (σ, some (pd_i (σ.1 0 11))))
 (cond (decide (a = 1))
 (some (σ, some (pd_i (σ.1 0 12))))
 (cond (decide (a = 2))
 (some (σ, some (pd_i (σ.1 0 13))))
 (some (σ, some (pd_i (-2)))))) := (pd_dr_eq (cd := pd_cd) (fun q => false) 5 _).symm.trans rfl
theorem X_count_eq (a : Int32) (σ : pd_H) : X_count a σ =
 cond (decide (a = 0))
 (some (σ, some (pd_i (σ.1 7 2))))
 (cond (decide (a = 1))
 (some (σ, some (pd_i (σ.1 ((σ.2.2 0) + 1) 1))))
 (cond (decide (a = 2))
 (some (σ, some (pd_i (σ.1 9 24))))
 (cond (decide (a = 3))
 (some (σ, some (pd_i (σ.1 17 1))))
 (cond (decide (a = 4))
 (some (σ, some (pd_i (σ.1 0 7))))
 (cond (decide (a = 5))
 (pd_bI (X_allDifferences ((σ.2.2 0) + 3) 4 σ) fun s5 v6 =>
  some (s5, some (pd_i v6)))
 (cond (decide (a = 6))
 (pd_bI (X_appliedChanges σ) fun s3 v4 =>
  some (s3, some (pd_i v4)))
 (cond (decide (a = 7))
 (pd_bI (X_deadChanges σ) fun s1 v2 =>
  some (s1, some (pd_i v2)))
 (cond (decide (a = 8))
 (cond (decide ((σ.1 ((σ.2.2 0) + 1) 1) = 0))
  (some (σ, some (pd_i (-1))))
  (cond (pd_ob ((σ.1 ((σ.2.2 0) + 1) 1) - 1) (pd_len (((σ.2.2 0) + 1) + 1))) none
   (some (σ, some (pd_i (σ.1 (((σ.2.2 0) + 1) + 1) (Int32.toNatClampNeg ((σ.1 ((σ.2.2 0) + 1) 1) - 1))))))))
 (some (σ, some (pd_i (-2)))))))))))) := (pd_dr_eq (cd := pd_cd) (fun q => false) 18 _).symm.trans rfl
theorem X_findingCode_eq (a : Int32) (σ : pd_H) : X_findingCode a σ =
 some (σ, some (pd_i (((-10) : Int32) - a))) := (pd_dr_eq (cd := pd_cd) (fun q => false) 4 _).symm.trans rfl
theorem X_longError_eq (a : Int32) (σ : pd_H) : X_longError a σ =
 some (σ, some (pd_j (((-9223372036854775808) : Int64) - (Int32.toInt64 a)))) := (pd_dr_eq (cd := pd_cd) (fun q => false) 5 _).symm.trans rfl
theorem X_elementError_eq (a : Int32) (b : Int32) (σ : pd_H) : X_elementError a b σ =
 pd_bI (X_isSlot a σ) fun s1 v2 =>
 cond (decide (v2 = 0))
 (some (s1, some (pd_i (-2))))
 (pd_bI (Shelf_elementFinding a b s1) fun s3 v4 =>
  cond (decide (v4 = 0))
  (some (s3, some (pd_i 0)))
  (pd_bI (X_findingCode v4 s3) fun s5 v6 =>
   some (s5, some (pd_i v6)))) := (pd_dr_eq (cd := pd_cd) (fun q => false) 14 _).symm.trans rfl
theorem X_appliedError_eq (a : Int32) (σ : pd_H) : X_appliedError a σ =
 pd_bI (X_isPatch a σ) fun s1 v2 =>
 cond (decide (v2 = 0))
 (some (s1, some (pd_i (-2))))
 (pd_bI (X_isApplied a s1) fun s3 v4 =>
  cond (decide (v4 = 0))
  (some (s3, some (pd_i (-3))))
  (some (s3, some (pd_i 0)))) := (pd_dr_eq (cd := pd_cd) (fun q => false) 11 _).symm.trans rfl
theorem X_refuse_eq (a : Int32) (b : Int32) (c : Int32) (σ : pd_H) : X_refuse a b c σ =
 pd_bI (X_findingCode c (pd_upI (pd_upI (pd_upI σ 0 11 a) 0 12 b) 0 13 c)) fun s1 v2 =>
 some (s1, some (pd_i v2)) := (pd_dr_eq (cd := pd_cd) (fun q => false) 12 _).symm.trans rfl
theorem X_isSlot_eq (a : Int32) (σ : pd_H) : X_isSlot a σ =
 cond (decide (a < 0))
 (some (σ, some (pd_i 0)))
 (cond (decide ((6 : Int32) ≤ a))
  (some (σ, some (pd_i 0)))
  (some (σ, some (pd_i 1)))) := (pd_dr_eq (cd := pd_cd) (fun q => false) 8 _).symm.trans rfl
theorem X_isPatch_eq (a : Int32) (σ : pd_H) : X_isPatch a σ =
 cond (decide (a < 0))
 (some (σ, some (pd_i 0)))
 (cond (decide ((σ.1 7 2) ≤ a))
  (some (σ, some (pd_i 0)))
  (some (σ, some (pd_i 1)))) := (pd_dr_eq (cd := pd_cd) (fun q => false) 10 _).symm.trans rfl
theorem X_isApplied_eq (a : Int32) (σ : pd_H) : X_isApplied a σ =
 pd_bI (Seq_indexOf ((σ.2.2 0) + 1) a σ) fun s1 v2 =>
 cond (decide (v2 = ((-1) : Int32)))
 (some (s1, some (pd_i 0)))
 (some (s1, some (pd_i 1))) := (pd_dr_eq (cd := pd_cd) (fun q => false) 10 _).symm.trans rfl
noncomputable def X_isInUse_L2 (l1 : Int32) (l2 : Int32) (σ : pd_H) : Option pd_R := pd_u (63, 2, [some (pd_r 9 0), some (pd_i l1), some (pd_i l2)], [], σ)
theorem X_isInUse_eq (a : Int32) (σ : pd_H) : X_isInUse a σ =
 X_isInUse_L2 a 0 σ := (pd_dr_eq (cd := pd_cd) (fun q => Nat.beq q 2) 3 _).symm.trans rfl
theorem X_isInUse_L2_eq (l1 : Int32) (l2 : Int32) (σ : pd_H) : X_isInUse_L2 l1 l2 σ =
 cond (decide ((σ.1 ((σ.2.2 0) + 1) 1) ≤ l2))
 (some (σ, some (pd_i 0)))
 (cond (pd_ob l2 (pd_len (((σ.2.2 0) + 1) + 1))) none
  (pd_bI (Book_touches (σ.1 (((σ.2.2 0) + 1) + 1) (Int32.toNatClampNeg l2)) l1 σ) fun s1 v2 =>
  cond (decide (v2 = 0))
  (X_isInUse_L2 l1 (l2 + 1) s1)
  (some (s1, some (pd_i 1))))) := (pd_dr_eq (cd := pd_cd) (fun q => Nat.beq q 2) 20 _).symm.trans rfl
noncomputable def X_appliedChanges_L4 (l1 : Int32) (l2 : Int32) (σ : pd_H) : Option pd_R := pd_u (64, 4, [some (pd_r 9 0), some (pd_i l1), some (pd_i l2)], [], σ)
theorem X_appliedChanges_eq  (σ : pd_H) : X_appliedChanges  σ =
 X_appliedChanges_L4 0 0 σ := (pd_dr_eq (cd := pd_cd) (fun q => Nat.beq q 4) 5 _).symm.trans rfl
theorem X_appliedChanges_L4_eq (l1 : Int32) (l2 : Int32) (σ : pd_H) : X_appliedChanges_L4 l1 l2 σ =
 cond (decide ((σ.1 ((σ.2.2 0) + 1) 1) ≤ l2))
 (some (σ, some (pd_i l1)))
 (cond (pd_ob l2 (pd_len (((σ.2.2 0) + 1) + 1))) none
  (cond (pd_ob (σ.1 (((σ.2.2 0) + 1) + 1) (Int32.toNatClampNeg l2)) (pd_len 9)) none
  (X_appliedChanges_L4 (l1 + (σ.1 9 (Int32.toNatClampNeg (σ.1 (((σ.2.2 0) + 1) + 1) (Int32.toNatClampNeg l2))))) (l2 + 1) σ))) := (pd_dr_eq (cd := pd_cd) (fun q => Nat.beq q 4) 22 _).symm.trans rfl
noncomputable def X_deadChanges_L4 (l1 : Int32) (l2 : Int32) (σ : pd_H) : Option pd_R := pd_u (65, 4, [some (pd_r 9 0), some (pd_i l1), some (pd_i l2)], [], σ)
theorem X_deadChanges_eq  (σ : pd_H) : X_deadChanges  σ =
 X_deadChanges_L4 0 0 σ := (pd_dr_eq (cd := pd_cd) (fun q => Nat.beq q 4) 5 _).symm.trans rfl
theorem X_deadChanges_L4_eq (l1 : Int32) (l2 : Int32) (σ : pd_H) : X_deadChanges_L4 l1 l2 σ =
 cond (decide ((σ.1 ((σ.2.2 0) + 1) 1) ≤ l2))
 (some (σ, some (pd_i l1)))
 (cond (pd_ob l2 (pd_len (((σ.2.2 0) + 1) + 1))) none
  (cond (pd_ob (σ.1 (((σ.2.2 0) + 1) + 1) (Int32.toNatClampNeg l2)) (pd_len ((σ.2.2 0) + 15))) none
  (pd_bI (J_bitCount (σ.1 ((σ.2.2 0) + 15) (Int32.toNatClampNeg (σ.1 (((σ.2.2 0) + 1) + 1) (Int32.toNatClampNeg l2)))) σ) fun s1 v2 =>
  X_deadChanges_L4 (l1 + v2) (l2 + 1) s1))) := (pd_dr_eq (cd := pd_cd) (fun q => Nat.beq q 4) 23 _).symm.trans rfl
theorem X_carryOut_eq  (σ : pd_H) : X_carryOut  σ =
 pd_bV (Run_play (σ.2.2 1) σ) fun s1 =>
 cond (decide ((s1.1 (s1.2.2 1) 10) = 0))
 (some (pd_upR (pd_upR s1 0 (s1.2.2 1)) 1 (s1.2.2 0), some (pd_i 0)))
 (pd_bI (X_refuse (s1.1 (s1.2.2 1) 11) (s1.1 (s1.2.2 1) 12) (s1.1 (s1.2.2 1) 10) s1) fun s2 v3 =>
  some (s2, some (pd_i v3))) := (pd_dr_eq (cd := pd_cd) (fun q => false) 19 _).symm.trans rfl
theorem X_rearranged_eq (a : Int32) (σ : pd_H) : X_rearranged a σ =
 cond (decide (a = 0))
 (pd_bI (Run_movedFrom ((pd_upI σ 17 1 0).2.2 0) ((pd_upI σ 17 1 0).2.2 1) (pd_upI σ 17 1 0)) fun s1 v2 =>
  some (s1, some (pd_i v2)))
 (some (σ, some (pd_i a))) := (pd_dr_eq (cd := pd_cd) (fun q => false) 12 _).symm.trans rfl
theorem X_cellOf_eq (a : Int32) (b : Int32) (σ : pd_H) : X_cellOf a b σ =
 some (σ, some (pd_i ((a * 12) + b))) := (pd_dr_eq (cd := pd_cd) (fun q => false) 6 _).symm.trans rfl
theorem X_stepOf_eq (a : Int32) (b : Int32) (σ : pd_H) : X_stepOf a b σ =
 some (σ, some (pd_i ((a * 6) + b))) := (pd_dr_eq (cd := pd_cd) (fun q => false) 6 _).symm.trans rfl
theorem X_numberRead_eq (a : Int32) (b : Int32) (c : Int32) (σ : pd_H) : X_numberRead a b c σ =
 pd_bI (Shelf_readingFinding a b c σ) fun s1 v2 =>
 cond (decide (v2 = 0))
 (pd_bI (X_cellOf a c s1) fun s3 v4 =>
  cond (decide (b = (8 : Int32)))
  (pd_bJ (X_numberAt ((s3.2.2 0) + 3) v4 s3) fun s7 v8 =>
   some (s7, some (pd_j v8)))
  (cond (pd_ob v4 (pd_len (((s3.2.2 0) + 3) + 1))) none
   (cond (pd_ob v4 (pd_len (((s3.2.2 0) + 3) + 2))) none
   (pd_bJ (X_widened (s3.1 (((s3.2.2 0) + 3) + 1) (Int32.toNatClampNeg v4)) (s3.2.1 (((s3.2.2 0) + 3) + 2) (Int32.toNatClampNeg v4)) b s3) fun s5 v6 =>
   some (s5, some (pd_j v6))))))
 (pd_bI (X_findingCode v2 s1) fun s9 v10 =>
  pd_bJ (X_longError v10 s9) fun s11 v12 =>
  some (s11, some (pd_j v12))) := (pd_dr_eq (cd := pd_cd) (fun q => false) 31 _).symm.trans rfl
theorem X_numberAt_eq (a : Nat) (b : Int32) (σ : pd_H) : X_numberAt a b σ =
 cond (pd_ob b (pd_len (a + 1))) none
 (cond (decide ((σ.1 (a + 1) (Int32.toNatClampNeg b)) = (11 : Int32)))
 (pd_bI (X_findingCode 6 σ) fun s1 v2 =>
  pd_bJ (X_longError v2 s1) fun s3 v4 =>
  some (s3, some (pd_j v4)))
 (cond (pd_ob b (pd_len (a + 2))) none
  (some (σ, some (pd_j (σ.2.1 (a + 2) (Int32.toNatClampNeg b))))))) := (pd_dr_eq (cd := pd_cd) (fun q => false) 11 _).symm.trans rfl
noncomputable def X_differences_L6 (l1 : Int32) (l2 : Nat) (l3 : Nat) (l4 : Int32) (l5 : Int32) (σ : pd_H) : Option pd_R := pd_u (72, 6, [some (pd_r 9 0), some (pd_i l1), some (pd_r 8 l2), some (pd_r 8 l3), some (pd_i l4), some (pd_i l5)], [], σ)
theorem X_differences_eq (a : Int32) (b : Nat) (c : Nat) (σ : pd_H) : X_differences a b c σ =
 X_differences_L6 a b c 0 0 σ := (pd_dr_eq (cd := pd_cd) (fun q => Nat.beq q 6) 5 _).symm.trans rfl
theorem X_differences_L6_eq (l1 : Int32) (l2 : Nat) (l3 : Nat) (l4 : Int32) (l5 : Int32) (σ : pd_H) : X_differences_L6 l1 l2 l3 l4 l5 σ =
 cond (pd_ob l1 (pd_len 3)) none
 (cond (decide ((σ.1 3 (Int32.toNatClampNeg l1)) ≤ l5))
 (some (σ, some (pd_i l4)))
 (pd_bI (X_cellOf l1 l5 σ) fun s1 v2 =>
  pd_bI (Values_equalAt l2 v2 l3 s1) fun s3 v4 =>
  cond (decide (v4 = 0))
  (X_differences_L6 l1 l2 l3 (l4 + 1) (l5 + 1) s3)
  (X_differences_L6 l1 l2 l3 l4 (l5 + 1) s3))) := (pd_dr_eq (cd := pd_cd) (fun q => Nat.beq q 6) 18 _).symm.trans rfl
noncomputable def X_allDifferences_L5 (l1 : Nat) (l2 : Nat) (l3 : Int32) (l4 : Int32) (σ : pd_H) : Option pd_R := pd_u (73, 5, [some (pd_r 9 0), some (pd_r 8 l1), some (pd_r 8 l2), some (pd_i l3), some (pd_i l4)], [], σ)
theorem X_allDifferences_eq (a : Nat) (b : Nat) (σ : pd_H) : X_allDifferences a b σ =
 X_allDifferences_L5 a b 0 0 σ := (pd_dr_eq (cd := pd_cd) (fun q => Nat.beq q 5) 5 _).symm.trans rfl
theorem X_allDifferences_L5_eq (l1 : Nat) (l2 : Nat) (l3 : Int32) (l4 : Int32) (σ : pd_H) : X_allDifferences_L5 l1 l2 l3 l4 σ =
 cond (decide ((6 : Int32) ≤ l4))
 (some (σ, some (pd_i l3)))
 (pd_bI (Shelf_arrayFinding l4 σ) fun s1 v2 =>
  cond (decide (v2 = 0))
  (pd_bI (X_differences l4 l1 l2 s1) fun s3 v4 =>
   X_allDifferences_L5 l1 l2 (l3 + v4) (l4 + 1) s3)
  (X_allDifferences_L5 l1 l2 l3 (l4 + 1) s1)) := (pd_dr_eq (cd := pd_cd) (fun q => Nat.beq q 5) 19 _).symm.trans rfl
theorem X_widens_eq (a : Int32) (b : Int32) (σ : pd_H) : X_widens a b σ =
 cond (decide (a = 0))
 (cond (decide (b = 0))
  (some (σ, some (pd_i 1)))
  (some (σ, some (pd_i 0))))
 (cond (decide (a = 1))
 (cond (decide (b = (1 : Int32)))
  (some (σ, some (pd_i 1)))
  (cond (decide (b < (3 : Int32)))
   (some (σ, some (pd_i 0)))
   (some (σ, some (pd_i 1)))))
 (cond (decide (a = 2))
 (cond (decide (b = a))
  (some (σ, some (pd_i 1)))
  (cond (decide (b < (4 : Int32)))
   (some (σ, some (pd_i 0)))
   (some (σ, some (pd_i 1)))))
 (cond (decide (a = 3))
 (cond (decide (b = a))
  (some (σ, some (pd_i 1)))
  (cond (decide (b < (4 : Int32)))
   (some (σ, some (pd_i 0)))
   (some (σ, some (pd_i 1)))))
 (cond (decide (b < a))
  (some (σ, some (pd_i 0)))
  (some (σ, some (pd_i 1))))))) := (pd_dr_eq (cd := pd_cd) (fun q => false) 11 _).symm.trans rfl
theorem X_widened_eq (a : Int32) (b : Int64) (c : Int32) (σ : pd_H) : X_widened a b c σ =
 cond (decide (c < (6 : Int32)))
 (some (σ, some (pd_j b)))
 (cond (decide (a < (6 : Int32)))
  (cond (decide (c = (6 : Int32)))
   (some (σ, some (pd_j ((8 : Int64) * (FP.f2l (FP.l2f b))))))
   (some (σ, some (pd_j ((8 : Int64) * (FP.d2l (FP.l2d b)))))))
  (some (σ, some (pd_j b)))) := (pd_dr_eq (cd := pd_cd) (fun q => false) 16 _).symm.trans rfl
theorem X_numberMade_eq (a : Int32) (b : Int32) (σ : pd_H) : X_numberMade a b σ =
 cond (decide (a = 0))
 (some (σ, some (pd_j (Int32.toInt64 (b &&& 1)))))
 (cond (decide (a = 1))
 (some (σ, some (pd_j (Int32.toInt64 ((Int32.toInt8 b).toInt32)))))
 (cond (decide (a = 2))
 (some (σ, some (pd_j (Int32.toInt64 ((Int32.toUInt32 b % 65536).toInt32)))))
 (cond (decide (a = 3))
 (some (σ, some (pd_j (Int32.toInt64 ((Int32.toInt16 b).toInt32)))))
 (cond (decide (a = 4))
 (some (σ, some (pd_j (Int32.toInt64 b))))
 (cond (decide (a = 5))
 (some (σ, some (pd_j ((Int32.toInt64 b) * 100000007))))
 (cond (decide (a = 6))
 (some (σ, some (pd_j (FP.f2l (FP.i2f b)))))
 (cond (decide (a = 7))
 (some (σ, some (pd_j (Int32.toInt64 b))))
 (cond (decide (a = 8))
 (some (σ, some (pd_j (Int32.toInt64 ((b &&& 2147483647) - (b &&& 2147483647) / (78 : Int32) * (78 : Int32))))))
 (cond (decide (a = 9))
 (some (σ, some (pd_j (Int32.toInt64 b))))
 (cond (decide (a = 10))
 (some (σ, some (pd_j (Int32.toInt64 b))))
 (cond (decide (a = 11))
 (some (σ, some (pd_j 0)))
 (some (σ, some (pd_j (Int32.toInt64 b))))))))))))))) := (pd_dr_eq (cd := pd_cd) (fun q => false) 9 _).symm.trans rfl
theorem X_typeWritten_eq (a : Int32) (σ : pd_H) : X_typeWritten a σ =
 cond (decide ((8 : Int32) ≤ a))
 (cond (decide ((20 : Int32) ≤ a))
  (some (σ, some (pd_i (a - 11))))
  (some (σ, some (pd_i (a - 8)))))
 (some (σ, some (pd_i a))) := (pd_dr_eq (cd := pd_cd) (fun q => false) 11 _).symm.trans rfl
theorem J_bitCount_eq (a : Int32) (σ : pd_H) : J_bitCount a σ =
 some (σ, some (pd_i ((((((((a - (((a).toUInt32 >>> (Int32.toUInt32 (1) &&& Int32.toUInt32 31)).toInt32 &&& 1431655765)) &&& 858993459) + ((((a - (((a).toUInt32 >>> (Int32.toUInt32 (1) &&& Int32.toUInt32 31)).toInt32 &&& 1431655765))).toUInt32 >>> (Int32.toUInt32 (2) &&& Int32.toUInt32 31)).toInt32 &&& 858993459)) + (((((a - (((a).toUInt32 >>> (Int32.toUInt32 (1) &&& Int32.toUInt32 31)).toInt32 &&& 1431655765)) &&& 858993459) + ((((a - (((a).toUInt32 >>> (Int32.toUInt32 (1) &&& Int32.toUInt32 31)).toInt32 &&& 1431655765))).toUInt32 >>> (Int32.toUInt32 (2) &&& Int32.toUInt32 31)).toInt32 &&& 858993459))).toUInt32 >>> (Int32.toUInt32 (4) &&& Int32.toUInt32 31)).toInt32) &&& 252645135) + (((((((a - (((a).toUInt32 >>> (Int32.toUInt32 (1) &&& Int32.toUInt32 31)).toInt32 &&& 1431655765)) &&& 858993459) + ((((a - (((a).toUInt32 >>> (Int32.toUInt32 (1) &&& Int32.toUInt32 31)).toInt32 &&& 1431655765))).toUInt32 >>> (Int32.toUInt32 (2) &&& Int32.toUInt32 31)).toInt32 &&& 858993459)) + (((((a - (((a).toUInt32 >>> (Int32.toUInt32 (1) &&& Int32.toUInt32 31)).toInt32 &&& 1431655765)) &&& 858993459) + ((((a - (((a).toUInt32 >>> (Int32.toUInt32 (1) &&& Int32.toUInt32 31)).toInt32 &&& 1431655765))).toUInt32 >>> (Int32.toUInt32 (2) &&& Int32.toUInt32 31)).toInt32 &&& 858993459))).toUInt32 >>> (Int32.toUInt32 (4) &&& Int32.toUInt32 31)).toInt32) &&& 252645135)).toUInt32 >>> (Int32.toUInt32 (8) &&& Int32.toUInt32 31)).toInt32) + ((((((((a - (((a).toUInt32 >>> (Int32.toUInt32 (1) &&& Int32.toUInt32 31)).toInt32 &&& 1431655765)) &&& 858993459) + ((((a - (((a).toUInt32 >>> (Int32.toUInt32 (1) &&& Int32.toUInt32 31)).toInt32 &&& 1431655765))).toUInt32 >>> (Int32.toUInt32 (2) &&& Int32.toUInt32 31)).toInt32 &&& 858993459)) + (((((a - (((a).toUInt32 >>> (Int32.toUInt32 (1) &&& Int32.toUInt32 31)).toInt32 &&& 1431655765)) &&& 858993459) + ((((a - (((a).toUInt32 >>> (Int32.toUInt32 (1) &&& Int32.toUInt32 31)).toInt32 &&& 1431655765))).toUInt32 >>> (Int32.toUInt32 (2) &&& Int32.toUInt32 31)).toInt32 &&& 858993459))).toUInt32 >>> (Int32.toUInt32 (4) &&& Int32.toUInt32 31)).toInt32) &&& 252645135) + (((((((a - (((a).toUInt32 >>> (Int32.toUInt32 (1) &&& Int32.toUInt32 31)).toInt32 &&& 1431655765)) &&& 858993459) + ((((a - (((a).toUInt32 >>> (Int32.toUInt32 (1) &&& Int32.toUInt32 31)).toInt32 &&& 1431655765))).toUInt32 >>> (Int32.toUInt32 (2) &&& Int32.toUInt32 31)).toInt32 &&& 858993459)) + (((((a - (((a).toUInt32 >>> (Int32.toUInt32 (1) &&& Int32.toUInt32 31)).toInt32 &&& 1431655765)) &&& 858993459) + ((((a - (((a).toUInt32 >>> (Int32.toUInt32 (1) &&& Int32.toUInt32 31)).toInt32 &&& 1431655765))).toUInt32 >>> (Int32.toUInt32 (2) &&& Int32.toUInt32 31)).toInt32 &&& 858993459))).toUInt32 >>> (Int32.toUInt32 (4) &&& Int32.toUInt32 31)).toInt32) &&& 252645135)).toUInt32 >>> (Int32.toUInt32 (8) &&& Int32.toUInt32 31)).toInt32)).toUInt32 >>> (Int32.toUInt32 (16) &&& Int32.toUInt32 31)).toInt32) &&& 63))) := (pd_dr_eq (cd := pd_cd) (fun q => false) 42 _).symm.trans rfl
theorem J_min_eq (a : Int32) (b : Int32) (σ : pd_H) : J_min a b σ =
 cond (decide (b < a))
 (some (σ, some (pd_i b)))
 (some (σ, some (pd_i a))) := (pd_dr_eq (cd := pd_cd) (fun q => false) 6 _).symm.trans rfl
