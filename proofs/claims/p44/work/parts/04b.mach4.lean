/-! The machine over the things of all four desks. -/
/-- k: 0 an int, 1 a long, 2 a thing beside, 3 a thing of its own place, 4 one that moves; x: the tag of the owner; y: the slot (the way there); z: the tag of what is there -/
def p4_gf (m pc : Nat) (ls : pd_L) (st : List pd_V) (σ : pd_H) (k x y z : Nat) : pd_S := match st with
  | .inr (.inr (t, o)) :: r => cond (Nat.beq t x) (match k with
      | 0 => pd_go (m, pc, ls, pd_i (σ.1 o y) :: r, σ)
      | 1 => pd_go (m, pc, ls, pd_j (σ.2.1 o y) :: r, σ)
      | 2 => pd_go (m, pc, ls, pd_r z (o + y) :: r, σ)
      | 3 => pd_go (m, pc, ls, pd_r z (p4_bs o + y) :: r, σ)
      | _ => pd_go (m, pc, ls, pd_r z (σ.2.2 (p4_bs o + y)) :: r, σ)) pd_no
  | _ => pd_no
/-- k: 0 an int, 1 a long, 4 a reference that moves, 5 a boolean -/
def p4_pf (m pc : Nat) (ls : pd_L) (st : List pd_V) (σ : pd_H) (k x y z : Nat) : pd_S := match st with
  | .inl (.inl v) :: .inr (.inr (t, o)) :: r => cond (Nat.beq t x) (match k with
      | 0 => pd_go (m, pc, ls, r, pd_upI σ o y v)
      | 5 => .inr (.inl (decide (v = 0 ∨ v = 1), some (m, pc, ls, r, pd_upI σ o y v), none))
      | _ => pd_no) pd_no
  | .inl (.inr v) :: .inr (.inr (t, o)) :: r => cond (Nat.beq t x) (match k with
      | 1 => pd_go (m, pc, ls, r, pd_upJ σ o y v)
      | _ => pd_no) pd_no
  | .inr (.inr (t2, o2)) :: .inr (.inr (t, o)) :: r => cond (Nat.beq t x) (cond (Nat.beq t2 z) (match k with
      | 4 => pd_go (m, pc, ls, r, pd_upR σ (p4_bs o + y) o2)
      | _ => pd_no) pd_no) pd_no
  | _ => pd_no
section PDS
variable (cd : Nat → Nat → Option pd_O)
/-- tags: 20 ints, 21 longs, 22 booleans, 23 changes, 24 sequences, 30 the script -/
def p4_ald (m pc : Nat) (ls : pd_L) (st : List pd_V) (σ : pd_H) : pd_S := match st with
  | .inl (.inl i) :: .inr (.inr (t, o)) :: r => match t with
    | 20 => pd_gd (pd_ob i (p4_len o)) (m, pc, ls, pd_i (σ.1 o i.toNatClampNeg) :: r, σ)
    | 30 => pd_gd (pd_ob i (σ.1 923 0).toNatClampNeg) (m, pc, ls, pd_i (σ.1 922 i.toNatClampNeg) :: r, σ)
    | _ => pd_no
  | _ => pd_no
def p4_bld (m pc : Nat) (ls : pd_L) (st : List pd_V) (σ : pd_H) : pd_S := match st with
  | .inl (.inl i) :: .inr (.inr (t, o)) :: r => match t with
    | 22 => pd_gd (pd_ob i (p4_len o)) (m, pc, ls, pd_i (σ.1 o i.toNatClampNeg) :: r, σ)
    | _ => pd_no
  | _ => pd_no
def p4_lld (m pc : Nat) (ls : pd_L) (st : List pd_V) (σ : pd_H) : pd_S := match st with
  | .inl (.inl i) :: .inr (.inr (t, o)) :: r => match t with
    | 21 => pd_gd (pd_ob i (p4_len o)) (m, pc, ls, pd_j (σ.2.1 o i.toNatClampNeg) :: r, σ)
    | _ => pd_no
  | _ => pd_no
def p4_qld (m pc : Nat) (ls : pd_L) (st : List pd_V) (σ : pd_H) : pd_S := match st with
  | .inl (.inl i) :: .inr (.inr (t, o)) :: r => match t with
    | 23 => pd_gd (pd_ob i (p4_len o)) (m, pc, ls, pd_r 1 (p4_bs o + 80 + i.toNatClampNeg) :: r, σ)
    | 24 => pd_gd (pd_ob i (p4_len o)) (m, pc, ls, pd_r 4 (p4_bs o + 20 + 2 * i.toNatClampNeg) :: r, σ)
    | _ => pd_no
  | _ => pd_no
def p4_ast (m pc : Nat) (ls : pd_L) (st : List pd_V) (σ : pd_H) : pd_S := match st with
  | .inl (.inl v) :: .inl (.inl i) :: .inr (.inr (t, o)) :: r => match t with
    | 20 => pd_gd (pd_ob i (p4_len o)) (m, pc, ls, r, pd_upI σ o i.toNatClampNeg v)
    | _ => pd_no
  | _ => pd_no
def p4_bst (m pc : Nat) (ls : pd_L) (st : List pd_V) (σ : pd_H) : pd_S := match st with
  | .inl (.inl v) :: .inl (.inl i) :: .inr (.inr (t, o)) :: r => match t with
    | 22 => pd_gd (pd_ob i (p4_len o)) (m, pc, ls, r, pd_upI σ o i.toNatClampNeg (vp_nar .boolean v))
    | _ => pd_no
  | _ => pd_no
def p4_lst (m pc : Nat) (ls : pd_L) (st : List pd_V) (σ : pd_H) : pd_S := match st with
  | .inl (.inr v) :: .inl (.inl i) :: .inr (.inr (t, o)) :: r => match t with
    | 21 => pd_gd (pd_ob i (p4_len o)) (m, pc, ls, r, pd_upJ σ o i.toNatClampNeg v)
    | _ => pd_no
  | _ => pd_no
def p4_aln (m pc : Nat) (ls : pd_L) (st : List pd_V) (σ : pd_H) : pd_S := match st with
  | .inr (.inr (t, o)) :: r => match t with
    | 30 => pd_go (m, pc, ls, pd_i (σ.1 923 0) :: r, σ)
    | _ => cond (Nat.ble 20 t) (pd_go (m, pc, ls, pd_i (Int32.ofNat (p4_len o)) :: r, σ)) pd_no
  | _ => pd_no
def p4_op (m pc : Nat) (ls : pd_L) (st : List pd_V) (σ : pd_H) (op : pd_O) : pd_S := match op with
  | (i, n, (k, x, y, z), v, w, tb) => match i with
    | .iconst _ => pd_go (m, pc + n, ls, pd_i v :: st, σ)
    | .bipush _ => pd_go (m, pc + n, ls, pd_i v :: st, σ)
    | .sipush _ => pd_go (m, pc + n, ls, pd_i v :: st, σ)
    | .ldc _ => pd_go (m, pc + n, ls, pd_i v :: st, σ)
    | .ldc_w _ => pd_go (m, pc + n, ls, pd_i v :: st, σ)
    | .lconst _ => pd_go (m, pc + n, ls, pd_j w :: st, σ)
    | .ldc2_w _ => pd_go (m, pc + n, ls, pd_j w :: st, σ)
    | .iload _ => pd_ldi m (pc + n) ls st σ k
    | .iload_n _ => pd_ldi m (pc + n) ls st σ k
    | .lload _ => pd_ldj m (pc + n) ls st σ k
    | .lload_n _ => pd_ldj m (pc + n) ls st σ k
    | .aload _ => pd_lda m (pc + n) ls st σ k
    | .aload_n _ => pd_lda m (pc + n) ls st σ k
    | .istore _ => pd_sti m (pc + n) ls st σ k
    | .istore_n _ => pd_sti m (pc + n) ls st σ k
    | .lstore _ => pd_stj m (pc + n) ls st σ k
    | .lstore_n _ => pd_stj m (pc + n) ls st σ k
    | .astore _ => pd_sta m (pc + n) ls st σ k
    | .astore_n _ => pd_sta m (pc + n) ls st σ k
    | .iinc _ _ => pd_inc m (pc + n) ls st σ k v
    | .dup => match st with
      | a :: r => cond (pd_two a) pd_no (pd_go (m, pc + n, ls, a :: a :: r, σ))
      | _ => pd_no
    | .dup2 => match st with
      | a :: b :: r => cond (pd_two a) pd_no (cond (pd_two b) pd_no (pd_go (m, pc + n, ls, a :: b :: a :: b :: r, σ)))
      | _ => pd_no
    | .pop => match st with
      | a :: r => cond (pd_two a) pd_no (pd_go (m, pc + n, ls, r, σ))
      | _ => pd_no
    | .iadd => pd_ii (fun x y => x + y) m (pc + n) ls st σ
    | .isub => pd_ii (fun x y => x - y) m (pc + n) ls st σ
    | .imul => pd_ii (fun x y => x * y) m (pc + n) ls st σ
    | .iand => pd_ii (fun x y => x &&& y) m (pc + n) ls st σ
    | .ior => pd_ii (fun x y => x ||| y) m (pc + n) ls st σ
    | .ishl => pd_ii (fun x y => x <<< (y &&& 31)) m (pc + n) ls st σ
    | .ishr => pd_ii (fun x y => x >>> (y &&& 31)) m (pc + n) ls st σ
    | .iushr => pd_ii (fun x y => (x.toUInt32 >>> (y.toUInt32 &&& Int32.toUInt32 31)).toInt32) m (pc + n) ls st σ
    | .idiv => match st with
      | .inl (.inl y) :: .inl (.inl x) :: r => pd_gd (decide (y = 0)) (m, pc + n, ls, pd_i (x / y) :: r, σ)
      | _ => pd_no
    | .irem => match st with
      | .inl (.inl y) :: .inl (.inl x) :: r => pd_gd (decide (y = 0)) (m, pc + n, ls, pd_i (x - x / y * y) :: r, σ)
      | _ => pd_no
    | .ladd => pd_jj (fun x y => x + y) m (pc + n) ls st σ
    | .lsub => pd_jj (fun x y => x - y) m (pc + n) ls st σ
    | .lmul => pd_jj (fun x y => x * y) m (pc + n) ls st σ
    | .land => pd_jj (fun x y => x &&& y) m (pc + n) ls st σ
    | .lor => pd_jj (fun x y => x ||| y) m (pc + n) ls st σ
    | .lshl => pd_ji (fun x y => x <<< (y.toInt64 &&& 63)) m (pc + n) ls st σ
    | .lshr => pd_ji (fun x y => x >>> (y.toInt64 &&& 63)) m (pc + n) ls st σ
    | .ldiv => match st with
      | .inl (.inr y) :: .inl (.inr x) :: r => pd_gd (decide (y = 0)) (m, pc + n, ls, pd_j (x / y) :: r, σ)
      | _ => pd_no
    | .lrem => match st with
      | .inl (.inr y) :: .inl (.inr x) :: r => pd_gd (decide (y = 0)) (m, pc + n, ls, pd_j (x - x / y * y) :: r, σ)
      | _ => pd_no
    | .lneg => match st with
      | .inl (.inr x) :: r => pd_go (m, pc + n, ls, pd_j (-x) :: r, σ)
      | _ => pd_no
    | .lcmp => match st with
      | .inl (.inr y) :: .inl (.inr x) :: r => pd_go (m, pc + n, ls, pd_i (lg_cmp x y) :: r, σ)
      | _ => pd_no
    | .i2l => match st with
      | .inl (.inl x) :: r => pd_go (m, pc + n, ls, pd_j x.toInt64 :: r, σ)
      | _ => pd_no
    | .l2i => match st with
      | .inl (.inr x) :: r => pd_go (m, pc + n, ls, pd_i x.toInt32 :: r, σ)
      | _ => pd_no
    | .i2b => pd_cv1 (fun x => x.toInt8.toInt32) m (pc + n) ls st σ
    | .i2c => pd_cv1 (fun x => (x.toUInt32 % 65536).toInt32) m (pc + n) ls st σ
    | .i2s => pd_cv1 (fun x => x.toInt16.toInt32) m (pc + n) ls st σ
    | .i2f => match st with
      | .inl (.inl x) :: r => pd_go (m, pc + n, ls, pd_f (FP.i2f x) :: r, σ)
      | _ => pd_no
    | .l2f => match st with
      | .inl (.inr x) :: r => pd_go (m, pc + n, ls, pd_f (FP.l2f x) :: r, σ)
      | _ => pd_no
    | .f2l => match st with
      | .inr (.inl (.inl x)) :: r => pd_go (m, pc + n, ls, pd_j (FP.f2l x) :: r, σ)
      | _ => pd_no
    | .l2d => match st with
      | .inl (.inr x) :: r => pd_go (m, pc + n, ls, pd_d (FP.l2d x) :: r, σ)
      | _ => pd_no
    | .d2l => match st with
      | .inr (.inl (.inr x)) :: r => pd_go (m, pc + n, ls, pd_j (FP.d2l x) :: r, σ)
      | _ => pd_no
    | .ifCond q _ => match st with
      | .inl (.inl a) :: r => pd_br q a 0 (m, k, ls, r, σ) (m, pc + n, ls, r, σ)
      | _ => pd_no
    | .if_icmp q _ => match st with
      | .inl (.inl b) :: .inl (.inl a) :: r => pd_br q a b (m, k, ls, r, σ) (m, pc + n, ls, r, σ)
      | _ => pd_no
    | .goto _ => pd_go (m, k, ls, st, σ)
    | .tableswitch _ _ _ _ => match st with
      | .inl (.inl a) :: r => .inr (.inr (.inl (a, tb, (m, k, ls, r, σ))))
      | _ => pd_no
    | .lookupswitch _ _ => match st with
      | .inl (.inl a) :: r => .inr (.inr (.inl (a, tb, (m, k, ls, r, σ))))
      | _ => pd_no
    | .getfield _ => p4_gf m (pc + n) ls st σ k x y z
    | .putfield _ => p4_pf m (pc + n) ls st σ k x y z
    | .iaload => p4_ald m (pc + n) ls st σ
    | .baload => p4_bld m (pc + n) ls st σ
    | .laload => p4_lld m (pc + n) ls st σ
    | .aaload => p4_qld m (pc + n) ls st σ
    | .iastore => p4_ast m (pc + n) ls st σ
    | .bastore => p4_bst m (pc + n) ls st σ
    | .lastore => p4_lst m (pc + n) ls st σ
    | .arraylength => p4_aln m (pc + n) ls st σ
    | .invokevirtual _ => pd_cav m (pc + n) ls st σ k x y z
    | .invokestatic _ => pd_ca m (pc + n) ls st σ k x y z
    | .ireturn => pd_ri st σ k
    | .lreturn => match st with
      | [.inl (.inr a)] => .inl (.inl (some (σ, some (pd_j a))))
      | _ => pd_no
    | .areturn => match st with
      | [.inr (.inr (t, o))] => .inl (.inl (some (σ, some (pd_r t o))))
      | _ => pd_no
    | .return_ => match st with
      | [] => .inl (.inl (some (σ, none)))
      | _ => pd_no
    | _ => pd_no
def p4_st (c : pd_C) : pd_S := match c with
  | (m, pc, ls, st, σ) => match cd m pc with
    | some op => p4_op m pc ls st σ op
    | none => pd_no
end PDS
section PDR
variable (cd : Nat → Nat → Option pd_O)
def p4_ex : Nat → pd_C → Option pd_R
  | 0, _ => none
  | n + 1, c => pd_F (p4_ex n) (p4_ex n) (p4_st cd c)
/-- the limit: what a run comes to -/
noncomputable def p4_run (c : pd_C) : Option pd_R := @dite (Option pd_R) (∃ q : Nat × pd_R, p4_ex cd q.1 c = some q.2) (Classical.propDecidable _) (fun h => some (Classical.choose h).2) (fun _ => none)
/-- so many steps at the most, up to the next of the stops -/
def p4_dr (g : pd_C → Option pd_R) (sp : Nat → Bool) : Nat → pd_C → Option pd_R
  | 0, c => g c
  | n + 1, c => pd_F g (fun c => cond (sp c.2.1) (g c) (p4_dr g sp n c)) (p4_st cd c)
end PDR
