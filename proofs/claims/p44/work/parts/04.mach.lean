/-! The abstract machine: values, heap, one step, the limit of its runs. A reference is (tag, number of the thing). -/
abbrev pd_V : Type := (Int32 ⊕ Int64) ⊕ ((UInt32 ⊕ UInt64) ⊕ (Nat × Nat))
abbrev pd_i (x : Int32) : pd_V := .inl (.inl x)
abbrev pd_j (x : Int64) : pd_V := .inl (.inr x)
abbrev pd_f (x : UInt32) : pd_V := .inr (.inl (.inl x))
abbrev pd_d (x : UInt64) : pd_V := .inr (.inl (.inr x))
abbrev pd_r (t k : Nat) : pd_V := .inr (.inr (t, k))
/-- ints, longs, the references that move -/
abbrev pd_H : Type := (Nat → Nat → Int32) × (Nat → Nat → Int64) × (Nat → Nat)
abbrev pd_L : Type := List (Option pd_V)
abbrev pd_C : Type := Nat × Nat × pd_L × List pd_V × pd_H
abbrev pd_R : Type := pd_H × Option pd_V
/-- an instruction; its length; what its operand names; a constant; a switch's arms -/
abbrev pd_O : Type := Instr × Nat × (Nat × Nat × Nat × Nat) × Int32 × Int64 × List (Int32 × Nat)
/-- done; goes on; a branch; a switch; a call (its entry, the kind of its answer, the answer's tag, where it comes back) -/
abbrev pd_S : Type := (Option pd_R ⊕ pd_C) ⊕ ((Bool × Option pd_C × Option pd_C) ⊕ ((Int32 × List (Int32 × Nat) × pd_C) ⊕ (pd_C × Nat × Nat × pd_C)))
def pd_two : pd_V → Bool
  | .inl (.inr _) => true
  | .inr (.inl (.inr _)) => true
  | _ => false
def pd_cats : List pd_V → Nat
  | [] => 0
  | v :: r => cond (pd_two v) 2 1 + pd_cats r
def pd_nth : pd_L → Nat → Option pd_V
  | [], _ => none
  | a :: _, 0 => a
  | _ :: t, n + 1 => pd_nth t n
def pd_is2 : Option pd_V → Bool
  | some v => pd_two v
  | none => false
def pd_set1 : pd_L → Nat → pd_V → pd_L
  | [], _, _ => []
  | _ :: t, 0, v => some v :: t
  | a :: t, 1, v => cond (pd_is2 a) none a :: pd_set1 t 0 v
  | a :: t, n + 2, v => a :: pd_set1 t (n + 1) v
def pd_clr : pd_L → pd_L
  | [] => []
  | _ :: t => none :: t
def pd_set2 : pd_L → Nat → pd_V → pd_L
  | [], _, _ => []
  | _ :: t, 0, v => some v :: pd_clr t
  | a :: t, 1, v => cond (pd_is2 a) none a :: pd_set2 t 0 v
  | a :: t, n + 2, v => a :: pd_set2 t (n + 1) v
def pd_none : Nat → pd_L
  | 0 => []
  | n + 1 => none :: pd_none n
/-- the locals at a method's entry -/
def pd_en : List pd_V → Nat → pd_L
  | [], n => pd_none n
  | v :: r, n => cond (pd_two v) (some v :: none :: pd_en r (n - 2)) (some v :: pd_en r (n - 1))
def pd_upI (σ : pd_H) (k i : Nat) (x : Int32) : pd_H := (fun q => if q = k then upd (σ.1 k) i x else σ.1 q, σ.2)
def pd_upJ (σ : pd_H) (k i : Nat) (x : Int64) : pd_H := (σ.1, fun q => if q = k then vp_updL (σ.2.1 k) i x else σ.2.1 q, σ.2.2)
def pd_upR (σ : pd_H) (k o : Nat) : pd_H := (σ.1, σ.2.1, fun q => if q = k then o else σ.2.2 q)
/-- no such place -/
def pd_ob (i : Int32) (n : Nat) : Bool := decide (i < 0 ∨ n ≤ i.toNatClampNeg)
def pd_cc (k : ClassFile.Cond) (x y : Int32) : Bool := match k with
  | .eq => decide (x = y)
  | .ne => decide (x = y)
  | .lt => decide (x < y)
  | .ge => decide (y ≤ x)
  | .gt => decide (y < x)
  | .le => decide (x ≤ y)
def pd_br (k : ClassFile.Cond) (x y : Int32) (c1 c2 : pd_C) : pd_S := match k with
  | .ne => .inr (.inl (pd_cc k x y, some c2, some c1))
  | _ => .inr (.inl (pd_cc k x y, some c1, some c2))
def pd_no : pd_S := .inl (.inl none)
abbrev pd_go (c : pd_C) : pd_S := .inl (.inr c)
def pd_gd (b : Bool) (c : pd_C) : pd_S := .inr (.inl (b, none, some c))
def pd_ii (f : Int32 → Int32 → Int32) (m pc : Nat) (ls : pd_L) (st : List pd_V) (σ : pd_H) : pd_S := match st with
  | .inl (.inl y) :: .inl (.inl x) :: r => pd_go (m, pc, ls, pd_i (f x y) :: r, σ)
  | _ => pd_no
def pd_jj (f : Int64 → Int64 → Int64) (m pc : Nat) (ls : pd_L) (st : List pd_V) (σ : pd_H) : pd_S := match st with
  | .inl (.inr y) :: .inl (.inr x) :: r => pd_go (m, pc, ls, pd_j (f x y) :: r, σ)
  | _ => pd_no
def pd_ji (f : Int64 → Int32 → Int64) (m pc : Nat) (ls : pd_L) (st : List pd_V) (σ : pd_H) : pd_S := match st with
  | .inl (.inl y) :: .inl (.inr x) :: r => pd_go (m, pc, ls, pd_j (f x y) :: r, σ)
  | _ => pd_no
/-- the length of an array, the script's apart -/
def pd_cv1 (f : Int32 → Int32) (m pc : Nat) (ls : pd_L) (st : List pd_V) (σ : pd_H) : pd_S := match st with
  | .inl (.inl x) :: r => pd_go (m, pc, ls, pd_i (f x) :: r, σ)
  | _ => pd_no
def pd_ldi (m pc : Nat) (ls : pd_L) (st : List pd_V) (σ : pd_H) (k : Nat) : pd_S := match pd_nth ls k with
  | some (.inl (.inl x)) => pd_go (m, pc, ls, pd_i x :: st, σ)
  | _ => pd_no
def pd_ldj (m pc : Nat) (ls : pd_L) (st : List pd_V) (σ : pd_H) (k : Nat) : pd_S := match pd_nth ls k with
  | some (.inl (.inr x)) => pd_go (m, pc, ls, pd_j x :: st, σ)
  | _ => pd_no
def pd_lda (m pc : Nat) (ls : pd_L) (st : List pd_V) (σ : pd_H) (k : Nat) : pd_S := match pd_nth ls k with
  | some (.inr (.inr (t, o))) => pd_go (m, pc, ls, pd_r t o :: st, σ)
  | _ => pd_no
def pd_sti (m pc : Nat) (ls : pd_L) (st : List pd_V) (σ : pd_H) (k : Nat) : pd_S := match st with
  | .inl (.inl x) :: r => pd_go (m, pc, pd_set1 ls k (pd_i x), r, σ)
  | _ => pd_no
def pd_stj (m pc : Nat) (ls : pd_L) (st : List pd_V) (σ : pd_H) (k : Nat) : pd_S := match st with
  | .inl (.inr x) :: r => pd_go (m, pc, pd_set2 ls k (pd_j x), r, σ)
  | _ => pd_no
def pd_sta (m pc : Nat) (ls : pd_L) (st : List pd_V) (σ : pd_H) (k : Nat) : pd_S := match st with
  | .inr (.inr (t, o)) :: r => pd_go (m, pc, pd_set1 ls k (pd_r t o), r, σ)
  | _ => pd_no
def pd_inc (m pc : Nat) (ls : pd_L) (st : List pd_V) (σ : pd_H) (k : Nat) (v : Int32) : pd_S := match pd_nth ls k with
  | some (.inl (.inl x)) => pd_go (m, pc, pd_set1 ls k (pd_i (x + v)), st, σ)
  | _ => pd_no
/-- k: 0 an int, 1 a long, 2 a thing beside, 3 a thing of its own place, 4 one that moves; x: the tag of the owner; y: the slot (the way there); z: the tag of what is there -/
def pd_gf (m pc : Nat) (ls : pd_L) (st : List pd_V) (σ : pd_H) (k x y z : Nat) : pd_S := match st with
  | .inr (.inr (t, o)) :: r => cond (Nat.beq t x) (match k with
      | 0 => pd_go (m, pc, ls, pd_i (σ.1 o y) :: r, σ)
      | 1 => pd_go (m, pc, ls, pd_j (σ.2.1 o y) :: r, σ)
      | 2 => pd_go (m, pc, ls, pd_r z (o + y) :: r, σ)
      | 3 => pd_go (m, pc, ls, pd_r z y :: r, σ)
      | _ => pd_go (m, pc, ls, pd_r z (σ.2.2 y) :: r, σ)) pd_no
  | _ => pd_no
/-- k: 0 an int, 1 a long, 4 a reference that moves, 5 a boolean -/
def pd_pf (m pc : Nat) (ls : pd_L) (st : List pd_V) (σ : pd_H) (k x y z : Nat) : pd_S := match st with
  | .inl (.inl v) :: .inr (.inr (t, o)) :: r => cond (Nat.beq t x) (match k with
      | 0 => pd_go (m, pc, ls, r, pd_upI σ o y v)
      | 5 => .inr (.inl (decide (v = 0 ∨ v = 1), some (m, pc, ls, r, pd_upI σ o y v), none))
      | _ => pd_no) pd_no
  | .inl (.inr v) :: .inr (.inr (t, o)) :: r => cond (Nat.beq t x) (match k with
      | 1 => pd_go (m, pc, ls, r, pd_upJ σ o y v)
      | _ => pd_no) pd_no
  | .inr (.inr (t2, o2)) :: .inr (.inr (t, _)) :: r => cond (Nat.beq t x) (cond (Nat.beq t2 z) (match k with
      | 4 => pd_go (m, pc, ls, r, pd_upR σ y o2)
      | _ => pd_no) pd_no) pd_no
  | _ => pd_no
/-- the return: k = 1 a boolean -/
def pd_ri (st : List pd_V) (σ : pd_H) (k : Nat) : pd_S := match st with
  | [.inl (.inl x)] => match k with
    | 0 => .inl (.inl (some (σ, some (pd_i x))))
    | _ => .inl (.inl (cond (decide (x = 0 ∨ x = 1)) (some (σ, some (pd_i x))) none))
  | _ => pd_no
/-- a call: k the method, x the number of its arguments, y its locals, z 256 times the tag of its answer and the answer's kind -/
def pd_ca (m pc : Nat) (ls : pd_L) (st : List pd_V) (σ : pd_H) (k x y z : Nat) : pd_S :=
  cond (Nat.ble x st.length) (cond (Nat.ble (pd_cats (st.drop x)) 8) (cond (Nat.ble (pd_cats (st.take x)) y) (.inr (.inr (.inr ((k, 0, pd_en (st.take x).reverse y, [], σ), z % 8, z / 8, (m, pc, ls, st.drop x, σ))))) pd_no) pd_no) pd_no
/-- a call of an object: its tag (z / 256) is looked at -/
def pd_cav (m pc : Nat) (ls : pd_L) (st : List pd_V) (σ : pd_H) (k x y z : Nat) : pd_S := match (st.take x).reverse with
  | .inr (.inr (t, _)) :: _ => cond (Nat.beq t (z / 256)) (pd_ca m pc ls st σ k x y (z % 256)) pd_no
  | _ => pd_no
section PDS
variable (cd : Nat → Nat → Option pd_O)
/-- tags: 20 ints, 21 longs, 22 booleans, 23 changes, 24 sequences, 30 the script -/
def pd_ald (m pc : Nat) (ls : pd_L) (st : List pd_V) (σ : pd_H) : pd_S := match st with
  | .inl (.inl i) :: .inr (.inr (t, o)) :: r => match t with
    | 20 => pd_gd (pd_ob i (pd_len o)) (m, pc, ls, pd_i (σ.1 o i.toNatClampNeg) :: r, σ)
    | 30 => pd_gd (pd_ob i (σ.1 266 0).toNatClampNeg) (m, pc, ls, pd_i (σ.1 265 i.toNatClampNeg) :: r, σ)
    | _ => pd_no
  | _ => pd_no
def pd_bld (m pc : Nat) (ls : pd_L) (st : List pd_V) (σ : pd_H) : pd_S := match st with
  | .inl (.inl i) :: .inr (.inr (t, o)) :: r => match t with
    | 22 => pd_gd (pd_ob i (pd_len o)) (m, pc, ls, pd_i (σ.1 o i.toNatClampNeg) :: r, σ)
    | _ => pd_no
  | _ => pd_no
def pd_lld (m pc : Nat) (ls : pd_L) (st : List pd_V) (σ : pd_H) : pd_S := match st with
  | .inl (.inl i) :: .inr (.inr (t, o)) :: r => match t with
    | 21 => pd_gd (pd_ob i (pd_len o)) (m, pc, ls, pd_j (σ.2.1 o i.toNatClampNeg) :: r, σ)
    | _ => pd_no
  | _ => pd_no
def pd_qld (m pc : Nat) (ls : pd_L) (st : List pd_V) (σ : pd_H) : pd_S := match st with
  | .inl (.inl i) :: .inr (.inr (t, o)) :: r => match t with
    | 23 => pd_gd (pd_ob i (pd_len o)) (m, pc, ls, pd_r 1 (80 + i.toNatClampNeg) :: r, σ)
    | 24 => pd_gd (pd_ob i (pd_len o)) (m, pc, ls, pd_r 4 (20 + 2 * i.toNatClampNeg) :: r, σ)
    | _ => pd_no
  | _ => pd_no
def pd_ast (m pc : Nat) (ls : pd_L) (st : List pd_V) (σ : pd_H) : pd_S := match st with
  | .inl (.inl v) :: .inl (.inl i) :: .inr (.inr (t, o)) :: r => match t with
    | 20 => pd_gd (pd_ob i (pd_len o)) (m, pc, ls, r, pd_upI σ o i.toNatClampNeg v)
    | _ => pd_no
  | _ => pd_no
def pd_bst (m pc : Nat) (ls : pd_L) (st : List pd_V) (σ : pd_H) : pd_S := match st with
  | .inl (.inl v) :: .inl (.inl i) :: .inr (.inr (t, o)) :: r => match t with
    | 22 => pd_gd (pd_ob i (pd_len o)) (m, pc, ls, r, pd_upI σ o i.toNatClampNeg (vp_nar .boolean v))
    | _ => pd_no
  | _ => pd_no
def pd_lst (m pc : Nat) (ls : pd_L) (st : List pd_V) (σ : pd_H) : pd_S := match st with
  | .inl (.inr v) :: .inl (.inl i) :: .inr (.inr (t, o)) :: r => match t with
    | 21 => pd_gd (pd_ob i (pd_len o)) (m, pc, ls, r, pd_upJ σ o i.toNatClampNeg v)
    | _ => pd_no
  | _ => pd_no
def pd_aln (m pc : Nat) (ls : pd_L) (st : List pd_V) (σ : pd_H) : pd_S := match st with
  | .inr (.inr (t, o)) :: r => match t with
    | 30 => pd_go (m, pc, ls, pd_i (σ.1 266 0) :: r, σ)
    | _ => cond (Nat.ble 20 t) (pd_go (m, pc, ls, pd_i (Int32.ofNat (pd_len o)) :: r, σ)) pd_no
  | _ => pd_no
def pd_op (m pc : Nat) (ls : pd_L) (st : List pd_V) (σ : pd_H) (op : pd_O) : pd_S := match op with
  | (i, n, (k, x, y, z), v, w, tb) => match i with
    | .iconst _ => pd_go (m, pc + n, ls, pd_i v :: st, σ)
    | .bipush _ => pd_go (m, pc + n, ls, pd_i v :: st, σ)
    | .sipush _ => pd_go (m, pc + n, ls, pd_i v :: st, σ)
    | .ldc _ => pd_go (m, pc + n, ls, pd_i v :: st, σ)
    | .ldc_w _ => pd_go (m, pc + n, ls, pd_i v :: st, σ)
    | .lconst _ => pd_go (m, pc + n, ls, pd_j w :: st, σ)
    | .ldc2_w _ => pd_go (m, pc + n, ls, pd_j w :: st, σ)
    | .iload _ => pd_ldi m (pc + n) ls st σ k
    | .iload_n _ => pd_ldi m (pc + n) ls st σ k
    | .lload _ => pd_ldj m (pc + n) ls st σ k
    | .lload_n _ => pd_ldj m (pc + n) ls st σ k
    | .aload _ => pd_lda m (pc + n) ls st σ k
    | .aload_n _ => pd_lda m (pc + n) ls st σ k
    | .istore _ => pd_sti m (pc + n) ls st σ k
    | .istore_n _ => pd_sti m (pc + n) ls st σ k
    | .lstore _ => pd_stj m (pc + n) ls st σ k
    | .lstore_n _ => pd_stj m (pc + n) ls st σ k
    | .astore _ => pd_sta m (pc + n) ls st σ k
    | .astore_n _ => pd_sta m (pc + n) ls st σ k
    | .iinc _ _ => pd_inc m (pc + n) ls st σ k v
    | .dup => match st with
      | a :: r => cond (pd_two a) pd_no (pd_go (m, pc + n, ls, a :: a :: r, σ))
      | _ => pd_no
    | .dup2 => match st with
      | a :: b :: r => cond (pd_two a) pd_no (cond (pd_two b) pd_no (pd_go (m, pc + n, ls, a :: b :: a :: b :: r, σ)))
      | _ => pd_no
    | .pop => match st with
      | a :: r => cond (pd_two a) pd_no (pd_go (m, pc + n, ls, r, σ))
      | _ => pd_no
    | .iadd => pd_ii (fun x y => x + y) m (pc + n) ls st σ
    | .isub => pd_ii (fun x y => x - y) m (pc + n) ls st σ
    | .imul => pd_ii (fun x y => x * y) m (pc + n) ls st σ
    | .iand => pd_ii (fun x y => x &&& y) m (pc + n) ls st σ
    | .ior => pd_ii (fun x y => x ||| y) m (pc + n) ls st σ
    | .ishl => pd_ii (fun x y => x <<< (y &&& 31)) m (pc + n) ls st σ
    | .ishr => pd_ii (fun x y => x >>> (y &&& 31)) m (pc + n) ls st σ
    | .iushr => pd_ii (fun x y => (x.toUInt32 >>> (y.toUInt32 &&& Int32.toUInt32 31)).toInt32) m (pc + n) ls st σ
    | .idiv => match st with
      | .inl (.inl y) :: .inl (.inl x) :: r => pd_gd (decide (y = 0)) (m, pc + n, ls, pd_i (x / y) :: r, σ)
      | _ => pd_no
    | .irem => match st with
      | .inl (.inl y) :: .inl (.inl x) :: r => pd_gd (decide (y = 0)) (m, pc + n, ls, pd_i (x - x / y * y) :: r, σ)
      | _ => pd_no
    | .ladd => pd_jj (fun x y => x + y) m (pc + n) ls st σ
    | .lsub => pd_jj (fun x y => x - y) m (pc + n) ls st σ
    | .lmul => pd_jj (fun x y => x * y) m (pc + n) ls st σ
    | .land => pd_jj (fun x y => x &&& y) m (pc + n) ls st σ
    | .lor => pd_jj (fun x y => x ||| y) m (pc + n) ls st σ
    | .lshl => pd_ji (fun x y => x <<< (y.toInt64 &&& 63)) m (pc + n) ls st σ
    | .lshr => pd_ji (fun x y => x >>> (y.toInt64 &&& 63)) m (pc + n) ls st σ
    | .ldiv => match st with
      | .inl (.inr y) :: .inl (.inr x) :: r => pd_gd (decide (y = 0)) (m, pc + n, ls, pd_j (x / y) :: r, σ)
      | _ => pd_no
    | .lrem => match st with
      | .inl (.inr y) :: .inl (.inr x) :: r => pd_gd (decide (y = 0)) (m, pc + n, ls, pd_j (x - x / y * y) :: r, σ)
      | _ => pd_no
    | .lneg => match st with
      | .inl (.inr x) :: r => pd_go (m, pc + n, ls, pd_j (-x) :: r, σ)
      | _ => pd_no
    | .lcmp => match st with
      | .inl (.inr y) :: .inl (.inr x) :: r => pd_go (m, pc + n, ls, pd_i (lg_cmp x y) :: r, σ)
      | _ => pd_no
    | .i2l => match st with
      | .inl (.inl x) :: r => pd_go (m, pc + n, ls, pd_j x.toInt64 :: r, σ)
      | _ => pd_no
    | .l2i => match st with
      | .inl (.inr x) :: r => pd_go (m, pc + n, ls, pd_i x.toInt32 :: r, σ)
      | _ => pd_no
    | .i2b => pd_cv1 (fun x => x.toInt8.toInt32) m (pc + n) ls st σ
    | .i2c => pd_cv1 (fun x => (x.toUInt32 % 65536).toInt32) m (pc + n) ls st σ
    | .i2s => pd_cv1 (fun x => x.toInt16.toInt32) m (pc + n) ls st σ
    | .i2f => match st with
      | .inl (.inl x) :: r => pd_go (m, pc + n, ls, pd_f (FP.i2f x) :: r, σ)
      | _ => pd_no
    | .l2f => match st with
      | .inl (.inr x) :: r => pd_go (m, pc + n, ls, pd_f (FP.l2f x) :: r, σ)
      | _ => pd_no
    | .f2l => match st with
      | .inr (.inl (.inl x)) :: r => pd_go (m, pc + n, ls, pd_j (FP.f2l x) :: r, σ)
      | _ => pd_no
    | .l2d => match st with
      | .inl (.inr x) :: r => pd_go (m, pc + n, ls, pd_d (FP.l2d x) :: r, σ)
      | _ => pd_no
    | .d2l => match st with
      | .inr (.inl (.inr x)) :: r => pd_go (m, pc + n, ls, pd_j (FP.d2l x) :: r, σ)
      | _ => pd_no
    | .ifCond q _ => match st with
      | .inl (.inl a) :: r => pd_br q a 0 (m, k, ls, r, σ) (m, pc + n, ls, r, σ)
      | _ => pd_no
    | .if_icmp q _ => match st with
      | .inl (.inl b) :: .inl (.inl a) :: r => pd_br q a b (m, k, ls, r, σ) (m, pc + n, ls, r, σ)
      | _ => pd_no
    | .goto _ => pd_go (m, k, ls, st, σ)
    | .tableswitch _ _ _ _ => match st with
      | .inl (.inl a) :: r => .inr (.inr (.inl (a, tb, (m, k, ls, r, σ))))
      | _ => pd_no
    | .lookupswitch _ _ => match st with
      | .inl (.inl a) :: r => .inr (.inr (.inl (a, tb, (m, k, ls, r, σ))))
      | _ => pd_no
    | .getfield _ => pd_gf m (pc + n) ls st σ k x y z
    | .putfield _ => pd_pf m (pc + n) ls st σ k x y z
    | .iaload => pd_ald m (pc + n) ls st σ
    | .baload => pd_bld m (pc + n) ls st σ
    | .laload => pd_lld m (pc + n) ls st σ
    | .aaload => pd_qld m (pc + n) ls st σ
    | .iastore => pd_ast m (pc + n) ls st σ
    | .bastore => pd_bst m (pc + n) ls st σ
    | .lastore => pd_lst m (pc + n) ls st σ
    | .arraylength => pd_aln m (pc + n) ls st σ
    | .invokevirtual _ => pd_cav m (pc + n) ls st σ k x y z
    | .invokestatic _ => pd_ca m (pc + n) ls st σ k x y z
    | .ireturn => pd_ri st σ k
    | .lreturn => match st with
      | [.inl (.inr a)] => .inl (.inl (some (σ, some (pd_j a))))
      | _ => pd_no
    | .areturn => match st with
      | [.inr (.inr (t, o))] => .inl (.inl (some (σ, some (pd_r t o))))
      | _ => pd_no
    | .return_ => match st with
      | [] => .inl (.inl (some (σ, none)))
      | _ => pd_no
    | _ => pd_no
def pd_st (c : pd_C) : pd_S := match c with
  | (m, pc, ls, st, σ) => match cd m pc with
    | some op => pd_op m pc ls st σ op
    | none => pd_no
end PDS
def pd_bV (r : Option pd_R) (k : pd_H → Option pd_R) : Option pd_R := match r with
  | some (σ, none) => k σ
  | _ => none
def pd_bI (r : Option pd_R) (k : pd_H → Int32 → Option pd_R) : Option pd_R := match r with
  | some (σ, some (.inl (.inl x))) => k σ x
  | _ => none
def pd_bJ (r : Option pd_R) (k : pd_H → Int64 → Option pd_R) : Option pd_R := match r with
  | some (σ, some (.inl (.inr x))) => k σ x
  | _ => none
def pd_bR (r : Option pd_R) (t : Nat) (k : pd_H → Nat → Option pd_R) : Option pd_R := match r with
  | some (σ, some (.inr (.inr (u, o)))) => cond (Nat.beq u t) (k σ o) none
  | _ => none
section PDF
variable (g h : pd_C → Option pd_R)
def pd_ho : Option pd_C → Option pd_R
  | none => none
  | some c => h c
def pd_sw (x : Int32) : List (Int32 × Nat) → pd_C → Option pd_R
  | [], c => h c
  | q :: r, c => cond (decide (x = q.1)) (h (c.1, q.2, c.2.2)) (pd_sw x r c)
def pd_cl (r : Option pd_R) (z t : Nat) (c : pd_C) : Option pd_R := match c with
  | (m, pc, ls, st, _) => match z with
    | 0 => pd_bV r fun σ => h (m, pc, ls, st, σ)
    | 1 => pd_bI r fun σ a => h (m, pc, ls, pd_i a :: st, σ)
    | 2 => pd_bJ r fun σ a => h (m, pc, ls, pd_j a :: st, σ)
    | _ => pd_bR r t fun σ o => h (m, pc, ls, pd_r t o :: st, σ)
def pd_F : pd_S → Option pd_R
  | .inl (.inl r) => r
  | .inl (.inr c) => h c
  | .inr (.inl (b, o1, o2)) => cond b (pd_ho h o1) (pd_ho h o2)
  | .inr (.inr (.inl (x, tb, c))) => pd_sw h x tb c
  | .inr (.inr (.inr (cc, z, t, c))) => pd_cl h (g cc) z t c
end PDF
section PDR
variable (cd : Nat → Nat → Option pd_O)
def pd_ex : Nat → pd_C → Option pd_R
  | 0, _ => none
  | n + 1, c => pd_F (pd_ex n) (pd_ex n) (pd_st cd c)
/-- the limit: what a run comes to -/
noncomputable def pd_run (c : pd_C) : Option pd_R := @dite (Option pd_R) (∃ q : Nat × pd_R, pd_ex cd q.1 c = some q.2) (Classical.propDecidable _) (fun h => some (Classical.choose h).2) (fun _ => none)
/-- so many steps at the most, up to the next of the stops -/
def pd_dr (g : pd_C → Option pd_R) (sp : Nat → Bool) : Nat → pd_C → Option pd_R
  | 0, c => g c
  | n + 1, c => pd_F g (fun c => cond (sp c.2.1) (g c) (pd_dr g sp n c)) (pd_st cd c)
end PDR
