/-! Every entry of the code tables is what its bytes decode to, and what it names stands in the words. -/
def pd_fl (c a x s : Nat) : Bool := pd_FL.any fun e => Nat.beq e.1 c && Nat.beq e.2.1 a && Nat.beq e.2.2.1 x && Nat.beq e.2.2.2.1 s
def pd_fs (c a : Nat) : Nat × Nat := match pd_FL.find? (fun e => Nat.beq e.1 c && Nat.beq e.2.1 a) with
  | some e => (e.2.2.1, e.2.2.2.1)
  | none => (99, 99)
def pd_cl2 (c a m n : Nat) : Bool := pd_CL.any fun e => Nat.beq e.1 c && Nat.beq e.2.1 a && Nat.beq e.2.2.1 m && Nat.beq e.2.2.2.1 n
def pd_rk (r : Option FieldType) : Nat := match r with
  | none => 0
  | some .int => 1
  | some .boolean => 1
  | some .long => 2
  | some (.object _) => 3 + 8 * 1
  | _ => 7
/-- a call of k out of m -/
def pd_ce (m k x y z : Nat) (sta : Nat) : Bool := Nat.ble (k + 1) 89 && Nat.beq (pd_mt k).1 sta && Nat.beq x (pd_pn k + 1 - sta) && Nat.beq y (pd_ml k) && Nat.beq z (pd_rk (pd_rt k)) && Nat.ble (pd_fr k + 1) (pd_fr m) && Nat.ble (8 + (pd_ml k + 11) + pd_lo k) (pd_lo m)
def pd_ty (x s : Nat) : Option FieldType := parseFieldDescriptor ((vwCl.getD x (RL, TX0, 0)).2.1 s).2.2.1
def pd_tb (pc : Nat) (lo : Int) (offs : List Int) (tb : List (Int32 × Nat)) : Bool := match offs, tb with
  | [], [] => true
  | o :: r, q :: t => decide (q.1 = Int32.ofInt lo) && decide ((pc : Int) + o = (q.2 : Int)) && decide (-2147483648 ≤ lo ∧ lo ≤ 2147483647) && pd_tb pc (lo + 1) r t
  | _, _ => false
def pd_lk (pc : Nat) (ps : List (Int × Int)) (tb : List (Int32 × Nat)) : Bool := match ps, tb with
  | [], [] => true
  | o :: r, q :: t => decide (q.1 = Int32.ofInt o.1) && decide ((pc : Int) + o.2 = (q.2 : Int)) && decide (-2147483648 ≤ o.1 ∧ o.1 ≤ 2147483647) && pd_lk pc r t
  | _, _ => false
/-- the type of a field that is put, by the kind of the put -/
def pd_pty (k : Nat) : Option FieldType := match k with
  | 0 => some .int
  | 1 => some .long
  | 4 => some (.object RX2)
  | 5 => some .boolean
  | _ => none
def pd_ck (m pc : Nat) (op : pd_O) : Bool := decide (decode (pd_b m) pc = .ok (op.1, op.2.1)) && match op with
  | (i, n, (k, x, y, z), v, w, tb) => match i with
    | .iconst a => Nat.beq n 1 && decide (Int32.ofInt a = v)
    | .bipush a => Nat.beq n 2 && decide ((Int8.ofInt a).toInt32 = v)
    | .sipush a => Nat.beq n 3 && decide ((Int16.ofInt a).toInt32 = v)
    | .ldc a => Nat.beq n 2 && pd_CI.any fun e => Nat.beq e.1 (pd_oc m) && Nat.beq e.2.1 a && decide (e.2.2.1 = v)
    | .ldc_w a => Nat.beq n 3 && pd_CI.any fun e => Nat.beq e.1 (pd_oc m) && Nat.beq e.2.1 a && decide (e.2.2.1 = v)
    | .lconst a => Nat.beq n 1 && decide (Int64.ofNat (a : Nat) = w)
    | .ldc2_w a => Nat.beq n 3 && pd_CJ.any fun e => Nat.beq e.1 (pd_oc m) && Nat.beq e.2.1 a && decide (e.2.2.1 = w)
    | .iload a => Nat.beq n 2 && Nat.beq k a
    | .lload a => Nat.beq n 2 && Nat.beq k a
    | .aload a => Nat.beq n 2 && Nat.beq k a
    | .istore a => Nat.beq n 2 && Nat.beq k a && Nat.ble (k + 1) (pd_ml m)
    | .lstore a => Nat.beq n 2 && Nat.beq k a && Nat.ble (k + 2) (pd_ml m)
    | .astore a => Nat.beq n 2 && Nat.beq k a && Nat.ble (k + 1) (pd_ml m)
    | .iload_n a => Nat.beq n 1 && Nat.beq k a
    | .lload_n a => Nat.beq n 1 && Nat.beq k a
    | .aload_n a => Nat.beq n 1 && Nat.beq k a
    | .istore_n a => Nat.beq n 1 && Nat.beq k a && Nat.ble (k + 1) (pd_ml m)
    | .lstore_n a => Nat.beq n 1 && Nat.beq k a && Nat.ble (k + 2) (pd_ml m)
    | .astore_n a => Nat.beq n 1 && Nat.beq k a && Nat.ble (k + 1) (pd_ml m)
    | .iinc a b => Nat.beq n 3 && Nat.beq k a && Nat.ble (k + 1) (pd_ml m) && decide (Int32.ofInt b = v)
    | .ifCond _ off => Nat.beq n 3 && decide ((pc : Int) + off = (k : Int))
    | .if_icmp _ off => Nat.beq n 3 && decide ((pc : Int) + off = (k : Int))
    | .goto off => Nat.beq n 3 && decide ((pc : Int) + off = (k : Int))
    | .tableswitch d lo hi offs => decide ((pc : Int) + d = (k : Int)) && pd_tb pc lo offs.toList tb && decide (hi = lo + offs.size - 1)
    | .lookupswitch d ps => decide ((pc : Int) + d = (k : Int)) && pd_lk pc ps.toList tb && (ps.toList.zip (ps.toList.drop 1)).all (fun q => decide (q.1.1 < q.2.1))
    | .getfield a => Nat.beq n 3 && Nat.beq (pd_fs (pd_oc m) a).1 x && Nat.ble (x + 1) 10 && Nat.ble ((pd_fs (pd_oc m) a).2 + 1) (vwCl.getD x (RL, TX0, 0)).2.2 && decide (pd_fkd x (pd_fs (pd_oc m) a).2 = (k, y, z))
    | .putfield a => Nat.beq n 3 && Nat.beq (pd_fs (pd_oc m) a).1 x && Nat.ble (x + 1) 10 && Nat.ble ((pd_fs (pd_oc m) a).2 + 1) (vwCl.getD x (RL, TX0, 0)).2.2 && decide (pd_fkd x (pd_fs (pd_oc m) a).2 = (cond (Nat.beq k 5) 0 k, y, z)) && decide (((vwCl.getD x (RL, TX0, 0)).2.1 (pd_fs (pd_oc m) a).2).2.2.2 = false) && decide (pd_ty x (pd_fs (pd_oc m) a).2 = pd_pty k) && (!Nat.beq k 4 || (Nat.ble y 1 && Nat.beq z 2))
    | .invokevirtual a => Nat.beq n 3 && pd_cl2 (pd_oc m) a k 0 && pd_ce m k x y (z % 256) 0 && Nat.beq (z / 256) (pd_oc k) && Nat.ble (pd_oc k + 1) 10
    | .invokestatic a => Nat.beq n 3 && (pd_cl2 (pd_oc m) a k 0 || pd_cl2 (pd_oc m) a k 1) && pd_ce m k x y z 1
    | .ireturn => Nat.beq n 1 && (Nat.beq k 0 && decide (pd_rt m = some .int) || Nat.beq k 1 && decide (pd_rt m = some .boolean))
    | .lreturn => Nat.beq n 1 && decide (pd_rt m = some .long)
    | .areturn => Nat.beq n 1 && decide (pd_rt m = some (.object RX1))
    | .return_ => Nat.beq n 1 && decide (pd_rt m = none)
    | .new _ => true
    | .newarray _ => true
    | .invokespecial _ => true
    | _ => Nat.beq n 1
