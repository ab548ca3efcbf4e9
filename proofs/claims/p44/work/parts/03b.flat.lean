/-! The things of all, by number: 230 d + j the desk d's (d below 4), 920 the law's ints, 921 its longs, 922 the script. -/
def p4_tl (k : Nat) : Nat × Nat := cond (Nat.ble k 919) (pd_tl (k % 230)) (cond (Nat.beq k 920) (20, 20) (cond (Nat.beq k 921) (21, 24) (cond (Nat.beq k 922) (30, 0) (99, 0))))
def p4_tag (k : Nat) : Nat := (p4_tl k).1
def p4_len (k : Nat) : Nat := (p4_tl k).2
/-- where a thing's desk begins -/
def p4_bs (k : Nat) : Nat := 230 * (k / 230)
