/-! Numbers from 0 on as words; bits counted. -/
def jN (n : Nat) : Int64 := Int64.ofNat n
theorem jN_toInt {n : Nat} (h : n < 2 ^ 63) : (jN n).toInt = n := Int64.toInt_ofNat_of_lt h
theorem jN_bv (n : Nat) : (jN n).toBitVec = BitVec.ofNat 64 n := rfl
theorem j_ext {a b : Int64} (h : a.toBitVec.toNat = b.toBitVec.toNat) : a = b := Int64.toBitVec_inj.mp (BitVec.eq_of_toNat_eq h)
theorem j_of {a : Int64} (h : 0 ≤ a.toInt) : ∃ n, n < 2 ^ 63 ∧ a = jN n := by
  have h1 := Int64.toInt_lt a
  refine ⟨a.toInt.toNat, by omega, ?_⟩
  apply Int64.toInt_inj.mp
  rw [jN_toInt (by omega)]; omega
theorem j_sh {m : Nat} (h : m < 64) : Int32.toInt64 (nI m) &&& 63 = jN m := by
  have h1 : ∀ m, m < 64 → Int32.toInt64 (nI m) &&& 63 = jN m := by decide +kernel
  exact h1 m h
theorem j_smod {m : Nat} (h : m < 64) : ((jN m).toBitVec.smod 64#64).toNat = m := by
  have h1 : ∀ m, m < 64 → ((jN m).toBitVec.smod 64#64).toNat = m := by decide +kernel
  exact h1 m h
theorem jN_shr {a m : Nat} (ha : a < 2 ^ 63) (hm : m < 64) : jN a >>> jN m = jN (a / 2 ^ m) := by
  apply j_ext
  rw [Int64.toBitVec_shiftRight]
  show ((jN a).toBitVec.sshiftRight ((jN m).toBitVec.smod 64#64).toNat).toNat = _
  rw [j_smod hm, BitVec.sshiftRight_eq_of_msb_false, BitVec.toNat_ushiftRight, jN_bv, jN_bv, BitVec.toNat_ofNat, BitVec.toNat_ofNat, Nat.shiftRight_eq_div_pow, Nat.mod_eq_of_lt (show a < 2 ^ 64 by omega), Nat.mod_eq_of_lt]
  · have := Nat.div_le_self a (2 ^ m); omega
  · rw [jN_bv]
    rw [BitVec.msb_eq_false_iff_two_mul_lt, BitVec.toNat_ofNat, Nat.mod_eq_of_lt (by omega)]; omega
theorem jN_shl {a m : Nat} (hm : m < 64) : jN a <<< jN m = jN (a * 2 ^ m) := by
  apply j_ext
  rw [Int64.toBitVec_shiftLeft]
  show ((jN a).toBitVec <<< ((jN m).toBitVec.smod 64#64).toNat).toNat = _
  rw [j_smod hm, BitVec.toNat_shiftLeft, jN_bv, jN_bv, BitVec.toNat_ofNat, BitVec.toNat_ofNat, Nat.shiftLeft_eq]
  rw [Nat.mod_mul_mod]
theorem jN_add (a b : Nat) : jN a + jN b = jN (a + b) := (Int64.ofNat_add a b).symm
theorem jN_sub {a b : Nat} (h : b ≤ a) : jN a - jN b = jN (a - b) := (Int64.ofNat_sub a b h).symm
theorem jN_and {a b : Nat} (ha : a < 2 ^ 64) (hb : b < 2 ^ 64) : jN a &&& jN b = jN (a &&& b) := by
  apply j_ext
  rw [Int64.toBitVec_and, BitVec.toNat_and, jN_bv, jN_bv, jN_bv, BitVec.toNat_ofNat, BitVec.toNat_ofNat, BitVec.toNat_ofNat, Nat.mod_eq_of_lt ha, Nat.mod_eq_of_lt hb, Nat.mod_eq_of_lt (Nat.lt_of_le_of_lt Nat.and_le_left ha)]
theorem jN_or {a b : Nat} (ha : a < 2 ^ 64) (hb : b < 2 ^ 64) : jN a ||| jN b = jN (a ||| b) := by
  apply j_ext
  rw [Int64.toBitVec_or, BitVec.toNat_or, jN_bv, jN_bv, jN_bv, BitVec.toNat_ofNat, BitVec.toNat_ofNat, BitVec.toNat_ofNat, Nat.mod_eq_of_lt ha, Nat.mod_eq_of_lt hb, Nat.mod_eq_of_lt (Nat.or_lt_two_pow ha hb)]
/-- bits of a number -/
def c_len (n : Nat) : Nat := if n = 0 then 0 else n.log2 + 1
theorem c_len_half {n : Nat} (h : n ≠ 0) : c_len n = c_len (n / 2) + 1 := by
  unfold c_len
  rw [if_neg h]
  rcases Nat.lt_or_ge n 2 with q | q
  · have : n = 1 := by omega
    subst this; rfl
  · rw [if_neg (by omega), Nat.log2_def, if_pos q]
/-- bits of a number with f behind the first -/
def c_al (f a : Nat) : Nat := if a.log2 ≤ f then a * 2 ^ (f - a.log2) else a / 2 ^ (a.log2 - f)
theorem c_al_btw {f a : Nat} (ha : a ≠ 0) : 2 ^ f ≤ c_al f a ∧ c_al f a < 2 ^ (f + 1) := by
  have h1 := Nat.log2_self_le ha
  have h2 := @Nat.lt_log2_self a
  unfold c_al
  split
  · rename_i h
    constructor
    · calc 2 ^ f = 2 ^ a.log2 * 2 ^ (f - a.log2) := by rw [← Nat.pow_add]; congr 1; omega
        _ ≤ _ := Nat.mul_le_mul_right _ h1
    · calc a * 2 ^ (f - a.log2) < 2 ^ (a.log2 + 1) * 2 ^ (f - a.log2) := Nat.mul_lt_mul_of_pos_right h2 (Nat.two_pow_pos _)
        _ = 2 ^ (f + 1) := by rw [← Nat.pow_add]; congr 1; omega
  · rename_i h
    constructor
    · rw [Nat.le_div_iff_mul_le (Nat.two_pow_pos _)]
      calc 2 ^ f * 2 ^ (a.log2 - f) = 2 ^ a.log2 := by rw [← Nat.pow_add]; congr 1; omega
        _ ≤ _ := h1
    · rw [Nat.div_lt_iff_lt_mul (Nat.two_pow_pos _)]
      calc a < 2 ^ (a.log2 + 1) := h2
        _ = _ := by rw [← Nat.pow_add]; congr 1; omega
def c_fbits (f b a : Nat) : Nat := (a.log2 + b) * 2 ^ f + (c_al f a - 2 ^ f)
theorem c_fb_or {f e t : Nat} (hf : f < 53) (he : e < 2048) (h1 : 2 ^ f ≤ t) (h2 : t < 2 ^ (f + 1)) : (jN e <<< jN f) ||| (jN t &&& (((1 : Int64) <<< jN f) - 1)) = jN (e * 2 ^ f + (t - 2 ^ f)) := by
  have p1 : 2 ^ f ≤ 2 ^ 52 := Nat.pow_le_pow_right (by decide) (by omega)
  have p2 : 2 ^ (f + 1) = 2 * 2 ^ f := by rw [Nat.pow_succ]; omega
  have p3 : 0 < 2 ^ f := Nat.two_pow_pos f
  have p4 : e * 2 ^ f ≤ 2047 * 2 ^ 52 := Nat.mul_le_mul (by omega) p1
  rw [jN_shl (by omega), show (1 : Int64) = jN 1 from rfl, jN_shl (by omega), Nat.one_mul, jN_sub p3, jN_and (by omega) (by omega), Nat.and_two_pow_sub_one_eq_mod]
  have e1 : t % 2 ^ f = t - 2 ^ f := by rw [Nat.mod_eq_sub_mod h1, Nat.mod_eq_of_lt (by omega)]
  rw [e1, jN_or (by omega) (by omega), ← Nat.shiftLeft_eq, Nat.shiftLeft_add_eq_or_of_lt (by omega)]
theorem c_fb_add {f e t : Nat} (hf : f < 53) (h1 : 2 ^ f ≤ t) : (jN t - ((1 : Int64) <<< jN f)) + (jN e <<< jN f) = jN (e * 2 ^ f + (t - 2 ^ f)) := by
  rw [jN_shl (by omega), show (1 : Int64) = jN 1 from rfl, jN_shl (by omega), Nat.one_mul, jN_sub h1, jN_add, Nat.add_comm]

theorem j_cmp_ge (a : Int64) : decide (0 ≤ lg_cmp a 0) = decide (0 ≤ a.toInt) := by
  unfold lg_cmp
  by_cases h1 : a > 0
  · rw [if_pos h1]
    have : (0 : Int64).toInt < a.toInt := Int64.lt_iff_toInt_lt.mp h1
    rw [decide_eq_true (show 0 ≤ a.toInt from Int.le_of_lt this)]; rfl
  · rw [if_neg h1]
    by_cases h2 : a = 0
    · rw [if_pos h2, h2]; rfl
    · rw [if_neg h2]
      have : ¬ 0 ≤ a.toInt := fun h => by
        rcases Int.lt_or_eq_of_le h with h | h
        · exact h1 (Int64.lt_iff_toInt_lt.mpr h)
        · exact h2 (Int64.toInt_inj.mp h.symm)
      rw [decide_eq_false this]; rfl
theorem j_cmp_le (a : Int64) : decide (lg_cmp a 0 ≤ 0) = decide (a.toInt ≤ 0) := by
  unfold lg_cmp
  by_cases h1 : a > 0
  · rw [if_pos h1]
    have : (0 : Int64).toInt < a.toInt := Int64.lt_iff_toInt_lt.mp h1
    rw [decide_eq_false (show ¬ a.toInt ≤ 0 from Int.not_le.mpr this)]; rfl
  · rw [if_neg h1]
    have : a.toInt ≤ 0 := Int.not_lt.mp fun h => h1 (Int64.lt_iff_toInt_lt.mpr h)
    rw [decide_eq_true this]
    by_cases h2 : a = 0
    · rw [if_pos h2]; rfl
    · rw [if_neg h2]; rfl
theorem j_cmp_gt (a b : Int64) : decide (0 < lg_cmp a b) = decide (b.toInt < a.toInt) := by
  unfold lg_cmp
  by_cases h1 : a > b
  · rw [if_pos h1, decide_eq_true (Int64.lt_iff_toInt_lt.mp h1)]; rfl
  · rw [if_neg h1, decide_eq_false (fun h => h1 (Int64.lt_iff_toInt_lt.mpr h))]
    by_cases h2 : a = b
    · rw [if_pos h2]; rfl
    · rw [if_neg h2]; rfl
theorem M_lengthOf_L4_s {d0 : Option pd_V} {σ : pd_H} : ∀ (n : Nat), n < 2 ^ 63 → ∀ (k : Nat) (d1 : Option pd_V), M_lengthOf_L4 d0 d1 (nI k) (jN n) σ = some (σ, some (pd_i (nI (k + c_len n)))) := by
  intro n
  induction n using Nat.strongRecOn with
  | _ n ih =>
    intro hn k d1
    rw [M_lengthOf_L4_eq, j_cmp_le, jN_toInt hn]
    by_cases h0 : n = 0
    · subst h0; rfl
    · rw [decide_eq_false (show ¬ (n : Int) ≤ 0 by omega), cond_false, show (1 : Int32) = nI 1 from rfl, nI_add, j_sh (show 1 < 64 by decide), jN_shr hn (by decide), ih (n / 2 ^ 1) (by omega) (by omega), c_len_half h0, show (2 : Nat) ^ 1 = 2 from rfl, Nat.add_right_comm, Nat.add_assoc]
theorem M_lengthOf_s {n : Nat} (hn : n < 2 ^ 63) (σ : pd_H) : M_lengthOf (jN n) σ = some (σ, some (pd_i (nI (c_len n)))) := by
  rw [M_lengthOf_eq, show (0 : Int32) = nI 0 from rfl, M_lengthOf_L4_s n hn, Nat.zero_add]
theorem nI_sub {a b : Nat} (ha : a < 64) (hb : b ≤ a) : nI a - nI b = nI (a - b) := by
  have : ∀ a, a < 64 → ∀ b, b < 64 → b ≤ a → nI a - nI b = nI (a - b) := by decide +kernel
  exact this a ha b (by omega) hb
