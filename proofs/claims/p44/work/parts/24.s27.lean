/-! (whole, 27.fp) -/
/-! Roundings: by bits counted, and by the machine's floats. -/
def c_btw (n : Int64) (M : Int) : Prop := -M ≤ n.toInt ∧ n.toInt ≤ M
/-- a value of a type -/
def c_okv (t : Int32) (n : Int64) : Prop := (∃ k : Nat, k < 12 ∧ t = nI k) ∧ (t ≤ 4 → c_btw n 2147483648) ∧ (t = 5 → c_btw n (2 ^ 58)) ∧ c_btw n (2 ^ 61)
theorem fp_near_le {A B M : Nat} (hB : 0 < B) (h : A ≤ M * B) : Jvm.FP.Core.nearest A B ≤ M := by
  have h1 := Nat.div_add_mod A B
  have h2 := Nat.mod_lt A hB
  have h3 : A / B ≤ M := Nat.div_le_of_le_mul (by rw [Nat.mul_comm]; exact h)
  unfold Jvm.FP.Core.nearest
  rcases Nat.lt_or_ge (A / B) M with q | q
  · split
    · omega
    · split
      · omega
      · have := Nat.mod_lt (A / B) (show 0 < 2 by decide); omega
  · have e : A / B = M := by omega
    have : A % B = 0 := by rw [e, Nat.mul_comm] at h1; omega
    rw [this, if_pos (by omega), e]
    exact Nat.le_refl _
theorem fp_near_ge {A B M : Nat} (hB : 0 < B) (h : M * B ≤ A) : M ≤ Jvm.FP.Core.nearest A B := by
  have : M ≤ A / B := (Nat.le_div_iff_mul_le hB).mpr h
  unfold Jvm.FP.Core.nearest
  split
  · exact this
  · split <;> omega
theorem fp_near_one (A : Nat) : Jvm.FP.Core.nearest A 1 = A := by
  have h1 := fp_near_le (A := A) (B := 1) (M := A) (by decide) (by omega)
  have h2 := fp_near_ge (A := A) (B := 1) (M := A) (by decide) (by omega)
  omega
theorem fp_dec_as {f : Jvm.FP.Core.Fmt} (s : Bool) {e t : Nat} (ht : t < f.tails) (he : e < f.exps) : Jvm.FP.Core.fieldT f (Jvm.FP.Core.assemble f s e t) = t ∧ Jvm.FP.Core.fieldE f (Jvm.FP.Core.assemble f s e t) = e ∧ Jvm.FP.Core.fieldS f (Jvm.FP.Core.assemble f s e t) = s ∧ Jvm.FP.Core.assemble f s e t < 2 * f.exps * f.tails := by
  have h0 : Jvm.FP.Core.assemble f s e t = t + f.tails * (s.toNat * f.exps + e) := by
    unfold Jvm.FP.Core.assemble
    rw [Nat.mul_comm, Nat.add_comm]
  have h1 : (Jvm.FP.Core.assemble f s e t) / f.tails = e + f.exps * s.toNat := by
    rw [h0, Nat.add_mul_div_left _ _ (by omega), Nat.div_eq_of_lt ht, Nat.zero_add, Nat.add_comm, Nat.mul_comm]
  refine ⟨?_, ?_, ?_, ?_⟩
  · unfold Jvm.FP.Core.fieldT
    rw [h0, Nat.add_mul_mod_self_left, Nat.mod_eq_of_lt ht]
  · unfold Jvm.FP.Core.fieldE
    rw [h1, Nat.add_mul_mod_self_left, Nat.mod_eq_of_lt he]
  · unfold Jvm.FP.Core.fieldS
    rw [h1, Nat.add_mul_div_left _ _ (by omega), Nat.div_eq_of_lt he, Nat.zero_add]
    cases s <;> rfl
  · rw [h0]
    have h3 : s.toNat * f.exps + e + 1 ≤ 2 * f.exps := by
      have : s.toNat ≤ 1 := by cases s <;> decide
      have := Nat.mul_le_mul_right f.exps this
      omega
    have h4 := Nat.mul_le_mul_right f.tails h3
    rw [Nat.add_mul, Nat.one_mul, Nat.mul_comm _ f.tails] at h4
    omega
theorem fp_dec {f : Jvm.FP.Core.Fmt} (s : Bool) {c : Nat} {q : Int} (hE : 3 ≤ f.exps) (h1 : c < 2 * f.tails) (h2 : f.qmin ≤ q) (h3 : (q - f.qmin).toNat + 1 < f.exps - 1) (h4 : q = f.qmin ∨ f.tails ≤ c) : Jvm.FP.Core.decode f (Jvm.FP.Core.encode f (.fin s c q)) = .fin s c q ∧ Jvm.FP.Core.encode f (.fin s c q) < 2 * f.exps * f.tails := by
  have e0 : Jvm.FP.Core.encode f (.fin s c q) = if c < f.tails then Jvm.FP.Core.assemble f s 0 c else Jvm.FP.Core.assemble f s ((q - f.qmin).toNat + 1) (c - f.tails) := rfl
  rw [e0]
  by_cases hc : c < f.tails
  · obtain ⟨g1, g2, g3, g4⟩ := fp_dec_as s hc (show 0 < f.exps by omega)
    rw [if_pos hc]
    refine ⟨?_, g4⟩
    unfold Jvm.FP.Core.decode
    rw [g1, g2, g3, if_neg (by omega), if_pos rfl]
    rcases h4 with h4 | h4
    · rw [h4]
    · omega
  · obtain ⟨g1, g2, g3, g4⟩ := fp_dec_as s (show c - f.tails < f.tails by omega) (show (q - f.qmin).toNat + 1 < f.exps by omega)
    rw [if_neg hc]
    refine ⟨?_, g4⟩
    unfold Jvm.FP.Core.decode
    rw [g1, g2, g3, if_neg (by omega), if_neg (by omega)]
    have a1 : f.tails + (c - f.tails) = c := by omega
    have a2 : f.qmin + ((((q - f.qmin).toNat + 1 : Nat) : Int) - 1) = q := by omega
    rw [a1, a2]
/-- a number rounded to p bits -/
def c_rnd (p A : Nat) : Nat := if c_len A ≤ p then A else Jvm.FP.Core.nearest A (2 ^ (c_len A - p)) * 2 ^ (c_len A - p)
theorem c_len_le {A n : Nat} (h : A < 2 ^ n) : c_len A ≤ n := by
  unfold c_len
  split
  · omega
  · rename_i h0
    have := (Nat.log2_lt h0).mpr h
    omega
theorem c_rnd_le {p A : Nat} (h : A ≤ 2 ^ 58) : c_rnd p A ≤ 2 ^ 58 := by
  unfold c_rnd
  split
  · exact h
  · rename_i h1
    by_cases q : A = 2 ^ 58
    · by_cases q2 : p = 0
      · subst q2
        rw [q]
        show Jvm.FP.Core.nearest (2 ^ 58) (2 ^ 59) * 2 ^ 59 ≤ 2 ^ 58
        have : Jvm.FP.Core.nearest (2 ^ 58) (2 ^ 59) = 0 := by decide
        rw [this]; decide
      · have hl : c_len A ≤ 59 := c_len_le (by omega)
        have e : 2 ^ 58 = 2 ^ (58 - (c_len A - p)) * 2 ^ (c_len A - p) := by rw [← Nat.pow_add]; congr 1; omega
        have := fp_near_le (A := A) (M := 2 ^ (58 - (c_len A - p))) (Nat.two_pow_pos (c_len A - p)) (by omega)
        calc _ ≤ 2 ^ (58 - (c_len A - p)) * 2 ^ (c_len A - p) := Nat.mul_le_mul_right _ this
          _ = _ := e.symm
    · have hl : c_len A ≤ 58 := c_len_le (by omega)
      have e : 2 ^ 58 = 2 ^ (58 - (c_len A - p)) * 2 ^ (c_len A - p) := by rw [← Nat.pow_add]; congr 1; omega
      have := fp_near_le (A := A) (M := 2 ^ (58 - (c_len A - p))) (Nat.two_pow_pos (c_len A - p)) (by omega)
      calc _ ≤ 2 ^ (58 - (c_len A - p)) * 2 ^ (c_len A - p) := Nat.mul_le_mul_right _ this
        _ = _ := e.symm
section FPROUND
theorem fp_leading {A : Nat} (h : A ≠ 0) : Jvm.FP.Core.leading A 1 = (A.log2 : Int) := by
  unfold Jvm.FP.Core.leading
  have h1 : Nat.log2 1 = 0 := by decide
  rw [h1]
  simp only [Int.ofNat_zero, Int.sub_zero]
  have h2 : ((A.log2 : Int)).toNat = A.log2 := by omega
  have h3 : (-(A.log2 : Int)).toNat = 0 := by omega
  rw [h2, h3]
  rw [if_pos (by have := Nat.log2_self_le h; omega)]
theorem fp_round {f : Jvm.FP.Core.Fmt} (s : Bool) {A : Nat} (hA : A ≤ 2 ^ 58) (hq : f.qmin ≤ -60) (hm : 60 ≤ f.qmax) (hp : 2 ≤ f.p ∧ f.p ≤ 53) : ∃ c q, Jvm.FP.Core.round f (.fin s A 0) = .fin s c q ∧ Jvm.FP.Core.truncate s c q = Jvm.FP.Core.signed s (c_rnd f.p A) ∧ c < 2 * f.tails ∧ f.qmin ≤ q ∧ q ≤ 60 ∧ (q = f.qmin ∨ f.tails ≤ c) := by
  have eT : 2 ^ f.p = 2 * f.tails := by
    unfold Jvm.FP.Core.Fmt.tails
    have : f.p = f.p - 1 + 1 := by omega
    rw [this, Nat.pow_succ, Nat.mul_comm]
    rfl
  have pT : 0 < f.tails := Nat.two_pow_pos _
  show ∃ c q, Jvm.FP.Core.roundRatio f s A 1 0 = .fin s c q ∧ _
  unfold Jvm.FP.Core.roundRatio
  by_cases h0 : A = 0
  · refine ⟨0, f.qmin, by rw [if_pos h0], ?_, by omega, by omega, by omega, Or.inl rfl⟩
    subst h0
    unfold Jvm.FP.Core.truncate c_rnd c_len
    rw [Nat.zero_mul, Nat.zero_div, if_pos rfl, if_pos (Nat.zero_le _)]
  · rw [if_neg h0]
    have hl : A.log2 < 59 := (Nat.log2_lt h0).mpr (by omega)
    have g1 := Nat.log2_self_le h0
    have g2 := @Nat.lt_log2_self A
    have eq : Jvm.FP.Core.quantum f A 1 0 = (A.log2 : Int) - ((f.p : Int) - 1) := by
      unfold Jvm.FP.Core.quantum
      rw [fp_leading h0]
      omega
    unfold Jvm.FP.Core.roundAt Jvm.FP.Core.unitsNum Jvm.FP.Core.unitsDen
    rw [eq, Nat.one_mul]
    have ec : c_len A = A.log2 + 1 := if_neg h0
    by_cases h1 : A.log2 + 1 ≤ f.p
    · obtain ⟨k, hk⟩ : ∃ k, f.p = A.log2 + 1 + k := ⟨f.p - (A.log2 + 1), by omega⟩
      have e1 : (0 - ((A.log2 : Int) - ((f.p : Int) - 1))).toNat = k := by omega
      have e2 : ((A.log2 : Int) - ((f.p : Int) - 1) - 0).toNat = 0 := by omega
      have e3 : ((A.log2 : Int) - ((f.p : Int) - 1)).toNat = 0 := by omega
      have e4 : (-((A.log2 : Int) - ((f.p : Int) - 1))).toNat = k := by omega
      have e5 : Jvm.FP.Core.nearest (A * 2 ^ k) (2 ^ 0) = A * 2 ^ k := fp_near_one _
      have e6 : A * 2 ^ k < 2 ^ f.p := by
        rw [hk, Nat.pow_add]
        exact Nat.mul_lt_mul_of_pos_right g2 (Nat.two_pow_pos _)
      have e7 : f.tails ≤ A * 2 ^ k := by
        have : f.tails = 2 ^ A.log2 * 2 ^ k := by
          unfold Jvm.FP.Core.Fmt.tails
          rw [← Nat.pow_add]; congr 1; omega
        rw [this]
        exact Nat.mul_le_mul_right _ g1
      refine ⟨A * 2 ^ k, (A.log2 : Int) - ((f.p : Int) - 1), ?_, ?_, by omega, by omega, by omega, Or.inr e7⟩
      · rw [e1, e2, e5]
        unfold Jvm.FP.Core.settle Jvm.FP.Core.bound
        rw [if_pos e6, if_pos (by omega)]
      · unfold Jvm.FP.Core.truncate c_rnd
        rw [e3, e4, ec, if_pos h1, Nat.pow_zero, Nat.mul_one, Nat.mul_div_cancel _ (Nat.two_pow_pos k)]
    · obtain ⟨m, hm1⟩ : ∃ m, A.log2 + 1 = f.p + m := ⟨A.log2 + 1 - f.p, by omega⟩
      have e1 : (0 - ((A.log2 : Int) - ((f.p : Int) - 1))).toNat = 0 := by omega
      have e2 : ((A.log2 : Int) - ((f.p : Int) - 1) - 0).toNat = m := by omega
      have e3 : c_len A - f.p = m := by omega
      rw [e1, e2, Nat.pow_zero, Nat.mul_one]
      have eR : c_rnd f.p A = Jvm.FP.Core.nearest A (2 ^ m) * 2 ^ m := by
        unfold c_rnd
        rw [e3, if_neg (by omega)]
      have hN : Jvm.FP.Core.nearest A (2 ^ m) ≤ 2 ^ f.p := fp_near_le (Nat.two_pow_pos m) (by rw [← Nat.pow_add, ← hm1]; exact Nat.le_of_lt g2)
      have hN2 : f.tails ≤ Jvm.FP.Core.nearest A (2 ^ m) := fp_near_ge (Nat.two_pow_pos m) (by
        have : f.tails * 2 ^ m = 2 ^ A.log2 := by
          unfold Jvm.FP.Core.Fmt.tails
          rw [← Nat.pow_add]; congr 1; omega
        rw [this]
        exact g1)
      rw [eR]
      by_cases h2 : Jvm.FP.Core.nearest A (2 ^ m) < 2 ^ f.p
      · refine ⟨Jvm.FP.Core.nearest A (2 ^ m), (A.log2 : Int) - ((f.p : Int) - 1), ?_, ?_, by omega, by omega, by omega, Or.inr hN2⟩
        · unfold Jvm.FP.Core.settle Jvm.FP.Core.bound
          rw [if_pos h2, if_pos (by omega)]
        · unfold Jvm.FP.Core.truncate
          rw [show ((A.log2 : Int) - ((f.p : Int) - 1)).toNat = m by omega, show (-((A.log2 : Int) - ((f.p : Int) - 1))).toNat = 0 by omega, Nat.pow_zero, Nat.div_one]
      · refine ⟨f.tails, (A.log2 : Int) - ((f.p : Int) - 1) + 1, ?_, ?_, by omega, by omega, by omega, Or.inr (Nat.le_refl _)⟩
        · unfold Jvm.FP.Core.settle Jvm.FP.Core.bound
          rw [if_neg h2, if_pos (by omega)]
        · unfold Jvm.FP.Core.truncate
          rw [show ((A.log2 : Int) - ((f.p : Int) - 1) + 1).toNat = m + 1 by omega, show (-((A.log2 : Int) - ((f.p : Int) - 1) + 1)).toNat = 0 by omega, Nat.pow_zero, Nat.div_one, show Jvm.FP.Core.nearest A (2 ^ m) = 2 ^ f.p by omega]
          have : f.tails * 2 ^ (m + 1) = 2 ^ f.p * 2 ^ m := by
            unfold Jvm.FP.Core.Fmt.tails
            rw [← Nat.pow_add, ← Nat.pow_add]; congr 1; omega
          rw [this]
theorem fp_toL {f : Jvm.FP.Core.Fmt} {v : Int64} (h : c_btw v (2 ^ 58)) (hq : f.qmin ≤ -60) (hm : 60 ≤ f.qmax) (hp : 2 ≤ f.p ∧ f.p ≤ 53) : (Jvm.FP.Core.toL (Jvm.FP.Core.round f (Jvm.FP.Core.ofInt v.toInt))).toInt = Jvm.FP.Core.signed (decide (v.toInt < 0)) (c_rnd f.p v.toInt.natAbs) := by
  have hA : v.toInt.natAbs ≤ 2 ^ 58 := by have := h.1; have := h.2; omega
  obtain ⟨c, q, e1, e2, -⟩ := fp_round (decide (v.toInt < 0)) hA hq hm hp
  have hle := c_rnd_le (p := f.p) hA
  unfold Jvm.FP.Core.toL Jvm.FP.Core.ofInt
  rw [e1]
  show (Int64.ofInt (max (-2 ^ 63) (min (2 ^ 63 - 1) (Jvm.FP.Core.truncate (decide (v.toInt < 0)) c q)))).toInt = _
  rw [e2]
  have b : -2 ^ 58 ≤ Jvm.FP.Core.signed (decide (v.toInt < 0)) (c_rnd f.p v.toInt.natAbs) ∧ Jvm.FP.Core.signed (decide (v.toInt < 0)) (c_rnd f.p v.toInt.natAbs) ≤ 2 ^ 58 := by
    unfold Jvm.FP.Core.signed
    split <;> omega
  generalize Jvm.FP.Core.signed (decide (v.toInt < 0)) (c_rnd f.p v.toInt.natAbs) = x at *
  have e3 : max (-2 ^ 63) (min (2 ^ 63 - 1) x) = x := by omega
  rw [e3, Int64.toInt_ofInt_of_le (by omega) (by omega)]
theorem fp_back {f : Jvm.FP.Core.Fmt} {v : Int64} (h : c_btw v (2 ^ 58)) (hq : f.qmin ≤ -60) (hm : 60 ≤ f.qmax) (hp : 2 ≤ f.p ∧ f.p ≤ 53) (hE : ∀ q : Int, f.qmin ≤ q → q ≤ 60 → (q - f.qmin).toNat + 1 < f.exps - 1) : Jvm.FP.Core.decode f (Jvm.FP.Core.encode f (Jvm.FP.Core.round f (Jvm.FP.Core.ofInt v.toInt))) = Jvm.FP.Core.round f (Jvm.FP.Core.ofInt v.toInt) ∧ Jvm.FP.Core.encode f (Jvm.FP.Core.round f (Jvm.FP.Core.ofInt v.toInt)) < 2 * f.exps * f.tails := by
  have hA : v.toInt.natAbs ≤ 2 ^ 58 := by have := h.1; have := h.2; omega
  obtain ⟨c, q, e1, e2, e3, e4, e5, e6⟩ := fp_round (decide (v.toInt < 0)) hA hq hm hp
  unfold Jvm.FP.Core.ofInt
  rw [e1]
  have := hE f.qmin (by omega) (by omega)
  exact fp_dec _ (by omega) e3 e4 (hE q e4 e5) e6
theorem fp_f {v : Int64} (h : c_btw v (2 ^ 58)) : (Jvm.FP.Core.f2l (Jvm.FP.Core.l2f v)).toInt = Jvm.FP.Core.signed (decide (v.toInt < 0)) (c_rnd 24 v.toInt.natAbs) := by
  have := fp_toL (f := Jvm.FP.Core.b32) h (by decide) (by decide) (by decide)
  have a1 : Jvm.FP.Core.b32.qmin = -149 := by decide
  have a2 : Jvm.FP.Core.b32.exps = 256 := by decide
  obtain ⟨g1, g2⟩ := fp_back (f := Jvm.FP.Core.b32) h (by decide) (by decide) (by decide) (by rw [a1, a2]; omega)
  have a3 : 2 * Jvm.FP.Core.b32.exps * Jvm.FP.Core.b32.tails = 2 ^ 32 := by decide
  have e : (Jvm.FP.Core.l2f v).toNat = Jvm.FP.Core.encode Jvm.FP.Core.b32 (Jvm.FP.Core.round Jvm.FP.Core.b32 (Jvm.FP.Core.ofInt v.toInt)) := by
    show (UInt32.ofNat (Jvm.FP.Core.encode Jvm.FP.Core.b32 (Jvm.FP.Core.round Jvm.FP.Core.b32 (Jvm.FP.Core.ofInt v.toInt)))).toNat = _
    exact UInt32.toNat_ofNat_of_lt (by rw [a3] at g2; exact g2)
  unfold Jvm.FP.Core.f2l
  rw [e, g1]
  exact this
theorem fp_d {v : Int64} (h : c_btw v (2 ^ 58)) : (Jvm.FP.Core.d2l (Jvm.FP.Core.l2d v)).toInt = Jvm.FP.Core.signed (decide (v.toInt < 0)) (c_rnd 53 v.toInt.natAbs) := by
  have := fp_toL (f := Jvm.FP.Core.b64) h (by decide) (by decide) (by decide)
  have a1 : Jvm.FP.Core.b64.qmin = -1074 := by decide
  have a2 : Jvm.FP.Core.b64.exps = 2048 := by decide
  obtain ⟨g1, g2⟩ := fp_back (f := Jvm.FP.Core.b64) h (by decide) (by decide) (by decide) (by rw [a1, a2]; omega)
  have a3 : 2 * Jvm.FP.Core.b64.exps * Jvm.FP.Core.b64.tails = 2 ^ 64 := by decide
  have e : (Jvm.FP.Core.l2d v).toNat = Jvm.FP.Core.encode Jvm.FP.Core.b64 (Jvm.FP.Core.round Jvm.FP.Core.b64 (Jvm.FP.Core.ofInt v.toInt)) := by
    show (UInt64.ofNat (Jvm.FP.Core.encode Jvm.FP.Core.b64 (Jvm.FP.Core.round Jvm.FP.Core.b64 (Jvm.FP.Core.ofInt v.toInt)))).toNat = _
    exact UInt64.toNat_ofNat_of_lt (by rw [a3] at g2; exact g2)
  unfold Jvm.FP.Core.d2l
  rw [e, g1]
  exact this
theorem fp_btw {v w : Int64} {p : Nat} (h : c_btw v (2 ^ 58)) (e : w.toInt = Jvm.FP.Core.signed (decide (v.toInt < 0)) (c_rnd p v.toInt.natAbs)) : c_btw w (2 ^ 58) := by
  have hA : v.toInt.natAbs ≤ 2 ^ 58 := by have := h.1; have := h.2; omega
  have hle := c_rnd_le (p := p) hA
  unfold c_btw
  rw [e]
  unfold Jvm.FP.Core.signed
  split <;> omega
end FPROUND
theorem fp_i2f (v : Int32) : FP.f2l (FP.i2f v) = FP.f2l (FP.l2f v.toInt64) := by
  have e : v.toInt64.toInt = v.toInt := Int32.toInt_toInt64 v
  show Jvm.FP.Core.f2l (Jvm.FP.Core.i2f v) = Jvm.FP.Core.f2l (Jvm.FP.Core.l2f v.toInt64)
  unfold Jvm.FP.Core.i2f Jvm.FP.Core.l2f
  rw [e]
theorem fp_f_btw {v : Int64} (h : c_btw v (2 ^ 58)) : c_btw (FP.f2l (FP.l2f v)) (2 ^ 58) := fp_btw h (fp_f h)
theorem fp_d_btw {v : Int64} (h : c_btw v (2 ^ 58)) : c_btw (FP.d2l (FP.l2d v)) (2 ^ 58) := fp_btw h (fp_d h)
theorem c_btw.mono {n : Int64} {M N : Int} (h : c_btw n M) (hMN : M ≤ N) : c_btw n N := ⟨by have := h.1; omega, by have := h.2; omega⟩
theorem c_btw.mul8 {n : Int64} (h : c_btw n (2 ^ 58)) : c_btw (8 * n) (2 ^ 61) := by
  obtain ⟨h1, h2⟩ := h
  have e : (8 * n).toInt = 8 * n.toInt := by
    rw [Int64.toInt_mul, show (8 : Int64).toInt = 8 from rfl]
    apply Int.bmod_eq_of_le <;> omega
  exact ⟨by omega, by omega⟩
theorem c_btw_i (v : Int32) : c_btw v.toInt64 2147483648 := by
  have h1 := Int32.toInt_lt v
  have h2 := Int32.le_toInt v
  have h3 := Int32.toInt_toInt64 v
  exact ⟨by omega, by omega⟩
/-- the number of a wider type is one of it -/
theorem c_wd_ok {a b : Nat} (ha : a < 8) (hb : b < 8) {v : Int64} (hv : c_okv (nI a) v) (hw : c_wid (nI a) (nI b) ≠ 0) : c_okv (nI b) (c_wd (nI a) v (nI b)) := by
  have k31 : (a ≤ 4) → c_btw v 2147483648 := fun h => hv.2.1 (nI_le (by omega) (by decide) : nI a ≤ nI 4)
  have k58 : (a ≤ 5) → c_btw v (2 ^ 58) := fun h => by
    rcases Nat.lt_or_ge a 5 with q | q
    · exact (k31 (by omega)).mono (by decide)
    · exact hv.2.2.1 (by rw [show a = 5 by omega]; rfl)
  have low : ∀ n : Int64, b < 6 → c_btw n (2 ^ 58) → (b ≤ 4 → c_btw n 2147483648) → c_okv (nI b) n := fun n hb6 h1 h2 =>
    ⟨⟨b, by omega, rfl⟩, fun h => h2 (by rw [show (4 : Int32) = nI 4 from rfl, nI_leI (by omega) (by decide)] at h; exact h), fun _ => h1, h1.mono (by decide)⟩
  have high : ∀ n : Int64, 6 ≤ b → c_btw n (2 ^ 61) → c_okv (nI b) n := fun n hb6 h1 =>
    ⟨⟨b, by omega, rfl⟩, fun h => absurd h (by rw [show (4 : Int32) = nI 4 from rfl, nI_leI (by omega) (by decide)]; omega), fun h => absurd h (by rw [show (5 : Int32) = nI 5 from rfl, nI_eq (by omega) (by decide)]; omega), h1⟩
  have hab : b < 6 → a ≤ b := fun h => by
    have : ∀ a, a < 8 → ∀ b, b < 6 → c_wid (nI a) (nI b) ≠ 0 → a ≤ b := by decide +kernel
    exact this a ha b h hw
  rcases Nat.lt_or_ge b 6 with q | q
  · have e : c_wd (nI a) v (nI b) = v := by
      unfold c_wd
      rw [decide_eq_true (show nI b < (6 : Int32) from nI_lt q (by decide))]; rfl
    rw [e]
    exact low v q (k58 (by have := hab q; omega)) (fun h => k31 (by have := hab q; omega))
  · refine high _ q ?_
    unfold c_wd
    rw [decide_eq_false (show ¬ nI b < (6 : Int32) from nI_nlt q (by omega)), cond_false]
    rcases Nat.lt_or_ge a 6 with q2 | q2
    · rw [decide_eq_true (show nI a < (6 : Int32) from nI_lt q2 (by decide)), cond_true]
      cases decide (nI b = 6) with
      | true => exact (fp_f_btw (k58 (by omega))).mul8
      | false => exact (fp_d_btw (k58 (by omega))).mul8
    · rw [decide_eq_false (show ¬ nI a < (6 : Int32) from nI_nlt q2 (by omega)), cond_false]
      exact hv.2.2.2
theorem c_mk_ok {t : Nat} (ht : t < 12) (v : Int32) : c_okv (nI t) (c_mk (nI t) v) := by
  have h31 : ∀ n : Int64, c_btw n 2147483648 → c_okv (nI t) n := fun n h => ⟨⟨t, ht, rfl⟩, fun _ => h, fun _ => h.mono (by decide), h.mono (by decide)⟩
  have hi : ∀ x : Int32, c_okv (nI t) x.toInt64 := fun x => h31 _ (c_btw_i x)
  match t, ht with
  | 0, _ | 1, _ | 2, _ | 3, _ | 4, _ | 7, _ | 8, _ | 9, _ | 10, _ => exact hi _
  | 11, _ => exact h31 0 ⟨by decide, by decide⟩
  | 5, _ =>
    show c_okv (nI 5) (v.toInt64 * 100000007)
    have h1 := c_btw_i v
    have e : (v.toInt64 * 100000007).toInt = v.toInt64.toInt * 100000007 := by
      rw [Int64.toInt_mul, show (100000007 : Int64).toInt = 100000007 from rfl]
      have := h1.1; have := h1.2
      apply Int.bmod_eq_of_le <;> omega
    have h2 : c_btw (v.toInt64 * 100000007) (2 ^ 58) := ⟨by have := h1.1; omega, by have := h1.2; omega⟩
    exact ⟨⟨5, by decide, rfl⟩, fun h => absurd h (by decide), fun _ => h2, h2.mono (by decide)⟩
  | 6, _ =>
    show c_okv (nI 6) (FP.f2l (FP.i2f v))
    rw [fp_i2f]
    exact ⟨⟨6, by decide, rfl⟩, fun h => absurd h (by decide), fun h => absurd h (by decide), (fp_f_btw ((c_btw_i v).mono (by decide))).mono (by decide)⟩
/-! (whole, 28.model1) -/
/-- kinds: none, or 0 to 14; sizes: 0 to 12 -/
def c_kok (kd : Nat → Int32) : Prop := ∀ s, s < 6 → kd s = -1 ∨ ∃ k : Nat, k < 15 ∧ kd s = nI k
def c_zok (sz : Nat → Int32) : Prop := ∀ s, s < 6 → ∃ n : Nat, n ≤ 12 ∧ sz s = nI n
theorem c_zok.sz {sz : Nat → Int32} (h : c_zok sz) : c_szok sz := fun s hs => by
  obtain ⟨n, h1, h2⟩ := h s hs
  rw [h2]
  exact nI_le h1 (by decide)
theorem c_arrF_cases (kd : Nat → Int32) (a : Int32) : c_arrF kd a = 0 ∨ c_arrF kd a = 1 ∨ c_arrF kd a = 2 := by
  unfold c_arrF
  cases decide (kd a.toNatClampNeg = (-1 : Int32)) with
  | true => exact Or.inr (Or.inl rfl)
  | false => cases decide (kd a.toNatClampNeg ≤ (12 : Int32)) with
    | true => exact Or.inl rfl
    | false => exact Or.inr (Or.inr rfl)
/-- of an array, the kind is 0 to 12 -/
theorem c_arrF_0 {kd : Nat → Int32} (hk : c_kok kd) {a : Int32} (h : pu_sl a) (h0 : c_arrF kd a = 0) : ∃ k : Nat, k < 13 ∧ kd a.toNatClampNeg = nI k := by
  rcases hk _ (pu_sl_cl h) with e | ⟨k, h2, e⟩
  · unfold c_arrF at h0; rw [e] at h0; exact absurd h0 (by decide)
  · refine ⟨k, ?_, e⟩
    unfold c_arrF at h0
    rw [e] at h0
    have : ∀ k, k < 15 → cond (decide (nI k = (-1 : Int32))) 1 (cond (decide (nI k ≤ 12)) 0 2) = (0 : Int32) → k < 13 := by decide +kernel
    exact this k h2 h0
/-! (whole, 29.model2) -/
/-! The model's step of a change. -/
/-- the values of the cells that there are -/
def c_cells (kd sz : Nat → Int32) (t : Nat → Int32) (n : Nat → Int64) : Prop := ∀ j, j < 6 → c_arrF kd (nI j) = 0 → ∀ i, i < 12 → nI i < sz j → c_okv (t (12 * j + i)) (n (12 * j + i)) ∧ (kd j ≤ 7 → t (12 * j + i) = kd j)
/-- a change as it may be: slots, ways -/
def c_chok (c : cC) : Prop := c_ok c ∧ ∃ w : Nat, c.2.2.1 = nI w ∧ (c.1 = -1 → w < 22) ∧ (c.1 ≠ -1 → w < 9)
theorem c_cells_at {kd sz : Nat → Int32} {t : Nat → Int32} {n : Nat → Int64} (h : c_cells kd sz t n) (hz : c_zok sz) {s i : Int32} (hs : pu_sl s) (ha : c_arrF kd s = 0) (hi : c_idxF sz s i = 0) : c_okv (t (c_cell s i)) (n (c_cell s i)) ∧ (kd s.toNatClampNeg ≤ 7 → t (c_cell s i) = kd s.toNatClampNeg) := by
  obtain ⟨k, h1, rfl, h2⟩ := c_idxF_0 hz.sz hs hi
  obtain ⟨j, h3, rfl⟩ := pu_sl_nI hs
  rw [nI_clamp (by omega)] at h2 ⊢
  rw [c_cell_eq h3 h1]
  exact h j h3 ha k h1 h2
theorem c_rdF_arr {kd sz : Nat → Int32} {s w i : Int32} (h : c_rdF kd sz s w i = 0) : c_arrF kd s = 0 := by
  unfold c_rdF at h
  cases h1 : decide (c_arrF kd s = 0) with
  | false => rw [h1, cond_false] at h; exact h
  | true => exact of_decide_eq_true h1
theorem c_wrF_arr {kd sz : Nat → Int32} {s w i : Int32} (h : c_wrF kd sz s w i = 0) : c_arrF kd s = 0 := by
  unfold c_wrF at h
  cases h1 : decide (c_arrF kd s = 0) with
  | false => rw [h1, cond_false] at h; exact h
  | true => exact of_decide_eq_true h1
section MODEL2
variable {σ : pd_H}
theorem c_tak_wid : ∀ k, k < 8 → ∀ t, t < 12 → c_tak (nI k) (nI t) ≠ 0 → t < 8 ∧ c_wid (nI t) (nI k) ≠ 0 := by decide +kernel
end MODEL2
