/-! Roundings: by bits counted, and by the machine's floats. -/
def c_btw (n : Int64) (M : Int) : Prop := -M ≤ n.toInt ∧ n.toInt ≤ M
/-- a value of a type -/
def c_okv (t : Int32) (n : Int64) : Prop := (∃ k : Nat, k < 12 ∧ t = nI k) ∧ (t ≤ 4 → c_btw n 2147483648) ∧ (t = 5 → c_btw n (2 ^ 58)) ∧ c_btw n (2 ^ 61)
theorem fp_near_le {A B M : Nat} (hB : 0 < B) (h : A ≤ M * B) : Jvm.FP.Core.nearest A B ≤ M := by
  have h1 := Nat.div_add_mod A B
  have h2 := Nat.mod_lt A hB
  have h3 : A / B ≤ M := Nat.div_le_of_le_mul (by rw [Nat.mul_comm]; exact h)
  unfold Jvm.FP.Core.nearest
  rcases Nat.lt_or_ge (A / B) M with q | q
  · split
    · omega
    · split
      · omega
      · have := Nat.mod_lt (A / B) (show 0 < 2 by decide); omega
  · have e : A / B = M := by omega
    have : A % B = 0 := by rw [e, Nat.mul_comm] at h1; omega
    rw [this, if_pos (by omega), e]
    exact Nat.le_refl _
theorem fp_near_ge {A B M : Nat} (hB : 0 < B) (h : M * B ≤ A) : M ≤ Jvm.FP.Core.nearest A B := by
  have : M ≤ A / B := (Nat.le_div_iff_mul_le hB).mpr h
  unfold Jvm.FP.Core.nearest
  split
  · exact this
  · split <;> omega
theorem fp_near_one (A : Nat) : Jvm.FP.Core.nearest A 1 = A := by
  have h1 := fp_near_le (A := A) (B := 1) (M := A) (by decide) (by omega)
  have h2 := fp_near_ge (A := A) (B := 1) (M := A) (by decide) (by omega)
  omega
theorem fp_dec_as {f : Jvm.FP.Core.Fmt} (s : Bool) {e t : Nat} (ht : t < f.tails) (he : e < f.exps) : Jvm.FP.Core.fieldT f (Jvm.FP.Core.assemble f s e t) = t ∧ Jvm.FP.Core.fieldE f (Jvm.FP.Core.assemble f s e t) = e ∧ Jvm.FP.Core.fieldS f (Jvm.FP.Core.assemble f s e t) = s ∧ Jvm.FP.Core.assemble f s e t < 2 * f.exps * f.tails := by
  have h0 : Jvm.FP.Core.assemble f s e t = t + f.tails * (s.toNat * f.exps + e) := by
    unfold Jvm.FP.Core.assemble
    rw [Nat.mul_comm, Nat.add_comm]
  have h1 : (Jvm.FP.Core.assemble f s e t) / f.tails = e + f.exps * s.toNat := by
    rw [h0, Nat.add_mul_div_left _ _ (by omega), Nat.div_eq_of_lt ht, Nat.zero_add, Nat.add_comm, Nat.mul_comm]
  refine ⟨?_, ?_, ?_, ?_⟩
  · unfold Jvm.FP.Core.fieldT
    rw [h0, Nat.add_mul_mod_self_left, Nat.mod_eq_of_lt ht]
  · unfold Jvm.FP.Core.fieldE
    rw [h1, Nat.add_mul_mod_self_left, Nat.mod_eq_of_lt he]
  · unfold Jvm.FP.Core.fieldS
    rw [h1, Nat.add_mul_div_left _ _ (by omega), Nat.div_eq_of_lt he, Nat.zero_add]
    cases s <;> rfl
  · rw [h0]
    have h3 : s.toNat * f.exps + e + 1 ≤ 2 * f.exps := by
      have : s.toNat ≤ 1 := by cases s <;> decide
      have := Nat.mul_le_mul_right f.exps this
      omega
    have h4 := Nat.mul_le_mul_right f.tails h3
    rw [Nat.add_mul, Nat.one_mul, Nat.mul_comm _ f.tails] at h4
    omega
theorem fp_dec {f : Jvm.FP.Core.Fmt} (s : Bool) {c : Nat} {q : Int} (hE : 3 ≤ f.exps) (h1 : c < 2 * f.tails) (h2 : f.qmin ≤ q) (h3 : (q - f.qmin).toNat + 1 < f.exps - 1) (h4 : q = f.qmin ∨ f.tails ≤ c) : Jvm.FP.Core.decode f (Jvm.FP.Core.encode f (.fin s c q)) = .fin s c q ∧ Jvm.FP.Core.encode f (.fin s c q) < 2 * f.exps * f.tails := by
  have e0 : Jvm.FP.Core.encode f (.fin s c q) = if c < f.tails then Jvm.FP.Core.assemble f s 0 c else Jvm.FP.Core.assemble f s ((q - f.qmin).toNat + 1) (c - f.tails) := rfl
  rw [e0]
  by_cases hc : c < f.tails
  · obtain ⟨g1, g2, g3, g4⟩ := fp_dec_as s hc (show 0 < f.exps by omega)
    rw [if_pos hc]
    refine ⟨?_, g4⟩
    unfold Jvm.FP.Core.decode
    rw [g1, g2, g3, if_neg (by omega), if_pos rfl]
    rcases h4 with h4 | h4
    · rw [h4]
    · omega
  · obtain ⟨g1, g2, g3, g4⟩ := fp_dec_as s (show c - f.tails < f.tails by omega) (show (q - f.qmin).toNat + 1 < f.exps by omega)
    rw [if_neg hc]
    refine ⟨?_, g4⟩
    unfold Jvm.FP.Core.decode
    rw [g1, g2, g3, if_neg (by omega), if_neg (by omega)]
    have a1 : f.tails + (c - f.tails) = c := by omega
    have a2 : f.qmin + ((((q - f.qmin).toNat + 1 : Nat) : Int) - 1) = q := by omega
    rw [a1, a2]
/-- a number rounded to p bits -/
def c_rnd (p A : Nat) : Nat := if c_len A ≤ p then A else Jvm.FP.Core.nearest A (2 ^ (c_len A - p)) * 2 ^ (c_len A - p)
theorem c_len_le {A n : Nat} (h : A < 2 ^ n) : c_len A ≤ n := by
  unfold c_len
  split
  · omega
  · rename_i h0
    have := (Nat.log2_lt h0).mpr h
    omega
theorem c_rnd_le {p A : Nat} (h : A ≤ 2 ^ 58) : c_rnd p A ≤ 2 ^ 58 := by
  unfold c_rnd
  split
  · exact h
  · rename_i h1
    by_cases q : A = 2 ^ 58
    · by_cases q2 : p = 0
      · subst q2
        rw [q]
        show Jvm.FP.Core.nearest (2 ^ 58) (2 ^ 59) * 2 ^ 59 ≤ 2 ^ 58
        have : Jvm.FP.Core.nearest (2 ^ 58) (2 ^ 59) = 0 := by decide
        rw [this]; decide
      · have hl : c_len A ≤ 59 := c_len_le (by omega)
        have e : 2 ^ 58 = 2 ^ (58 - (c_len A - p)) * 2 ^ (c_len A - p) := by rw [← Nat.pow_add]; congr 1; omega
        have := fp_near_le (A := A) (M := 2 ^ (58 - (c_len A - p))) (Nat.two_pow_pos (c_len A - p)) (by omega)
        calc _ ≤ 2 ^ (58 - (c_len A - p)) * 2 ^ (c_len A - p) := Nat.mul_le_mul_right _ this
          _ = _ := e.symm
    · have hl : c_len A ≤ 58 := c_len_le (by omega)
      have e : 2 ^ 58 = 2 ^ (58 - (c_len A - p)) * 2 ^ (c_len A - p) := by rw [← Nat.pow_add]; congr 1; omega
      have := fp_near_le (A := A) (M := 2 ^ (58 - (c_len A - p))) (Nat.two_pow_pos (c_len A - p)) (by omega)
      calc _ ≤ 2 ^ (58 - (c_len A - p)) * 2 ^ (c_len A - p) := Nat.mul_le_mul_right _ this
        _ = _ := e.symm
section FPROUND
theorem fp_leading {A : Nat} (h : A ≠ 0) : Jvm.FP.Core.leading A 1 = (A.log2 : Int) := by
  unfold Jvm.FP.Core.leading
  have h1 : Nat.log2 1 = 0 := by decide
  rw [h1]
  simp only [Int.ofNat_zero, Int.sub_zero]
  have h2 : ((A.log2 : Int)).toNat = A.log2 := by omega
  have h3 : (-(A.log2 : Int)).toNat = 0 := by omega
  rw [h2, h3]
  rw [if_pos (by have := Nat.log2_self_le h; omega)]
theorem fp_round {f : Jvm.FP.Core.Fmt} (s : Bool) {A : Nat} (hA : A ≤ 2 ^ 58) (hq : f.qmin ≤ -60) (hm : 60 ≤ f.qmax) (hp : 2 ≤ f.p ∧ f.p ≤ 53) : ∃ c q, Jvm.FP.Core.round f (.fin s A 0) = .fin s c q ∧ Jvm.FP.Core.truncate s c q = Jvm.FP.Core.signed s (c_rnd f.p A) ∧ c < 2 * f.tails ∧ f.qmin ≤ q ∧ q ≤ 60 ∧ (q = f.qmin ∨ f.tails ≤ c) := by
  have eT : 2 ^ f.p = 2 * f.tails := by
    unfold Jvm.FP.Core.Fmt.tails
    have : f.p = f.p - 1 + 1 := by omega
    rw [this, Nat.pow_succ, Nat.mul_comm]
    rfl
  have pT : 0 < f.tails := Nat.two_pow_pos _
  show ∃ c q, Jvm.FP.Core.roundRatio f s A 1 0 = .fin s c q ∧ _
  unfold Jvm.FP.Core.roundRatio
  by_cases h0 : A = 0
  · refine ⟨0, f.qmin, by rw [if_pos h0], ?_, by omega, by omega, by omega, Or.inl rfl⟩
    subst h0
    unfold Jvm.FP.Core.truncate c_rnd c_len
    rw [Nat.zero_mul, Nat.zero_div, if_pos rfl, if_pos (Nat.zero_le _)]
  · rw [if_neg h0]
    have hl : A.log2 < 59 := (Nat.log2_lt h0).mpr (by omega)
    have g1 := Nat.log2_self_le h0
    have g2 := @Nat.lt_log2_self A
    have eq : Jvm.FP.Core.quantum f A 1 0 = (A.log2 : Int) - ((f.p : Int) - 1) := by
      unfold Jvm.FP.Core.quantum
      rw [fp_leading h0]
      omega
    unfold Jvm.FP.Core.roundAt Jvm.FP.Core.unitsNum Jvm.FP.Core.unitsDen
    rw [eq, Nat.one_mul]
    have ec : c_len A = A.log2 + 1 := if_neg h0
    by_cases h1 : A.log2 + 1 ≤ f.p
    · obtain ⟨k, hk⟩ : ∃ k, f.p = A.log2 + 1 + k := ⟨f.p - (A.log2 + 1), by omega⟩
      have e1 : (0 - ((A.log2 : Int) - ((f.p : Int) - 1))).toNat = k := by omega
      have e2 : ((A.log2 : Int) - ((f.p : Int) - 1) - 0).toNat = 0 := by omega
      have e3 : ((A.log2 : Int) - ((f.p : Int) - 1)).toNat = 0 := by omega
      have e4 : (-((A.log2 : Int) - ((f.p : Int) - 1))).toNat = k := by omega
      have e5 : Jvm.FP.Core.nearest (A * 2 ^ k) (2 ^ 0) = A * 2 ^ k := fp_near_one _
      have e6 : A * 2 ^ k < 2 ^ f.p := by
        rw [hk, Nat.pow_add]
        exact Nat.mul_lt_mul_of_pos_right g2 (Nat.two_pow_pos _)
      have e7 : f.tails ≤ A * 2 ^ k := by
        have : f.tails = 2 ^ A.log2 * 2 ^ k := by
          unfold Jvm.FP.Core.Fmt.tails
          rw [← Nat.pow_add]; congr 1; omega
        rw [this]
        exact Nat.mul_le_mul_right _ g1
      refine ⟨A * 2 ^ k, (A.log2 : Int) - ((f.p : Int) - 1), ?_, ?_, by omega, by omega, by omega, Or.inr e7⟩
      · rw [e1, e2, e5]
        unfold Jvm.FP.Core.settle Jvm.FP.Core.bound
        rw [if_pos e6, if_pos (by omega)]
      · unfold Jvm.FP.Core.truncate c_rnd
        rw [e3, e4, ec, if_pos h1, Nat.pow_zero, Nat.mul_one, Nat.mul_div_cancel _ (Nat.two_pow_pos k)]
    · obtain ⟨m, hm1⟩ : ∃ m, A.log2 + 1 = f.p + m := ⟨A.log2 + 1 - f.p, by omega⟩
      have e1 : (0 - ((A.log2 : Int) - ((f.p : Int) - 1))).toNat = 0 := by omega
      have e2 : ((A.log2 : Int) - ((f.p : Int) - 1) - 0).toNat = m := by omega
      have e3 : c_len A - f.p = m := by omega
      rw [e1, e2, Nat.pow_zero, Nat.mul_one]
      have eR : c_rnd f.p A = Jvm.FP.Core.nearest A (2 ^ m) * 2 ^ m := by
        unfold c_rnd
        rw [e3, if_neg (by omega)]
      have hN : Jvm.FP.Core.nearest A (2 ^ m) ≤ 2 ^ f.p := fp_near_le (Nat.two_pow_pos m) (by rw [← Nat.pow_add, ← hm1]; exact Nat.le_of_lt g2)
      have hN2 : f.tails ≤ Jvm.FP.Core.nearest A (2 ^ m) := fp_near_ge (Nat.two_pow_pos m) (by
        have : f.tails * 2 ^ m = 2 ^ A.log2 := by
          unfold Jvm.FP.Core.Fmt.tails
          rw [← Nat.pow_add]; congr 1; omega
        rw [this]
        exact g1)
      rw [eR]
      by_cases h2 : Jvm.FP.Core.nearest A (2 ^ m) < 2 ^ f.p
      · refine ⟨Jvm.FP.Core.nearest A (2 ^ m), (A.log2 : Int) - ((f.p : Int) - 1), ?_, ?_, by omega, by omega, by omega, Or.inr hN2⟩
        · unfold Jvm.FP.Core.settle Jvm.FP.Core.bound
          rw [if_pos h2, if_pos (by omega)]
        · unfold Jvm.FP.Core.truncate
          rw [show ((A.log2 : Int) - ((f.p : Int) - 1)).toNat = m by omega, show (-((A.log2 : Int) - ((f.p : Int) - 1))).toNat = 0 by omega, Nat.pow_zero, Nat.div_one]
      · refine ⟨f.tails, (A.log2 : Int) - ((f.p : Int) - 1) + 1, ?_, ?_, by omega, by omega, by omega, Or.inr (Nat.le_refl _)⟩
        · unfold Jvm.FP.Core.settle Jvm.FP.Core.bound
          rw [if_neg h2, if_pos (by omega)]
        · unfold Jvm.FP.Core.truncate
          rw [show ((A.log2 : Int) - ((f.p : Int) - 1) + 1).toNat = m + 1 by omega, show (-((A.log2 : Int) - ((f.p : Int) - 1) + 1)).toNat = 0 by omega, Nat.pow_zero, Nat.div_one, show Jvm.FP.Core.nearest A (2 ^ m) = 2 ^ f.p by omega]
          have : f.tails * 2 ^ (m + 1) = 2 ^ f.p * 2 ^ m := by
            unfold Jvm.FP.Core.Fmt.tails
            rw [← Nat.pow_add, ← Nat.pow_add]; congr 1; omega
          rw [this]
theorem fp_toL {f : Jvm.FP.Core.Fmt} {v : Int64} (h : c_btw v (2 ^ 58)) (hq : f.qmin ≤ -60) (hm : 60 ≤ f.qmax) (hp : 2 ≤ f.p ∧ f.p ≤ 53) : (Jvm.FP.Core.toL (Jvm.FP.Core.round f (Jvm.FP.Core.ofInt v.toInt))).toInt = Jvm.FP.Core.signed (decide (v.toInt < 0)) (c_rnd f.p v.toInt.natAbs) := by
  have hA : v.toInt.natAbs ≤ 2 ^ 58 := by have := h.1; have := h.2; omega
  obtain ⟨c, q, e1, e2, -⟩ := fp_round (decide (v.toInt < 0)) hA hq hm hp
  have hle := c_rnd_le (p := f.p) hA
  unfold Jvm.FP.Core.toL Jvm.FP.Core.ofInt
  rw [e1]
  show (Int64.ofInt (max (-2 ^ 63) (min (2 ^ 63 - 1) (Jvm.FP.Core.truncate (decide (v.toInt < 0)) c q)))).toInt = _
  rw [e2]
  have b : -2 ^ 58 ≤ Jvm.FP.Core.signed (decide (v.toInt < 0)) (c_rnd f.p v.toInt.natAbs) ∧ Jvm.FP.Core.signed (decide (v.toInt < 0)) (c_rnd f.p v.toInt.natAbs) ≤ 2 ^ 58 := by
    unfold Jvm.FP.Core.signed
    split <;> omega
  generalize Jvm.FP.Core.signed (decide (v.toInt < 0)) (c_rnd f.p v.toInt.natAbs) = x at *
  have e3 : max (-2 ^ 63) (min (2 ^ 63 - 1) x) = x := by omega
  rw [e3, Int64.toInt_ofInt_of_le (by omega) (by omega)]
theorem fp_back {f : Jvm.FP.Core.Fmt} {v : Int64} (h : c_btw v (2 ^ 58)) (hq : f.qmin ≤ -60) (hm : 60 ≤ f.qmax) (hp : 2 ≤ f.p ∧ f.p ≤ 53) (hE : ∀ q : Int, f.qmin ≤ q → q ≤ 60 → (q - f.qmin).toNat + 1 < f.exps - 1) : Jvm.FP.Core.decode f (Jvm.FP.Core.encode f (Jvm.FP.Core.round f (Jvm.FP.Core.ofInt v.toInt))) = Jvm.FP.Core.round f (Jvm.FP.Core.ofInt v.toInt) ∧ Jvm.FP.Core.encode f (Jvm.FP.Core.round f (Jvm.FP.Core.ofInt v.toInt)) < 2 * f.exps * f.tails := by
  have hA : v.toInt.natAbs ≤ 2 ^ 58 := by have := h.1; have := h.2; omega
  obtain ⟨c, q, e1, e2, e3, e4, e5, e6⟩ := fp_round (decide (v.toInt < 0)) hA hq hm hp
  unfold Jvm.FP.Core.ofInt
  rw [e1]
  have := hE f.qmin (by omega) (by omega)
  exact fp_dec _ (by omega) e3 e4 (hE q e4 e5) e6
theorem fp_f {v : Int64} (h : c_btw v (2 ^ 58)) : (Jvm.FP.Core.f2l (Jvm.FP.Core.l2f v)).toInt = Jvm.FP.Core.signed (decide (v.toInt < 0)) (c_rnd 24 v.toInt.natAbs) := by
  have := fp_toL (f := Jvm.FP.Core.b32) h (by decide) (by decide) (by decide)
  have a1 : Jvm.FP.Core.b32.qmin = -149 := by decide
  have a2 : Jvm.FP.Core.b32.exps = 256 := by decide
  obtain ⟨g1, g2⟩ := fp_back (f := Jvm.FP.Core.b32) h (by decide) (by decide) (by decide) (by rw [a1, a2]; omega)
  have a3 : 2 * Jvm.FP.Core.b32.exps * Jvm.FP.Core.b32.tails = 2 ^ 32 := by decide
  have e : (Jvm.FP.Core.l2f v).toNat = Jvm.FP.Core.encode Jvm.FP.Core.b32 (Jvm.FP.Core.round Jvm.FP.Core.b32 (Jvm.FP.Core.ofInt v.toInt)) := by
    show (UInt32.ofNat (Jvm.FP.Core.encode Jvm.FP.Core.b32 (Jvm.FP.Core.round Jvm.FP.Core.b32 (Jvm.FP.Core.ofInt v.toInt)))).toNat = _
    exact UInt32.toNat_ofNat_of_lt (by rw [a3] at g2; exact g2)
  unfold Jvm.FP.Core.f2l
  rw [e, g1]
  exact this
theorem fp_d {v : Int64} (h : c_btw v (2 ^ 58)) : (Jvm.FP.Core.d2l (Jvm.FP.Core.l2d v)).toInt = Jvm.FP.Core.signed (decide (v.toInt < 0)) (c_rnd 53 v.toInt.natAbs) := by
  have := fp_toL (f := Jvm.FP.Core.b64) h (by decide) (by decide) (by decide)
  have a1 : Jvm.FP.Core.b64.qmin = -1074 := by decide
  have a2 : Jvm.FP.Core.b64.exps = 2048 := by decide
  obtain ⟨g1, g2⟩ := fp_back (f := Jvm.FP.Core.b64) h (by decide) (by decide) (by decide) (by rw [a1, a2]; omega)
  have a3 : 2 * Jvm.FP.Core.b64.exps * Jvm.FP.Core.b64.tails = 2 ^ 64 := by decide
  have e : (Jvm.FP.Core.l2d v).toNat = Jvm.FP.Core.encode Jvm.FP.Core.b64 (Jvm.FP.Core.round Jvm.FP.Core.b64 (Jvm.FP.Core.ofInt v.toInt)) := by
    show (UInt64.ofNat (Jvm.FP.Core.encode Jvm.FP.Core.b64 (Jvm.FP.Core.round Jvm.FP.Core.b64 (Jvm.FP.Core.ofInt v.toInt)))).toNat = _
    exact UInt64.toNat_ofNat_of_lt (by rw [a3] at g2; exact g2)
  unfold Jvm.FP.Core.d2l
  rw [e, g1]
  exact this
theorem fp_btw {v w : Int64} {p : Nat} (h : c_btw v (2 ^ 58)) (e : w.toInt = Jvm.FP.Core.signed (decide (v.toInt < 0)) (c_rnd p v.toInt.natAbs)) : c_btw w (2 ^ 58) := by
  have hA : v.toInt.natAbs ≤ 2 ^ 58 := by have := h.1; have := h.2; omega
  have hle := c_rnd_le (p := p) hA
  unfold c_btw
  rw [e]
  unfold Jvm.FP.Core.signed
  split <;> omega
theorem fp_small {v w : Int64} (h : c_btw v 2147483648) (e : w.toInt = Jvm.FP.Core.signed (decide (v.toInt < 0)) (c_rnd 53 v.toInt.natAbs)) : w = v := by
  apply Int64.toInt_inj.mp
  rw [e]
  have hA : v.toInt.natAbs < 2 ^ 32 := by have := h.1; have := h.2; omega
  have hl := c_len_le hA
  have er : c_rnd 53 v.toInt.natAbs = v.toInt.natAbs := if_pos (by omega)
  rw [er]
  unfold Jvm.FP.Core.signed
  by_cases q : v.toInt < 0
  · rw [decide_eq_true q, if_pos rfl]; omega
  · rw [decide_eq_false q, if_neg (by decide)]; omega
end FPROUND
theorem M_rounded_L83_w {l0 : Int64} {d2 d3 d4 d6 d7 d8 d9 d10 d11 : Option pd_V} {m k c A : Nat} (hm : m < 64) {σ : pd_H} : M_rounded_L83 l0 d2 d3 d4 (nI m) d6 d7 d8 d9 d10 d11 (jN c) (jN k) σ = some (σ, some (pd_j (cond (decide (0 ≤ l0.toInt)) (jN ((k + c) * 2 ^ m)) (-(jN ((k + c) * 2 ^ m)))))) := by
  rw [M_rounded_L83_eq, j_cmp_ge, jN_add, j_sh hm, jN_shl hm, pu_csj]
theorem jN_eq {a b : Nat} (ha : a < 2 ^ 63) (hb : b < 2 ^ 63) : jN a = jN b ↔ a = b := ⟨fun h => by
  have h1 := jN_toInt ha
  rw [h, jN_toInt hb] at h1
  omega, fun h => by rw [h]⟩
theorem M_rounded_s {v w : Int64} {p : Nat} (h : c_btw v (2 ^ 58)) (hp : 2 ≤ p ∧ p ≤ 53) (e : w.toInt = Jvm.FP.Core.signed (decide (v.toInt < 0)) (c_rnd p v.toInt.natAbs)) (σ : pd_H) : M_rounded v (nI p) σ = some (σ, some (pd_j w)) := by
  have hA : v.toInt.natAbs ≤ 2 ^ 58 := by have := h.1; have := h.2; omega
  have hR := c_rnd_le (p := p) hA
  have hw : ∀ c k m, (k + c) * 2 ^ m = c_rnd p v.toInt.natAbs → cond (decide (0 ≤ v.toInt)) (jN ((k + c) * 2 ^ m)) (-(jN ((k + c) * 2 ^ m))) = w := fun c k m q => by
    rw [q]
    apply Int64.toInt_inj.mp
    rw [e]
    unfold Jvm.FP.Core.signed
    by_cases h0 : 0 ≤ v.toInt
    · rw [decide_eq_true h0, decide_eq_false (Int.not_lt.mpr h0), cond_true, jN_toInt (by omega), if_neg (by decide)]
    · rw [decide_eq_false h0, decide_eq_true (Int.not_le.mp h0), cond_false, Int64.toInt_neg, jN_toInt (by omega), Int.bmod_eq_of_le (by omega) (by omega), if_pos rfl]
  have key : ∀ (t0 : Int64), t0 = jN v.toInt.natAbs → M_rounded_L12 v (nI p) none none none none none none none none none t0 σ = some (σ, some (pd_j w)) := by
    intro t0 et
    subst et
    have hsm : c_len v.toInt.natAbs ≤ p → v = w := fun q => by
      apply Int64.toInt_inj.mp
      rw [e, show c_rnd p v.toInt.natAbs = v.toInt.natAbs from if_pos q]
      unfold Jvm.FP.Core.signed
      by_cases h0 : v.toInt < 0
      · rw [decide_eq_true h0, if_pos rfl]; omega
      · rw [decide_eq_false h0, if_neg (by decide)]; omega
    generalize hAd : v.toInt.natAbs = A at *
    have hL : c_len A < 60 := by have := c_len_le (n := 59) (show A < 2 ^ 59 by omega); omega
    rw [M_rounded_L12_eq, M_lengthOf_s (by omega), pd_bI_of]
    by_cases h1 : c_len A ≤ p
    · have : ∀ a, a < 64 → ∀ b, b < 64 → a ≤ b → decide (0 < nI a - nI b) = false := by decide +kernel
      rw [this _ (by omega) _ (by omega) h1, cond_false, ← hsm h1]
    · obtain ⟨m, hm⟩ : ∃ m, c_len A = p + (m + 1) := ⟨c_len A - p - 1, by omega⟩
      have eR : c_rnd p A = Jvm.FP.Core.nearest A (2 ^ (m + 1)) * 2 ^ (m + 1) := by
        unfold c_rnd
        rw [if_neg h1, show c_len A - p = m + 1 by omega]
      have e1 : nI (c_len A) - nI p = nI (m + 1) := by rw [nI_sub (by omega) (by omega), show c_len A - p = m + 1 by omega]
      have hK : A / 2 ^ (m + 1) * 2 ^ (m + 1) ≤ A := Nat.div_mul_le_self _ _
      have e2 : A - A / 2 ^ (m + 1) * 2 ^ (m + 1) = A % 2 ^ (m + 1) := by
        have := Nat.div_add_mod A (2 ^ (m + 1))
        rw [Nat.mul_comm] at this
        omega
      have hr : A % 2 ^ (m + 1) < 2 ^ (m + 1) := Nat.mod_lt _ (Nat.two_pow_pos _)
      have hp2 : 2 ^ (m + 1) = 2 * 2 ^ m := by rw [Nat.pow_succ, Nat.mul_comm]
      have hh : 2 ^ m ≤ 2 ^ 58 := Nat.pow_le_pow_right (by decide) (by omega)
      have hq : A / 2 ^ (m + 1) ≤ A := Nat.div_le_self _ _
      rw [e1, decide_eq_true (show 0 < nI (m + 1) from nI_lt (a := 0) (by omega) (by omega)), cond_true, j_sh (show m + 1 < 64 by omega), jN_shr (by omega) (by omega), jN_shl (by omega), jN_sub hK, e2, nI_pred, j_sh (show m < 64 by omega), show (1 : Int64) = jN 1 from rfl, jN_shl (by omega), Nat.one_mul, j_cmp_gt, pu_cmp0, pu_cmp0, jN_toInt (by omega), jN_toInt (by omega), jN_and (by omega) (by decide), Nat.and_one_is_mod]
      have w1 : ∀ d2 d3 d4 d6 d7 d8 d9 d10 d11, Jvm.FP.Core.nearest A (2 ^ (m + 1)) = A / 2 ^ (m + 1) + 1 → M_rounded_L83 v d2 d3 d4 (nI (m + 1)) d6 d7 d8 d9 d10 d11 1 (jN (A / 2 ^ (m + 1))) σ = some (σ, some (pd_j w)) := fun d2 d3 d4 d6 d7 d8 d9 d10 d11 q => by
        rw [show (1 : Int64) = jN 1 from rfl, M_rounded_L83_w (A := A) (by omega), hw _ _ _ (by rw [eR, q])]
      have w0 : ∀ d2 d3 d4 d6 d7 d8 d9 d10 d11, Jvm.FP.Core.nearest A (2 ^ (m + 1)) = A / 2 ^ (m + 1) → M_rounded_L83 v d2 d3 d4 (nI (m + 1)) d6 d7 d8 d9 d10 d11 0 (jN (A / 2 ^ (m + 1))) σ = some (σ, some (pd_j w)) := fun d2 d3 d4 d6 d7 d8 d9 d10 d11 q => by
        rw [show (0 : Int64) = jN 0 from rfl, M_rounded_L83_w (A := A) (by omega), hw _ _ _ (by rw [eR, q]; rfl)]
      unfold Jvm.FP.Core.nearest at w1 w0
      by_cases g1 : 2 ^ m < A % 2 ^ (m + 1)
      · rw [decide_eq_true (show ((2 ^ m : Nat) : Int) < ((A % 2 ^ (m + 1) : Nat) : Int) by omega), cond_true]
        exact w1 _ _ _ _ _ _ _ _ _ (by rw [if_neg (by omega), if_pos (by omega)])
      · rw [decide_eq_false (show ¬ ((2 ^ m : Nat) : Int) < ((A % 2 ^ (m + 1) : Nat) : Int) by omega), cond_false]
        by_cases g2 : A % 2 ^ (m + 1) = 2 ^ m
        · rw [decide_eq_true ((jN_eq (by omega) (by omega)).mpr g2), cond_true]
          by_cases g3 : A / 2 ^ (m + 1) % 2 = 1
          · rw [decide_eq_true ((jN_eq (by omega) (by omega)).mpr g3), cond_true]
            exact w1 _ _ _ _ _ _ _ _ _ (by rw [if_neg (by omega), if_neg (by omega), g3])
          · rw [decide_eq_false (fun q => g3 ((jN_eq (by omega) (by omega)).mp q)), cond_false]
            exact w0 _ _ _ _ _ _ _ _ _ (by rw [if_neg (by omega), if_neg (by omega)]; omega)
        · rw [decide_eq_false (fun q => g2 ((jN_eq (by omega) (by omega)).mp q)), cond_false]
          exact w0 _ _ _ _ _ _ _ _ _ (by rw [if_pos (by omega)])
  rw [M_rounded_eq, j_cmp_ge]
  by_cases h0 : 0 ≤ v.toInt
  · rw [decide_eq_true h0, cond_true]
    refine key _ (Int64.toInt_inj.mp ?_)
    rw [jN_toInt (by omega)]; omega
  · rw [decide_eq_false h0, cond_false]
    refine key _ (Int64.toInt_inj.mp ?_)
    rw [jN_toInt (by omega), Int64.toInt_neg, Int.bmod_eq_of_le (by omega) (by omega)]; omega
theorem M_rounded_f {v : Int64} (h : c_btw v (2 ^ 58)) (σ : pd_H) : M_rounded v 24 σ = some (σ, some (pd_j (FP.f2l (FP.l2f v)))) := M_rounded_s (p := 24) h (by decide) (fp_f h) σ
theorem M_rounded_d {v : Int64} (h : c_btw v (2 ^ 58)) (σ : pd_H) : M_rounded v 53 σ = some (σ, some (pd_j (FP.d2l (FP.l2d v)))) := M_rounded_s (p := 53) h (by decide) (fp_d h) σ
theorem fp_d_small {v : Int64} (h : c_btw v 2147483648) : FP.d2l (FP.l2d v) = v := fp_small h (fp_d (v := v) ⟨by have := h.1; omega, by have := h.2; omega⟩)
theorem fp_i2f (v : Int32) : FP.f2l (FP.i2f v) = FP.f2l (FP.l2f v.toInt64) := by
  have e : v.toInt64.toInt = v.toInt := Int32.toInt_toInt64 v
  show Jvm.FP.Core.f2l (Jvm.FP.Core.i2f v) = Jvm.FP.Core.f2l (Jvm.FP.Core.l2f v.toInt64)
  unfold Jvm.FP.Core.i2f Jvm.FP.Core.l2f
  rw [e]
theorem fp_f_btw {v : Int64} (h : c_btw v (2 ^ 58)) : c_btw (FP.f2l (FP.l2f v)) (2 ^ 58) := fp_btw h (fp_f h)
theorem fp_d_btw {v : Int64} (h : c_btw v (2 ^ 58)) : c_btw (FP.d2l (FP.l2d v)) (2 ^ 58) := fp_btw h (fp_d h)
theorem c_btw.mono {n : Int64} {M N : Int} (h : c_btw n M) (hMN : M ≤ N) : c_btw n N := ⟨by have := h.1; omega, by have := h.2; omega⟩
theorem c_btw.mul8 {n : Int64} (h : c_btw n (2 ^ 58)) : c_btw (8 * n) (2 ^ 61) := by
  obtain ⟨h1, h2⟩ := h
  have e : (8 * n).toInt = 8 * n.toInt := by
    rw [Int64.toInt_mul, show (8 : Int64).toInt = 8 from rfl]
    apply Int.bmod_eq_of_le <;> omega
  exact ⟨by omega, by omega⟩
theorem c_btw_i (v : Int32) : c_btw v.toInt64 2147483648 := by
  have h1 := Int32.toInt_lt v
  have h2 := Int32.le_toInt v
  have h3 := Int32.toInt_toInt64 v
  exact ⟨by omega, by omega⟩
/-- the number of a wider type is one of it -/
theorem c_wd_ok {a b : Nat} (ha : a < 8) (hb : b < 8) {v : Int64} (hv : c_okv (nI a) v) (hw : c_wid (nI a) (nI b) ≠ 0) : c_okv (nI b) (c_wd (nI a) v (nI b)) := by
  have k31 : (a ≤ 4) → c_btw v 2147483648 := fun h => hv.2.1 (nI_le (by omega) (by decide) : nI a ≤ nI 4)
  have k58 : (a ≤ 5) → c_btw v (2 ^ 58) := fun h => by
    rcases Nat.lt_or_ge a 5 with q | q
    · exact (k31 (by omega)).mono (by decide)
    · exact hv.2.2.1 (by rw [show a = 5 by omega]; rfl)
  have low : ∀ n : Int64, b < 6 → c_btw n (2 ^ 58) → (b ≤ 4 → c_btw n 2147483648) → c_okv (nI b) n := fun n hb6 h1 h2 =>
    ⟨⟨b, by omega, rfl⟩, fun h => h2 (by rw [show (4 : Int32) = nI 4 from rfl, nI_leI (by omega) (by decide)] at h; exact h), fun _ => h1, h1.mono (by decide)⟩
  have high : ∀ n : Int64, 6 ≤ b → c_btw n (2 ^ 61) → c_okv (nI b) n := fun n hb6 h1 =>
    ⟨⟨b, by omega, rfl⟩, fun h => absurd h (by rw [show (4 : Int32) = nI 4 from rfl, nI_leI (by omega) (by decide)]; omega), fun h => absurd h (by rw [show (5 : Int32) = nI 5 from rfl, nI_eq (by omega) (by decide)]; omega), h1⟩
  have hab : b < 6 → a ≤ b := fun h => by
    have : ∀ a, a < 8 → ∀ b, b < 6 → c_wid (nI a) (nI b) ≠ 0 → a ≤ b := by decide +kernel
    exact this a ha b h hw
  rcases Nat.lt_or_ge b 6 with q | q
  · have e : c_wd (nI a) v (nI b) = v := by
      unfold c_wd
      rw [decide_eq_true (show nI b < (6 : Int32) from nI_lt q (by decide))]; rfl
    rw [e]
    exact low v q (k58 (by have := hab q; omega)) (fun h => k31 (by have := hab q; omega))
  · refine high _ q ?_
    unfold c_wd
    rw [decide_eq_false (show ¬ nI b < (6 : Int32) from nI_nlt q (by omega)), cond_false]
    rcases Nat.lt_or_ge a 6 with q2 | q2
    · rw [decide_eq_true (show nI a < (6 : Int32) from nI_lt q2 (by decide)), cond_true]
      cases decide (nI b = 6) with
      | true => exact (fp_f_btw (k58 (by omega))).mul8
      | false => exact (fp_d_btw (k58 (by omega))).mul8
    · rw [decide_eq_false (show ¬ nI a < (6 : Int32) from nI_nlt q2 (by omega)), cond_false]
      exact hv.2.2.2
theorem c_mk_ok {t : Nat} (ht : t < 12) (v : Int32) : c_okv (nI t) (c_mk (nI t) v) := by
  have h31 : ∀ n : Int64, c_btw n 2147483648 → c_okv (nI t) n := fun n h => ⟨⟨t, ht, rfl⟩, fun _ => h, fun _ => h.mono (by decide), h.mono (by decide)⟩
  have hi : ∀ x : Int32, c_okv (nI t) x.toInt64 := fun x => h31 _ (c_btw_i x)
  match t, ht with
  | 0, _ | 1, _ | 2, _ | 3, _ | 4, _ | 7, _ | 8, _ | 9, _ | 10, _ => exact hi _
  | 11, _ => exact h31 0 ⟨by decide, by decide⟩
  | 5, _ =>
    show c_okv (nI 5) (v.toInt64 * 100000007)
    have h1 := c_btw_i v
    have e : (v.toInt64 * 100000007).toInt = v.toInt64.toInt * 100000007 := by
      rw [Int64.toInt_mul, show (100000007 : Int64).toInt = 100000007 from rfl]
      have := h1.1; have := h1.2
      apply Int.bmod_eq_of_le <;> omega
    have h2 : c_btw (v.toInt64 * 100000007) (2 ^ 58) := ⟨by have := h1.1; omega, by have := h1.2; omega⟩
    exact ⟨⟨5, by decide, rfl⟩, fun h => absurd h (by decide), fun _ => h2, h2.mono (by decide)⟩
  | 6, _ =>
    show c_okv (nI 6) (FP.f2l (FP.i2f v))
    rw [fp_i2f]
    exact ⟨⟨6, by decide, rfl⟩, fun h => absurd h (by decide), fun h => absurd h (by decide), (fp_f_btw ((c_btw_i v).mono (by decide))).mono (by decide)⟩
