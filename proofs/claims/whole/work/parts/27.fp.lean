/-! Roundings: by bits counted, and by the machine's floats. -/
def c_btw (n : Int64) (M : Int) : Prop := -M ≤ n.toInt ∧ n.toInt ≤ M
/-- a value of a type -/
def c_okv (t : Int32) (n : Int64) : Prop := (∃ k : Nat, k < 12 ∧ t = nI k) ∧ (t ≤ 4 → c_btw n 2147483648) ∧ (t = 5 → c_btw n (2 ^ 58)) ∧ c_btw n (2 ^ 61)
theorem M_rounded_f {v : Int64} (h : c_btw v (2 ^ 58)) (σ : pd_H) : M_rounded v 24 σ = some (σ, some (pd_j (FP.f2l (FP.l2f v)))) := sorry
theorem M_rounded_d {v : Int64} (h : c_btw v (2 ^ 58)) (σ : pd_H) : M_rounded v 53 σ = some (σ, some (pd_j (FP.d2l (FP.l2d v)))) := sorry
theorem fp_d_small {v : Int64} (h : c_btw v 2147483648) : FP.d2l (FP.l2d v) = v := sorry
theorem fp_i2f (v : Int32) : FP.f2l (FP.i2f v) = FP.f2l (FP.l2f v.toInt64) := by
  have e : v.toInt64.toInt = v.toInt := Int32.toInt_toInt64 v
  show Jvm.FP.Core.f2l (Jvm.FP.Core.i2f v) = Jvm.FP.Core.f2l (Jvm.FP.Core.l2f v.toInt64)
  unfold Jvm.FP.Core.i2f Jvm.FP.Core.l2f
  rw [e]
