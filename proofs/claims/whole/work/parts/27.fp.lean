/-! Roundings: by bits counted, and by the machine's floats. -/
def c_btw (n : Int64) (M : Int) : Prop := -M ≤ n.toInt ∧ n.toInt ≤ M
/-- a value of a type -/
def c_okv (t : Int32) (n : Int64) : Prop := (∃ k : Nat, k < 12 ∧ t = nI k) ∧ (t ≤ 4 → c_btw n 2147483648) ∧ (t = 5 → c_btw n (2 ^ 58)) ∧ c_btw n (2 ^ 61)
theorem M_rounded_f {v : Int64} (h : c_btw v (2 ^ 58)) (σ : pd_H) : M_rounded v 24 σ = some (σ, some (pd_j (FP.f2l (FP.l2f v)))) := sorry
theorem M_rounded_d {v : Int64} (h : c_btw v (2 ^ 58)) (σ : pd_H) : M_rounded v 53 σ = some (σ, some (pd_j (FP.d2l (FP.l2d v)))) := sorry
theorem fp_d_small {v : Int64} (h : c_btw v 2147483648) : FP.d2l (FP.l2d v) = v := sorry
theorem fp_i2f (v : Int32) : FP.f2l (FP.i2f v) = FP.f2l (FP.l2f v.toInt64) := by
  have e : v.toInt64.toInt = v.toInt := Int32.toInt_toInt64 v
  show Jvm.FP.Core.f2l (Jvm.FP.Core.i2f v) = Jvm.FP.Core.f2l (Jvm.FP.Core.l2f v.toInt64)
  unfold Jvm.FP.Core.i2f Jvm.FP.Core.l2f
  rw [e]
theorem fp_f_btw {v : Int64} (h : c_btw v (2 ^ 58)) : c_btw (FP.f2l (FP.l2f v)) (2 ^ 58) := sorry
theorem fp_d_btw {v : Int64} (h : c_btw v (2 ^ 58)) : c_btw (FP.d2l (FP.l2d v)) (2 ^ 58) := sorry
theorem c_btw.mono {n : Int64} {M N : Int} (h : c_btw n M) (hMN : M ≤ N) : c_btw n N := ⟨by have := h.1; omega, by have := h.2; omega⟩
theorem c_btw.mul8 {n : Int64} (h : c_btw n (2 ^ 58)) : c_btw (8 * n) (2 ^ 61) := by
  obtain ⟨h1, h2⟩ := h
  have e : (8 * n).toInt = 8 * n.toInt := by
    rw [Int64.toInt_mul, show (8 : Int64).toInt = 8 from rfl]
    apply Int.bmod_eq_of_le <;> omega
  exact ⟨by omega, by omega⟩
theorem c_btw_i (v : Int32) : c_btw v.toInt64 2147483648 := by
  have h1 := Int32.toInt_lt v
  have h2 := Int32.le_toInt v
  have h3 := Int32.toInt_toInt64 v
  exact ⟨by omega, by omega⟩
/-- the number of a wider type is one of it -/
theorem c_wd_ok {a b : Nat} (ha : a < 8) (hb : b < 8) {v : Int64} (hv : c_okv (nI a) v) (hw : c_wid (nI a) (nI b) ≠ 0) : c_okv (nI b) (c_wd (nI a) v (nI b)) := by
  have k31 : (a ≤ 4) → c_btw v 2147483648 := fun h => hv.2.1 (nI_le (by omega) (by decide) : nI a ≤ nI 4)
  have k58 : (a ≤ 5) → c_btw v (2 ^ 58) := fun h => by
    rcases Nat.lt_or_ge a 5 with q | q
    · exact (k31 (by omega)).mono (by decide)
    · exact hv.2.2.1 (by rw [show a = 5 by omega]; rfl)
  have low : ∀ n : Int64, b < 6 → c_btw n (2 ^ 58) → (b ≤ 4 → c_btw n 2147483648) → c_okv (nI b) n := fun n hb6 h1 h2 =>
    ⟨⟨b, by omega, rfl⟩, fun h => h2 (by rw [show (4 : Int32) = nI 4 from rfl, nI_leI (by omega) (by decide)] at h; exact h), fun _ => h1, h1.mono (by decide)⟩
  have high : ∀ n : Int64, 6 ≤ b → c_btw n (2 ^ 61) → c_okv (nI b) n := fun n hb6 h1 =>
    ⟨⟨b, by omega, rfl⟩, fun h => absurd h (by rw [show (4 : Int32) = nI 4 from rfl, nI_leI (by omega) (by decide)]; omega), fun h => absurd h (by rw [show (5 : Int32) = nI 5 from rfl, nI_eq (by omega) (by decide)]; omega), h1⟩
  have hab : b < 6 → a ≤ b := fun h => by
    have : ∀ a, a < 8 → ∀ b, b < 6 → c_wid (nI a) (nI b) ≠ 0 → a ≤ b := by decide +kernel
    exact this a ha b h hw
  rcases Nat.lt_or_ge b 6 with q | q
  · have e : c_wd (nI a) v (nI b) = v := by
      unfold c_wd
      rw [decide_eq_true (show nI b < (6 : Int32) from nI_lt q (by decide))]; rfl
    rw [e]
    exact low v q (k58 (by have := hab q; omega)) (fun h => k31 (by have := hab q; omega))
  · refine high _ q ?_
    unfold c_wd
    rw [decide_eq_false (show ¬ nI b < (6 : Int32) from nI_nlt q (by omega)), cond_false]
    rcases Nat.lt_or_ge a 6 with q2 | q2
    · rw [decide_eq_true (show nI a < (6 : Int32) from nI_lt q2 (by decide)), cond_true]
      cases decide (nI b = 6) with
      | true => exact (fp_f_btw (k58 (by omega))).mul8
      | false => exact (fp_d_btw (k58 (by omega))).mul8
    · rw [decide_eq_false (show ¬ nI a < (6 : Int32) from nI_nlt q2 (by omega)), cond_false]
      exact hv.2.2.2
theorem c_mk_ok {t : Nat} (ht : t < 12) (v : Int32) : c_okv (nI t) (c_mk (nI t) v) := by
  have h31 : ∀ n : Int64, c_btw n 2147483648 → c_okv (nI t) n := fun n h => ⟨⟨t, ht, rfl⟩, fun _ => h, fun _ => h.mono (by decide), h.mono (by decide)⟩
  have hi : ∀ x : Int32, c_okv (nI t) x.toInt64 := fun x => h31 _ (c_btw_i x)
  match t, ht with
  | 0, _ | 1, _ | 2, _ | 3, _ | 4, _ | 7, _ | 8, _ | 9, _ | 10, _ => exact hi _
  | 11, _ => exact h31 0 ⟨by decide, by decide⟩
  | 5, _ =>
    show c_okv (nI 5) (v.toInt64 * 100000007)
    have h1 := c_btw_i v
    have e : (v.toInt64 * 100000007).toInt = v.toInt64.toInt * 100000007 := by
      rw [Int64.toInt_mul, show (100000007 : Int64).toInt = 100000007 from rfl]
      have := h1.1; have := h1.2
      apply Int.bmod_eq_of_le <;> omega
    have h2 : c_btw (v.toInt64 * 100000007) (2 ^ 58) := ⟨by have := h1.1; omega, by have := h1.2; omega⟩
    exact ⟨⟨5, by decide, rfl⟩, fun h => absurd h (by decide), fun _ => h2, h2.mono (by decide)⟩
  | 6, _ =>
    show c_okv (nI 6) (FP.f2l (FP.i2f v))
    rw [fp_i2f]
    exact ⟨⟨6, by decide, rfl⟩, fun h => absurd h (by decide), fun h => absurd h (by decide), (fp_f_btw ((c_btw_i v).mono (by decide))).mono (by decide)⟩
