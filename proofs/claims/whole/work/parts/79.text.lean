/-! Text. -/
section TEXT
/-- a number's size -/
def c_mgn (a : Int32) : Int64 := cond (decide (0 ≤ a)) a.toInt64 (-a.toInt64)
theorem c_mgn_le (a : Int32) : 0 ≤ (c_mgn a).toInt ∧ (c_mgn a).toInt ≤ 2147483648 := by
  have h1 := Int32.toInt_lt a
  have h2 := Int32.le_toInt a
  have h3 := Int32.toInt_toInt64 a
  unfold c_mgn
  by_cases h : 0 ≤ a
  · rw [decide_eq_true h, cond_true, h3]
    have : (0 : Int32).toInt ≤ a.toInt := Int32.le_iff_toInt_le.mp h
    have e : (0 : Int32).toInt = 0 := rfl
    omega
  · rw [decide_eq_false h, cond_false, Int64.toInt_neg, h3]
    have : ¬ (0 : Int32).toInt ≤ a.toInt := fun q => h (Int32.le_iff_toInt_le.mpr q)
    have e : (0 : Int32).toInt = 0 := rfl
    rw [Int.bmod_eq_of_le (by omega) (by omega)]
    omega
def c_scl (m : Int64) : Nat → Nat → Nat
  | 0, k => k
  | f + 1, k => cond (decide (m.toInt < ((10 ^ (k + 1) : Nat) : Int))) k (c_scl m f (k + 1))
theorem c_scl_le {m : Int64} : ∀ {f k : Nat}, c_scl m f k ≤ k + f := by
  intro f
  induction f with
  | zero => intro k; exact Nat.le_refl _
  | succ f ih =>
    intro k
    show cond _ k (c_scl m f (k + 1)) ≤ _
    cases decide (m.toInt < ((10 ^ (k + 1) : Nat) : Int)) with
    | true => exact Nat.le_add_right _ _
    | false => have := ih (k := k + 1); rw [cond_false]; omega
/-- a digit -/
def c_dg1 (m : Int64) (k : Nat) : Int32 := (48 : Int32) + Int64.toInt32 ((m / jN (10 ^ k)) - (m / jN (10 ^ k)) / (10 : Int64) * (10 : Int64))
def c_dgw (m : Int64) : Nat → List Int32
  | 0 => [c_dg1 m 0]
  | k + 1 => c_dg1 m (k + 1) :: c_dgw m k
theorem c_dgw_len {m : Int64} : ∀ {k : Nat}, (c_dgw m k).length = k + 1 := by
  intro k
  induction k with
  | zero => rfl
  | succ k ih => show (c_dgw m k).length + 1 = _; rw [ih]
def c_nw (a : Int32) : List Int32 := cond (decide (0 ≤ a)) [] [45] ++ c_dgw (c_mgn a) (c_scl (c_mgn a) 9 0)
theorem c_nw_len (a : Int32) : (c_nw a).length ≤ 11 := by
  unfold c_nw
  have := c_scl_le (m := c_mgn a) (f := 9) (k := 0)
  rw [List.length_append, c_dgw_len]
  have : (cond (decide (0 ≤ a)) [] [(45 : Int32)]).length ≤ 1 := by cases decide (0 ≤ a) <;> decide
  omega
/-- a change, as letters -/
def c_cw (c : cC) : List Int32 := cond (decide (c.1 = -1)) ([48 + c.2.2.2.1, 97 + c.2.2.1] ++ c_nw c.2.2.2.2.1 ++ [61] ++ c_nw c.2.2.2.2.2) ([48 + c.1, 46] ++ c_nw c.2.1 ++ [97 + c.2.2.1, 48 + c.2.2.2.1, 46] ++ c_nw c.2.2.2.2.1)
theorem c_cw_len (c : cC) : (c_cw c).length ≤ 27 := by
  unfold c_cw
  have h1 := c_nw_len c.2.1
  have h2 := c_nw_len c.2.2.2.2.1
  have h3 := c_nw_len c.2.2.2.2.2
  cases decide (c.1 = -1) with
  | true => simp only [cond_true, List.length_append, List.length_cons, List.length_nil]; omega
  | false => simp only [cond_false, List.length_append, List.length_cons, List.length_nil]; omega
def c_tx (ch : Nat → cC) (p : Nat) : Nat → List Int32
  | 0 => []
  | n + 1 => (c_tx ch p n ++ cond (Nat.beq n 0) [] [59]) ++ c_cw (ch (6 * p + n))
theorem c_tx_len {ch : Nat → cC} {p : Nat} : ∀ {n : Nat}, (c_tx ch p (n + 1)).length ≤ 28 * n + 27 := by
  intro n
  induction n with
  | zero =>
    have := c_cw_len (ch (6 * p + 0))
    show (([] ++ []) ++ c_cw (ch (6 * p + 0))).length ≤ _
    rw [List.length_append]
    simpa using this
  | succ n ih =>
    have := c_cw_len (ch (6 * p + (n + 1)))
    show ((c_tx ch p (n + 1) ++ [59]) ++ c_cw (ch (6 * p + (n + 1)))).length ≤ _
    rw [List.length_append, List.length_append, List.length_cons, List.length_nil]
    omega
theorem j_cmp_ge2 (a b : Int64) : decide (0 ≤ lg_cmp a b) = decide (b.toInt ≤ a.toInt) := by
  unfold lg_cmp
  by_cases h1 : a > b
  · rw [if_pos h1]
    have := Int64.lt_iff_toInt_lt.mp h1
    rw [decide_eq_true (show b.toInt ≤ a.toInt by omega)]; rfl
  · rw [if_neg h1]
    by_cases h2 : a = b
    · rw [if_pos h2, h2, decide_eq_true (Int.le_refl _)]; rfl
    · rw [if_neg h2]
      have : ¬ b.toInt ≤ a.toInt := fun h => by
        rcases Int.lt_or_eq_of_le h with h | h
        · exact h1 (Int64.lt_iff_toInt_lt.mpr h)
        · exact h2 (Int64.toInt_inj.mp h.symm)
      rw [decide_eq_false this]; rfl
theorem j_p10 {k : Nat} (h : k < 10) : jN (10 ^ k) * 10 = jN (10 ^ (k + 1)) ∧ jN (10 ^ (k + 1)) / 10 = jN (10 ^ k) ∧ jN (10 ^ k) ≠ 0 ∧ decide (lg_cmp (jN (10 ^ k)) 0 ≤ 0) = false := by
  have : ∀ k, k < 10 → jN (10 ^ k) * 10 = jN (10 ^ (k + 1)) ∧ jN (10 ^ (k + 1)) / 10 = jN (10 ^ k) ∧ jN (10 ^ k) ≠ 0 ∧ decide (lg_cmp (jN (10 ^ k)) 0 ≤ 0) = false := by decide +kernel
  exact this k h
theorem j_p10_lt {k : Nat} (h : k < 11) : (jN (10 ^ k)).toInt = ((10 ^ k : Nat) : Int) := jN_toInt (by
  have : ∀ k, k < 11 → 10 ^ k < 2 ^ 63 := by decide +kernel
  exact this k h)
/-- the desk's letters -/
def xW (σ₀ : pd_H) (W : List Int32) (σ : pd_H) : Prop := σ.1 13 1 = nI W.length ∧ (∀ (i : Nat) (w : Int32), W[i]? = some w → σ.1 14 i = w) ∧ pu_fr (fun k => k = 13 ∨ k = 14) σ₀ σ
def mW (σ₀ : pd_H) (W : List Int32) (σ : pd_H) : Prop := σ.1 230 45 = nI W.length ∧ (∀ (i : Nat) (w : Int32), W[i]? = some w → σ.1 260 i = w) ∧ pu_fr (fun k => k = 230 ∨ k = 260) σ₀ σ ∧ ∀ j, j ≠ 45 → σ.1 230 j = σ₀.1 230 j
theorem c_push32 {f : Nat → Int32} {l : List Int32} {b : Int32} (h : ∀ (i : Nat) x, l[i]? = some x → f i = x) : ∀ (i : Nat) x, (l ++ [b])[i]? = some x → upd f l.length b i = x := by
  intro i x hx
  rw [List.getElem?_append] at hx
  by_cases hi : i < l.length
  · rw [if_pos hi] at hx
    rw [pk_un (by omega)]; exact h i x hx
  · rw [if_neg hi] at hx
    have : i - l.length = 0 := by
      have := (List.getElem?_eq_some_iff.mp hx).1
      rw [List.length_singleton] at this; omega
    rw [this] at hx
    have hx : some b = some x := hx
    cases hx
    rw [show i = l.length by omega, pk_us]
variable {σ₀ σ : pd_H} {W : List Int32}
theorem X_put1 (h : xW σ₀ W σ) (hl : W.length < 167) (a : Int32) : ∃ τ, Script_put a σ = some (τ, none) ∧ xW σ₀ (W ++ [a]) τ := by
  obtain ⟨h1, h2, h3⟩ := h
  refine ⟨pd_upI (pd_upI σ 14 W.length a) 13 1 (nI (W.length + 1)), ?_, ?_, ?_, ?_⟩
  · rw [Script_put_eq, h1, show (167 : Int32) = nI 167 from rfl, decide_eq_false (nI_ge hl (by decide)), cond_false, show pd_len 14 = 167 from rfl, pu_obN hl (by decide), cond_false, nI_clamp (by omega), pu_u1n (by decide), h1, ← nI_succ]
  · rw [pu_u1s, pk_us, List.length_append]; rfl
  · intro i w hw
    rw [pu_u1n (by decide), pu_u1s]
    exact c_push32 h2 i w hw
  · exact h3.tr ((pu_fr.upI (Or.inr rfl)).tr (pu_fr.upI (Or.inl rfl)))
theorem M_put1 (h : mW σ₀ W σ) (hl : W.length < 200) (a : Int32) : ∃ τ, M_writes a σ = some (τ, none) ∧ mW σ₀ (W ++ [a]) τ := by
  obtain ⟨h1, h2, h3, h4⟩ := h
  refine ⟨pd_upI (pd_upI σ 260 W.length a) 230 45 (nI (W.length + 1)), ?_, ?_, ?_, ?_, ?_⟩
  · rw [M_writes_eq, h1, show pd_len 260 = 200 from rfl, pu_obN hl (by decide), cond_false, nI_clamp (by omega), pu_u1n (by decide), h1, ← nI_succ]
  · rw [pu_u1s, pk_us, List.length_append]; rfl
  · intro i w hw
    rw [pu_u1n (by decide), pu_u1s]
    exact c_push32 h2 i w hw
  · exact h3.tr ((pu_fr.upI (Or.inr rfl)).tr (pu_fr.upI (Or.inl rfl)))
  · intro j hj
    rw [pu_u1s, pk_un hj, pu_u1n (by decide)]
    exact h4 j hj
theorem X_dgs {d1 : Option pd_V} {m : Int64} : ∀ (k : Nat) (W : List Int32) (σ : pd_H), k < 10 → xW σ₀ W σ → W.length + (k + 1) ≤ 167 → ∃ τ, Script_putNumber_L50 d1 m (jN (10 ^ k)) σ = some (τ, none) ∧ xW σ₀ (W ++ c_dgw m k) τ := by
  intro k
  induction k with
  | zero =>
    intro W σ hk h hl
    obtain ⟨e1, e2, e3, e4⟩ := j_p10 hk
    obtain ⟨τ, t1, t2⟩ := X_put1 h (by omega) (c_dg1 m 0)
    refine ⟨τ, ?_, t2⟩
    rw [Script_putNumber_L50_eq, e4, cond_false, decide_eq_false e3, cond_false]
    show pd_bV (Script_put (c_dg1 m 0) σ) _ = _
    rw [t1, pd_bV_of, show jN (10 ^ 0) / 10 = 0 by decide, Script_putNumber_L50_eq]
    rfl
  | succ k ih =>
    intro W σ hk h hl
    obtain ⟨e1, e2, e3, e4⟩ := j_p10 hk
    obtain ⟨-, f2, -, -⟩ := j_p10 (show k < 10 by omega)
    obtain ⟨τ, t1, t2⟩ := X_put1 h (by omega) (c_dg1 m (k + 1))
    obtain ⟨υ, u1, u2⟩ := ih (W ++ [c_dg1 m (k + 1)]) τ (by omega) t2 (by rw [List.length_append, List.length_singleton]; omega)
    refine ⟨υ, ?_, ?_⟩
    · rw [Script_putNumber_L50_eq, e4, cond_false, decide_eq_false e3, cond_false]
      show pd_bV (Script_put (c_dg1 m (k + 1)) σ) _ = _
      rw [t1, pd_bV_of, f2, u1]
    · rw [List.append_assoc] at u2; exact u2
theorem M_dgs {d1 : Option pd_V} {m : Int64} : ∀ (k : Nat) (W : List Int32) (σ : pd_H), k < 10 → mW σ₀ W σ → W.length + (k + 1) ≤ 167 → ∃ τ, M_writesNumber_L48 d1 m (jN (10 ^ k)) σ = some (τ, none) ∧ mW σ₀ (W ++ c_dgw m k) τ := by
  intro k
  induction k with
  | zero =>
    intro W σ hk h hl
    obtain ⟨e1, e2, e3, e4⟩ := j_p10 hk
    obtain ⟨τ, t1, t2⟩ := M_put1 h (by omega) (c_dg1 m 0)
    refine ⟨τ, ?_, t2⟩
    rw [M_writesNumber_L48_eq, e4, cond_false, decide_eq_false e3, cond_false]
    show pd_bV (M_writes (c_dg1 m 0) σ) _ = _
    rw [t1, pd_bV_of, show jN (10 ^ 0) / 10 = 0 by decide, M_writesNumber_L48_eq]
    rfl
  | succ k ih =>
    intro W σ hk h hl
    obtain ⟨e1, e2, e3, e4⟩ := j_p10 hk
    obtain ⟨-, f2, -, -⟩ := j_p10 (show k < 10 by omega)
    obtain ⟨τ, t1, t2⟩ := M_put1 h (by omega) (c_dg1 m (k + 1))
    obtain ⟨υ, u1, u2⟩ := ih (W ++ [c_dg1 m (k + 1)]) τ (by omega) t2 (by rw [List.length_append, List.length_singleton]; omega)
    refine ⟨υ, ?_, ?_⟩
    · rw [M_writesNumber_L48_eq, e4, cond_false, decide_eq_false e3, cond_false]
      show pd_bV (M_writes (c_dg1 m (k + 1)) σ) _ = _
      rw [t1, pd_bV_of, f2, u1]
    · rw [List.append_assoc] at u2; exact u2
theorem X_scl {d1 : Option pd_V} {m : Int64} : ∀ (f k : Nat), k + f = 9 → Script_putNumber_L19 d1 m (jN (10 ^ k)) σ = Script_putNumber_L50 d1 m (jN (10 ^ c_scl m f k)) σ := by
  intro f
  induction f with
  | zero =>
    intro k hk
    rw [Script_putNumber_L19_eq, show k = 9 by omega]
    rfl
  | succ f ih =>
    intro k hk
    obtain ⟨e1, -, -, -⟩ := j_p10 (show k < 10 by omega)
    have hne : decide (0 ≤ lg_cmp (jN (10 ^ k)) (1000000000 : Int64)) = false := by
      have : ∀ k, k < 9 → decide (0 ≤ lg_cmp (jN (10 ^ k)) (1000000000 : Int64)) = false := by decide +kernel
      exact this k (by omega)
    rw [Script_putNumber_L19_eq, hne, cond_false, e1, j_cmp_gt, j_p10_lt (show k + 1 < 11 by omega)]
    show _ = Script_putNumber_L50 d1 m (jN (10 ^ cond (decide (m.toInt < ((10 ^ (k + 1) : Nat) : Int))) k (c_scl m f (k + 1)))) σ
    cases decide (m.toInt < ((10 ^ (k + 1) : Nat) : Int)) with
    | true => rfl
    | false => exact ih (k + 1) (by omega)
theorem M_scl {d1 : Option pd_V} {m : Int64} (hm : m.toInt ≤ 2147483648) : ∀ (f k : Nat), k + f = 9 → M_writesNumber_L26 d1 m (jN (10 ^ k)) σ = M_writesNumber_L48 d1 m (jN (10 ^ c_scl m f k)) σ := by
  intro f
  induction f with
  | zero =>
    intro k hk
    obtain ⟨e1, -, -, -⟩ := j_p10 (show k < 10 by omega)
    rw [M_writesNumber_L26_eq, e1, j_cmp_gt, j_p10_lt (show k + 1 < 11 by omega), show k = 9 by omega]
    have : m.toInt < ((10 ^ (9 + 1) : Nat) : Int) := by
      have : ((10 ^ (9 + 1) : Nat) : Int) = 10000000000 := by decide
      omega
    rw [decide_eq_true this]
    rfl
  | succ f ih =>
    intro k hk
    obtain ⟨e1, -, -, -⟩ := j_p10 (show k < 10 by omega)
    rw [M_writesNumber_L26_eq, e1, j_cmp_gt, j_p10_lt (show k + 1 < 11 by omega)]
    show _ = M_writesNumber_L48 d1 m (jN (10 ^ cond (decide (m.toInt < ((10 ^ (k + 1) : Nat) : Int))) k (c_scl m f (k + 1)))) σ
    cases decide (m.toInt < ((10 ^ (k + 1) : Nat) : Int)) with
    | true => rfl
    | false => exact ih (k + 1) (by omega)
theorem X_nws (h : xW σ₀ W σ) (a : Int32) (hl : W.length + (c_nw a).length ≤ 167) : ∃ τ, Script_putNumber a σ = some (τ, none) ∧ xW σ₀ (W ++ c_nw a) τ := by
  have hk := c_scl_le (m := c_mgn a) (f := 9) (k := 0)
  have e0 : decide (0 ≤ a.toInt64.toInt) = decide (0 ≤ a) := by
    rw [Int32.toInt_toInt64]
    by_cases q : 0 ≤ a
    · rw [decide_eq_true q, decide_eq_true (show 0 ≤ a.toInt from Int32.le_iff_toInt_le.mp q)]
    · rw [decide_eq_false q, decide_eq_false (show ¬ 0 ≤ a.toInt from fun q2 => q (Int32.le_iff_toInt_le.mpr q2))]
  rw [Script_putNumber_eq, J_abs_eq, j_cmp_ge, e0, show (1 : Int64) = jN (10 ^ 0) from rfl]
  unfold c_nw at hl ⊢
  rw [List.length_append, c_dgw_len] at hl
  have hm : c_mgn a = cond (decide (0 ≤ a)) a.toInt64 (-a.toInt64) := rfl
  cases hd : decide (0 ≤ a) with
  | true =>
    rw [hd, cond_true] at hm hl
    rw [cond_true, pd_bJ_of, cond_true, cond_true, X_scl 9 0 rfl, ← hm]
    exact X_dgs _ W σ (by omega) h (by simpa using hl)
  | false =>
    rw [hd, cond_false] at hm hl
    rw [List.length_singleton] at hl
    obtain ⟨τ, t1, t2⟩ := X_put1 h (by omega) 45
    rw [cond_false, pd_bJ_of, cond_false, cond_false, t1, pd_bV_of, X_scl 9 0 rfl, ← hm, ← List.append_assoc]
    exact X_dgs _ (W ++ [45]) τ (by omega) t2 (by rw [List.length_append, List.length_singleton]; omega)
theorem M_nws (h : mW σ₀ W σ) (a : Int32) (hl : W.length + (c_nw a).length ≤ 167) : ∃ τ, M_writesNumber a σ = some (τ, none) ∧ mW σ₀ (W ++ c_nw a) τ := by
  have hk := c_scl_le (m := c_mgn a) (f := 9) (k := 0)
  have hm2 := (c_mgn_le a).2
  rw [M_writesNumber_eq]
  unfold c_nw at hl ⊢
  rw [List.length_append, c_dgw_len] at hl
  have hm : c_mgn a = cond (decide (0 ≤ a)) a.toInt64 (-a.toInt64) := rfl
  rw [M_writesNumber_L12_eq, M_writesNumber_L12_eq, show (1 : Int64) = jN (10 ^ 0) from rfl]
  cases hd : decide (0 ≤ a) with
  | true =>
    rw [hd, cond_true] at hm hl
    rw [cond_true, cond_true, cond_true, ← hm, M_scl hm2 9 0 rfl]
    exact M_dgs _ W σ (by omega) h (by simpa using hl)
  | false =>
    rw [hd, cond_false] at hm hl
    rw [List.length_singleton] at hl
    obtain ⟨τ, t1, t2⟩ := M_put1 h (by omega) 45
    rw [cond_false, cond_false, cond_false, t1, pd_bV_of, ← hm, M_scl hm2 9 0 rfl, ← List.append_assoc]
    exact M_dgs _ (W ++ [45]) τ (by omega) t2 (by rw [List.length_append, List.length_singleton]; omega)
end TEXT
