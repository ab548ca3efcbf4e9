/-! Bits. -/
section BITS
variable {σ : pd_H} {S : cS}
/-- bits of eight times a number's size, with f behind the first; b is the bias less 3 -/
def c_mag (f b : Nat) (n : Int64) : Int64 := cond (decide (n = 0)) 0 (jN (c_fbits f b n.toInt.natAbs))
theorem c_bt_lt {n : Int64} (h : c_btw n (2 ^ 61)) : n.toInt.natAbs < 2 ^ 62 := by
  have h1 := h.1
  have h2 := h.2
  omega
theorem c_bt_ne {n : Int64} (h : ¬ n = 0) : n.toInt.natAbs ≠ 0 := fun q => h (Int64.toInt_inj.mp (by rw [show (0 : Int64).toInt = 0 from rfl]; omega))
theorem j_abs {n : Int64} (h : c_btw n (2 ^ 61)) (h0 : 0 ≤ n.toInt) : n = jN n.toInt.natAbs := by
  have := c_bt_lt h
  apply Int64.toInt_inj.mp
  rw [jN_toInt (by omega)]; omega
theorem j_abs2 {n : Int64} (h : c_btw n (2 ^ 61)) (h0 : ¬ 0 ≤ n.toInt) : -n = jN n.toInt.natAbs := by
  have h1 := c_bt_lt h
  apply Int64.toInt_inj.mp
  rw [jN_toInt (by omega), Int64.toInt_neg, Int.bmod_eq_of_le (by omega) (by omega)]; omega
theorem j_log_lt {A : Nat} (hA : A < 2 ^ 62) : A.log2 < 62 := by
  by_cases h : A = 0
  · subst h; decide
  · exact (Nat.log2_lt h).mpr hA
theorem jN_ne {A : Nat} (h : A < 2 ^ 63) (h0 : A ≠ 0) : ¬ jN A = 0 := fun q => by
  have := jN_toInt h
  rw [q] at this
  have e : (0 : Int64).toInt = 0 := rfl
  omega
theorem X_mag_L18 {d0 d1 d7 d8 d9 d10 d11 d12 : Option pd_V} {l2 l3 : Int32} {A : Nat} (hA : A < 2 ^ 62) (h0 : A ≠ 0) : ∀ (t : Nat), t < 63 → A.log2 ≤ t → X_magnitudeBits_L18 d0 d1 l2 l3 (jN A) (nI t) d7 d8 d9 d10 d11 d12 σ = X_magnitudeBits_L39 d0 d1 l2 l3 (jN A) (nI A.log2) d7 d8 d9 d10 d11 d12 σ := by
  intro t
  induction t with
  | zero =>
    intro _ h
    rw [X_magnitudeBits_L18_eq, show A.log2 = 0 by omega]
    rfl
  | succ t ih =>
    intro ht h
    have e1 : decide (nI (t + 1) ≤ 0) = false := decide_eq_false (nI_ge (a := 0) (by omega) (by omega))
    rw [X_magnitudeBits_L18_eq, e1, cond_false, pu_cmp0, j_sh (show t + 1 < 64 by omega), jN_shr (by omega) (by omega)]
    by_cases h2 : A.log2 = t + 1
    · have h3 : A / 2 ^ (t + 1) ≠ 0 := by
        have := Nat.log2_self_le h0
        rw [h2] at this
        have := Nat.div_pos this (Nat.two_pow_pos _)
        omega
      rw [decide_eq_false (jN_ne (Nat.lt_of_le_of_lt (Nat.div_le_self _ _) (by omega)) h3), cond_false, h2]
    · have h3 : A / 2 ^ (t + 1) = 0 := Nat.div_eq_of_lt ((Nat.log2_lt h0).mp (by omega))
      rw [h3, decide_eq_true (show jN 0 = 0 from rfl), cond_true, pu_m1, nI_pred, ih (by omega) (by omega)]
theorem X_mag_L39 {d0 d1 d7 d8 d9 d10 d11 d12 : Option pd_V} {f b v A : Nat} (hA : A < 2 ^ 62) (h0 : A ≠ 0) (hf : f < 53) (hb : b < 1900) (hv : ∀ t, t < 64 → Int32.toInt64 (nI t - 3 + nI v) = jN (t + b)) : X_magnitudeBits_L39 d0 d1 (nI f) (nI v) (jN A) (nI A.log2) d7 d8 d9 d10 d11 d12 σ = some (σ, some (pd_j (jN (c_fbits f b A)))) := by
  have hl := j_log_lt hA
  obtain ⟨a1, a2⟩ := c_al_btw (f := f) h0
  have fin : ∀ d4 d5 : Option pd_V, X_magnitudeBits_L62 d0 d1 (nI f) (nI v) d4 d5 (nI A.log2) d7 d8 d9 d10 d11 d12 (jN (c_al f A)) σ = some (σ, some (pd_j (jN (c_fbits f b A)))) := fun d4 d5 => by
    rw [X_magnitudeBits_L62_eq, j_sh (show f < 64 by omega), hv _ (show A.log2 < 64 by omega), c_fb_or hf (by omega) a1 a2]
    rfl
  rw [X_magnitudeBits_L39_eq]
  by_cases h : A.log2 ≤ f
  · have e : jN A <<< (Int32.toInt64 (nI f - nI A.log2) &&& 63) = jN (c_al f A) := by
      rw [nI_sub (by omega) h, j_sh (by omega), jN_shl (by omega)]
      unfold c_al
      rw [if_pos h]
    rw [decide_eq_true (nI_le h (by omega)), cond_true, e, fin]
  · have e : jN A >>> (Int32.toInt64 (nI A.log2 - nI f) &&& 63) = jN (c_al f A) := by
      rw [nI_sub (by omega) (by omega), j_sh (by omega), jN_shr (by omega) (by omega)]
      unfold c_al
      rw [if_neg h]
    rw [decide_eq_false (nI_ge (by omega) (by omega)), cond_false, e, fin]
theorem X_mag_s {n : Int64} (h : c_btw n (2 ^ 61)) {f b v : Nat} (hf : f < 53) (hb : b < 1900) (hv : ∀ t, t < 64 → Int32.toInt64 (nI t - 3 + nI v) = jN (t + b)) : X_magnitudeBits n (nI f) (nI v) σ = some (σ, some (pd_j (c_mag f b n))) := by
  unfold c_mag
  rw [X_magnitudeBits_eq, pu_cmp0]
  by_cases h0 : n = 0
  · rw [decide_eq_true h0, cond_true, cond_true]
  · have hA := c_bt_lt h
    have h1 := c_bt_ne h0
    have hl := j_log_lt hA
    rw [decide_eq_false h0, cond_false, cond_false, J_abs_eq, j_cmp_ge]
    have key : ∀ (d0 : Option pd_V) (m : Int64), m = jN n.toInt.natAbs → X_magnitudeBits_L18 d0 none (nI f) (nI v) m 62 none none none none none none σ = some (σ, some (pd_j (jN (c_fbits f b n.toInt.natAbs)))) := by
      intro d0 m e
      rw [e, show (62 : Int32) = nI 62 from rfl, X_mag_L18 hA h1 62 (by decide) (by omega), X_mag_L39 hA h1 hf hb hv]
    by_cases h2 : 0 ≤ n.toInt
    · rw [decide_eq_true h2, cond_true, pd_bJ_of]
      exact key _ _ (j_abs h h2)
    · rw [decide_eq_false h2, cond_false, pd_bJ_of]
      exact key _ _ (j_abs2 h h2)
theorem M_bits_L12 {d0 d1 d4 d5 d6 d7 d8 d9 d10 d11 d12 : Option pd_V} {f b v A : Nat} (hA : A < 2 ^ 62) (h0 : A ≠ 0) (hf : f < 53) (hb : b < 1900) (hv : ∀ t, t < 64 → Int32.toInt64 (nI t - 3 + nI v) = jN (t + b)) : M_bitsOf_L12 d0 d1 (nI f) (nI v) d4 d5 d6 d7 d8 d9 d10 d11 d12 (jN A) σ = some (σ, some (pd_j (jN (c_fbits f b A)))) := by
  have hl := j_log_lt hA
  obtain ⟨a1, a2⟩ := c_al_btw (f := f) h0
  have fin : ∀ d4 d5 : Option pd_V, M_bitsOf_L55 d0 d1 (nI f) (nI v) d4 d5 (nI A.log2) d7 d8 d9 d10 d11 d12 (jN (c_al f A)) σ = some (σ, some (pd_j (jN (c_fbits f b A)))) := fun d4 d5 => by
    rw [M_bitsOf_L55_eq, j_sh (show f < 64 by omega), hv _ (show A.log2 < 64 by omega), c_fb_add hf a1]
    rfl
  rw [M_bitsOf_L12_eq, pu_cmp0, decide_eq_false (jN_ne (by omega) h0), cond_false, M_lengthOf_s (by omega), pd_bI_of, show c_len A = A.log2 + 1 from if_neg h0, nI_pred]
  by_cases h : A.log2 ≤ f
  · have e : jN A <<< (Int32.toInt64 (nI f - nI A.log2) &&& 63) = jN (c_al f A) := by
      rw [nI_sub (by omega) h, j_sh (by omega), jN_shl (by omega)]
      unfold c_al
      rw [if_pos h]
    rw [decide_eq_true (nI_le h (by omega)), cond_true, e, fin]
  · have e : jN A >>> (Int32.toInt64 (nI A.log2 - nI f) &&& 63) = jN (c_al f A) := by
      rw [nI_sub (by omega) (by omega), j_sh (by omega), jN_shr (by omega) (by omega)]
      unfold c_al
      rw [if_neg h]
    rw [decide_eq_false (nI_ge (by omega) (by omega)), cond_false, e, fin]
theorem M_bitsOf_s {n : Int64} (h : c_btw n (2 ^ 61)) {f b v : Nat} (hf : f < 53) (hb : b < 1900) (hv : ∀ t, t < 64 → Int32.toInt64 (nI t - 3 + nI v) = jN (t + b)) : M_bitsOf n (nI f) (nI v) σ = some (σ, some (pd_j (c_mag f b n))) := by
  unfold c_mag
  by_cases h0 : n = 0
  · subst h0
    rw [M_bitsOf_eq, j_cmp_ge]
    show M_bitsOf_L12 _ _ _ _ _ _ _ _ _ _ _ _ _ 0 σ = _
    rw [M_bitsOf_L12_eq, pu_cmp0]
    rfl
  · have hA := c_bt_lt h
    have h1 := c_bt_ne h0
    have key : ∀ (d0 : Option pd_V) (m : Int64), m = jN n.toInt.natAbs → M_bitsOf_L12 d0 none (nI f) (nI v) none none none none none none none none none m σ = some (σ, some (pd_j (jN (c_fbits f b n.toInt.natAbs)))) := by
      intro d0 m e
      rw [e, M_bits_L12 hA h1 hf hb hv]
    rw [M_bitsOf_eq, j_cmp_ge, decide_eq_false h0, cond_false]
    by_cases h2 : 0 ≤ n.toInt
    · rw [decide_eq_true h2, cond_true]
      exact key _ _ (j_abs h h2)
    · rw [decide_eq_false h2, cond_false]
      exact key _ _ (j_abs2 h h2)
theorem c_bias_f : ∀ t, t < 64 → Int32.toInt64 (nI t - 3 + nI 127) = jN (t + 124) := by decide +kernel
theorem c_bias_d : ∀ t, t < 64 → Int32.toInt64 (nI t - 3 + nI 1023) = jN (t + 1020) := by decide +kernel
theorem X_mag_f {n : Int64} (h : c_btw n (2 ^ 61)) : X_magnitudeBits n 23 127 σ = some (σ, some (pd_j (c_mag 23 124 n))) := X_mag_s (f := 23) (v := 127) h (by decide) (by decide) c_bias_f
theorem X_mag_d {n : Int64} (h : c_btw n (2 ^ 61)) : X_magnitudeBits n 52 1023 σ = some (σ, some (pd_j (c_mag 52 1020 n))) := X_mag_s (f := 52) (v := 1023) h (by decide) (by decide) c_bias_d
theorem M_bitsOf_f {n : Int64} (h : c_btw n (2 ^ 61)) : M_bitsOf n 23 127 σ = some (σ, some (pd_j (c_mag 23 124 n))) := M_bitsOf_s (f := 23) (v := 127) h (by decide) (by decide) c_bias_f
theorem M_bitsOf_d {n : Int64} (h : c_btw n (2 ^ 61)) : M_bitsOf n 52 1023 σ = some (σ, some (pd_j (c_mag 52 1020 n))) := M_bitsOf_s (f := 52) (v := 1023) h (by decide) (by decide) c_bias_d
theorem c_mag_f {n : Int64} (h : c_btw n (2 ^ 61)) : ∃ k, k < 2 ^ 31 ∧ c_mag 23 124 n = jN k := by
  unfold c_mag
  by_cases h0 : n = 0
  · exact ⟨0, by decide, by rw [decide_eq_true h0]; rfl⟩
  · refine ⟨_, ?_, by rw [decide_eq_false h0]; rfl⟩
    have hl := j_log_lt (c_bt_lt h)
    obtain ⟨a1, a2⟩ := c_al_btw (f := 23) (c_bt_ne h0)
    unfold c_fbits
    omega
theorem j_32 {k : Nat} (h : k < 2 ^ 31) : Int32.toInt64 (Int64.toInt32 (jN k)) = jN k := by
  apply Int64.toInt_inj.mp
  rw [Int32.toInt_toInt64, Int64.toInt_toInt32, jN_toInt (by omega), Int.bmod_eq_of_le (by omega) (by omega)]
/-- bits of a value -/
def c_bitv (t : Int32) (n : Int64) : Int64 := cond (decide (t = 6)) (cond (decide (0 ≤ n.toInt)) (c_mag 23 124 n) (Int32.toInt64 (Int64.toInt32 (c_mag 23 124 n ||| 2147483648)))) (cond (decide (t = 7)) (cond (decide (0 ≤ n.toInt)) (c_mag 52 1020 n) (c_mag 52 1020 n ||| (-9223372036854775808))) (c_lerr (-3)))
def c_bits (S : cS) (a i : Int32) : Int64 := cond (decide (c_eltF (s_kd S) (s_sz S) a i = 0)) (c_bitv ((s_play S (s_or S)).2.1 (c_cell a i)) ((s_play S (s_or S)).2.2.1 (c_cell a i))) (c_lerr (-10 - c_eltF (s_kd S) (s_sz S) a i))
theorem M_bitsAt_s {c : Nat} (hc : c < 72) (h : c_btw (σ.2.1 234 c) (2 ^ 61)) : M_bitsAt (nI c) σ = some (σ, some (pd_j (c_bitv (σ.1 233 c) (σ.2.1 234 c)))) := by
  obtain ⟨k, k1, k2⟩ := c_mag_f h
  rw [M_bitsAt_eq, show pd_len 234 = 72 from rfl, show pd_len 233 = 72 from rfl, pu_obN hc (by decide), cond_false, cond_false, nI_clamp (by omega), M_bitsOf_f h, M_bitsOf_d h, pd_bJ_of, pd_bJ_of, cond_false, M_lerr, pd_bJ_of, j_cmp_ge]
  have e1 : Int64.toInt32 2147483648 = -2147483648 := by decide
  have e : cond (decide (0 ≤ (σ.2.1 234 c).toInt)) (Int32.toInt64 (Int64.toInt32 (c_mag 23 124 (σ.2.1 234 c)))) (Int32.toInt64 (Int64.toInt32 (c_mag 23 124 (σ.2.1 234 c)) ||| (-2147483648))) = cond (decide (0 ≤ (σ.2.1 234 c).toInt)) (c_mag 23 124 (σ.2.1 234 c)) (Int32.toInt64 (Int64.toInt32 (c_mag 23 124 (σ.2.1 234 c) ||| 2147483648))) := by
    cases decide (0 ≤ (σ.2.1 234 c).toInt) with
    | true => rw [cond_true, cond_true, k2, j_32 k1]
    | false => rw [cond_false, cond_false, Int64.toInt32_or, e1]
  unfold c_bitv
  rw [pu_csj, pu_csj, pu_csj, pu_csj, e]
theorem X_floatBits_s {n : Int64} (h : c_btw n (2 ^ 61)) : X_floatBits n σ = some (σ, some (pd_j (cond (decide (0 ≤ n.toInt)) (c_mag 23 124 n) (Int32.toInt64 (Int64.toInt32 (c_mag 23 124 n ||| 2147483648)))))) := by
  rw [X_floatBits_eq, X_mag_f h, pd_bJ_of, j_cmp_ge, pu_csj]
theorem X_doubleBits_s {n : Int64} (h : c_btw n (2 ^ 61)) : X_doubleBits n σ = some (σ, some (pd_j (cond (decide (0 ≤ n.toInt)) (c_mag 52 1020 n) (c_mag 52 1020 n ||| (-9223372036854775808))))) := by
  rw [X_doubleBits_eq, X_mag_d h, pd_bJ_of, j_cmp_ge, pu_csj]
theorem s_cell_btw (hw : s_wf S) {a i : Int32} (ha : pu_sl a) (h : c_eltF (s_kd S) (s_sz S) a i = 0) : c_btw ((s_play S (s_or S)).2.2.1 (c_cell a i)) (2 ^ 61) := by
  obtain ⟨q1, q2⟩ := c_elt_0 h
  obtain ⟨j, hj, rfl⟩ := pu_sl_nI ha
  obtain ⟨x, y, hx, hy, k1, k2, e⟩ := c_vc_at hw.1.2.1.sz ha q1 q2
  rw [e]
  exact (s_cells hw hw.2.2.1.1 hw.2.2.2.1 x hx k1 y hy k2).1.2.2.2
theorem X_bits_s (hw : s_wf S) (h : RX σ S) {a : Int32} (ha : pu_sl a) (i : Int32) : X_bits a i σ = some (σ, some (pd_j (c_bits S a i))) := by
  obtain ⟨L2, L4, L5, L6, L7, L9, L10, L12, L13, L14, L15⟩ := pu_len_run (x_run3 h)
  unfold c_bits
  rw [X_bits_eq]
  by_cases h0 : c_eltF (s_kd S) (s_sz S) a i = 0
  · obtain ⟨q1, q2⟩ := c_elt_0 h0
    obtain ⟨e1, e2⟩ := c_cell_ok hw.1.2.1.sz ha q2
    have hb := s_cell_btw hw ha h0
    rw [X_elementError_0 h ha h0, decide_eq_true h0, cond_true, pd_bI_of, decide_eq_true (rfl : (0 : Int32) = 0), cond_true, X_cellOf_s, pd_bI_of, e1]
    rw [show σ.2.2 0 + 3 + 1 = σ.2.2 0 + 4 from rfl, show σ.2.2 0 + 3 + 2 = σ.2.2 0 + 5 from rfl, L4, L5, pu_obN e2 (by decide), cond_false, cond_false, nI_clamp (by omega), (x_cell h e2).1, (x_cell h e2).2.1, X_floatBits_s hb, X_doubleBits_s hb, X_lerr, pd_bJ_of, pd_bJ_of, pd_bJ_of]
    unfold c_bitv
    cases decide ((s_play S (s_or S)).2.1 (c_cell a i) = 6) with
    | true => rfl
    | false => cases decide ((s_play S (s_or S)).2.1 (c_cell a i) = 7) <;> rfl
  · rw [X_elementError_1 h ha h0, decide_eq_false h0, cond_false, pd_bI_of, decide_eq_false (c_elt_ne h0), cond_false, X_lerr, pd_bJ_of]
theorem M_bits_s (hw : s_wf S) (h : RM σ S) {a : Int32} (ha : pu_sl a) (i : Int32) : M_bits a i σ = some (σ, some (pd_j (c_bits S a i))) := by
  rw [M_bits_eq, M_slot]
  rcases c_slv_cases a with ⟨-, e⟩ | ⟨-, e⟩
  · rw [e]
    simp only [pd_bI_of, pd_bJ_of, pd_bV_of, pd_bR_of, cond_true, cond_false, show decide ((1 : Int32) = 0) = false from rfl, m_eltF hw h ha, c_rng_le (c_eltF_rng _ _ _ _), M_refused_s, m_cell_comm, M_lerr]
    unfold c_bits
    by_cases h0 : c_eltF (s_kd S) (s_sz S) a i = 0
    · obtain ⟨q1, q2⟩ := c_elt_0 h0
      obtain ⟨e1, e2⟩ := c_cell_ok hw.1.2.1.sz ha q2
      obtain ⟨g1, g2, -⟩ := m_cell h (c_vc_at hw.1.2.1.sz ha q1 q2)
      rw [decide_eq_true h0, cond_true, cond_true, e1, M_bitsAt_s e2 (by rw [g2]; exact s_cell_btw hw ha h0), pd_bJ_of, g1, g2]
    · rw [decide_eq_false h0, cond_false, cond_false]
  · exact absurd ha e
theorem J_bits (h : JR σ S) (a i : Int32) : JL (X_bits a i) (M_bits a i) σ := by
  rcases c_slv_cases a with ⟨ha, -⟩ | ⟨e, -⟩
  · exact JL.same h (X_bits_s h.1 h.2.1 ha i) (fun g => M_bits_s h.1 g ha i)
  · exact JL.same (v := c_lerr (-2)) h (by rw [X_bits_eq, X_elementError_n e, pd_bI_of, decide_eq_false (by decide : ¬ (-2 : Int32) = 0), cond_false, X_lerr, pd_bJ_of]) (fun g => by rw [M_bits_eq, M_slot, e, pd_bI_of, decide_eq_true (rfl : (0 : Int32) = 0), cond_true, M_lerr, pd_bJ_of])
end BITS
