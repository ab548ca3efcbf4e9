/-! The model takes what is tried; what has moved. -/
theorem c_mvb_add {t t' : Nat → Int32} {n n' : Nat → Int64} : ∀ (b : List Nat) (s : Int32), c_mvb t t' n n' b s = s + c_mvb t t' n n' b 0 := by
  intro b
  induction b with
  | nil => intro s; exact (Int32.add_zero s).symm
  | cons a r ih =>
    intro s
    unfold c_mvb
    cases decide (t a = t' a) && decide (n a = n' a) with
    | true => exact ih s
    | false =>
      rw [cond_false, cond_false, ih (s + 1), ih (0 + 1), Int32.zero_add, Int32.add_assoc]
theorem c_mvb_congr {t t' u u' : Nat → Int32} {n n' v v' : Nat → Int64} : ∀ {b : List Nat} {s : Int32}, (∀ a ∈ b, t a = u a ∧ t' a = u' a ∧ n a = v a ∧ n' a = v' a) → c_mvb t t' n n' b s = c_mvb u u' v v' b s := by
  intro b
  induction b with
  | nil => intro s _; rfl
  | cons a r ih =>
    intro s h
    obtain ⟨h1, h2, h3, h4⟩ := h a List.mem_cons_self
    unfold c_mvb
    rw [h1, h2, h3, h4]
    exact ih (fun b hb => h b (List.mem_cons_of_mem _ hb))
theorem c_ble_mem {l : List Nat} {q : Nat} : Nat.ble l.length (c_ix l q) = false ↔ q ∈ l := by
  rw [← c_ix_mem]
  constructor
  · intro h
    rcases Nat.lt_or_ge (c_ix l q) l.length with g | g
    · exact g
    · rw [Nat.ble_eq_true_of_le g] at h; cases h
  · intro h
    rw [Bool.eq_false_iff]
    intro g
    have := Nat.le_of_ble_eq_true g
    omega
theorem c_mv_congr {t t' u u' : Nat → Int32} {n n' v v' : Nat → Int64} {len : Nat → Nat} {l' : List Nat} : ∀ {m : List Nat} {s : Int32}, (∀ q ∈ m, q ∈ l' → ∀ a ∈ c_blk q 0 (len q), t a = u a ∧ t' a = u' a ∧ n a = v a ∧ n' a = v' a) → c_mv t t' n n' len l' m s = c_mv u u' v v' len l' m s := by
  intro m
  induction m with
  | nil => intro s _; rfl
  | cons q m ih =>
    intro s h
    unfold c_mv
    have hr := fun x hx => h x (List.mem_cons_of_mem _ hx)
    cases hb : Nat.ble l'.length (c_ix l' q) with
    | true => exact ih hr
    | false =>
      rw [cond_false, cond_false, c_mvb_congr (h q List.mem_cons_self (c_ble_mem.mp hb))]
      exact ih hr
/-- how many changes move by another order -/
def c_moved (S : cS) (l : List Nat) : Int32 := c_mv (s_play S l).2.2.2.2.2.2.1 (s_play S (s_or S)).2.2.2.2.2.2.1 (s_play S l).2.2.2.2.2.2.2.1 (s_play S (s_or S)).2.2.2.2.2.2.2.1 (s_ln S) (s_or S) l 0
theorem c_blk_line {len : Nat → Nat} {l : List Nat} {q a : Nat} (hq : q ∈ l) (ha : a ∈ c_blk q 0 (len q)) : a ∈ c_line len l := by
  obtain ⟨j, h1, h2, rfl⟩ := c_blk_mem ha
  exact c_line_in hq (by omega)
section TAKES
variable {σ : pd_H} {S : cS}
theorem M_isAmong_L5_s {n p : Nat} {l : List Nat} (hl : m_ls (σ.1 250) l) (hn : l.length = n) (h24 : n ≤ 24) (hp : p < 2 ^ 31) (hs : ∀ x ∈ l, x < 2 ^ 31) : ∀ (m : List Nat) (i : Nat) (b : Bool), i + m.length = n → (∀ t x, m[t]? = some x → l[i + t]? = some x) → M_isAmong_L5 250 (nI n) (nI p) (cond b 1 0) (nI i) σ = some (σ, some (pd_i (cond b 1 (cond (Nat.ble m.length (c_ix m p)) 0 1)))) := by
  intro m
  induction m with
  | nil =>
    intro i b hi _
    have hi : i = n := hi
    rw [M_isAmong_L5_eq, hi]
    simp only [nI_leI (show n < 2 ^ 31 by omega) (show n < 2 ^ 31 by omega), Nat.le_refl, decide_true, pd_bI_of, pd_bJ_of, pd_bV_of, pd_bR_of, cond_true, cond_false]
    rw [pu_c01 (by cases b; exact pu_z0; exact pu_z1)]
    rfl
  | cons y m ih =>
    intro i b hi hm
    have hi : i + (m.length + 1) = n := hi
    have hy : l[i]? = some y := by have := hm 0 y rfl; rwa [Nat.add_zero] at this
    have hmt : ∀ t x, m[t]? = some x → l[i + 1 + t]? = some x := fun t x h => by
      rw [show i + 1 + t = i + (t + 1) by omega]; exact hm (t + 1) x h
    have ih1 := ih (i + 1) true (by omega) hmt
    have ih0 := ih (i + 1) false (by omega) hmt
    rw [cond_true, cond_true] at ih1
    rw [cond_false, cond_false] at ih0
    rw [M_isAmong_L5_eq]
    simp only [nI_leI (show n < 2 ^ 31 by omega) (show i < 2 ^ 31 by omega), show ¬ n ≤ i by omega, decide_false, pd_bI_of, pd_bJ_of, pd_bV_of, pd_bR_of, cond_true, cond_false, show pd_len 250 = 24 from rfl, pu_obN (show i < 24 by omega) (show 24 < 2 ^ 31 by decide), nI_clamp (show i < 2 ^ 31 by omega), hl i y hy, nI_1, ih0, ih1]
    cases b with
    | true => rfl
    | false =>
      rw [cond_false, cond_false, decide_eq_true (rfl : (0 : Int32) = 0), cond_true]
      have hyl := hs y (List.mem_of_getElem? hy)
      by_cases e : y = p
      · subst e
        rw [decide_eq_true rfl, cond_true]
        simp only [c_ix, Nat.beq_refl, cond_true, List.length_cons]
        rfl
      · have hb : Nat.beq y p = false := by
          cases hb : Nat.beq y p with
          | false => rfl
          | true => exact absurd (Nat.eq_of_beq_eq_true hb) e
        have hne : ¬ nI y = nI p := by rw [nI_eq hyl hp]; exact e
        rw [decide_eq_false hne, cond_false]
        simp only [c_ix, hb, cond_false, List.length_cons]
        rfl
theorem M_isLaid_s {l : List Nat} (h1 : σ.1 230 21 = nI l.length) (hl : m_ls (σ.1 250) l) (h24 : l.length ≤ 24) (hs : ∀ x ∈ l, x < 2 ^ 31) {p : Nat} (hp : p < 2 ^ 31) : M_isLaid (nI p) σ = some (σ, some (pd_i (cond (Nat.ble l.length (c_ix l p)) 0 1))) := by
  rw [M_isLaid_eq, h1, M_isAmong_eq]
  have this : M_isAmong_L5 250 (nI l.length) (nI p) 0 0 σ = some (σ, some (pd_i (cond (Nat.ble l.length (c_ix l p)) 0 1))) := M_isAmong_L5_s hl rfl h24 hp hs l 0 false (Nat.zero_add _) (fun t x h => by rw [Nat.zero_add]; exact h)
  rw [this, pd_bI_of, pu_c01]
  cases Nat.ble l.length (c_ix l p)
  · exact pu_z1
  · exact pu_z0
theorem M_movedOf_s {len : Nat → Nat} (hlen : m_lens σ len) {p : Nat} (hp : p < 25) : M_movedOf (nI p) σ = some (σ, some (pd_i (c_mvb (σ.1 245) (σ.1 257) (σ.2.1 246) (σ.2.1 258) (c_blk p 0 (len p)) 0))) := by
  obtain ⟨hlp, hl6⟩ := hlen p hp
  have loop : ∀ (d k : Nat) (s : Int32) (d4 : Option pd_V), k + d = len p → M_movedOf_L4 (nI p) s (nI k) d4 σ = some (σ, some (pd_i (c_mvb (σ.1 245) (σ.1 257) (σ.2.1 246) (σ.2.1 258) (c_blk p k d) s))) := by
    intro d
    induction d with
    | zero =>
      intro k s d4 hk
      have hk : k = len p := hk
      rw [M_movedOf_L4_eq]
      simp only [show pd_len 244 = 25 from rfl, pu_obN hp (show 25 < 2 ^ 31 by decide), nI_clamp (show p < 2 ^ 31 by omega), hlp, hk, nI_leI (show len p < 2 ^ 31 by omega) (show len p < 2 ^ 31 by omega), Nat.le_refl, decide_true, pd_bI_of, pd_bJ_of, pd_bV_of, pd_bR_of, cond_true, cond_false]
      rfl
    | succ d ih =>
      intro k s d4 hk
      have ix : (6 : Int32) * nI p + nI k = nI (6 * p + k) := by rw [Int32.mul_comm]; exact c_step_nI p k
      rw [M_movedOf_L4_eq]
      simp only [show pd_len 244 = 25 from rfl, show pd_len 245 = 150 from rfl, show pd_len 246 = 150 from rfl, show pd_len 257 = 150 from rfl, show pd_len 258 = 150 from rfl, pu_obN hp (show 25 < 2 ^ 31 by decide), nI_clamp (show p < 2 ^ 31 by omega), hlp, nI_leI (show len p < 2 ^ 31 by omega) (show k < 2 ^ 31 by omega), show ¬ len p ≤ k by omega, decide_false, pd_bI_of, pd_bJ_of, pd_bV_of, pd_bR_of, cond_true, cond_false, ix, pu_obN (show 6 * p + k < 150 by omega) (show 150 < 2 ^ 31 by decide), nI_clamp (show 6 * p + k < 2 ^ 31 by omega), pu_cmp0, nI_1, Int32.add_zero, ih (k + 1) _ _ (show k + 1 + d = len p by omega)]
      show cond (decide (σ.1 245 (6 * p + k) = σ.1 257 (6 * p + k))) (cond (decide (σ.2.1 246 (6 * p + k) = σ.2.1 258 (6 * p + k))) _ _) _ = some (σ, some (pd_i (c_mvb (σ.1 245) (σ.1 257) (σ.2.1 246) (σ.2.1 258) (c_blk p (k + 1) d) (cond (decide (σ.1 245 (6 * p + k) = σ.1 257 (6 * p + k)) && decide (σ.2.1 246 (6 * p + k) = σ.2.1 258 (6 * p + k))) s (s + 1)))))
      cases decide (σ.1 245 (6 * p + k) = σ.1 257 (6 * p + k)) with
      | false => rfl
      | true => cases decide (σ.2.1 246 (6 * p + k) = σ.2.1 258 (6 * p + k)) <;> rfl
  rw [M_movedOf_eq]
  exact loop (len p) 0 0 none (Nat.zero_add _)
theorem M_takes_L85_s {len : Nat → Nat} {n : Nat} {l or : List Nat} (hln : l.length = n) (h24 : n ≤ 24) (hor24 : or.length ≤ 24) (hor : ∀ x ∈ or, x < 25) (hl25 : ∀ x ∈ l, x < 25) : ∀ (m : List Nat) (i : Nat) (d2 d4 : Option pd_V) (σ : pd_H), i + m.length = n → (∀ t x, m[t]? = some x → l[i + t]? = some x) → m_lens σ len → m_ls (σ.1 251) l → m_ls (σ.1 250) or → σ.1 230 21 = nI or.length →
    ∃ d2', M_takesTried_L85 (nI n) d2 (nI i) d4 σ = M_takesTried_L139 (nI n) d2' 0 d4 (pd_upI (pd_upI σ 230 37 (c_mv (σ.1 245) (σ.1 257) (σ.2.1 246) (σ.2.1 258) len or m (σ.1 230 37))) 230 21 (nI n)) := by
  intro m
  induction m with
  | nil =>
    intro i d2 d4 σ hi _ _ _ _ _
    have hi : i = n := hi
    refine ⟨cond (pd_is2 d2) none d2, ?_⟩
    rw [M_takesTried_L85_eq, hi]
    simp only [nI_leI (show n < 2 ^ 31 by omega) (show n < 2 ^ 31 by omega), Nat.le_refl, decide_true, pd_bI_of, pd_bJ_of, pd_bV_of, pd_bR_of, cond_true, cond_false]
    congr 1
    refine pu_H_ext (fun k => ?_) (fun k => rfl) rfl
    by_cases hk : k = 230
    · subst hk
      rw [pu_u1s, pu_u1s, pu_u1s]
      congr 1
      funext j
      by_cases e : j = 37
      · subst e; rw [pk_us]; rfl
      · rw [pk_un e]
    · rw [pu_u1n hk, pu_u1n hk, pu_u1n hk]
  | cons q m ih =>
    intro i d2 d4 σ hi hm hlen h251 h250 h21
    have hi : i + (m.length + 1) = n := hi
    have hq : l[i]? = some q := by have := hm 0 q rfl; rwa [Nat.add_zero] at this
    have hq25 := hl25 q (List.mem_of_getElem? hq)
    have hmt : ∀ t x, m[t]? = some x → l[i + 1 + t]? = some x := fun t x h => by
      rw [show i + 1 + t = i + (t + 1) by omega]; exact hm (t + 1) x h
    have hLaid := M_isLaid_s (σ := σ) h21 h250 hor24 (fun x hx => by have := hor x hx; omega) (p := q) (by omega)
    have hMv := M_movedOf_s (σ := σ) hlen hq25
    have next : ∀ v : Int32, ∀ d2, ∃ d2', M_takesTried_L85 (nI n) d2 (nI (i + 1)) d4 (pd_upI σ 230 37 v) = M_takesTried_L139 (nI n) d2' 0 d4 (pd_upI (pd_upI σ 230 37 (c_mv (σ.1 245) (σ.1 257) (σ.2.1 246) (σ.2.1 258) len or m v)) 230 21 (nI n)) := fun v d2 => by
      obtain ⟨d2', e⟩ := ih (i + 1) d2 d4 (pd_upI σ 230 37 v) (by omega) hmt (fun p hp => by rw [pu_u1n (by decide)]; exact hlen p hp) (by rw [pu_u1n (by decide)]; exact h251) (by rw [pu_u1n (by decide)]; exact h250) (by rw [pu_u1s, pk_un (by decide)]; exact h21)
      refine ⟨d2', ?_⟩
      rw [e]
      congr 1
      simp only [pu_u1n (show 245 ≠ 230 by decide), pu_u1n (show 257 ≠ 230 by decide), pu_u2]
      refine pu_H_ext (fun k => ?_) (fun k => rfl) rfl
      by_cases hk : k = 230
      · subst hk
        rw [pu_u1s, pu_u1s, pu_u1s, pu_u1s, pu_u1s, pk_us]
        congr 1
        funext j
        by_cases e : j = 37
        · subst e; rw [pk_us, pk_us]
        · rw [pk_un e, pk_un e, pk_un e]
      · rw [pu_u1n hk, pu_u1n hk, pu_u1n hk, pu_u1n hk, pu_u1n hk]
    rw [M_takesTried_L85_eq]
    simp only [nI_leI (show n < 2 ^ 31 by omega) (show i < 2 ^ 31 by omega), show ¬ n ≤ i by omega, decide_false, pd_bI_of, pd_bJ_of, pd_bV_of, pd_bR_of, cond_true, cond_false, show pd_len 251 = 24 from rfl, pu_obN (show i < 24 by omega) (show 24 < 2 ^ 31 by decide), nI_clamp (show i < 2 ^ 31 by omega), h251 i q hq, hLaid, hMv, nI_1]
    show ∃ d2', _ = M_takesTried_L139 (nI n) d2' 0 d4 (pd_upI (pd_upI σ 230 37 (c_mv (σ.1 245) (σ.1 257) (σ.2.1 246) (σ.2.1 258) len or m (cond (Nat.ble or.length (c_ix or q)) (σ.1 230 37) (c_mvb (σ.1 245) (σ.1 257) (σ.2.1 246) (σ.2.1 258) (c_blk q 0 (len q)) (σ.1 230 37))))) 230 21 (nI n))
    cases Nat.ble or.length (c_ix or q) with
    | true =>
      obtain ⟨d2', e⟩ := next (σ.1 230 37 + 0) (cond (pd_is2 d2) none d2)
      refine ⟨d2', ?_⟩
      rw [Int32.add_zero] at e ⊢
      exact e
    | false =>
      obtain ⟨d2', e⟩ := next (σ.1 230 37 + c_mvb (σ.1 245) (σ.1 257) (σ.2.1 246) (σ.2.1 258) (c_blk q 0 (len q)) 0) (cond (pd_is2 d2) none d2)
      refine ⟨d2', ?_⟩
      rw [← c_mvb_add] at e ⊢
      exact e
theorem M_takes_L139_s {n : Nat} {l : List Nat} (hln : l.length = n) (h24 : n ≤ 24) : ∀ d i (d2 d4 : Option pd_V) (σ : pd_H), i + d = n → m_ls (σ.1 251) l → (∀ t x, t < i → l[t]? = some x → σ.1 250 t = nI x) → ∃ τ, M_takesTried_L139 (nI n) d2 (nI i) d4 σ = some (τ, some (pd_i 0)) ∧ m_ls (τ.1 250) l ∧ pu_fr (fun k => k = 250) σ τ := by
  intro d
  induction d with
  | zero =>
    intro i d2 d4 σ hi _ h
    have hi : i = n := hi
    refine ⟨σ, ?_, fun t x hx => h t x (by rw [hi, ← hln]; exact (List.getElem?_eq_some_iff.mp hx).1) hx, pu_fr.rf⟩
    rw [M_takesTried_L139_eq, hi]
    simp only [nI_leI (show n < 2 ^ 31 by omega) (show n < 2 ^ 31 by omega), Nat.le_refl, decide_true, pd_bI_of, pd_bJ_of, pd_bV_of, pd_bR_of, cond_true, cond_false]
  | succ d ih =>
    intro i d2 d4 σ hi h251 h
    obtain ⟨x, hx⟩ : ∃ x, l[i]? = some x := ⟨_, List.getElem?_eq_getElem (show i < l.length by omega)⟩
    obtain ⟨τ, t1, t2, t3⟩ := ih (i + 1) (cond (pd_is2 d2) none d2) d4 (pd_upI σ 250 i (nI x)) (by omega) (by rw [pu_u1n (by decide)]; exact h251) (fun t y ht hy => by
      rw [pu_u1s]
      by_cases e : t = i
      · rw [e, pk_us]; rw [e, hx] at hy; cases hy; rfl
      · rw [pk_un e]; exact h t y (by omega) hy)
    refine ⟨τ, ?_, t2, (pu_fr.upI (K := fun k => k = 250) rfl).tr t3⟩
    rw [M_takesTried_L139_eq]
    simp only [nI_leI (show n < 2 ^ 31 by omega) (show i < 2 ^ 31 by omega), show ¬ n ≤ i by omega, decide_false, pd_bI_of, pd_bJ_of, pd_bV_of, pd_bR_of, cond_true, cond_false, show pd_len 250 = 24 from rfl, show pd_len 251 = 24 from rfl, pu_obN (show i < 24 by omega) (show 24 < 2 ^ 31 by decide), nI_clamp (show i < 2 ^ 31 by omega), h251 i x hx, nI_1]
    exact t1
theorem M_takes_L2_s : ∀ d i d2 d3 d4, i + d = 150 → M_takesTried_L2 (nI i) d2 d3 d4 (pu_rwJ (pu_rwI σ 257 (pu_cp (σ.1 245) (σ.1 257) i)) 258 (pu_cpL (σ.2.1 246) (σ.2.1 258) i)) = M_takesTried_L2 (nI 150) d2 d3 d4 (pu_rwJ (pu_rwI σ 257 (pu_cp (σ.1 245) (σ.1 257) 150)) 258 (pu_cpL (σ.2.1 246) (σ.2.1 258) 150)) := by
  intro d
  induction d with
  | zero =>
    intro i d2 d3 d4 hi
    have hi : i = 150 := hi
    rw [hi]
  | succ d ih =>
    intro i d2 d3 d4 hi
    have o := pu_obN (show i < 150 by omega) (show 150 < 2 ^ 31 by decide)
    rw [← ih (i + 1) d2 d3 d4 (by omega)]
    conv => lhs; rw [M_takesTried_L2_eq, show (150 : Int32) = nI 150 from rfl]
    simp only [nI_leI (show 150 < 2 ^ 31 by decide) (show i < 2 ^ 31 by omega), show ¬ 150 ≤ i by omega, decide_false, pd_bI_of, pd_bJ_of, pd_bV_of, pd_bR_of, cond_true, cond_false, show pd_len 245 = 150 from rfl, show pd_len 246 = 150 from rfl, show pd_len 257 = 150 from rfl, show pd_len 258 = 150 from rfl, o, nI_clamp (show i < 2 ^ 31 by omega), nI_1]
    congr 1
    refine pu_H_ext (fun k => ?_) (fun k => ?_) rfl
    · by_cases h1 : k = 257
      · subst h1
        rw [pu_j1, pu_u1s, pu_x1, pu_w1s, pu_w1n (by decide), pu_x1, pu_w1s]
        exact pu_cp_up
      · rw [pu_j1, pu_u1n h1, pu_x1, pu_w1n h1, pu_x1, pu_w1n h1]
    · by_cases h1 : k = 258
      · subst h1
        rw [pu_j2s, pu_u2, pu_x2s, pu_x2n (by decide), pu_w2, pu_x2s]
        exact pu_cpL_up
      · simp only [pu_j2n h1, pu_u2, pu_x2n h1, pu_w2]
end TAKES
