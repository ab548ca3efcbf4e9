/-! Between: the model. -/
section BTWM
variable {σ : pd_H} {S : cS}
theorem M_triesVersion_o (hw : s_wf S) (h : m_ot σ S) {v : Nat} {l : List Nat} (hl : (s_vr S)[v]? = some l) : ∃ τ, M_triesVersion (nI v) σ = some (τ, none) ∧ m_td τ l ∧ m_tdK σ τ := by
  have hv : v < (s_vr S).length := (List.getElem?_eq_some_iff.mp hl).1
  have hv6 := hw.2.2.1.2.2.2.1
  have ho := hw.2.2.1.2.2.2.2 l (List.mem_of_getElem? hl)
  have h24 := s_len24 hw ho
  obtain ⟨k1, k2⟩ := h.1.2.2.2 v l hl
  have loop : ∀ d i (ρ : pd_H), i + d = l.length → ρ.1 230 23 = nI l.length → ρ.1 253 = σ.1 253 → (∀ t x, t < i → l[t]? = some x → ρ.1 251 t = nI x) → ∃ τ, M_triesVersion_L12 (nI v) (nI i) ρ = some (τ, none) ∧ m_td τ l ∧ m_tdK ρ τ := by
    intro d
    induction d with
    | zero =>
      intro i ρ hi e1 e2 e3
      have hi : i = l.length := hi
      refine ⟨ρ, ?_, ⟨e1, fun t x hx => e3 t x (by rw [hi]; exact (List.getElem?_eq_some_iff.mp hx).1) hx⟩, m_tdK.rf⟩
      rw [M_triesVersion_L12_eq, e1, hi]
      simp only [nI_leI (show l.length < 2 ^ 31 by omega) (show l.length < 2 ^ 31 by omega), Nat.le_refl, decide_true, pd_bI_of, pd_bJ_of, pd_bV_of, pd_bR_of, cond_true, cond_false]
    | succ d ih =>
      intro i ρ hi e1 e2 e3
      obtain ⟨x, hx⟩ : ∃ x, l[i]? = some x := ⟨_, List.getElem?_eq_getElem (show i < l.length by omega)⟩
      obtain ⟨τ, t1, t2, t3⟩ := ih (i + 1) (pd_upI ρ 251 i (nI x)) (by omega) (by rw [pu_u1n (by decide)]; exact e1) (by rw [pu_u1n (by decide)]; exact e2) (fun t y ht hy => by
        rw [pu_u1s]
        by_cases e : t = i
        · rw [e, pk_us]; rw [e, hx] at hy; cases hy; rfl
        · rw [pk_un e]; exact e3 t y (by omega) hy)
      refine ⟨τ, ?_, t2, m_tdK.u1.tr t3⟩
      have ix : (24 : Int32) * nI v + nI i = nI (24 * v + i) := by
        rw [show (24 : Int32) = nI 24 from rfl, pk_mul, nI_add]
      have e253 : ρ.1 253 (24 * v + i) = nI x := by rw [e2]; exact k2 i x hx
      rw [M_triesVersion_L12_eq, e1]
      simp only [nI_leI (show l.length < 2 ^ 31 by omega) (show i < 2 ^ 31 by omega), show ¬ l.length ≤ i by omega, decide_false, pd_bI_of, pd_bJ_of, pd_bV_of, pd_bR_of, cond_true, cond_false, ix, show pd_len 253 = 144 from rfl, show pd_len 251 = 24 from rfl, pu_obN (show 24 * v + i < 144 by omega) (show 144 < 2 ^ 31 by decide), pu_obN (show i < 24 by omega) (show 24 < 2 ^ 31 by decide), nI_clamp (show i < 2 ^ 31 by omega), nI_clamp (show 24 * v + i < 2 ^ 31 by omega), e253, nI_1]
      exact t1
  obtain ⟨τ, t1, t2, t3⟩ := loop l.length 0 (pd_upI σ 230 23 (nI l.length)) (Nat.zero_add _) (by rw [pu_u1s, pk_us]) (by rw [pu_u1n (by decide)]) (fun t x ht _ => absurd ht (Nat.not_lt_zero t))
  refine ⟨τ, ?_, t2, m_tdK.u2.tr t3⟩
  rw [M_triesVersion_eq, show pd_len 254 = 6 from rfl, pu_obN (show v < 6 by omega) (by decide), cond_false, nI_clamp (by omega), k1]
  exact t1
theorem c_mvb_sym {t t' : Nat → Int32} {n n' : Nat → Int64} : ∀ {b : List Nat} {s : Int32}, c_mvb t t' n n' b s = c_mvb t' t n' n b s := by
  intro b
  induction b with
  | nil => intro s; rfl
  | cons a r ih =>
    intro s
    unfold c_mvb
    rw [decide_eq_decide.mpr (eq_comm (a := t a)), decide_eq_decide.mpr (eq_comm (a := n a))]
    exact ih
theorem s_al_sym {t t' : Nat → Int32} {n n' : Nat → Int64} : ∀ (d j : Nat) (s : Int32), s_al S t t' n n' d j s = s_al S t' t n' n d j s := by
  intro d
  induction d with
  | zero => intro j s; rfl
  | succ d ih =>
    intro j s
    show s_al S t t' n n' d (j + 1) _ = s_al S t' t n' n d (j + 1) _
    rw [c_mvb_sym]
    exact ih (j + 1) _
theorem s_al_congrV (hw : s_wf S) {t t' u u' : Nat → Int32} {n n' v v' : Nat → Int64} (e : ∀ c, c_vc (s_kd S) (s_sz S) c → t c = u c ∧ t' c = u' c ∧ n c = v c ∧ n' c = v' c) : ∀ (d j : Nat) (s : Int32), j + d = 6 → s_al S t t' n n' d j s = s_al S u u' v v' d j s := by
  intro d
  induction d with
  | zero => intro j s _; rfl
  | succ d ih =>
    intro j s hj
    have hj6 : j < 6 := by omega
    obtain ⟨n1, n2⟩ := s_n_ok hw hj6
    show s_al S t t' n n' d (j + 1) _ = s_al S u u' v v' d (j + 1) _
    by_cases h0 : c_arrF (s_kd S) (nI j) = 0
    · rw [c_mvb_congr (u := u) (u' := u') (v := v) (v' := v') (fun c hc => by
        obtain ⟨k, k1, k2, rfl⟩ := c_cels_mem hc
        exact e _ ⟨j, k, hj6, by omega, h0, by rw [n1]; exact nI_lt (by omega) (by omega), rfl⟩)]
      exact ih (j + 1) _ (by omega)
    · rw [decide_eq_false h0, cond_false, cond_false]
      exact ih (j + 1) _ (by omega)
theorem M_others_L12_s {j n : Nat} (hj : j < 6) (hn : n ≤ 12) (hsz : σ.1 232 j = nI n) (hrow : c_in (σ.1 231 j) 0 12 = 1) : ∀ (d i : Nat) (s : Int32) (d4 : Option pd_V), i + d = n → ∃ d4', M_othersThan_L12 s (nI j) (nI i) d4 σ = M_othersThan_L4 (c_mvb (σ.1 233) (σ.1 263) (σ.2.1 234) (σ.2.1 264) (c_cels j i d) s) (nI (j + 1)) (some (pd_i (nI n))) d4' σ := by
  intro d
  induction d with
  | zero =>
    intro i s d4 hi
    have hi : i = n := hi
    refine ⟨d4, ?_⟩
    rw [M_othersThan_L12_eq, show pd_len 232 = 6 from rfl, pu_obN hj (by decide), cond_false, nI_clamp (by omega), hsz, hi, decide_eq_true (nI_le (Nat.le_refl _) (by omega)), cond_true, nI_1]
    rfl
  | succ d ih =>
    intro i s d4 hi
    have c72 : 12 * j + i < 72 := by omega
    have o := pu_obN c72 (show 72 < 2 ^ 31 by decide)
    have ix : (12 : Int32) * nI j + nI i = nI (12 * j + i) := by rw [Int32.mul_comm]; exact c_cell_nI hj (by omega)
    obtain ⟨d4', e⟩ := ih (i + 1) (cond (decide (σ.1 233 (12 * j + i) = σ.1 263 (12 * j + i)) && decide (σ.2.1 234 (12 * j + i) = σ.2.1 264 (12 * j + i))) s (s + 1)) (some (pd_i (nI (12 * j + i)))) (by omega)
    refine ⟨d4', ?_⟩
    have hr : M_isRow (nI j) σ = some (σ, some (pd_i 1)) := by rw [M_isRow_s (pu_sl_j hj), nI_clamp (by omega), hrow]
    rw [M_othersThan_L12_eq, show pd_len 232 = 6 from rfl, pu_obN hj (by decide), cond_false, nI_clamp (by omega), hsz, decide_eq_false (nI_ge (show i < n by omega) (by omega)), cond_false, hr, pd_bI_of, decide_eq_false (by decide : ¬ (1 : Int32) = 0), cond_false, ix, show pd_len 233 = 72 from rfl, show pd_len 263 = 72 from rfl, show pd_len 234 = 72 from rfl, show pd_len 264 = 72 from rfl, o, cond_false, cond_false, cond_false, cond_false, nI_clamp (by omega), pu_cmp0, nI_1, Int32.add_zero]
    refine Eq.trans ?_ e
    cases decide (σ.1 233 (12 * j + i) = σ.1 263 (12 * j + i)) with
    | false => rfl
    | true => cases decide (σ.2.1 234 (12 * j + i) = σ.2.1 264 (12 * j + i)) <;> rfl
theorem M_others_s (hw : s_wf S) (h : m_sh σ S) : M_othersThan σ = some (σ, some (pd_i (s_al S (σ.1 233) (σ.1 263) (σ.2.1 234) (σ.2.1 264) 6 0 0))) := by
  have hkM : c_kok (σ.1 231) := fun s q => by rw [← (h.1 s q).1]; exact hw.1.1 s q
  have loop : ∀ (d j : Nat) (s : Int32) (d3 d4 : Option pd_V), j + d = 6 → M_othersThan_L4 s (nI j) d3 d4 σ = some (σ, some (pd_i (s_al S (σ.1 233) (σ.1 263) (σ.2.1 234) (σ.2.1 264) d j s))) := by
    intro d
    induction d with
    | zero =>
      intro j s d3 d4 hj
      have hj : j = 6 := hj
      rw [M_othersThan_L4_eq, hj]; rfl
    | succ d ih =>
      intro j s d3 d4 hj
      have hj6 : j < 6 := by omega
      obtain ⟨n1, n2⟩ := s_n_ok hw hj6
      have hsl := pu_sl_j hj6
      have hk : σ.1 231 (nI j).toNatClampNeg = s_kd S (nI j).toNatClampNeg := (c_kz_kd h.1 hsl).symm
      rw [M_othersThan_L4_eq, show (6 : Int32) = nI 6 from rfl, decide_eq_false (nI_ge hj6 (by decide)), cond_false]
      show _ = some (σ, some (pd_i (s_al S (σ.1 233) (σ.1 263) (σ.2.1 234) (σ.2.1 264) d (j + 1) (cond (decide (c_arrF (s_kd S) (nI j) = 0)) (s + c_mvb (σ.1 233) (σ.1 263) (σ.2.1 234) (σ.2.1 264) (c_cels j 0 (s_n S j)) 0) s))))
      have hin : c_in (σ.1 231 (nI j).toNatClampNeg) 0 12 = cond (decide (c_arrF (s_kd S) (nI j) = 0)) 1 0 := by
        rw [hk]; exact c_in_arr hw.1.1 hsl
      by_cases h0 : c_arrF (s_kd S) (nI j) = 0
      · rw [decide_eq_true h0, cond_true] at hin
        rw [decide_eq_true h0, cond_true]
        have hz : σ.1 232 j = nI (s_n S j) := by
          have := c_kz_sz h.1 hsl h0
          rw [nI_clamp (by omega)] at this
          rw [← this]; exact n1
        rw [nI_clamp (by omega)] at hin
        obtain ⟨d4', e⟩ := M_others_L12_s hj6 n2 hz hin (s_n S j) 0 s d4 (Nat.zero_add _)
        have e : M_othersThan_L12 s (nI j) 0 d4 σ = _ := e
        rw [e, ih (j + 1) _ _ _ (by omega), c_mvb_add]
      · rw [decide_eq_false h0, cond_false] at hin
        rw [decide_eq_false h0, cond_false]
        have hr : M_isRow (nI j) σ = some (σ, some (pd_i 0)) := by rw [M_isRow_s hsl, hin]
        rw [M_othersThan_L12_eq, show pd_len 232 = 6 from rfl, pu_obN hj6 (by decide), cond_false, hr, pd_bI_of, decide_eq_true (rfl : (0 : Int32) = 0), cond_true, Bool.cond_self, nI_1, ih (j + 1) _ _ _ (by omega)]
  rw [M_othersThan_eq]
  exact loop 6 0 0 none none rfl
theorem RM0.b {τ : pd_H} (h : RM0 σ S) (hf : pu_fr (fun k => k = 263 ∨ k = 264) σ τ) : RM0 τ S := by
  have e1 : ∀ k, ¬ (k = 263 ∨ k = 264) → τ.1 k = σ.1 k := hf.1
  have e2 : ∀ k, ¬ (k = 263 ∨ k = 264) → τ.2.1 k = σ.2.1 k := hf.2.1
  obtain ⟨⟨a1, a2, a3⟩, ⟨b1, b2, b3⟩, ⟨c1, c2⟩, d1, d2, d3, d4⟩ := h
  refine ⟨⟨?_, ?_, ?_⟩, ⟨?_, ?_, ?_⟩, ⟨?_, ?_⟩, ?_, ?_, ?_, ?_⟩
  · rw [e1 231 (by decide), e1 232 (by decide)]; exact a1
  · rw [e1 232 (by decide)]; exact a2
  · rw [e1 235 (by decide), e2 236 (by decide)]; exact a3
  · intro p k hp hk
    have := b1 p k hp hk
    unfold m_is m_wr m_co at this ⊢
    rw [e1 238 (by decide), e1 239 (by decide), e1 240 (by decide), e1 241 (by decide), e1 242 (by decide), e1 243 (by decide)]
    exact this
  · intro p hp; rw [e1 244 (by decide)]; exact b2 p hp
  · rw [e1 230 (by decide)]; exact b3
  · rw [e1 230 (by decide)]; exact c1
  · rw [e1 250 (by decide)]; exact c2
  · rw [e1 230 (by decide), e1 252 (by decide), e1 254 (by decide), e1 253 (by decide)]; exact d1
  · rw [e1 230 (by decide), e1 259 (by decide)]; exact d2
  · rw [e1 255 (by decide)]; exact d3
  · rw [e1 256 (by decide)]; exact d4
theorem M_btw_L17_s (d1 : Option pd_V) (l2 l3 : Int32) : ∀ d i, i + d = 72 → M_betweenNow_L17 d1 l2 l3 (nI i) (pu_rwJ (pu_rwI σ 263 (pu_cp (σ.1 233) (σ.1 263) i)) 264 (pu_cpL (σ.2.1 234) (σ.2.1 264) i)) = M_betweenNow_L17 d1 l2 l3 (nI 72) (pu_rwJ (pu_rwI σ 263 (pu_cp (σ.1 233) (σ.1 263) 72)) 264 (pu_cpL (σ.2.1 234) (σ.2.1 264) 72)) := by
  intro d
  induction d with
  | zero =>
    intro i hi
    have hi : i = 72 := hi
    rw [hi]
  | succ d ih =>
    intro i hi
    have o := pu_obN (show i < 72 by omega) (show 72 < 2 ^ 31 by decide)
    rw [← ih (i + 1) (by omega)]
    conv => lhs; rw [M_betweenNow_L17_eq, show (72 : Int32) = nI 72 from rfl]
    simp only [nI_leI (show 72 < 2 ^ 31 by decide) (show i < 2 ^ 31 by omega), show ¬ 72 ≤ i by omega, decide_false, pd_bI_of, pd_bJ_of, pd_bV_of, pd_bR_of, cond_true, cond_false, show pd_len 233 = 72 from rfl, show pd_len 234 = 72 from rfl, show pd_len 263 = 72 from rfl, show pd_len 264 = 72 from rfl, o, nI_clamp (show i < 2 ^ 31 by omega), nI_1]
    congr 1
    refine pu_H_ext (fun k => ?_) (fun k => ?_) rfl
    · by_cases h1 : k = 263
      · subst h1
        rw [pu_j1, pu_u1s, pu_x1, pu_w1s, pu_w1n (by decide), pu_x1, pu_w1s]
        exact pu_cp_up
      · rw [pu_j1, pu_u1n h1, pu_x1, pu_w1n h1, pu_x1, pu_w1n h1]
    · by_cases h1 : k = 264
      · subst h1
        rw [pu_j2s, pu_u2, pu_x2s, pu_x2n (by decide), pu_w2, pu_x2s]
        exact pu_cpL_up
      · simp only [pu_j2n h1, pu_u2, pu_x2n h1, pu_w2]
end BTWM
