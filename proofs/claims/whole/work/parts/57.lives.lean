/-! Which changes are dead: by the model. -/
section LIVES
variable {σ : pd_H} {S : cS}
def m_ddK (σ τ : pd_H) : Prop := pu_fr (fun k => k = 230 ∨ k = 261 ∨ k = 262) σ τ ∧ ∀ j, j ≠ 48 → τ.1 230 j = σ.1 230 j
theorem m_ddK.rf : m_ddK σ σ := ⟨pu_fr.rf, fun _ _ => rfl⟩
theorem m_ddK.tr {τ υ : pd_H} (h : m_ddK σ τ) (g : m_ddK τ υ) : m_ddK σ υ := ⟨h.1.tr g.1, fun j hj => (g.2 j hj).trans (h.2 j hj)⟩
theorem m_ddK.u1 {i : Nat} {x : Int32} : m_ddK σ (pd_upI σ 261 i x) := ⟨pu_fr.upI (Or.inr (Or.inl rfl)), fun j _ => by rw [pu_u1n (by decide)]⟩
theorem m_ddK.u2 {x : Int32} : m_ddK σ (pd_upI σ 230 48 x) := ⟨pu_fr.upI (Or.inl rfl), fun j hj => by rw [pu_u1s, pk_un hj]⟩
theorem m_ddK.u3 {i : Nat} {x : Int32} : m_ddK σ (pd_upI σ 262 i x) := ⟨pu_fr.upI (Or.inr (Or.inr rfl)), fun j _ => by rw [pu_u1n (by decide)]⟩
theorem m_ddK.mf {τ : pd_H} (h : m_ddK σ τ) : MF σ τ := MF.of h.1 (fun k hk => by omega)
theorem m_ddK.is {τ : pd_H} (h : m_ddK σ τ) {a : Nat} {c : cC} (g : m_is σ a c) : m_is τ a c := by
  unfold m_is m_wr m_co at g ⊢
  rw [h.1.1 238 (by decide), h.1.1 239 (by decide), h.1.1 240 (by decide), h.1.1 241 (by decide), h.1.1 242 (by decide), h.1.1 243 (by decide)]
  exact g
theorem RM.dd {τ : pd_H} (h : RM σ S) (g : m_ddK σ τ) : RM τ S := by
  have e1 : ∀ k, ¬ (k = 230 ∨ k = 261 ∨ k = 262) → τ.1 k = σ.1 k := g.1.1
  have e2 : ∀ k, ¬ (k = 230 ∨ k = 261 ∨ k = 262) → τ.2.1 k = σ.2.1 k := g.1.2.1
  obtain ⟨⟨a1, a2, a3⟩, ⟨b1, b2, b3⟩, ⟨⟨c1, c2⟩, c3⟩, d1, d2, d3, d4⟩ := h
  refine ⟨⟨?_, ?_, ?_⟩, ⟨fun p k hp hk => g.is (b1 p k hp hk), ?_, ?_⟩, ⟨⟨?_, ?_⟩, ?_⟩, ?_, ?_, ?_, ?_⟩
  · rw [e1 231 (by decide), e1 232 (by decide)]; exact a1
  · rw [e1 232 (by decide)]; exact a2
  · rw [e1 235 (by decide), e2 236 (by decide)]; exact a3
  · intro p hp; rw [e1 244 (by decide)]; exact b2 p hp
  · rw [g.2 19 (by decide)]; exact b3
  · rw [g.2 21 (by decide)]; exact c1
  · rw [e1 250 (by decide), e1 237 (by decide)]; exact c2
  · have : m_R τ = m_R σ := by
      unfold m_R
      rw [e1 233 (by decide), e2 234 (by decide), e1 237 (by decide), e1 247 (by decide), e2 248 (by decide), e1 245 (by decide), e2 246 (by decide), e1 249 (by decide)]
    rw [this]; exact c3
  · rw [g.2 25 (by decide), g.2 28 (by decide), e1 252 (by decide), e1 254 (by decide), e1 253 (by decide)]; exact d1
  · rw [g.2 39 (by decide), e1 259 (by decide)]; exact d2
  · rw [e1 255 (by decide)]; exact d3
  · rw [e1 256 (by decide)]; exact d4
theorem M_cellTo_d {a : Nat} {c : cC} (h : m_is σ a c) (hc : c_cld c) (ha : a < 150) : M_cellTo (nI a) σ = some (σ, some (pd_i (nI (c_tc c)))) := by
  have o := pu_obN ha (show 150 < 2 ^ 31 by decide)
  rw [M_cellTo_eq]
  simp only [show pd_len 238 = 150 from rfl, show pd_len 239 = 150 from rfl, show pd_len 240 = 150 from rfl, show pd_len 242 = 150 from rfl, show pd_len 243 = 150 from rfl, o, cond_false, nI_clamp (show a < 2 ^ 31 by omega)]
  rcases h with h | h
  · rw [h.2.1, decide_eq_true (rfl : (0 : Int32) = 0), cond_true, h.2.2.2.1, h.2.2.2.2.1, Int32.mul_comm, hc.1.1]
  · rw [h.2.1, decide_eq_false (by decide : ¬ (1 : Int32) = 0), cond_false, h.2.2.2.2.2.1, h.2.2.2.2.2.2.1, Int32.mul_comm, hc.1.1]
theorem M_cellFrom_d {a : Nat} {c : cC} (h : m_co σ a c) (hc : c_cld c) (ha : a < 150) : M_cellFrom (nI a) σ = some (σ, some (pd_i (nI (c_fc c)))) := by
  have o := pu_obN ha (show 150 < 2 ^ 31 by decide)
  rw [M_cellFrom_eq]
  simp only [show pd_len 239 = 150 from rfl, show pd_len 240 = 150 from rfl, o, cond_false, nI_clamp (show a < 2 ^ 31 by omega)]
  rw [h.2.2.1, h.2.2.2.1, Int32.mul_comm, (hc.2 h.1).1]
/-- the line of changes -/
def m_line (σ : pd_H) (L : List Nat) : Prop := σ.1 230 48 = nI L.length ∧ m_ls (σ.1 261) L
def m_lch (σ : pd_H) (chg : Nat → cC) (L : List Nat) : Prop := ∀ x ∈ L, x < 150 ∧ m_is σ x (chg x) ∧ c_cld (chg x)
def m_lvs (σ : pd_H) (chg : Nat → cC) (L : List Nat) (i : Nat) : Prop := ∀ j x t, i ≤ j → L.drop j = x :: t → σ.1 262 j = c_need chg t (c_tc (chg x))
theorem m_lch.dd {τ : pd_H} {chg : Nat → cC} {L : List Nat} (h : m_lch σ chg L) (g : m_ddK σ τ) : m_lch τ chg L := fun x hx => ⟨(h x hx).1, g.is (h x hx).2.1, (h x hx).2.2⟩
theorem c_need_01 {chg : Nat → cC} (t : List Nat) (i : Nat) : c_need chg t i = 0 ∨ c_need chg t i = 1 := c_need_z t i
theorem M_isLive_L15_s {chg : Nat → cC} {L : List Nat} (hL : m_line σ L) (h144 : L.length ≤ 144) (hc : m_lch σ chg L) {c : Nat} (hc72 : c < 72) (d1 : Option pd_V) : ∀ (t : List Nat) (i : Nat) (d4 : Option pd_V), L.drop i = t → i ≤ L.length → m_lvs σ chg L i → M_isLive_L15 d1 (nI c) (nI i) d4 σ = some (σ, some (pd_i (c_need chg t c))) := by
  intro t
  induction t with
  | nil =>
    intro i d4 ht hi _
    have : L.length ≤ i := List.drop_eq_nil_iff.mp ht
    have hi : i = L.length := by omega
    rw [M_isLive_L15_eq, hL.1, hi, decide_eq_true (nI_le (Nat.le_refl _) (by omega)), cond_true]
    rfl
  | cons x t ih =>
    intro i d4 ht hi hlv
    have hlt : i < L.length := by
      rcases Nat.lt_or_ge i L.length with g | g
      · exact g
      · rw [List.drop_eq_nil_of_le g] at ht; cases ht
    have hx : L[i]? = some x := by
      have := congrArg (fun z => z[0]?) ht
      simpa [List.getElem?_drop] using this
    have ht' : L.drop (i + 1) = t := by
      have := congrArg List.tail ht
      rw [List.tail_drop] at this
      exact this
    have hxL := List.mem_of_getElem? hx
    obtain ⟨x1, x2, x3⟩ := hc x hxL
    have e261 : σ.1 261 i = nI x := hL.2 i x hx
    have e262 := hlv i x t (Nat.le_refl i) ht
    have IH : ∀ d4, M_isLive_L15 d1 (nI c) (nI (i + 1)) d4 σ = some (σ, some (pd_i (c_need chg t c))) := fun d4 => ih (i + 1) d4 ht' hlt (fun j y u hj hd => hlv j y u (by omega) hd)
    have tc72 := x3.1.2
    have L62 : M_isLive_L62 d1 (nI c) (nI i) (nI x) σ = some (σ, some (pd_i (cond (Nat.beq (c_tc (chg x)) c) 0 (c_need chg t c)))) := by
      rw [M_isLive_L62_eq, M_cellTo_d x2 x3 x1, pd_bI_of, c_beq_d (by omega) (by omega), nI_1, IH]
      cases Nat.beq (c_tc (chg x)) c <;> rfl
    have base : upd (c_need chg t) (c_tc (chg x)) 0 c = cond (Nat.beq (c_tc (chg x)) c) 0 (c_need chg t c) := by
      by_cases e : c = c_tc (chg x)
      · rw [e, pk_us, Nat.beq_refl]; rfl
      · rw [pk_un e, c_beq_f (fun q => e q.symm)]; rfl
    rw [M_isLive_L15_eq, hL.1, decide_eq_false (nI_ge hlt (by omega)), cond_false, show pd_len 261 = 144 from rfl, pu_obN (show i < 144 by omega) (by decide), cond_false, nI_clamp (by omega), e261, show pd_len 238 = 150 from rfl, pu_obN x1 (by decide), cond_false, nI_clamp (by omega), L62, show pd_len 262 = 144 from rfl, pu_obN (show i < 144 by omega) (by decide), cond_false, e262]
    show _ = some (σ, some (pd_i (c_nst (chg x) (c_need chg t) c)))
    unfold c_nst
    rcases x2 with w | w
    · rw [w.2.1, decide_eq_true (rfl : (0 : Int32) = 0), cond_true, decide_eq_true w.1, cond_true, Bool.cond_self, base]
    · rw [w.2.1, decide_eq_false (by decide : ¬ (1 : Int32) = 0), cond_false, decide_eq_false w.1, cond_false]
      by_cases h0 : c_need chg t (c_tc (chg x)) = 0
      · rw [decide_eq_true h0, cond_true, cond_true, base]
      · rw [decide_eq_false h0, cond_false, cond_false, M_cellFrom_d w x3 x1, pd_bI_of]
        have fc72 := (x3.2 w.1).2
        rw [c_beq_d (by omega) (by omega)]
        by_cases e : c_fc (chg x) = c
        · rw [e, Nat.beq_refl, cond_true, pk_us]
        · rw [c_beq_f e, cond_false, pk_un (fun q => e q.symm), base]; exact L62
theorem M_findsLives_L11_s {chg : Nat → cC} {L : List Nat} (h144 : L.length ≤ 144) : ∀ (i : Nat) (ρ : pd_H), i ≤ L.length → m_line ρ L → m_lch ρ chg L → m_lvs ρ chg L i → ∃ τ, M_findsLives_L11 (nI i - 1) ρ = some (τ, none) ∧ m_line τ L ∧ m_lvs τ chg L 0 ∧ m_ddK ρ τ := by
  intro i
  induction i with
  | zero =>
    intro ρ _ hL _ hlv
    refine ⟨ρ, ?_, hL, hlv, m_ddK.rf⟩
    rw [M_findsLives_L11_eq, decide_eq_true (by decide : nI 0 - 1 < 0), cond_true]
  | succ i ih =>
    intro ρ hi hL hc hlv
    obtain ⟨x, hx⟩ : ∃ x, L[i]? = some x := ⟨_, List.getElem?_eq_getElem (show i < L.length by omega)⟩
    have hd : L.drop i = x :: L.drop (i + 1) := by
      have h1 := List.getElem?_eq_some_iff.mp hx
      rw [List.drop_eq_getElem_cons h1.1, h1.2]
    obtain ⟨x1, x2, x3⟩ := hc x (List.mem_of_getElem? hx)
    have tc72 := x3.1.2
    have e261 : ρ.1 261 i = nI x := hL.2 i x hx
    have eL : M_isLive (nI i) ρ = some (ρ, some (pd_i (c_need chg (L.drop (i + 1)) (c_tc (chg x))))) := by
      rw [M_isLive_eq, show pd_len 261 = 144 from rfl, pu_obN (show i < 144 by omega) (by decide), cond_false, nI_clamp (by omega), e261, M_cellTo_d x2 x3 x1, pd_bI_of, nI_1]
      exact M_isLive_L15_s hL h144 hc tc72 _ _ (i + 1) none rfl (by omega) hlv
    have enar : vp_nar .boolean (c_need chg (L.drop (i + 1)) (c_tc (chg x))) = c_need chg (L.drop (i + 1)) (c_tc (chg x)) := by
      rcases c_need_01 (chg := chg) (L.drop (i + 1)) (c_tc (chg x)) with q | q <;> rw [q] <;> rfl
    have k1 : m_ddK ρ (pd_upI ρ 262 i (c_need chg (L.drop (i + 1)) (c_tc (chg x)))) := m_ddK.u3
    obtain ⟨τ, t1, t2, t3, t4⟩ := ih (pd_upI ρ 262 i (c_need chg (L.drop (i + 1)) (c_tc (chg x)))) (by omega) ⟨by rw [pu_u1n (by decide)]; exact hL.1, by rw [pu_u1n (by decide)]; exact hL.2⟩ (hc.dd k1) (fun j y u hj hdj => by
      rw [pu_u1s]
      by_cases e : j = i
      · subst e
        rw [pk_us]
        rw [hd] at hdj
        cases hdj; rfl
      · rw [pk_un e]; exact hlv j y u (by omega) hdj)
    refine ⟨τ, ?_, t2, t3, k1.tr t4⟩
    have hm1 : nI i + -1 = nI i - 1 := by rw [Int32.sub_eq_add_neg]
    rw [nI_pred, M_findsLives_L11_eq, decide_eq_false (nI_pos (by omega)), cond_false, eL, pd_bI_of, show pd_len 262 = 144 from rfl, pu_obN (show i < 144 by omega) (by decide), cond_false, nI_clamp (by omega), enar, hm1]
    exact t1
theorem c_line_len {len : Nat → Nat} : ∀ {l : List Nat}, (∀ p ∈ l, len p ≤ 6) → (c_line len l).length ≤ 6 * l.length := by
  have hb : ∀ (q d k : Nat), (c_blk q k d).length = d := by
    intro q d
    induction d with
    | zero => intro k; rfl
    | succ d ih => intro k; show (c_blk q (k + 1) d).length + 1 = d + 1; rw [ih]
  intro l
  induction l with
  | nil => intro _; exact Nat.zero_le _
  | cons p l ih =>
    intro h
    show (c_blk p 0 (len p) ++ c_line len l).length ≤ _
    rw [List.length_append, hb, List.length_cons]
    have := h p List.mem_cons_self
    have := ih (fun x hx => h x (List.mem_cons_of_mem _ hx))
    omega
theorem m_line.push {L : List Nat} (h : m_line σ L) (x : Nat) : m_line (pd_upI (pd_upI σ 261 L.length (nI x)) 230 48 (nI (L.length + 1))) (L ++ [x]) := by
  refine ⟨?_, fun i y hy => ?_⟩
  · rw [pu_u1s, pk_us, List.length_append, List.length_singleton]
  · rw [pu_u1n (by decide), pu_u1s]
    exact c_push h.2 i y hy
theorem M_findsLine_s {len : Nat → Nat} {l : List Nat} (hlen : m_lens σ len) (h1 : σ.1 230 21 = nI l.length) (h2 : m_ls (σ.1 250) l) (h24 : l.length ≤ 24) (h25 : ∀ x ∈ l, x < 25) : ∃ τ, M_findsLine σ = some (τ, none) ∧ m_line τ (c_line len l) ∧ m_ddK σ τ := by
  have h144 : (c_line len l).length ≤ 144 := by
    have := c_line_len (len := len) (l := l) (fun p hp => (hlen p (h25 p hp)).2)
    omega
  have inner : ∀ (q i : Nat) (rest : List Nat), l[i]? = some q → ∀ (d k : Nat) (acc : List Nat) (ρ : pd_H), k + d = len q → acc.length + d ≤ 144 → m_line ρ acc → m_ddK σ ρ → ∃ τ, M_findsLine_L17 (nI i) (nI k) ρ = M_findsLine_L7 (nI (i + 1)) (some (pd_i (nI (len q)))) τ ∧ m_line τ (acc ++ c_blk q k d) ∧ m_ddK σ τ := by
    intro q i rest hq
    have hi : i < l.length := (List.getElem?_eq_some_iff.mp hq).1
    have hq25 := h25 q (List.mem_of_getElem? hq)
    obtain ⟨hlq, hl6⟩ := hlen q hq25
    intro d
    induction d with
    | zero =>
      intro k acc ρ hk _ hL hK
      have hk : k = len q := hk
      refine ⟨ρ, ?_, by show m_line ρ (acc ++ []); rw [List.append_nil]; exact hL, hK⟩
      have e250 : ρ.1 250 i = nI q := by rw [hK.1.1 250 (by decide)]; exact h2 i q hq
      have e244 : ρ.1 244 q = nI (len q) := by rw [hK.1.1 244 (by decide)]; exact hlq
      rw [M_findsLine_L17_eq, show pd_len 250 = 24 from rfl, pu_obN (show i < 24 by omega) (by decide), cond_false, nI_clamp (by omega), e250, show pd_len 244 = 25 from rfl, pu_obN hq25 (by decide), cond_false, nI_clamp (by omega), e244, hk, decide_eq_true (nI_le (Nat.le_refl _) (by omega)), cond_true, nI_1]
    | succ d ih =>
      intro k acc ρ hk ha hL hK
      have e250 : ρ.1 250 i = nI q := by rw [hK.1.1 250 (by decide)]; exact h2 i q hq
      have e244 : ρ.1 244 q = nI (len q) := by rw [hK.1.1 244 (by decide)]; exact hlq
      have ix : (6 : Int32) * nI q + nI k = nI (6 * q + k) := by rw [Int32.mul_comm]; exact c_step_nI q k
      obtain ⟨τ, t1, t2, t3⟩ := ih (k + 1) (acc ++ [6 * q + k]) (pd_upI (pd_upI ρ 261 acc.length (nI (6 * q + k))) 230 48 (nI (acc.length + 1))) (by omega) (by rw [List.length_append, List.length_singleton]; omega) (hL.push _) (hK.tr (m_ddK.u1.tr m_ddK.u2))
      rw [List.append_assoc] at t2
      refine ⟨τ, ?_, t2, t3⟩
      rw [M_findsLine_L17_eq, show pd_len 250 = 24 from rfl, pu_obN (show i < 24 by omega) (by decide), cond_false, nI_clamp (by omega), e250, show pd_len 244 = 25 from rfl, pu_obN hq25 (by decide), cond_false, nI_clamp (by omega), e244, decide_eq_false (nI_ge (show k < len q by omega) (by omega)), cond_false, cond_false, hL.1, show pd_len 261 = 144 from rfl, pu_obN (show acc.length < 144 by omega) (by decide), cond_false, nI_clamp (by omega), pu_u1n (show 230 ≠ 261 by decide), hL.1, nI_1, nI_1, ix]
      exact t1
  have outer : ∀ (m : List Nat) (i : Nat) (acc : List Nat) (d2 : Option pd_V) (ρ : pd_H), i + m.length = l.length → (∀ t x, m[t]? = some x → l[i + t]? = some x) → acc.length + (c_line len m).length ≤ 144 → m_line ρ acc → m_ddK σ ρ → ∃ τ, M_findsLine_L7 (nI i) d2 ρ = some (τ, none) ∧ m_line τ (acc ++ c_line len m) ∧ m_ddK σ τ := by
    intro m
    induction m with
    | nil =>
      intro i acc d2 ρ hi _ _ hL hK
      have hi : i = l.length := hi
      refine ⟨ρ, ?_, by show m_line ρ (acc ++ []); rw [List.append_nil]; exact hL, hK⟩
      rw [M_findsLine_L7_eq, hK.2 21 (by decide), h1, hi, decide_eq_true (nI_le (Nat.le_refl _) (by omega)), cond_true]
    | cons q m ih =>
      intro i acc d2 ρ hi hm ha hL hK
      have hi : i + (m.length + 1) = l.length := hi
      have hy : l[i]? = some q := by have := hm 0 q rfl; rwa [Nat.add_zero] at this
      have hmt : ∀ t x, m[t]? = some x → l[i + 1 + t]? = some x := fun t x h => by
        rw [show i + 1 + t = i + (t + 1) by omega]; exact hm (t + 1) x h
      have hb : (c_blk q 0 (len q)).length = len q := by
        have : ∀ (q d k : Nat), (c_blk q k d).length = d := by
          intro q d
          induction d with
          | zero => intro k; rfl
          | succ d ih => intro k; show (c_blk q (k + 1) d).length + 1 = d + 1; rw [ih]
        exact this q _ 0
      have ha : acc.length + (c_blk q 0 (len q) ++ c_line len m).length ≤ 144 := ha
      rw [List.length_append, hb] at ha
      obtain ⟨τ1, t1, t2, t3⟩ := inner q i m hy (len q) 0 acc ρ (Nat.zero_add _) (by omega) hL hK
      obtain ⟨τ2, u1, u2, u3⟩ := ih (i + 1) (acc ++ c_blk q 0 (len q)) (some (pd_i (nI (len q)))) τ1 (by omega) hmt (by rw [List.length_append, hb]; omega) t2 t3
      rw [List.append_assoc] at u2
      refine ⟨τ2, ?_, u2, u3⟩
      rw [M_findsLine_L7_eq, hK.2 21 (by decide), h1, decide_eq_false (nI_ge (show i < l.length by omega) (by omega)), cond_false]
      exact t1.trans u1
  obtain ⟨τ, t1, t2, t3⟩ := outer l 0 [] none (pd_upI σ 230 48 0) (Nat.zero_add _) (fun t x hx => by rw [Nat.zero_add]; exact hx) (by show 0 + _ ≤ 144; omega) ⟨by rw [pu_u1s, pk_us]; rfl, fun i x hx => by cases hx⟩ m_ddK.u2
  exact ⟨τ, by rw [M_findsLine_eq]; exact t1, t2, t3⟩
theorem s_cld (hw : s_wf S) : ∀ x ∈ c_line (s_ln S) (s_or S), c_cld (s_ch S x) := c_ply_cld hw.1.2.1.sz (s_ok hw hw.2.2.1.1) hw.2.2.2.1
theorem M_findsLives_s (hw : s_wf S) (h : RM σ S) : ∃ τ, M_findsLives σ = some (τ, none) ∧ m_line τ (c_line (s_ln S) (s_or S)) ∧ m_lvs τ (s_ch S) (c_line (s_ln S) (s_or S)) 0 ∧ m_ddK σ τ ∧ (c_line (s_ln S) (s_or S)).length ≤ 144 := by
  have h24 := s_or24 hw
  have h25 := s_or25 hw
  have h144 : (c_line (s_ln S) (s_or S)).length ≤ 144 := by
    have := c_line_len (len := s_ln S) (l := s_or S) (fun p hp => hw.2.1.2.1 p (h25 p hp))
    omega
  obtain ⟨ρ, r1, r2, r3⟩ := M_findsLine_s h.2.1.2.1 h.2.2.1.1.1 h.2.2.1.1.2.1 h24 h25
  have hch : m_lch ρ (s_ch S) (c_line (s_ln S) (s_or S)) := fun x hx => by
    have hcl := s_cld hw x hx
    obtain ⟨p, h1, k, h2, rfl⟩ := c_line_mem hx
    have := h25 p h1
    have := hw.2.1.2.1 p this
    exact ⟨by omega, r3.is (h.2.1.1 p k (Or.inl (hw.2.2.1.1.2 p h1)) h2), hcl⟩
  obtain ⟨τ, t1, t2, t3, t4⟩ := M_findsLives_L11_s (chg := s_ch S) h144 (c_line (s_ln S) (s_or S)).length ρ (Nat.le_refl _) r2 hch (fun j x t hj hd => by
    rw [List.drop_eq_nil_of_le hj] at hd; cases hd)
  refine ⟨τ, ?_, t2, t3, r3.tr t4, h144⟩
  rw [M_findsLives_eq, r1, pd_bV_of, r2.1]
  exact t1
theorem c_div6 {x : Nat} (h : x < 150) : nI x / 6 = nI (x / 6) ∧ nI x - nI x / 6 * 6 = nI (x % 6) := by
  have : ∀ x, x < 150 → nI x / 6 = nI (x / 6) ∧ nI x - nI x / 6 * 6 = nI (x % 6) := by decide +kernel
  exact this x h
theorem M_deadOf_L8_s {chg : Nat → cC} {L : List Nat} (h144 : L.length ≤ 144) (hL : m_line σ L) (hx150 : ∀ x ∈ L, x < 150) (hlv : m_lvs σ chg L 0) {p : Nat} (hp : p < 25) : ∀ (t : List Nat) (i : Nat) (s : Int32), L.drop i = t → i ≤ L.length → M_deadOf_L8 (nI p) s (nI i) σ = some (σ, some (pd_i (s ||| c_mask chg t p))) := by
  intro t
  induction t with
  | nil =>
    intro i s ht hi
    have : L.length ≤ i := List.drop_eq_nil_iff.mp ht
    have hi : i = L.length := by omega
    rw [M_deadOf_L8_eq, hL.1, hi, decide_eq_true (nI_le (Nat.le_refl _) (by omega)), cond_true]
    show _ = some (σ, some (pd_i (s ||| 0)))
    rw [Int32.or_zero]
  | cons x t ih =>
    intro i s ht hi
    have hlt : i < L.length := by
      rcases Nat.lt_or_ge i L.length with g | g
      · exact g
      · rw [List.drop_eq_nil_of_le g] at ht; cases ht
    have hx : L[i]? = some x := by
      have := congrArg (fun z => z[0]?) ht
      simpa [List.getElem?_drop] using this
    have ht' : L.drop (i + 1) = t := by
      have := congrArg List.tail ht
      rw [List.tail_drop] at this
      exact this
    have x1 := hx150 x (List.mem_of_getElem? hx)
    have e261 : σ.1 261 i = nI x := hL.2 i x hx
    have e262 := hlv i x t (Nat.zero_le i) ht
    obtain ⟨v1, v2⟩ := c_div6 x1
    have hs0 : s ||| 0 = s := Int32.or_zero
    rw [M_deadOf_L8_eq, hL.1, decide_eq_false (nI_ge hlt (by omega)), cond_false, show pd_len 261 = 144 from rfl, pu_obN (show i < 144 by omega) (by decide), cond_false, nI_clamp (by omega), e261, v2, v1, c_beq_d (by omega) (by omega), show pd_len 262 = 144 from rfl, pu_obN (show i < 144 by omega) (by decide), cond_false, cond_false, e262, nI_1, hs0, ih (i + 1) _ ht' hlt, ih (i + 1) _ ht' hlt]
    show _ = some (σ, some (pd_i (s ||| cond (decide (c_need chg t (c_tc (chg x)) = 0) && Nat.beq (x / 6) p) (c_mask chg t p ||| c_bit x) (c_mask chg t p))))
    cases Nat.beq (x / 6) p with
    | false => rw [Bool.and_false]; rfl
    | true =>
      rw [Bool.and_true]
      cases decide (c_need chg t (c_tc (chg x)) = 0) with
      | false => rfl
      | true =>
        rw [cond_true, cond_true, cond_true, Int32.or_assoc, Int32.or_comm (c_mask chg t p)]
        rfl
theorem s_line150 (hw : s_wf S) : ∀ x ∈ c_line (s_ln S) (s_or S), x < 150 := fun x hx => by
  obtain ⟨p, h1, k, h2, rfl⟩ := c_line_mem hx
  have := s_or25 hw p h1
  have := hw.2.1.2.1 p this
  omega
theorem M_deadOf_s (hw : s_wf S) (h : RM σ S) {p : Nat} (hp : p < 25) : ∃ τ, M_deadOf (nI p) σ = some (τ, some (pd_i (c_mask (s_ch S) (c_line (s_ln S) (s_or S)) p))) ∧ m_ddK σ τ := by
  obtain ⟨τ, t1, t2, t3, t4, t5⟩ := M_findsLives_s hw h
  refine ⟨τ, ?_, t4⟩
  rw [M_deadOf_eq, t1, pd_bV_of]
  have e : M_deadOf_L8 (nI p) 0 0 τ = some (τ, some (pd_i (0 ||| c_mask (s_ch S) (c_line (s_ln S) (s_or S)) p))) := M_deadOf_L8_s t5 t2 (s_line150 hw) t3 hp _ 0 0 rfl (Nat.zero_le _)
  rw [e, Int32.zero_or]
theorem J_dead (h : JR σ S) (a : Int32) : JI (X_dead a) (M_dead a) σ := by
  have hw := h.1
  have hX := h.2.1
  rcases c_three hw a with ha | ⟨p, hp, hm, rfl⟩ | ⟨p, hm, rfl⟩
  · exact JI.same (v := -2) h (by rw [X_dead_eq, X_apErr_out h.2.1 ha]; rfl) (fun g => by rw [M_dead_eq, M_patch_0 hw g ha]; rfl)
  · exact JI.same (v := -3) h (by rw [X_dead_eq, X_apErr_no hw h.2.1 hp hm]; rfl) (fun g => by rw [M_dead_eq, M_patch_1 hw g hp, pd_bI_of, M_laid_s hw g hp, c_isn_0 hm]; rfl)
  · have hp := hw.2.2.1.1.2 p hm
    have hp25 := s_or25 hw p hm
    obtain ⟨L2, L4, L5, L6, L7, L9, L10, L12, L13, L14, L15⟩ := pu_len_run (x_run3 hX)
    refine JI.of (v := c_mask (s_ch S) (c_line (s_ln S) (s_or S)) p) h hw ?_ hX XF.rf (fun g => ?_)
    · rw [X_dead_eq, X_apErr_ok hw hX hm, pd_bI_of, decide_eq_true (rfl : (0 : Int32) = 0), cond_true, L15, pu_obN hp25 (by decide), cond_false, nI_clamp (by omega), hX.2.2.2.1.2.2 p hm]
    · obtain ⟨τ, t1, t2⟩ := M_deadOf_s hw g hp25
      refine ⟨τ, ?_, g.dd t2, t2.mf⟩
      rw [M_dead_eq, M_patch_1 hw g hp, pd_bI_of, M_laid_s hw g hp, c_isn_1 hm, decide_eq_false (by decide : ¬ (1 : Int32) = 0), cond_false, pd_bI_of, decide_eq_false (by decide : ¬ (1 : Int32) = 0), cond_false, t1]; rfl
end LIVES
