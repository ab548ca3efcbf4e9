/-! What is tried, in both. -/
section TRIED
variable {σ : pd_H} {S : cS}
/-- the model tries this -/
def m_td (σ : pd_H) (l : List Nat) : Prop := σ.1 230 23 = nI l.length ∧ m_ls (σ.1 251) l
def m_tdK (σ τ : pd_H) : Prop := pu_fr (fun k => k = 230 ∨ k = 251) σ τ ∧ ∀ j, j ≠ 23 → τ.1 230 j = σ.1 230 j
theorem m_tdK.rf : m_tdK σ σ := ⟨pu_fr.rf, fun _ _ => rfl⟩
theorem m_tdK.tr {τ υ : pd_H} (h : m_tdK σ τ) (g : m_tdK τ υ) : m_tdK σ υ := ⟨h.1.tr g.1, fun j hj => (g.2 j hj).trans (h.2 j hj)⟩
theorem m_tdK.u1 {i : Nat} {x : Int32} : m_tdK σ (pd_upI σ 251 i x) := ⟨pu_fr.upI (Or.inr rfl), fun j _ => by rw [pu_u1n (by decide)]⟩
theorem m_tdK.u2 {x : Int32} : m_tdK σ (pd_upI σ 230 23 x) := ⟨pu_fr.upI (Or.inl rfl), fun j hj => by rw [pu_u1s, pk_un hj]⟩
theorem m_tdK.mf {τ : pd_H} (h : m_tdK σ τ) : MF σ τ := MF.of h.1 (fun k hk => by omega)
theorem RM.td {τ : pd_H} (h : RM σ S) (g : m_tdK σ τ) : RM τ S := by
  have e1 : ∀ k, k ≠ 230 → k ≠ 251 → τ.1 k = σ.1 k := fun k h1 h2 => g.1.1 k (by omega)
  have e2 : ∀ k, k ≠ 230 → k ≠ 251 → τ.2.1 k = σ.2.1 k := fun k h1 h2 => g.1.2.1 k (by omega)
  obtain ⟨⟨a1, a2, a3⟩, ⟨b1, b2, b3⟩, ⟨⟨c1, c2⟩, c3⟩, d1, d2, d3, d4⟩ := h
  refine ⟨⟨?_, ?_, ?_⟩, ⟨?_, ?_, ?_⟩, ⟨⟨?_, ?_⟩, ?_⟩, ?_, ?_, ?_, ?_⟩
  · rw [e1 231 (by decide) (by decide), e1 232 (by decide) (by decide)]; exact a1
  · rw [e1 232 (by decide) (by decide)]; exact a2
  · rw [e1 235 (by decide) (by decide), e2 236 (by decide) (by decide)]; exact a3
  · intro p k hp hk
    have := b1 p k hp hk
    unfold m_is m_wr m_co at this ⊢
    rw [e1 238 (by decide) (by decide), e1 239 (by decide) (by decide), e1 240 (by decide) (by decide), e1 241 (by decide) (by decide), e1 242 (by decide) (by decide), e1 243 (by decide) (by decide)]
    exact this
  · intro p hp; rw [e1 244 (by decide) (by decide)]; exact b2 p hp
  · rw [g.2 19 (by decide)]; exact b3
  · rw [g.2 21 (by decide)]; exact c1
  · rw [e1 250 (by decide) (by decide), e1 237 (by decide) (by decide)]; exact c2
  · have : m_R τ = m_R σ := by
      unfold m_R
      rw [e1 233 (by decide) (by decide), e2 234 (by decide) (by decide), e1 237 (by decide) (by decide), e1 247 (by decide) (by decide), e2 248 (by decide) (by decide), e1 245 (by decide) (by decide), e2 246 (by decide) (by decide), e1 249 (by decide) (by decide)]
    rw [this]; exact c3
  · rw [g.2 25 (by decide), g.2 28 (by decide), e1 252 (by decide) (by decide), e1 254 (by decide) (by decide), e1 253 (by decide) (by decide)]; exact d1
  · rw [g.2 39 (by decide), e1 259 (by decide) (by decide)]; exact d2
  · rw [e1 255 (by decide) (by decide)]; exact d3
  · rw [e1 256 (by decide) (by decide)]; exact d4
theorem m_td.push {l : List Nat} (h : m_td σ l) (hl : l.length < 24) (p : Nat) : m_td (pd_upI (pd_upI σ 251 l.length (nI p)) 230 23 (nI (l.length + 1))) (l ++ [p]) := by
  refine ⟨?_, fun i x hx => ?_⟩
  · rw [pu_u1s, pk_us, List.length_append, List.length_singleton]
  · rw [pu_u1n (by decide), pu_u1s]
    rw [List.getElem?_append] at hx
    by_cases hi : i < l.length
    · rw [if_pos hi] at hx
      rw [pk_un (by omega)]
      exact h.2 i x hx
    · rw [if_neg hi] at hx
      rcases Nat.eq_or_lt_of_le (Nat.not_lt.mp hi) with e | e
      · subst e
        rw [Nat.sub_self] at hx
        rw [pk_us]
        cases hx; rfl
      · rw [List.getElem?_eq_none (by simp only [List.length_singleton]; omega)] at hx
        cases hx
theorem c_rm_c {x p : Nat} {m : List Nat} : c_rm (x :: m) p = cond (Nat.beq x p) (c_rm m p) (x :: c_rm m p) := by
  unfold c_rm
  cases h : Nat.beq x p with
  | true => rw [List.filter_cons_of_neg (by rw [h]; decide)]; rfl
  | false => rw [List.filter_cons_of_pos (by rw [h]; rfl)]; rfl
theorem M_triesWithout_s {l : List Nat} (h1 : σ.1 230 21 = nI l.length) (h2 : m_ls (σ.1 250) l) (h24 : l.length ≤ 24) (h31 : ∀ x ∈ l, x < 2 ^ 31) {p : Nat} (hp : p < 2 ^ 31) : ∃ τ, M_triesWithout (nI p) σ = some (τ, none) ∧ m_td τ (c_rm l p) ∧ m_tdK σ τ := by
  have loop : ∀ (m : List Nat) (i : Nat) (acc : List Nat) (ρ : pd_H), i + m.length = l.length → acc.length ≤ i → m_td ρ acc → ρ.1 230 21 = nI l.length → ρ.1 250 = σ.1 250 → (∀ t x, m[t]? = some x → l[i + t]? = some x) → ∃ τ, M_triesWithout_L7 (nI p) (nI i) ρ = some (τ, none) ∧ m_td τ (acc ++ c_rm m p) ∧ m_tdK ρ τ := by
    intro m
    induction m with
    | nil =>
      intro i acc ρ hi ha e1 e2 e3 _
      have hi : i = l.length := hi
      refine ⟨ρ, ?_, ?_, m_tdK.rf⟩
      · rw [M_triesWithout_L7_eq, e2, hi]
        simp only [nI_leI (show l.length < 2 ^ 31 by omega) (show l.length < 2 ^ 31 by omega), Nat.le_refl, decide_true, pd_bI_of, pd_bJ_of, pd_bV_of, pd_bR_of, cond_true, cond_false]
      · show m_td ρ (acc ++ [])
        rw [List.append_nil]; exact e1
    | cons y m ih =>
      intro i acc ρ hi ha e1 e2 e3 hm
      have hi : i + (m.length + 1) = l.length := hi
      have hy : l[i]? = some y := by have := hm 0 y rfl; rwa [Nat.add_zero] at this
      have hy31 := h31 y (List.mem_of_getElem? hy)
      have hmt : ∀ t x, m[t]? = some x → l[i + 1 + t]? = some x := fun t x h => by
        rw [show i + 1 + t = i + (t + 1) by omega]; exact hm (t + 1) x h
      have e250 : ρ.1 250 i = nI y := by rw [e3]; exact h2 i y hy
      rw [M_triesWithout_L7_eq, e2]
      simp only [nI_leI (show l.length < 2 ^ 31 by omega) (show i < 2 ^ 31 by omega), show ¬ l.length ≤ i by omega, decide_false, pd_bI_of, pd_bJ_of, pd_bV_of, pd_bR_of, cond_true, cond_false, show pd_len 250 = 24 from rfl, show pd_len 251 = 24 from rfl, pu_obN (show i < 24 by omega) (show 24 < 2 ^ 31 by decide), nI_clamp (show i < 2 ^ 31 by omega), e250, e1.1, pu_obN (show acc.length < 24 by omega) (show 24 < 2 ^ 31 by decide), nI_clamp (show acc.length < 2 ^ 31 by omega), pu_u1n (show 230 ≠ 251 by decide), nI_1]
      rw [c_rm_c]
      by_cases e : y = p
      · subst e
        rw [decide_eq_true rfl, cond_true, Nat.beq_refl, cond_true]
        exact ih (i + 1) acc ρ (by omega) (by omega) e1 e2 e3 hmt
      · have hb : Nat.beq y p = false := by
          cases hb : Nat.beq y p with
          | false => rfl
          | true => exact absurd (Nat.eq_of_beq_eq_true hb) e
        have hne : ¬ nI y = nI p := by rw [nI_eq hy31 hp]; exact e
        rw [decide_eq_false hne, cond_false, hb, cond_false]
        obtain ⟨τ, t1, t2, t3⟩ := ih (i + 1) (acc ++ [y]) (pd_upI (pd_upI ρ 251 acc.length (nI y)) 230 23 (nI (acc.length + 1))) (by omega) (by rw [List.length_append, List.length_singleton]; omega) (e1.push (by omega) y) (by rw [pu_u1s, pk_un (by decide), pu_u1n (by decide)]; exact e2) (by rw [pu_u1n (by decide), pu_u1n (by decide)]; exact e3) hmt
        refine ⟨τ, t1, ?_, (m_tdK.u1.tr m_tdK.u2).tr t3⟩
        rw [List.append_assoc] at t2
        exact t2
  obtain ⟨τ, t1, t2, t3⟩ := loop l 0 [] (pd_upI σ 230 23 0) (Nat.zero_add _) (Nat.le_refl 0) ⟨by rw [pu_u1s, pk_us]; rfl, fun i x hx => by cases hx⟩ (by rw [pu_u1s, pk_un (by decide)]; exact h1) (by rw [pu_u1n (by decide)]) (fun t x hx => by rw [Nat.zero_add]; exact hx)
  exact ⟨τ, by rw [M_triesWithout_eq]; exact t1, t2, m_tdK.u2.tr t3⟩
/-- the desk's trial's order -/
def x_td (σ : pd_H) (l : List Nat) : Prop := pu_seq σ (σ.2.2 1 + 1) l
theorem x_trl (h : RX σ S) : pd_len (σ.2.2 1 + 1 + 1) = 24 ∧ pd_len (σ.2.2 0 + 1 + 1) = 24 ∧ σ.2.2 0 + 1 ≠ σ.2.2 1 + 1 ∧ σ.2.2 0 + 1 + 1 ≠ σ.2.2 1 + 1 := by
  obtain ⟨L2, -⟩ := pu_len_run (x_run3 h)
  obtain ⟨L2', -⟩ := pu_len_run (x_tr3 h)
  have := x_run h
  exact ⟨L2', L2, by omega, by omega⟩
theorem RX_td {τ : pd_H} (hw : s_wf S) (h : RX σ S) (hf : pu_fr (fun k => k = σ.2.2 1 + 1 ∨ k = σ.2.2 1 + 1 + 1) σ τ) : RX τ S ∧ XF σ τ := by
  have := x_run h
  exact ⟨RX_frK hw h (hf.mono fun k hk => by unfold x_frK; omega), XF.of hf (fun k hk => by omega)⟩
theorem X_tr_like (hw : s_wf S) (h : RX σ S) {o : Nat} {l : List Nat} (hl : pu_seq σ o l) (ho : pd_len (o + 1) = 24) (h1 : o < 32 ∨ o = σ.2.2 0 + 1) : ∃ τ, Seq_becomeLike (σ.2.2 1 + 1) o σ = some (τ, none) ∧ x_td τ l ∧ RX τ S ∧ XF σ τ ∧ τ.2.2 = σ.2.2 := by
  obtain ⟨L1, L2, n1, n2⟩ := x_trl h
  have := x_run h
  obtain ⟨τ, t1, t2, t3⟩ := Seq_becomeLike_s (o := σ.2.2 1 + 1) (a := o) hl L1 ho (by omega) (by omega)
  obtain ⟨g1, g2⟩ := RX_td hw h t3
  refine ⟨τ, t1, ?_, g1, g2, t3.2.2⟩
  unfold x_td; rw [t3.2.2]; exact t2
theorem X_tr_add (hw : s_wf S) (h : RX σ S) {l : List Nat} (hl : x_td σ l) (h24 : l.length < 24) (p : Nat) : ∃ τ, Seq_append (σ.2.2 1 + 1) (nI p) σ = some (τ, none) ∧ x_td τ (l ++ [p]) ∧ RX τ S ∧ XF σ τ ∧ τ.2.2 = σ.2.2 := by
  obtain ⟨L1, L2, n1, n2⟩ := x_trl h
  obtain ⟨τ, t1, t2, t3⟩ := Seq_append_s hl L1 p h24
  obtain ⟨g1, g2⟩ := RX_td hw h t3
  refine ⟨τ, t1, ?_, g1, g2, t3.2.2⟩
  unfold x_td; rw [t3.2.2]; exact t2
theorem X_tr_rm (hw : s_wf S) (h : RX σ S) {l : List Nat} (hl : x_td σ l) {p : Nat} (hp : p < 2 ^ 31) (h31 : ∀ x ∈ l, x < 2 ^ 31) : ∃ τ, Seq_remove (σ.2.2 1 + 1) (nI p) σ = some (τ, none) ∧ x_td τ (c_rm l p) ∧ RX τ S ∧ XF σ τ ∧ τ.2.2 = σ.2.2 := by
  obtain ⟨L1, L2, n1, n2⟩ := x_trl h
  obtain ⟨τ, t1, t2, t3⟩ := Seq_remove_s hl L1 hp h31
  obtain ⟨g1, g2⟩ := RX_td hw h t3
  refine ⟨τ, t1, ?_, g1, g2, t3.2.2⟩
  unfold x_td; rw [t3.2.2]; exact t2
/-! one taken out; one put on top -/
theorem c_rm_mem {l : List Nat} {p x : Nat} : x ∈ c_rm l p ↔ x ∈ l ∧ x ≠ p := by
  unfold c_rm
  rw [List.mem_filter]
  refine and_congr_right fun _ => ⟨fun h e => ?_, fun h => ?_⟩
  · rw [e, Nat.beq_refl] at h; cases h
  · cases hb : Nat.beq x p with
    | false => rfl
    | true => exact absurd (Nat.eq_of_beq_eq_true hb) h
theorem s_ord_rm {l : List Nat} (h : s_ord S l) (p : Nat) : s_ord S (c_rm l p) := ⟨h.1.filter _, fun x hx => h.2 x (c_rm_mem.mp hx).1⟩
theorem s_ord_add {l : List Nat} (h : s_ord S l) {p : Nat} (hp : p < s_pc S) (hn : p ∉ l) : s_ord S (l ++ [p]) := by
  refine ⟨?_, fun x hx => ?_⟩
  · rw [List.nodup_append]
    exact ⟨h.1, List.pairwise_singleton _ _, fun a ha b hb e => by
      rw [List.mem_singleton] at hb
      rw [hb] at e
      rw [e] at ha
      exact hn ha⟩
  · rw [List.mem_append, List.mem_singleton] at hx
    rcases hx with h1 | h1
    · exact h.2 x h1
    · rw [h1]; exact hp
theorem s_add24 (hw : s_wf S) {l : List Nat} (h : s_ord S l) {p : Nat} (hp : p < s_pc S) (hn : p ∉ l) : l.length < 24 := by
  have := s_len24 hw (s_ord_add h hp hn)
  rw [List.length_append, List.length_singleton] at this
  omega
end TRIED
