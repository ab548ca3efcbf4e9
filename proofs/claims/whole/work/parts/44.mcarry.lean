/-! Another order is tried: by the model. -/
section MCARRY
variable {σ : pd_H} {S : cS}
/-- all but the rows of the play -/
def RM0 (σ : pd_H) (S : cS) : Prop := m_sh σ S ∧ m_bk σ S ∧ (σ.1 230 21 = nI (s_or S).length ∧ m_ls (σ.1 250) (s_or S)) ∧ m_ot σ S
theorem RM.z (h : RM σ S) : RM0 σ S := ⟨h.1, h.2.1, ⟨h.2.2.1.1.1, h.2.2.1.1.2.1⟩, h.2.2.2⟩
/-- the rows of a play -/
def m_rows (σ : pd_H) (S : cS) (l : List Nat) : Prop := c_agr (c_vc (s_kd S) (s_sz S)) (fun a => a ∈ c_line (s_ln S) l) (m_R σ) (s_play S l).2 ∧ ∀ c, c < 72 → σ.1 237 c = (s_play S l).2.2.2.1 c
theorem RM0.rm (h : RM0 σ S) (g : m_rows σ S (s_or S)) : RM σ S := ⟨h.1, h.2.1, ⟨⟨h.2.2.1.1, h.2.2.1.2, g.2⟩, g.1⟩, h.2.2.2⟩
theorem m_cellsB (hw : s_wf S) (h : m_sh σ S) : c_cells (σ.1 231) (σ.1 232) (σ.1 235) (σ.2.1 236) := by
  intro j hj ha i hi hs
  have e1 := h.1 j hj
  have hsl : pu_sl (nI j) := pu_sl_of hj
  have ha' : c_arrF (s_kd S) (nI j) = 0 := by rw [c_kz_arr h.1 hsl]; exact ha
  have e2 := e1.2 ha'
  rw [← e2] at hs
  obtain ⟨g1, g2⟩ := h.2.2 (12 * j + i) ⟨j, i, hj, hi, ha', hs, rfl⟩
  rw [g1, g2, ← e1.1]
  exact hw.1.2.2 j hj ha' i hi hs
theorem m_play (hw : s_wf S) (hs : m_sh σ S) (hb : m_bk σ S) {l : List Nat} (ho : s_ord S l) (hl24 : l.length ≤ 24) (hrow : m_ls (σ.1 251) l) :
    ∃ τ, pu_fr m_doK σ τ ∧ (∀ j, j ≠ 31 → j ≠ 33 → j ≠ 34 → τ.1 230 j = σ.1 230 j) ∧ τ.1 256 = σ.1 256 ∧
      ((s_play S l).1 = none → M_plays (nI l.length) σ = some (τ, some (pd_i 0)) ∧ m_rows τ S l) ∧
      (∀ a f, (s_play S l).1 = some (a, f) → M_plays (nI l.length) σ = some (τ, some (pd_i f)) ∧ τ.1 230 33 = nI (a / 6) ∧ τ.1 230 34 = nI (a % 6)) := by
  have hpc := hw.2.1.1
  have hkM : c_kok (σ.1 231) := fun s q => by rw [← (hs.1 s q).1]; exact hw.1.1 s q
  have hch : m_chs σ (s_ln S) (s_ch S) l := fun p hp => ⟨by have := ho.2 p hp; omega, fun k hk => ⟨hb.1 p k (Or.inl (ho.2 p hp)) hk, (hw.2.1.2.2 p k (Or.inl (ho.2 p hp)) hk).1⟩⟩
  obtain ⟨τ, t1, t2, t3, t4, t5⟩ := M_plays_s (σ := σ) (len := s_ln S) (chg := s_ch S) (l := l) rfl hl24 hkM hs.2.1 hb.2.1 (fun t x q => hrow t x q) hch (m_cellsB hw hs)
  have hagr0 : c_agr (c_vc (s_kd S) (s_sz S)) (fun _ => False) (c_r0 (s_bt S) (s_bn S)) (m_init σ) := by
    refine ⟨fun c hc => ?_, fun a ha => ha.elim⟩
    have h72 := c_vc_72 hc
    obtain ⟨g1, g2⟩ := hs.2.2 c hc
    unfold m_init c_r0 pu_cp pu_cpL
    simp only [if_pos h72, g1, g2]
    exact ⟨trivial, trivial, trivial⟩
  have hok : ∀ a ∈ c_line (s_ln S) l, c_ok (s_ch S a) ∧ s_ch S a = s_ch S a := fun a ha => ⟨s_ok hw ho a ha, rfl⟩
  have hA := c_ply_agr hs.1 (fun c hc => hc) hw.1.2.1.sz (chg := s_ch S) (chg' := s_ch S) (t := c_line (s_ln S) l) hagr0 hok
  have hW := c_ply_wr hs.1 (fun c hc => hc) hw.1.2.1.sz (chg := s_ch S) (chg' := s_ch S) (t := c_line (s_ln S) l) hagr0 hok (fun c hc => by unfold m_init c_r0 pu_cp; simp only [if_pos hc])
  refine ⟨τ, t1, t2, t3, fun hn => ?_, fun a f hf => ?_⟩
  · obtain ⟨u1, u2⟩ := t4 (hA.1.symm.trans hn)
    refine ⟨u1, ?_, fun c hc => ?_⟩
    · rw [u2]
      exact ((hA.2 hn).mono (fun _ h => h) (fun a ha => Or.inr ha)).symm
    · have e : τ.1 237 = (m_R τ).2.2.1 := rfl
      rw [e, u2]
      exact (hW hn c hc).symm
  · exact t5 a f (hA.1.symm.trans hf)
/-- things of the model that a play and the tried ones use -/
def m_trK (k : Nat) : Prop := m_doK k ∨ k = 251 ∨ k = 257 ∨ k = 258
theorem RM0.fr {τ : pd_H} (h : RM0 σ S) (hf : pu_fr m_trK σ τ) (h230 : ∀ j, j = 19 ∨ j = 21 ∨ j = 25 ∨ j = 28 ∨ j = 39 → τ.1 230 j = σ.1 230 j) (h256 : τ.1 256 = σ.1 256) : RM0 τ S := by
  have e1 : ∀ k, ¬ m_trK k → τ.1 k = σ.1 k := hf.1
  have e2 : ∀ k, ¬ m_trK k → τ.2.1 k = σ.2.1 k := hf.2.1
  have nk : ∀ k, (k = 231 ∨ k = 232 ∨ k = 235 ∨ k = 236 ∨ (238 ≤ k ∧ k ≤ 244) ∨ k = 250 ∨ (252 ≤ k ∧ k ≤ 255) ∨ k = 259) → ¬ m_trK k := fun k hk => by unfold m_trK m_doK m_mvK; omega
  obtain ⟨⟨a1, a2, a3⟩, ⟨b1, b2, b3⟩, ⟨c1, c2⟩, d1, d2, d3, d4⟩ := h
  refine ⟨⟨?_, ?_, ?_⟩, ⟨?_, ?_, ?_⟩, ⟨?_, ?_⟩, ?_, ?_, ?_, ?_⟩
  · rw [e1 231 (nk _ (by omega)), e1 232 (nk _ (by omega))]; exact a1
  · rw [e1 232 (nk _ (by omega))]; exact a2
  · rw [e1 235 (nk _ (by omega)), e2 236 (nk _ (by omega))]; exact a3
  · intro p k hp hk
    have := b1 p k hp hk
    unfold m_is m_wr m_co at this ⊢
    rw [e1 238 (nk _ (by omega)), e1 239 (nk _ (by omega)), e1 240 (nk _ (by omega)), e1 241 (nk _ (by omega)), e1 242 (nk _ (by omega)), e1 243 (nk _ (by omega))]
    exact this
  · intro p hp; rw [e1 244 (nk _ (by omega))]; exact b2 p hp
  · rw [h230 19 (by omega)]; exact b3
  · rw [h230 21 (by omega)]; exact c1
  · rw [e1 250 (nk _ (by omega))]; exact c2
  · rw [h230 25 (by omega), h230 28 (by omega), e1 252 (nk _ (by omega)), e1 254 (nk _ (by omega)), e1 253 (nk _ (by omega))]; exact d1
  · rw [h230 39 (by omega), e1 259 (nk _ (by omega))]; exact d2
  · rw [e1 255 (nk _ (by omega))]; exact d3
  · rw [h256]; exact d4
theorem m_trK_in : ∀ k, m_trK k → 230 ≤ k ∧ k < 265 := fun k h => by unfold m_trK m_doK m_mvK at h; omega
theorem M_triesLaid_s {l : List Nat} (h1 : σ.1 230 21 = nI l.length) (h2 : m_ls (σ.1 250) l) (h24 : l.length ≤ 24) : ∃ τ, M_triesLaid σ = some (τ, none) ∧ τ.1 230 23 = nI l.length ∧ m_ls (τ.1 251) l ∧ pu_fr (fun k => k = 230 ∨ k = 251) σ τ ∧ (∀ j, j ≠ 23 → τ.1 230 j = σ.1 230 j) := by
  have loop : ∀ d i (ρ : pd_H), i + d = l.length → ρ.1 230 21 = nI l.length → ρ.1 250 = σ.1 250 → (∀ t x, t < i → l[t]? = some x → ρ.1 251 t = nI x) → ∃ τ, M_triesLaid_L10 (nI i) ρ = some (τ, none) ∧ m_ls (τ.1 251) l ∧ pu_fr (fun k => k = 251) ρ τ := by
    intro d
    induction d with
    | zero =>
      intro i ρ hi e1 e2 e3
      have hi : i = l.length := hi
      refine ⟨ρ, ?_, fun t x hx => e3 t x (by rw [hi]; exact (List.getElem?_eq_some_iff.mp hx).1) hx, pu_fr.rf⟩
      rw [M_triesLaid_L10_eq, e1, hi]
      simp only [nI_leI (show l.length < 2 ^ 31 by omega) (show l.length < 2 ^ 31 by omega), Nat.le_refl, decide_true, pd_bI_of, pd_bJ_of, pd_bV_of, pd_bR_of, cond_true, cond_false]
    | succ d ih =>
      intro i ρ hi e1 e2 e3
      obtain ⟨x, hx⟩ : ∃ x, l[i]? = some x := ⟨_, List.getElem?_eq_getElem (show i < l.length by omega)⟩
      obtain ⟨τ, t1, t2, t3⟩ := ih (i + 1) (pd_upI ρ 251 i (nI x)) (by omega) (by rw [pu_u1n (by decide)]; exact e1) (by rw [pu_u1n (by decide)]; exact e2) (fun t y ht hy => by
        rw [pu_u1s]
        by_cases e : t = i
        · rw [e, pk_us]; rw [e, hx] at hy; cases hy; rfl
        · rw [pk_un e]; exact e3 t y (by omega) hy)
      refine ⟨τ, ?_, t2, (pu_fr.upI (K := fun k => k = 251) rfl).tr t3⟩
      rw [M_triesLaid_L10_eq, e1]
      simp only [nI_leI (show l.length < 2 ^ 31 by omega) (show i < 2 ^ 31 by omega), show ¬ l.length ≤ i by omega, decide_false, pd_bI_of, pd_bJ_of, pd_bV_of, pd_bR_of, cond_true, cond_false, show pd_len 250 = 24 from rfl, show pd_len 251 = 24 from rfl, pu_obN (show i < 24 by omega) (show 24 < 2 ^ 31 by decide), nI_clamp (show i < 2 ^ 31 by omega), e2, h2 i x hx, nI_1]
      exact t1
  obtain ⟨τ, t1, t2, t3⟩ := loop l.length 0 (pd_upI σ 230 23 (σ.1 230 21)) (Nat.zero_add _) (by rw [pu_u1s, pk_un (by decide)]; exact h1) (by rw [pu_u1n (by decide)]) (fun t x ht _ => absurd ht (Nat.not_lt_zero t))
  refine ⟨τ, ?_, ?_, t2, (pu_fr.upI (Or.inl rfl)).tr (t3.mono fun k h => Or.inr h), fun j hj => ?_⟩
  · rw [M_triesLaid_eq]; exact t1
  · rw [t3.1 230 (by decide), pu_u1s, pk_us]; exact h1
  · rw [t3.1 230 (by decide), pu_u1s, pk_un hj]
theorem s_len24 (hw : s_wf S) {l : List Nat} (ho : s_ord S l) : l.length ≤ 24 := by
  have key : ∀ (n : Nat) (l : List Nat), l.Nodup → (∀ p ∈ l, p < n) → l.length ≤ n := by
    intro n
    induction n with
    | zero =>
      intro l _ h
      cases l with
      | nil => exact Nat.le_refl 0
      | cons a r => exact absurd (h a List.mem_cons_self) (Nat.not_lt_zero a)
    | succ n ih =>
      intro l hn h
      have h1 := ih (l.erase n) (hn.erase n) (fun p hp => by
        have h2 := (hn.mem_erase_iff).mp hp
        have h3 := h p h2.2
        have h4 := h2.1
        omega)
      by_cases hm : n ∈ l
      · rw [List.length_erase_of_mem hm] at h1; omega
      · rw [List.erase_of_not_mem hm] at h1; omega
  exact Nat.le_trans (key (s_pc S) l ho.1 ho.2) hw.2.1.1
/-- all is as it is laid -/
theorem M_playsLaid_s (hw : s_wf S) (h : RM0 σ S) : ∃ τ, M_playsLaid σ = some (τ, none) ∧ RM τ S ∧ pu_fr m_trK σ τ ∧ (∀ j, j ≠ 23 → j ≠ 31 → j ≠ 33 → j ≠ 34 → τ.1 230 j = σ.1 230 j) := by
  have ho := hw.2.2.1.1
  have h24 := s_len24 hw ho
  obtain ⟨ρ, r1, r2, r3, r4, r5⟩ := M_triesLaid_s h.2.2.1.1 h.2.2.1.2 h24
  have fr4 : pu_fr m_trK σ ρ := r4.mono (fun k hk => by unfold m_trK m_doK m_mvK; omega)
  have h0 : RM0 ρ S := h.fr fr4 (fun j hj => r5 j (by omega)) (r4.1 256 (by decide))
  obtain ⟨τ, t1, t2, t3, t4, -⟩ := m_play hw h0.1 h0.2.1 ho h24 r3
  obtain ⟨u1, u2⟩ := t4 hw.2.2.2.1
  have fr1 : pu_fr m_trK ρ τ := t1.mono (fun k hk => Or.inl hk)
  refine ⟨τ, ?_, (h0.fr fr1 (fun j hj => t2 j (by omega) (by omega) (by omega)) t3).rm u2, fr4.tr fr1, fun j a1 a2 a3 a4 => (t2 j a2 a3 a4).trans (r5 j a1)⟩
  rw [M_playsLaid_eq, r1, pd_bV_of, show ρ.1 230 21 = nI (s_or S).length from h0.2.2.1.1, u1]
  rfl
theorem M_fails_s (h : RM σ S) (a b c : Int32) : ∃ τ, M_fails a b c σ = some (τ, some (pd_i (-10 - c))) ∧ RM τ (s_ft S (a, b, c)) ∧ MF σ τ := by
  have fr : pu_fr (fun k => k = 255) σ (pd_upI (pd_upI (pd_upI σ 255 0 a) 255 1 b) 255 2 c) := ((pu_fr.upI (K := fun k => k = 255) rfl).tr (pu_fr.upI (K := fun k => k = 255) rfl)).tr (pu_fr.upI (K := fun k => k = 255) rfl)
  refine ⟨pd_upI (pd_upI (pd_upI σ 255 0 a) 255 1 b) 255 2 c, ?_, ?_, MF.of fr (fun k hk => by omega)⟩
  · rw [M_fails_eq, M_refused_s]; rfl
  · have e1 : ∀ k, k ≠ 255 → (pd_upI (pd_upI (pd_upI σ 255 0 a) 255 1 b) 255 2 c).1 k = σ.1 k := fun k hk => by rw [pu_u1n hk, pu_u1n hk, pu_u1n hk]
    obtain ⟨⟨a1, a2, a3⟩, ⟨b1, b2, b3⟩, ⟨⟨c1, c2⟩, c3⟩, d1, d2, d3, d4⟩ := h
    refine ⟨⟨?_, ?_, ?_⟩, ⟨?_, ?_, ?_⟩, ⟨⟨?_, ?_⟩, ?_⟩, ?_, ?_, ⟨?_, ?_, ?_⟩, ?_⟩
    · rw [e1 231 (by decide), e1 232 (by decide)]; exact a1
    · rw [e1 232 (by decide)]; exact a2
    · rw [e1 235 (by decide)]; exact a3
    · intro p k hp hk
      have := b1 p k hp hk
      unfold m_is m_wr m_co at this ⊢
      rw [e1 238 (by decide), e1 239 (by decide), e1 240 (by decide), e1 241 (by decide), e1 242 (by decide), e1 243 (by decide)]
      exact this
    · intro p hp; rw [e1 244 (by decide)]; exact b2 p hp
    · rw [e1 230 (by decide)]; exact b3
    · rw [e1 230 (by decide)]; exact c1
    · rw [e1 250 (by decide), e1 237 (by decide)]; exact c2
    · have : m_R (pd_upI (pd_upI (pd_upI σ 255 0 a) 255 1 b) 255 2 c) = m_R σ := by
        unfold m_R
        rw [e1 233 (by decide), e1 237 (by decide), e1 247 (by decide), e1 245 (by decide), e1 249 (by decide)]
        rfl
      rw [this]; exact c3
    · rw [e1 230 (by decide), e1 252 (by decide), e1 254 (by decide), e1 253 (by decide)]; exact d1
    · rw [e1 230 (by decide), e1 259 (by decide)]; exact d2
    · rw [pu_u1s, pk_un (by decide), pu_u1s, pk_un (by decide), pu_u1s, pk_us]; rfl
    · rw [pu_u1s, pk_un (by decide), pu_u1s, pk_us]; rfl
    · rw [pu_u1s, pk_us]; rfl
    · rw [e1 256 (by decide)]; exact d4
end MCARRY
