/-! The model takes what is tried, whole. -/
section TAKES2
variable {σ : pd_H} {S : cS}
def RM1 (σ : pd_H) (S : cS) : Prop := m_sh σ S ∧ m_bk σ S ∧ m_ot σ S
def m_t2K (k : Nat) : Prop := m_trK k ∨ k = 250
theorem RM1.fr {τ : pd_H} (h : RM1 σ S) (hf : pu_fr m_t2K σ τ) (h230 : ∀ j, j = 19 ∨ j = 25 ∨ j = 28 ∨ j = 39 → τ.1 230 j = σ.1 230 j) (h256 : τ.1 256 = σ.1 256) : RM1 τ S := by
  have e1 : ∀ k, ¬ m_t2K k → τ.1 k = σ.1 k := hf.1
  have e2 : ∀ k, ¬ m_t2K k → τ.2.1 k = σ.2.1 k := hf.2.1
  have nk : ∀ k, (k = 231 ∨ k = 232 ∨ k = 235 ∨ k = 236 ∨ (238 ≤ k ∧ k ≤ 244) ∨ (252 ≤ k ∧ k ≤ 255) ∨ k = 259) → ¬ m_t2K k := fun k hk => by unfold m_t2K m_trK m_doK m_mvK; omega
  obtain ⟨⟨a1, a2, a3⟩, ⟨b1, b2, b3⟩, d1, d2, d3, d4⟩ := h
  refine ⟨⟨?_, ?_, ?_⟩, ⟨?_, ?_, ?_⟩, ?_, ?_, ?_, ?_⟩
  · rw [e1 231 (nk _ (by omega)), e1 232 (nk _ (by omega))]; exact a1
  · rw [e1 232 (nk _ (by omega))]; exact a2
  · rw [e1 235 (nk _ (by omega)), e2 236 (nk _ (by omega))]; exact a3
  · intro p k hp hk
    have := b1 p k hp hk
    unfold m_is m_wr m_co at this ⊢
    rw [e1 238 (nk _ (by omega)), e1 239 (nk _ (by omega)), e1 240 (nk _ (by omega)), e1 241 (nk _ (by omega)), e1 242 (nk _ (by omega)), e1 243 (nk _ (by omega))]
    exact this
  · intro p hp; rw [e1 244 (nk _ (by omega))]; exact b2 p hp
  · rw [h230 19 (by omega)]; exact b3
  · rw [h230 25 (by omega), h230 28 (by omega), e1 252 (nk _ (by omega)), e1 254 (nk _ (by omega)), e1 253 (nk _ (by omega))]; exact d1
  · rw [h230 39 (by omega), e1 259 (nk _ (by omega))]; exact d2
  · rw [e1 255 (nk _ (by omega))]; exact d3
  · rw [h256]; exact d4
theorem RM.o (h : RM σ S) : RM1 σ S := ⟨h.1, h.2.1, h.2.2.2⟩
theorem m_t2K_in : ∀ k, m_t2K k → 230 ≤ k ∧ k < 265 := fun k h => by unfold m_t2K m_trK m_doK m_mvK at h; omega
/-- the order of the patches, and the rows of its play -/
theorem RM1.rm (h : RM1 σ S) {l un : List Nat} (hu : un = s_un S) (h1 : σ.1 230 21 = nI l.length) (h2 : m_ls (σ.1 250) l) (g : m_rows σ S l) : RM σ (s_to S l un) := by
  subst hu
  exact ⟨h.1, h.2.1, ⟨⟨h1, h2, g.2⟩, g.1⟩, h.2.2⟩
theorem takes_pre (h : RM σ S) : ∃ E, M_takesTried σ = M_takesTried_L2 (nI 150) none none none E ∧ pu_fr (fun k => k = 257 ∨ k = 258) σ E ∧ (∀ a, a < 150 → E.1 257 a = σ.1 245 a) ∧ (∀ a, a < 150 → E.2.1 258 a = σ.2.1 246 a) := by
  have e := M_takes_L2_s (σ := σ) 150 0 none none none rfl
  rw [pu_cp0, pu_cpL0] at e
  have e0 : pu_rwJ (pu_rwI σ 257 (σ.1 257)) 258 (σ.2.1 258) = σ := by
    refine pu_H_ext (fun k => ?_) (fun k => ?_) rfl
    · by_cases h1 : k = 257
      · subst h1; rw [pu_x1, pu_w1s]
      · rw [pu_x1, pu_w1n h1]
    · by_cases h1 : k = 258
      · subst h1; rw [pu_x2s]
      · rw [pu_x2n h1, pu_w2]
  rw [e0] at e
  refine ⟨_, by rw [M_takesTried_eq]; exact e, (pu_fr.rwI (K := fun k => k = 257 ∨ k = 258) (Or.inl rfl)).tr (pu_fr.rwJ (K := fun k => k = 257 ∨ k = 258) (Or.inr rfl)), fun a ha => ?_, fun a ha => ?_⟩
  · rw [pu_x1, pu_w1s]; exact if_pos ha
  · rw [pu_x2s]; exact if_pos ha
theorem M_takesTried_ok (hw : s_wf S) (h : RM σ S) {l : List Nat} (ht1 : σ.1 230 23 = nI l.length) (ht2 : m_ls (σ.1 251) l) (ho : s_ord S l) (hn : (s_play S l).1 = none) : ∃ τ, M_takesTried σ = some (τ, some (pd_i 0)) ∧ RM τ (s_to S l (s_un S)) ∧ MF σ τ ∧ τ.1 230 37 = c_moved S l := by
  obtain ⟨E, g1, g2, g3, g4⟩ := takes_pre h
  have hpc := hw.2.1.1
  have hlen24 := s_len24 hw ho
  have hor := hw.2.2.1.1
  have frE : pu_fr m_t2K σ E := g2.mono (fun k hk => by unfold m_t2K m_trK; omega)
  have h0 : RM1 E S := h.o.fr frE (fun j _ => by rw [g2.1 230 (by decide)]) (g2.1 256 (by decide))
  have t251 : m_ls (E.1 251) l := by rw [g2.1 251 (by decide)]; exact ht2
  obtain ⟨ρ, t1, t2, t3, t4, -⟩ := m_play hw h0.1 h0.2.1 ho hlen24 t251
  obtain ⟨u1, u2⟩ := t4 hn
  have k250 : ρ.1 250 = σ.1 250 := by rw [t1.1 250 (by unfold m_doK m_mvK; omega), g2.1 250 (by decide)]
  have k251 : ρ.1 251 = σ.1 251 := by rw [t1.1 251 (by unfold m_doK m_mvK; omega), g2.1 251 (by decide)]
  have k21 : ρ.1 230 21 = nI (s_or S).length := by rw [t2 21 (by decide) (by decide) (by decide), g2.1 230 (by decide)]; exact h.2.2.1.1.1
  have hρlen : m_lens ρ (s_ln S) := fun p hp => by rw [t1.1 244 (by unfold m_doK m_mvK; omega)]; exact h0.2.1.2.1 p hp
  obtain ⟨d2', e85⟩ := M_takes_L85_s (len := s_ln S) (n := l.length) (l := l) (or := s_or S) rfl hlen24 (s_len24 hw hor) (fun x hx => by have := hor.2 x hx; omega) (fun x hx => by have := ho.2 x hx; omega) l 0 (some (pd_i 0)) none (pd_upI ρ 230 37 0) (Nat.zero_add _) (fun t x q => by rw [Nat.zero_add]; exact q) (fun p hp => by rw [pu_u1n (by decide)]; exact hρlen p hp) (by rw [pu_u1n (by decide), k251]; exact ht2) (by rw [pu_u1n (by decide), k250]; exact h.2.2.1.1.2.1) (by rw [pu_u1s, pk_un (by decide)]; exact k21)
  have hmv : c_mv ((pd_upI ρ 230 37 0).1 245) ((pd_upI ρ 230 37 0).1 257) ((pd_upI ρ 230 37 0).2.1 246) ((pd_upI ρ 230 37 0).2.1 258) (s_ln S) (s_or S) l ((pd_upI ρ 230 37 0).1 230 37) = c_moved S l := by
    rw [pu_u1n (by decide), pu_u1n (by decide), pu_u1s, pk_us, pu_u2]
    unfold c_moved
    refine c_mv_congr (fun q hq hq' a ha => ?_)
    obtain ⟨j, j1, j2, rfl⟩ := c_blk_mem ha
    have hq25 := ho.2 q hq
    have hl6 := hw.2.1.2.1 q (by omega)
    have a150 : 6 * q + j < 150 := by omega
    have n1 := u2.1.2 (6 * q + j) (c_blk_line hq ha)
    have n2 := h.2.2.1.2.2 (6 * q + j) (c_blk_line hq' ha)
    refine ⟨n1.2.2.1, ?_, n1.2.2.2.1, ?_⟩
    · rw [t1.1 257 (by unfold m_doK m_mvK; omega), g3 _ a150]; exact n2.2.2.1
    · rw [t1.2.1 258 (by unfold m_doK m_mvK; omega), g4 _ a150]; exact n2.2.2.2.1
  rw [hmv] at e85
  generalize hρ2 : pd_upI (pd_upI (pd_upI ρ 230 37 0) 230 37 (c_moved S l)) 230 21 (nI l.length) = ρ2 at e85
  have fr2 : pu_fr (fun k => k = 230) ρ ρ2 := by
    rw [← hρ2]
    exact ((pu_fr.upI (K := fun k => k = 230) rfl).tr (pu_fr.upI (K := fun k => k = 230) rfl)).tr (pu_fr.upI (K := fun k => k = 230) rfl)
  have f230 : ∀ j, j ≠ 37 → j ≠ 21 → ρ2.1 230 j = ρ.1 230 j := fun j j1 j2 => by rw [← hρ2, pu_u1s, pk_un j2, pu_u1s, pk_un j1, pu_u1s, pk_un j1]
  obtain ⟨τ, v1, v2, v3⟩ := M_takes_L139_s (n := l.length) (l := l) rfl hlen24 l.length 0 d2' none ρ2 (Nat.zero_add _) (by rw [fr2.1 251 (by decide), k251]; exact ht2) (fun t x q => absurd q (Nat.not_lt_zero t))
  have frAll : pu_fr m_t2K E τ := ((t1.mono (L := m_t2K) fun k hk => Or.inl (Or.inl hk)).tr (fr2.mono (L := m_t2K) fun k hk => by subst hk; unfold m_t2K m_trK m_doK m_mvK; omega)).tr (v3.mono (L := m_t2K) fun k hk => Or.inr hk)
  have h230 : ∀ j, j ≠ 31 → j ≠ 33 → j ≠ 34 → j ≠ 37 → j ≠ 21 → τ.1 230 j = E.1 230 j := fun j j1 j2 j3 j4 j5 => by
    rw [v3.1 230 (by decide), f230 j j4 j5, t2 j j1 j2 j3]
  have h256 : τ.1 256 = E.1 256 := by rw [v3.1 256 (by decide), fr2.1 256 (by decide), t3]
  refine ⟨τ, ?_, ?_, MF.of (frE.tr frAll) m_t2K_in, ?_⟩
  · rw [g1, M_takesTried_L2_eq, show (150 : Int32) = nI 150 from rfl, decide_eq_true (nI_le (Nat.le_refl 150) (by decide)), cond_true, show E.1 230 23 = nI l.length by rw [g2.1 230 (by decide)]; exact ht1, u1, pd_bI_of, decide_eq_true (by decide : (0 : Int32) ≤ 0), cond_true]
    have e85' : M_takesTried_L85 (nI l.length) (some (pd_i 0)) 0 none (pd_upI ρ 230 37 0) = M_takesTried_L139 (nI l.length) d2' 0 none ρ2 := e85
    rw [e85']
    exact v1
  · refine (h0.fr frAll (fun j hj => h230 j (by omega) (by omega) (by omega) (by omega) (by omega)) h256).rm rfl ?_ v2 ?_
    · rw [v3.1 230 (by decide), ← hρ2, pu_u1s, pk_us]
    · have eR : m_R τ = m_R ρ := by
        unfold m_R
        rw [v3.1 233 (by decide), v3.2.1 234 (by decide), v3.1 237 (by decide), v3.1 247 (by decide), v3.2.1 248 (by decide), v3.1 245 (by decide), v3.2.1 246 (by decide), v3.1 249 (by decide), fr2.1 233 (by decide), fr2.2.1 234 (by decide), fr2.1 237 (by decide), fr2.1 247 (by decide), fr2.2.1 248 (by decide), fr2.1 245 (by decide), fr2.2.1 246 (by decide), fr2.1 249 (by decide)]
      refine ⟨by rw [eR]; exact u2.1, fun c hc => ?_⟩
      rw [v3.1 237 (by decide), fr2.1 237 (by decide)]
      exact u2.2 c hc
  · rw [v3.1 230 (by decide), ← hρ2, pu_u1s, pk_un (by decide), pu_u1s, pk_us]
theorem M_takesTried_no (hw : s_wf S) (h : RM σ S) {l : List Nat} (ht1 : σ.1 230 23 = nI l.length) (ht2 : m_ls (σ.1 251) l) (ho : s_ord S l) {a : Nat} {f : Int32} (hf : (s_play S l).1 = some (a, f)) : ∃ τ, M_takesTried σ = some (τ, some (pd_i (-10 - f))) ∧ RM τ (s_ft S (nI (a / 6), nI (a % 6), f)) ∧ MF σ τ := by
  obtain ⟨E, g1, g2, -, -⟩ := takes_pre h
  have hlen24 := s_len24 hw ho
  have frE : pu_fr m_trK σ E := g2.mono (fun k hk => by unfold m_trK; omega)
  have h0 : RM0 E S := h.z.fr frE (fun j _ => by rw [g2.1 230 (by decide)]) (g2.1 256 (by decide))
  have t251 : m_ls (E.1 251) l := by rw [g2.1 251 (by decide)]; exact ht2
  obtain ⟨ρ, t1, t2, t3, -, t5⟩ := m_play hw h0.1 h0.2.1 ho hlen24 t251
  obtain ⟨u1, u2, u3⟩ := t5 a f hf
  have fr1 : pu_fr m_trK E ρ := t1.mono (fun k hk => Or.inl hk)
  have hρ : RM0 ρ S := h0.fr fr1 (fun j hj => t2 j (by omega) (by omega) (by omega)) t3
  obtain ⟨υ, v1, v2, v3, -⟩ := M_playsLaid_s hw hρ
  obtain ⟨τ, w1, w2, w3⟩ := M_fails_s v2 (nI (a / 6)) (nI (a % 6)) f
  obtain ⟨hne, hrng, -⟩ := c_ply_ne hf
  refine ⟨τ, ?_, w2, (MF.of ((frE.tr fr1).tr v3) m_trK_in).tr w3⟩
  rw [g1, M_takesTried_L2_eq, show (150 : Int32) = nI 150 from rfl, decide_eq_true (nI_le (Nat.le_refl 150) (by decide)), cond_true, show E.1 230 23 = nI l.length by rw [g2.1 230 (by decide)]; exact ht1, u1, pd_bI_of, c_rng_le hrng, decide_eq_false hne, cond_false, v1, pd_bV_of, u2, u3, w1]
  rfl
theorem c_err_neg {f : Int32} (h : c_rng f) : decide (0 ≤ -10 - f) = false ∧ decide (-10 - f = 0) = false ∧ -10 - f ≠ 0 := by
  obtain ⟨g, h1, rfl⟩ := h
  have : ∀ g, g < 6 → decide (0 ≤ -10 - nI g) = false ∧ decide (-10 - nI g = 0) = false ∧ -10 - nI g ≠ 0 := by decide +kernel
  exact this g h1
/-- the undone ones are none then -/
def m_un0 (σ : pd_H) (v : Int32) : pd_H := pd_upI σ 230 25 v
theorem RM.un0 {l : List Nat} (h : RM σ (s_to S l (s_un S))) : RM (pd_upI σ 230 25 0) (s_to S l []) := by
  obtain ⟨⟨a1, a2, a3⟩, ⟨b1, b2, b3⟩, ⟨⟨c1, c2⟩, c3⟩, d1, d2, d3, d4⟩ := h
  have e1 : ∀ k, k ≠ 230 → (pd_upI σ 230 25 0).1 k = σ.1 k := fun k hk => pu_u1n hk
  refine ⟨⟨?_, ?_, ?_⟩, ⟨?_, ?_, ?_⟩, ⟨⟨?_, ?_⟩, ?_⟩, ⟨?_, fun i x q => (by cases q), ?_, ?_⟩, ?_, ?_, ?_⟩
  · rw [e1 231 (by decide), e1 232 (by decide)]; exact a1
  · rw [e1 232 (by decide)]; exact a2
  · rw [e1 235 (by decide)]; exact a3
  · intro p k hp hk
    have := b1 p k hp hk
    unfold m_is m_wr m_co at this ⊢
    rw [e1 238 (by decide), e1 239 (by decide), e1 240 (by decide), e1 241 (by decide), e1 242 (by decide), e1 243 (by decide)]
    exact this
  · intro p hp; rw [e1 244 (by decide)]; exact b2 p hp
  · rw [pu_u1s, pk_un (by decide)]; exact b3
  · rw [pu_u1s, pk_un (by decide)]; exact c1
  · rw [e1 250 (by decide), e1 237 (by decide)]; exact c2
  · have : m_R (pd_upI σ 230 25 0) = m_R σ := by
      unfold m_R
      rw [e1 233 (by decide), e1 237 (by decide), e1 247 (by decide), e1 245 (by decide), e1 249 (by decide)]
      rfl
    rw [this]; exact c3
  · rw [pu_u1s, pk_us]; rfl
  · rw [pu_u1s, pk_un (by decide)]; exact d1.2.2.1
  · rw [e1 254 (by decide), e1 253 (by decide)]; exact d1.2.2.2
  · rw [pu_u1s, pk_un (by decide), e1 259 (by decide)]; exact d2
  · rw [e1 255 (by decide)]; exact d3
  · rw [e1 256 (by decide)]; exact d4
theorem MF.up {τ : pd_H} {k i : Nat} {x : Int32} (h : MF σ τ) (hk : 230 ≤ k ∧ k < 265) : MF σ (pd_upI τ k i x) := h.tr (pu_fr.upI hk)
theorem M_goesOver_ok (hw : s_wf S) (h : RM σ S) {l : List Nat} (ht1 : σ.1 230 23 = nI l.length) (ht2 : m_ls (σ.1 251) l) (ho : s_ord S l) (hn : (s_play S l).1 = none) : ∃ τ, M_goesOver σ = some (τ, some (pd_i (c_moved S l))) ∧ RM τ (s_to S l []) ∧ MF σ τ := by
  obtain ⟨τ, t1, t2, t3, t4⟩ := M_takesTried_ok hw h ht1 ht2 ho hn
  refine ⟨pd_upI τ 230 25 0, ?_, t2.un0, t3.up (by omega)⟩
  rw [M_goesOver_eq, t1, pd_bI_of, decide_eq_true (by decide : (0 : Int32) ≤ 0), cond_true, M_goesOver_L18_eq, decide_eq_true (by decide : (0 : Int32) ≤ 0), cond_true, pu_u1s, pk_un (by decide), t4]
theorem RM.un_same (h : RM σ S) : RM (pd_upI σ 230 25 (σ.1 230 25)) S := by
  have : pd_upI σ 230 25 (σ.1 230 25) = σ := by
    refine pu_H_ext (fun k => ?_) (fun k => rfl) rfl
    by_cases hk : k = 230
    · subst hk
      rw [pu_u1s]
      funext j
      by_cases e : j = 25
      · rw [e, pk_us]
      · rw [pk_un e]
    · rw [pu_u1n hk]
  rw [this]; exact h
theorem M_goesOver_no (hw : s_wf S) (h : RM σ S) {l : List Nat} (ht1 : σ.1 230 23 = nI l.length) (ht2 : m_ls (σ.1 251) l) (ho : s_ord S l) {a : Nat} {f : Int32} (hf : (s_play S l).1 = some (a, f)) : ∃ τ, M_goesOver σ = some (τ, some (pd_i (-10 - f))) ∧ RM τ (s_ft S (nI (a / 6), nI (a % 6), f)) ∧ MF σ τ := by
  obtain ⟨τ, t1, t2, t3⟩ := M_takesTried_no hw h ht1 ht2 ho hf
  have hr := c_err_neg (c_ply_ne hf).2.1
  refine ⟨pd_upI τ 230 25 (τ.1 230 25), ?_, t2.un_same, t3.up (by omega)⟩
  rw [M_goesOver_eq, t1, pd_bI_of, hr.1, cond_false, M_goesOver_L18_eq, hr.1, cond_false]
end TAKES2
