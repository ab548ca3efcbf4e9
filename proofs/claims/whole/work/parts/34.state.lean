/-! What both hold, as one value: kinds, sizes, bases, changes, lengths, patches, the order, undone, versions, the tape, the fault, what is met. -/
abbrev cS : Type := (Nat → Int32) × (Nat → Int32) × (Nat → Int32) × (Nat → Int64) × (Nat → cC) × (Nat → Nat) × Nat × List Nat × List Nat × List (List Nat) × List Nat × (Int32 × Int32 × Int32) × (Nat → Int32)
abbrev s_kd (S : cS) : Nat → Int32 := S.1
abbrev s_sz (S : cS) : Nat → Int32 := S.2.1
abbrev s_bt (S : cS) : Nat → Int32 := S.2.2.1
abbrev s_bn (S : cS) : Nat → Int64 := S.2.2.2.1
abbrev s_ch (S : cS) : Nat → cC := S.2.2.2.2.1
abbrev s_ln (S : cS) : Nat → Nat := S.2.2.2.2.2.1
abbrev s_pc (S : cS) : Nat := S.2.2.2.2.2.2.1
abbrev s_or (S : cS) : List Nat := S.2.2.2.2.2.2.2.1
abbrev s_un (S : cS) : List Nat := S.2.2.2.2.2.2.2.2.1
abbrev s_vr (S : cS) : List (List Nat) := S.2.2.2.2.2.2.2.2.2.1
abbrev s_tp (S : cS) : List Nat := S.2.2.2.2.2.2.2.2.2.2.1
abbrev s_fl (S : cS) : Int32 × Int32 × Int32 := S.2.2.2.2.2.2.2.2.2.2.2.1
abbrev s_mt (S : cS) : Nat → Int32 := S.2.2.2.2.2.2.2.2.2.2.2.2
/-- the play of an order -/
def s_play (S : cS) (l : List Nat) : Option (Nat × Int32) × cR := c_play (s_kd S) (s_sz S) (s_bt S) (s_bn S) (s_ch S) (s_ln S) l
/-- a patch, or the draft -/
def s_is (S : cS) (p : Nat) : Prop := p < s_pc S ∨ p = 24
/-- an order: patches, each once -/
def s_ord (S : cS) (l : List Nat) : Prop := l.Nodup ∧ ∀ p ∈ l, p < s_pc S
/-- a change is written in one way -/
def c_nrm (c : cC) : Prop := (c.1 = -1 → c.2.1 = 0) ∧ (c.1 ≠ -1 → c.2.2.2.2.2 = 0)
def s_wf (S : cS) : Prop :=
  (c_kok (s_kd S) ∧ c_zok (s_sz S) ∧ c_cells (s_kd S) (s_sz S) (s_bt S) (s_bn S)) ∧
  (s_pc S ≤ 24 ∧ (∀ p, p < 25 → s_ln S p ≤ 6) ∧ ∀ p k, s_is S p → k < s_ln S p → c_chok (s_ch S (6 * p + k)) ∧ c_nrm (s_ch S (6 * p + k))) ∧
  (s_ord S (s_or S) ∧ s_ord S (s_un S) ∧ (∀ p ∈ s_un S, p ∉ s_or S) ∧ (s_vr S).length ≤ 6 ∧ ∀ l ∈ s_vr S, s_ord S l) ∧
  (s_play S (s_or S)).1 = none ∧
  ((s_tp S).length ≤ 80 ∧ ∀ b ∈ s_tp S, b < 256)
/-- the now run and the trial's -/
def x_two (r t : Nat) : Prop := (r = 32 ∧ t = 48) ∨ (r = 48 ∧ t = 32)
def x_sh (σ : pd_H) (S : cS) : Prop := σ.1 2 = s_kd S ∧ σ.1 3 = s_sz S ∧ σ.1 5 = s_bt S ∧ σ.2.1 6 = s_bn S
def x_bk (σ : pd_H) (S : cS) : Prop := (∀ p k, s_is S p → k < s_ln S p → x_chg σ (6 * p + k) = s_ch S (6 * p + k)) ∧ x_lens σ (s_ln S) ∧ σ.1 7 2 = nI (s_pc S)
/-- no row is laid and nothing applied: a run's writers may be older than its first play -/
def s_no (S : cS) : Prop := s_or S = [] ∧ ∀ s, s < 6 → s_kd S s = -1
noncomputable def s_wr (S : cS) (f : Nat → Int32) : Nat → Int32 := @ite _ (s_no S) (Classical.propDecidable _) (fun _ => -1) f
noncomputable def x_rw (S : cS) (σ : pd_H) (r : Nat) : cR := (σ.1 (r + 4), σ.2.1 (r + 5), s_wr S (σ.1 (r + 6)), σ.1 (r + 9), σ.2.1 (r + 10), σ.1 (r + 12), σ.2.1 (r + 13), σ.1 (r + 14))
theorem s_wr_ne {S : cS} (h : ¬ s_no S) (f : Nat → Int32) : s_wr S f = f := if_neg h
theorem s_no_kd {S : cS} {s : Nat} (hs : s < 6) (h : ¬ s_kd S s = -1) : ¬ s_no S := fun q => h (q.2 s hs)
theorem s_no_arr {S : cS} {a : Int32} (ha : pu_sl a) (h : c_arrF (s_kd S) a = 0) : ¬ s_no S := s_no_kd (pu_sl_cl ha) (fun q => by
  unfold c_arrF at h
  rw [decide_eq_true q, cond_true] at h
  exact absurd h (by decide))
theorem x_rw_of {S : cS} {σ : pd_H} {r : Nat} {V D : Nat → Prop} (h : c_agr V D (x_rows σ r) (s_play S (s_or S)).2) : c_agr V D (x_rw S σ r) (s_play S (s_or S)).2 := by
  refine ⟨fun c hc => ⟨(h.1 c hc).1, (h.1 c hc).2.1, ?_⟩, fun a ha => h.2 a ha⟩
  show s_wr S (σ.1 (r + 6)) c = _
  by_cases q : s_no S
  · rw [show s_wr S (σ.1 (r + 6)) = fun _ => -1 from if_pos q, q.1]
    rfl
  · rw [s_wr_ne q]
    exact (h.1 c hc).2.2
def x_rn (σ : pd_H) (S : cS) (r : Nat) : Prop := pu_seq σ (r + 1) (s_or S) ∧ c_agr (fun c => c < 72) (fun a => a ∈ c_line (s_ln S) (s_or S)) (x_rw S σ r) (s_play S (s_or S)).2 ∧ ∀ p ∈ s_or S, σ.1 (r + 15) p = c_mask (s_ch S) (c_line (s_ln S) (s_or S)) p
def x_ot (σ : pd_H) (S : cS) : Prop := (pu_seq σ 17 (s_un S) ∧ σ.1 0 7 = nI (s_vr S).length ∧ ∀ (v : Nat) (l : List Nat), (s_vr S)[v]? = some l → pu_seq σ (20 + 2 * v) l) ∧ (σ.1 10 2 = nI (s_tp S).length ∧ ∀ (i b : Nat), (s_tp S)[i]? = some b → σ.1 11 i = nI b) ∧ (σ.1 0 11 = (s_fl S).1 ∧ σ.1 0 12 = (s_fl S).2.1 ∧ σ.1 0 13 = (s_fl S).2.2) ∧ σ.1 16 = s_mt S
/-- the desk holds S -/
def RX (σ : pd_H) (S : cS) : Prop := x_sh σ S ∧ x_bk σ S ∧ x_two (σ.2.2 0) (σ.2.2 1) ∧ x_rn σ S (σ.2.2 0) ∧ x_ot σ S
/-- a list in a row of the model -/
def m_ls (f : Nat → Int32) (l : List Nat) : Prop := ∀ (i x : Nat), l[i]? = some x → f i = nI x
def m_sh (σ : pd_H) (S : cS) : Prop := c_kz (s_kd S) (s_sz S) (σ.1 231) (σ.1 232) ∧ c_zok (σ.1 232) ∧ ∀ c, c_vc (s_kd S) (s_sz S) c → σ.1 235 c = s_bt S c ∧ σ.2.1 236 c = s_bn S c
def m_bk (σ : pd_H) (S : cS) : Prop := (∀ p k, s_is S p → k < s_ln S p → m_is σ (6 * p + k) (s_ch S (6 * p + k))) ∧ m_lens σ (s_ln S) ∧ σ.1 230 19 = nI (s_pc S)
def m_rn (σ : pd_H) (S : cS) : Prop := (σ.1 230 21 = nI (s_or S).length ∧ m_ls (σ.1 250) (s_or S) ∧ ∀ c, c < 72 → σ.1 237 c = (s_play S (s_or S)).2.2.2.1 c) ∧ c_agr (c_vc (s_kd S) (s_sz S)) (fun a => a ∈ c_line (s_ln S) (s_or S)) (m_R σ) (s_play S (s_or S)).2
def m_ot (σ : pd_H) (S : cS) : Prop := (σ.1 230 25 = nI (s_un S).length ∧ m_ls (σ.1 252) (s_un S) ∧ σ.1 230 28 = nI (s_vr S).length ∧ ∀ (v : Nat) (l : List Nat), (s_vr S)[v]? = some l → σ.1 254 v = nI l.length ∧ m_ls (fun i => σ.1 253 (24 * v + i)) l) ∧ (σ.1 230 39 = nI (s_tp S).length ∧ m_ls (σ.1 259) (s_tp S)) ∧ (σ.1 255 0 = (s_fl S).1 ∧ σ.1 255 1 = (s_fl S).2.1 ∧ σ.1 255 2 = (s_fl S).2.2) ∧ σ.1 256 = s_mt S
/-- the model holds S -/
def RM (σ : pd_H) (S : cS) : Prop := m_sh σ S ∧ m_bk σ S ∧ m_rn σ S ∧ m_ot σ S
/-- what the desk's calls leave alone; the model's -/
def XF (σ τ : pd_H) : Prop := ∀ k, 230 ≤ k → τ.1 k = σ.1 k ∧ τ.2.1 k = σ.2.1 k
def MF (σ τ : pd_H) : Prop := pu_fr (fun k => 230 ≤ k ∧ k < 265) σ τ
theorem XF.rf {σ : pd_H} : XF σ σ := fun _ _ => ⟨rfl, rfl⟩
theorem XF.tr {σ τ υ : pd_H} (h : XF σ τ) (g : XF τ υ) : XF σ υ := fun k hk => ⟨(g k hk).1.trans (h k hk).1, (g k hk).2.trans (h k hk).2⟩
theorem XF.of {σ τ : pd_H} {K : Nat → Prop} (h : pu_fr K σ τ) (hK : ∀ k, K k → k < 230) : XF σ τ := fun k hk => ⟨h.1 k (fun q => by have := hK k q; omega), h.2.1 k (fun q => by have := hK k q; omega)⟩
theorem RM.fr {σ τ : pd_H} {S : cS} (h : RM σ S) (g : XF σ τ) : RM τ S := by
  have e1 : ∀ k, 230 ≤ k → τ.1 k = σ.1 k := fun k hk => (g k hk).1
  have e2 : ∀ k, 230 ≤ k → τ.2.1 k = σ.2.1 k := fun k hk => (g k hk).2
  have eR : m_R τ = m_R σ := by
    unfold m_R
    rw [e1 233 (by omega), e2 234 (by omega), e1 237 (by omega), e1 247 (by omega), e2 248 (by omega), e1 245 (by omega), e2 246 (by omega), e1 249 (by omega)]
  obtain ⟨⟨a1, a2, a3⟩, ⟨b1, b2, b3⟩, ⟨⟨c1, c2⟩, c3⟩, d1, d2, d3, d4⟩ := h
  refine ⟨⟨?_, ?_, ?_⟩, ⟨?_, ?_, ?_⟩, ⟨⟨?_, ?_⟩, ?_⟩, ?_, ?_, ?_, ?_⟩
  · rw [e1 231 (by omega), e1 232 (by omega)]; exact a1
  · rw [e1 232 (by omega)]; exact a2
  · rw [e1 235 (by omega), e2 236 (by omega)]; exact a3
  · intro p k hp hk
    have := b1 p k hp hk
    unfold m_is m_wr m_co at this ⊢
    rw [e1 238 (by omega), e1 239 (by omega), e1 240 (by omega), e1 241 (by omega), e1 242 (by omega), e1 243 (by omega)]
    exact this
  · intro p hp; rw [e1 244 (by omega)]; exact b2 p hp
  · rw [e1 230 (by omega)]; exact b3
  · rw [e1 230 (by omega)]; exact c1
  · rw [e1 250 (by omega), e1 237 (by omega)]; exact c2
  · rw [eR]; exact c3
  · rw [e1 230 (by omega), e1 252 (by omega), e1 254 (by omega), e1 253 (by omega)]; exact d1
  · rw [e1 230 (by omega), e1 259 (by omega)]; exact d2
  · rw [e1 255 (by omega)]; exact d3
  · rw [e1 256 (by omega)]; exact d4
theorem x_chg_fr {σ τ : pd_H} (h : ∀ k, 80 ≤ k → k < 230 → τ.1 k = σ.1 k) {a : Nat} (ha : a < 150) : x_chg τ a = x_chg σ a := by
  unfold x_chg
  rw [h (80 + a) (by omega) (by omega)]
theorem RX.fr {σ τ : pd_H} {S : cS} (hw : s_wf S) (h : RX σ S) (g : MF σ τ) : RX τ S := by
  have e1 : ∀ k, k < 230 → τ.1 k = σ.1 k := fun k hk => g.1 k (fun q => by have := q.1; omega)
  have e2 : ∀ k, k < 230 → τ.2.1 k = σ.2.1 k := fun k hk => g.2.1 k (fun q => by have := q.1; omega)
  obtain ⟨⟨a1, a2, a3, a4⟩, ⟨b1, b2, b3⟩, hrt, ⟨c1, c2, c3⟩, ⟨d1, d2, d3⟩, d4, d5, d6⟩ := h
  have hlen := hw.2.1.2.1
  have hpc := hw.2.1.1
  have hvl := hw.2.2.1.2.2.2.1
  have hr : σ.2.2 0 = 32 ∨ σ.2.2 0 = 48 := by rcases hrt with q | q <;> omega
  have hseq : ∀ o l, o + 1 < 230 → pu_seq σ o l → pu_seq τ o l := fun o l ho q => q.of (by rw [e1 o (by omega)]) (e1 (o + 1) ho)
  refine ⟨⟨?_, ?_, ?_, ?_⟩, ⟨?_, ?_, ?_⟩, ?_, ⟨?_, ?_, ?_⟩, ⟨?_, ?_, ?_⟩, ?_, ?_, ?_⟩
  · rw [e1 2 (by omega)]; exact a1
  · rw [e1 3 (by omega)]; exact a2
  · rw [e1 5 (by omega)]; exact a3
  · rw [e2 6 (by omega)]; exact a4
  · intro p k hp hk
    have h25 : p < 25 := by rcases hp with q | q <;> omega
    have := hlen p h25
    rw [x_chg_fr (fun k _ hk => e1 k hk) (by omega)]
    exact b1 p k hp hk
  · intro p hp; rw [e1 9 (by omega)]; exact b2 p hp
  · rw [e1 7 (by omega)]; exact b3
  · rw [g.2.2]; exact hrt
  · rw [g.2.2]; exact hseq _ _ (by omega) c1
  · rw [g.2.2]
    have : x_rw S τ (σ.2.2 0) = x_rw S σ (σ.2.2 0) := by
      unfold x_rw
      rw [e1 _ (by omega : σ.2.2 0 + 4 < 230), e2 _ (by omega : σ.2.2 0 + 5 < 230), e1 _ (by omega : σ.2.2 0 + 6 < 230), e1 _ (by omega : σ.2.2 0 + 9 < 230), e2 _ (by omega : σ.2.2 0 + 10 < 230), e1 _ (by omega : σ.2.2 0 + 12 < 230), e2 _ (by omega : σ.2.2 0 + 13 < 230), e1 _ (by omega : σ.2.2 0 + 14 < 230)]
    rw [this]; exact c2
  · rw [g.2.2, e1 _ (by omega : σ.2.2 0 + 15 < 230)]; exact c3
  · exact hseq _ _ (by omega) d1
  · rw [e1 0 (by omega)]; exact d2
  · intro v l hv
    have hvlt : v < (s_vr S).length := (List.getElem?_eq_some_iff.mp hv).1
    exact hseq _ _ (by omega) (d3 v l hv)
  · rw [e1 10 (by omega), e1 11 (by omega)]; exact d4
  · rw [e1 0 (by omega)]; exact d5
  · rw [e1 16 (by omega)]; exact d6
/-- both hold S -/
def JR (σ : pd_H) (S : cS) : Prop := s_wf S ∧ RX σ S ∧ RM σ S
/-- the law's script -/
def LF (σ τ : pd_H) : Prop := τ.1 265 = σ.1 265 ∧ τ.1 266 = σ.1 266
theorem LF.of {σ τ υ : pd_H} (h : XF σ τ) (g : MF τ υ) : LF σ υ := ⟨(g.1 265 (by omega)).trans (h 265 (by omega)).1, (g.1 266 (by omega)).trans (h 266 (by omega)).1⟩
/-- a call of both, with an int for its answer; with a long -/
def JI (x m : pd_H → Option pd_R) (σ : pd_H) : Prop := ∃ τ υ v S, x σ = some (τ, some (pd_i v)) ∧ m τ = some (υ, some (pd_i v)) ∧ JR υ S ∧ LF σ τ ∧ LF σ υ
def JL (x m : pd_H → Option pd_R) (σ : pd_H) : Prop := ∃ τ υ v S, x σ = some (τ, some (pd_j v)) ∧ m τ = some (υ, some (pd_j v)) ∧ JR υ S ∧ LF σ τ ∧ LF σ υ
theorem JI.of {x m : pd_H → Option pd_R} {σ τ : pd_H} {v : Int32} {S S' : cS} (h : JR σ S) (hS : s_wf S') (h1 : x σ = some (τ, some (pd_i v))) (h2 : RX τ S') (h3 : XF σ τ) (h4 : RM τ S → ∃ υ, m τ = some (υ, some (pd_i v)) ∧ RM υ S' ∧ MF τ υ) : JI x m σ := by
  obtain ⟨υ, g1, g2, g3⟩ := h4 (h.2.2.fr h3)
  exact ⟨τ, υ, v, S', h1, g1, ⟨hS, h2.fr hS g3, g2⟩, ⟨(h3 265 (by omega)).1, (h3 266 (by omega)).1⟩, LF.of h3 g3⟩
theorem JL.of {x m : pd_H → Option pd_R} {σ τ : pd_H} {v : Int64} {S S' : cS} (h : JR σ S) (hS : s_wf S') (h1 : x σ = some (τ, some (pd_j v))) (h2 : RX τ S') (h3 : XF σ τ) (h4 : RM τ S → ∃ υ, m τ = some (υ, some (pd_j v)) ∧ RM υ S' ∧ MF τ υ) : JL x m σ := by
  obtain ⟨υ, g1, g2, g3⟩ := h4 (h.2.2.fr h3)
  exact ⟨τ, υ, v, S', h1, g1, ⟨hS, h2.fr hS g3, g2⟩, ⟨(h3 265 (by omega)).1, (h3 266 (by omega)).1⟩, LF.of h3 g3⟩
theorem MF.rf {σ : pd_H} : MF σ σ := pu_fr.rf
theorem MF.of {σ τ : pd_H} {K : Nat → Prop} (h : pu_fr K σ τ) (hK : ∀ k, K k → 230 ≤ k ∧ k < 265) : MF σ τ := h.mono hK
/-- nothing changes in either -/
theorem JI.same {x m : pd_H → Option pd_R} {σ : pd_H} {v : Int32} {S : cS} (h : JR σ S) (h1 : x σ = some (σ, some (pd_i v))) (h2 : RM σ S → m σ = some (σ, some (pd_i v))) : JI x m σ := JI.of h h.1 h1 h.2.1 XF.rf (fun g => ⟨σ, h2 g, g, MF.rf⟩)
theorem JL.same {x m : pd_H → Option pd_R} {σ : pd_H} {v : Int64} {S : cS} (h : JR σ S) (h1 : x σ = some (σ, some (pd_j v))) (h2 : RM σ S → m σ = some (σ, some (pd_j v))) : JL x m σ := JL.of h h.1 h1 h.2.1 XF.rf (fun g => ⟨σ, h2 g, g, MF.rf⟩)
