/-! Get. -/
section GET
variable {σ : pd_H} {S : cS}
theorem m_cellsN (hw : s_wf S) (h : RM σ S) : c_cells (σ.1 231) (σ.1 232) (σ.1 233) (σ.2.1 234) := by
  intro j hj ha i hi hs
  have hsl := pu_sl_j hj
  have ha' : c_arrF (s_kd S) (nI j) = 0 := by rw [← s_arr h hsl]; exact ha
  have hz : s_sz S j = σ.1 232 j := (h.1.1 j hj).2 ha'
  have hs' : nI i < s_sz S j := by rw [hz]; exact hs
  obtain ⟨g1, g2, g3⟩ := m_cell h (c := 12 * j + i) ⟨j, i, hj, hi, ha', hs', rfl⟩
  rw [g1, g2, ← (h.1.1 j hj).1]
  exact s_cells hw hw.2.2.1.1 hw.2.2.2.1 j hj ha' i hi hs'
/-- a long's error -/
def c_lerr (a : Int32) : Int64 := ((-9223372036854775808) : Int64) - a.toInt64
def s_rdF (S : cS) (a w i : Int32) : Int32 := c_rdF (s_kd S) (s_sz S) a w i
def s_rd (S : cS) (a w i : Int32) : Int64 := cond (decide (s_rdF S a w i = 0)) (cond (decide (w = 8)) (cond (decide ((s_play S (s_or S)).2.1 (c_cell a i) = 11)) (c_lerr (-10 - 6)) ((s_play S (s_or S)).2.2.1 (c_cell a i))) (c_wd ((s_play S (s_or S)).2.1 (c_cell a i)) ((s_play S (s_or S)).2.2.1 (c_cell a i)) w)) (c_lerr (-10 - s_rdF S a w i))
theorem X_lerr (a : Int32) (σ : pd_H) : X_longError a σ = some (σ, some (pd_j (c_lerr a))) := X_longError_eq a σ
theorem M_lerr (a : Int32) (σ : pd_H) : M_no a σ = some (σ, some (pd_j (c_lerr a))) := M_no_eq a σ
theorem X_numberRead_s (hw : s_wf S) (h : RX σ S) {a : Int32} (ha : pu_sl a) (w i : Int32) : X_numberRead a w i σ = some (σ, some (pd_j (s_rd S a w i))) := by
  obtain ⟨L2, L4, L5, L6, L7, L9, L10, L12, L13, L14, L15⟩ := pu_len_run (x_run3 h)
  rw [X_numberRead_eq, x_rdF h ha, pd_bI_of]
  unfold s_rd s_rdF
  by_cases h0 : c_rdF (s_kd S) (s_sz S) a w i = 0
  · obtain ⟨e1, e2⟩ := c_cell_ok hw.1.2.1.sz ha (c_rdF_idx h0)
    obtain ⟨g1, g2, g3⟩ := x_cell h e2
    rw [h0, decide_eq_true (rfl : (0 : Int32) = 0), cond_true, cond_true, X_cellOf_s, pd_bI_of, e1]
    rw [X_numberAt_eq, show σ.2.2 0 + 3 + 1 = σ.2.2 0 + 4 from rfl, show σ.2.2 0 + 3 + 2 = σ.2.2 0 + 5 from rfl, L4, L5, pu_obN e2 (by decide), cond_false, cond_false, cond_false, cond_false, nI_clamp (by omega), g1, g2, X_findingCode_s, pd_bI_of, X_lerr, pd_bJ_of, X_widened_s]
    cases decide (w = 8) with
    | false => rfl
    | true => cases decide ((s_play S (s_or S)).2.1 (c_cell a i) = 11) <;> rfl
  · rw [decide_eq_false h0, cond_false, cond_false, X_findingCode_s, pd_bI_of, X_lerr, pd_bJ_of]
theorem RM.rest {τ : pd_H} (h : RM σ S) (hf : pu_fr (fun k => k = 230) σ τ) (h230 : ∀ j, j = 19 ∨ j = 21 ∨ j = 25 ∨ j = 28 ∨ j = 39 → τ.1 230 j = σ.1 230 j) : RM τ S := by
  have e1 : ∀ k, k ≠ 230 → τ.1 k = σ.1 k := hf.1
  have e2 : ∀ k, k ≠ 230 → τ.2.1 k = σ.2.1 k := hf.2.1
  have g := RM_ot (un := s_un S) (vr := s_vr S) (tp := s_tp S) (fl := s_fl S) (mt := s_mt S) h (hf.mono fun k hk => Or.inl hk) (fun j hj => h230 j (by omega)) (by
    obtain ⟨d1, d2, d3, d4⟩ := h.2.2.2
    refine ⟨⟨?_, ?_, ?_, ?_⟩, ?_, ?_, ?_⟩
    · rw [h230 25 (by omega)]; exact d1.1
    · rw [e1 252 (by decide)]; exact d1.2.1
    · rw [h230 28 (by omega)]; exact d1.2.2.1
    · rw [e1 254 (by decide), e1 253 (by decide)]; exact d1.2.2.2
    · rw [h230 39 (by omega), e1 259 (by decide)]; exact d2
    · rw [e1 255 (by decide)]; exact d3
    · rw [e1 256 (by decide)]; exact d4)
  exact g
def s_bm (S : cS) (b f : Int32) : cS := s_ot S (s_un S) (s_vr S) (s_tp S) (s_fl S) (c_bmp (s_mt S) b f)
theorem s_bm_wf (hw : s_wf S) (b f : Int32) : s_wf (s_bm S b f) := s_ot_wf hw hw.2.2.1.2.1 hw.2.2.1.2.2.1 hw.2.2.1.2.2.2.1 hw.2.2.1.2.2.2.2 hw.2.2.2.2.1 hw.2.2.2.2.2
theorem RM_bm (h : RM σ S) (b f : Int32) : RM (pu_rwI σ 256 (c_bmp (σ.1 256) b f)) (s_bm S b f) := by
  have e1 : ∀ k, k ≠ 256 → (pu_rwI σ 256 (c_bmp (σ.1 256) b f)).1 k = σ.1 k := fun k hk => pu_w1n hk
  refine RM_ot h (pu_fr.rwI (by omega)) (fun j _ => by rw [e1 230 (by decide)]) ?_
  obtain ⟨d1, d2, d3, d4⟩ := h.2.2.2
  refine ⟨⟨?_, ?_, ?_, ?_⟩, ?_, ?_, ?_⟩
  · rw [e1 230 (by decide)]; exact d1.1
  · rw [e1 252 (by decide)]; exact d1.2.1
  · rw [e1 230 (by decide)]; exact d1.2.2.1
  · rw [e1 254 (by decide), e1 253 (by decide)]; exact d1.2.2.2
  · rw [e1 230 (by decide), e1 259 (by decide)]; exact d2
  · rw [e1 255 (by decide)]; exact d3
  · rw [pu_w1s, d4]; rfl
theorem RX_bm (h : RX σ S) (b f : Int32) : RX (pu_rwI σ 16 (c_bmp (σ.1 16) b f)) (s_bm S b f) := by
  have hf : pu_fr (fun k => k = 16) σ (pu_rwI σ 16 (c_bmp (σ.1 16) b f)) := pu_fr.rwI rfl
  refine RX_ot h (hf.mono fun k hk => by omega) ?_
  obtain ⟨d1, d2, d3, d4⟩ := h.2.2.2.2
  refine ⟨⟨d1.1.of (by rw [hf.1 17 (by decide)]) (hf.1 18 (by decide)), by rw [hf.1 0 (by decide)]; exact d1.2.1, fun v l hv => (d1.2.2 v l hv).of (by rw [hf.1 _ (by omega)]) (hf.1 _ (by omega))⟩, by rw [hf.1 10 (by decide), hf.1 11 (by decide)]; exact d2, by rw [hf.1 0 (by decide)]; exact d3, ?_⟩
  rw [pu_w1s, d4]; rfl
theorem Tally_add_m {w : Nat} {f : Int32} (hw : w < 18) (hf : c_rng f) (σ : pd_H) : Tally_add (nI w) f σ = some (pu_rwI σ 16 (c_bmp (σ.1 16) (nI w) f), none) := by
  obtain ⟨j, h1, h2⟩ := c_row_ok hw hf
  rw [Tally_add_eq]
  unfold c_bmp
  rw [h2]
  simp only [show pd_len 16 = 108 from rfl, pu_obN h1 (show 108 < 2 ^ 31 by decide), pd_bI_of, pd_bJ_of, pd_bV_of, pd_bR_of, cond_true, cond_false]
  rfl
/-- what the model answers when it gets -/
theorem M_gets_L21_g {f : Int32} (hf : c_rng f) (d1 d2 d3 d4 : Option pd_V) : M_gets_L21 d1 d2 d3 d4 f σ = some (σ, some (pd_j (cond (decide (f = 0)) (cond (decide (σ.1 230 31 = 11)) (c_lerr (-10 - 6)) (σ.2.1 230 32)) (c_lerr (-10 - f))))) := by
  rw [M_gets_L21_eq, c_rng_le hf, M_refused_s, pd_bI_of, M_lerr, pd_bJ_of, M_refused_s, pd_bI_of, M_lerr, pd_bJ_of]
  cases decide (f = 0) with
  | false => rfl
  | true => cases decide (σ.1 230 31 = 11) <;> rfl
theorem M_asks_g (hw : s_wf S) (h : RM σ S) {a : Int32} (ha : pu_sl a) {w : Nat} (hw9 : w < 9) (i : Int32) : ∃ τ, M_asks a (nI w) i σ = some (τ, some (pd_i (s_rdF S a (nI w) i))) ∧ RM τ S ∧ pu_fr (fun k => k = 230) σ τ ∧ (cond (decide (s_rdF S a (nI w) i = 0)) (cond (decide (τ.1 230 31 = 11)) (c_lerr (-10 - 6)) (τ.2.1 230 32)) (c_lerr (-10 - s_rdF S a (nI w) i))) = s_rd S a (nI w) i := by
  have hf : c_rdF (σ.1 231) (σ.1 232) a (nI w) i = s_rdF S a (nI w) i := (c_kz_rd h.1.1 ha (nI w) i).symm
  have e := M_asks_s ha hw9 (s_kokM hw h) h.1.2.1 (m_cellsN hw h) hf
  unfold s_rd
  by_cases h0 : s_rdF S a (nI w) i = 0
  · rw [decide_eq_true h0, cond_true] at e
    have q2 := c_rdF_idx (show c_rdF (s_kd S) (s_sz S) a (nI w) i = 0 from h0)
    have q1 : c_arrF (s_kd S) a = 0 := by
      by_cases q : c_arrF (s_kd S) a = 0
      · exact q
      · have : c_rdF (s_kd S) (s_sz S) a (nI w) i = c_arrF (s_kd S) a := by unfold c_rdF; rw [decide_eq_false q]; rfl
        exact absurd (this.symm.trans h0) q
    obtain ⟨g1, g2, g3⟩ := m_cell h (c_vc_at hw.1.2.1.sz ha q1 q2)
    rw [g1, g2] at e
    generalize hτ : pd_upJ (pd_upI σ 230 31 (cond (decide (nI w = 8)) ((s_play S (s_or S)).2.1 (c_cell a i)) (nI w))) 230 32 (cond (decide (nI w = 8)) ((s_play S (s_or S)).2.2.1 (c_cell a i)) (c_wd ((s_play S (s_or S)).2.1 (c_cell a i)) ((s_play S (s_or S)).2.2.1 (c_cell a i)) (nI w))) = τ at e
    have fr : pu_fr (fun k => k = 230) σ τ := by rw [← hτ]; exact (pu_fr.upI (K := fun k => k = 230) rfl).tr (pu_fr.upJ (K := fun k => k = 230) rfl)
    have k31 : τ.1 230 31 = cond (decide (nI w = 8)) ((s_play S (s_or S)).2.1 (c_cell a i)) (nI w) := by rw [← hτ, pu_j1, pu_u1s, pk_us]
    have k32 : τ.2.1 230 32 = cond (decide (nI w = 8)) ((s_play S (s_or S)).2.2.1 (c_cell a i)) (c_wd ((s_play S (s_or S)).2.1 (c_cell a i)) ((s_play S (s_or S)).2.2.1 (c_cell a i)) (nI w)) := by rw [← hτ, pu_j2s]; exact if_pos rfl
    have kj : ∀ j, j ≠ 31 → τ.1 230 j = σ.1 230 j := fun j hj => by rw [← hτ, pu_j1, pu_u1s, pk_un hj]
    refine ⟨τ, by rw [e, h0], h.rest fr (fun j hj => kj j (by omega)), fr, ?_⟩
    rw [k31, k32, decide_eq_true h0, cond_true, cond_true]
    cases hd : decide (nI w = 8) with
    | true => rfl
    | false =>
      have h11 : ¬ nI w = 11 := by
        rw [show (11 : Int32) = nI 11 from rfl, nI_eq (by omega) (by decide)]; omega
      rw [cond_false, cond_false, decide_eq_false h11]; rfl
  · rw [decide_eq_false h0, cond_false] at e
    exact ⟨σ, e, h, pu_fr.rf, by rw [decide_eq_false h0]; rfl⟩
theorem c_lelt_out {a : Int32} (h : a < 0 ∨ nI 9 ≤ a) {α : Type} (A B : α) : cond (decide (a < 0)) A (cond (decide (a ≤ (8 : Int32))) B A) = A := by
  rcases h with h | h
  · rw [decide_eq_true h]; rfl
  · by_cases h0 : a < 0
    · rw [decide_eq_true h0]; rfl
    · have : ¬ a ≤ 8 := fun q => by
        rw [Int32.le_iff_toInt_le] at q h
        have e1 : (nI 9).toInt = 9 := by decide
        have e2 : (8 : Int32).toInt = 8 := by decide
        omega
      rw [decide_eq_false h0, cond_false, decide_eq_false this]; rfl
theorem J_get (h : JR σ S) (a b c : Int32) : JL (X_get a b c) (M_get a b c) σ := by
  have hw := h.1
  rcases c_slv_cases a with ⟨ha, e⟩ | ⟨e, -⟩
  · rcases c_pcase b (show 9 < 2 ^ 31 by decide) with ⟨w, hw9, rfl⟩ | hb
    · have hf : c_rng (s_rdF S a (nI w) c) := c_rdF_rng _ _ _ _ _
      have hX2 := RX_bm h.2.1 (nI w) (s_rdF S a (nI w) c)
      refine JL.of (v := s_rd (s_bm S (nI w) (s_rdF S a (nI w) c)) a (nI w) c) h (s_bm_wf hw (nI w) (s_rdF S a (nI w) c)) ?_ hX2 (XF.of (pu_fr.rwI (K := fun k => k = 16) rfl) (fun k hk => by omega)) (fun g => ?_)
      · have e8 : decide (nI w ≤ (8 : Int32)) = true := decide_eq_true (nI_le (show w ≤ 8 by omega) (by decide))
        rw [X_get_eq, X_slot, e, pd_bI_of, decide_eq_false (by decide : ¬ (1 : Int32) = 0), cond_false, decide_eq_false (nI_pos (by omega)), cond_false, e8, cond_true, x_rdF h.2.1 ha, pd_bI_of]
        rw [show Tally_add (nI w) (c_rdF (s_kd S) (s_sz S) a (nI w) c) σ = _ from Tally_add_m (show w < 18 by omega) hf σ, pd_bV_of]
        rw [X_numberRead_s (s_bm_wf hw (nI w) (s_rdF S a (nI w) c)) hX2 ha, pd_bJ_of]
      · obtain ⟨τ, t1, t2, t3, t4⟩ := M_asks_g hw g ha hw9 c
        refine ⟨pu_rwI τ 256 (c_bmp (τ.1 256) (nI w) (s_rdF S a (nI w) c)), ?_, RM_bm t2 (nI w) (s_rdF S a (nI w) c), (MF.of t3 (fun k hk => by omega)).tr (MF.of (pu_fr.rwI (K := fun k => k = 256) rfl) (fun k hk => by omega))⟩
        rw [M_get_eq, M_slot, e, pd_bI_of, decide_eq_false (by decide : ¬ (1 : Int32) = 0), cond_false, c_in_k (n := 9) (by decide) hw9 (by decide), pd_bI_of, decide_eq_false (by decide : ¬ (1 : Int32) = 0), cond_false, M_gets_eq, t1, pd_bI_of, decide_eq_false (by decide : ¬ (1 : Int32) = 0), cond_false, M_meets_s (show w < 18 by omega) hf, pd_bV_of, M_gets_L21_g hf, pu_w1n (show 230 ≠ 256 by decide), pu_w2, t4, pd_bJ_of]
        rfl
    · exact JL.same (v := c_lerr (-2)) h (by rw [X_get_eq, X_slot, e, pd_bI_of, decide_eq_false (by decide : ¬ (1 : Int32) = 0), cond_false]; rw [X_lerr, pd_bJ_of]; exact c_lelt_out hb _ _) (fun g => by rw [M_get_eq, M_slot, e, pd_bI_of, decide_eq_false (by decide : ¬ (1 : Int32) = 0), cond_false, c_in_ko (n := 9) (by decide) (by decide) hb, pd_bI_of, decide_eq_true (rfl : (0 : Int32) = 0), cond_true, M_lerr, pd_bJ_of])
  · exact JL.same (v := c_lerr (-2)) h (by rw [X_get_eq, X_slot, e, pd_bI_of, decide_eq_true (rfl : (0 : Int32) = 0), cond_true, X_lerr, pd_bJ_of]) (fun g => by rw [M_get_eq, M_slot, e, pd_bI_of, decide_eq_true (rfl : (0 : Int32) = 0), cond_true, M_lerr, pd_bJ_of])
end GET
