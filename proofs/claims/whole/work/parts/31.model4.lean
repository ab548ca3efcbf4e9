/-! The model does a change: moved, tells, does. -/
def m_mvK (k : Nat) : Prop := k = 230 ∨ k = 233 ∨ k = 234 ∨ k = 256
/-- behind a change that the model has tried on σ: c the change, b whether it is met -/
def m_did (σ τ : pd_H) (c : cC) (b : Int32) : Prop :=
  (c_fd (σ.1 231) (σ.1 232) (m_R σ) c = 0 → τ.1 233 = upd (σ.1 233) (c_tc c) (c_nt (σ.1 231) (m_R σ) c) ∧ τ.2.1 234 = vp_updL (σ.2.1 234) (c_tc c) (c_nn (σ.1 231) (m_R σ) c)) ∧
  (c_fd (σ.1 231) (σ.1 232) (m_R σ) c ≠ 0 → τ.1 233 = σ.1 233 ∧ τ.2.1 234 = σ.2.1 234) ∧ pu_fr m_mvK σ τ ∧ (∀ j, j ≠ 31 → τ.1 230 j = σ.1 230 j) ∧
  τ.1 256 = cond (decide (b = 0)) (σ.1 256) (c_tal (σ.1 256) c (c_f1 (σ.1 231) (σ.1 232) c) (c_ww (m_R σ) c) (c_f2 (σ.1 231) (σ.1 232) (m_R σ) c))
theorem m_way_low {w : Nat} (h : w < 8) : m_way (nI w) (nI w) := Or.inl ⟨rfl, w, h, rfl⟩
theorem m_way_8 {t : Nat} (h : t < 12) : m_way (nI (8 + t)) (nI (8 + t)) := by
  have h8 : (8 : Int32) ≤ nI (8 + t) := by
    have : ∀ t, t < 12 → (8 : Int32) ≤ nI (8 + t) := by decide +kernel
    exact this t h
  exact Or.inr ⟨h8, h8, fun k hk => m_tak_eq k hk t h⟩
theorem m_way_tell {w : Nat} (h : w < 22) : m_way (cond (decide ((20 : Int32) ≤ nI w)) (nI w - 3) (nI w)) (nI w) := by
  rcases Nat.lt_or_ge w 8 with q | q
  · have : ∀ w, w < 8 → cond (decide ((20 : Int32) ≤ nI w)) (nI w - 3) (nI w) = nI w := by decide +kernel
    rw [this w q]
    exact m_way_low q
  · have : ∀ w, w < 22 → 8 ≤ w → (8 : Int32) ≤ cond (decide ((20 : Int32) ≤ nI w)) (nI w - 3) (nI w) ∧ (8 : Int32) ≤ nI w := by decide +kernel
    exact Or.inr ⟨(this w h q).1, (this w h q).2, fun k hk => m_tak_20 k hk w h q⟩
theorem pk_uj {f : Nat → Int32} {k j : Nat} {x : Int32} (h : j ≠ k) : upd f k x j = f j := pk_un h
section MODEL4
variable {σ : pd_H} {a : Nat}
/-- the end of a copy: laid, and met -/
theorem M_tail_s {R : cR} {c : cC} {σ0 σ1 : pd_H} {b wm : Int32} {go : Int32 → pd_H → Option pd_R} (hgo : ∀ f s, go f s = cond (decide (b = 0)) (some (s, some (pd_i f))) (cond (decide ((8 : Int32) ≤ wm)) (pd_bV (M_meets 17 f s) fun s3 => some (s3, some (pd_i f))) (pd_bV (M_meets ((9 : Int32) + wm) f s) fun s4 => some (s4, some (pd_i f)))))
    (hw : ∃ w : Nat, w < 20 ∧ wm = nI w) (f : Int32) (hf : c_rng f) (s : pd_H) : ∃ τ, go f s = some (τ, some (pd_i f)) ∧ τ = pu_rwI s 256 (cond (decide (b = 0)) (s.1 256) (c_bmp (s.1 256) (cond (decide (8 ≤ wm)) 17 (9 + wm)) f)) := by
  refine ⟨_, ?_, rfl⟩
  rw [hgo]
  obtain ⟨w, h1, rfl⟩ := hw
  have e9 : (9 : Int32) + nI w = nI (9 + w) := nI_add 9 w
  have e0 : pu_rwI s 256 (s.1 256) = s := by
    refine pu_H_ext (fun k => ?_) (fun k => rfl) rfl
    by_cases h : k = 256
    · subst h; exact pu_w1s
    · exact pu_w1n h
  cases decide (b = 0) with
  | true => rw [cond_true, cond_true, e0]
  | false =>
    rw [cond_false, cond_false]
    have h8 : decide ((8 : Int32) ≤ nI w) = decide (8 ≤ w) := by
      have : ∀ w, w < 20 → decide ((8 : Int32) ≤ nI w) = decide (8 ≤ w) := by decide +kernel
      exact this w h1
    rw [h8]
    by_cases h : 8 ≤ w
    · rw [decide_eq_true h, cond_true, cond_true, show (17 : Int32) = nI 17 from rfl, M_meets_s (by decide) hf]; rfl
    · rw [decide_eq_false h, cond_false, cond_false, e9, M_meets_s (by omega) hf]; rfl
set_option maxHeartbeats 4000000 in
theorem M_moved_s (ha : a < 150) {c : cC} (hcc : m_co σ a c) (hk : c_kok (σ.1 231)) (hz : c_zok (σ.1 232)) (hcl : c_cells (σ.1 231) (σ.1 232) (σ.1 233) (σ.2.1 234)) (hc : c_chok c) (b : Int32) :
    ∃ τ, M_moved (nI a) b σ = some (τ, some (pd_i (c_fd (σ.1 231) (σ.1 232) (m_R σ) c))) ∧ m_did σ τ c b := by
  obtain ⟨hne, e238, e239, e240, e241, e243, e242, hv0⟩ := hcc
  have o150 : pd_ob (nI a) 150 = false := pu_obN ha (by decide)
  have na := nI_clamp (show a < 2 ^ 31 by omega)
  obtain ⟨⟨hf, hto⟩, w, hw, hw1, hw2⟩ := id hc
  have hs := hf.resolve_left hne
  have hw9 := hw2 hne
  have nd : ∀ {α : Type} (x y : α), cond (decide (c.1 = (-1 : Int32))) x y = y := fun x y => by rw [decide_eq_false hne]; rfl
  have F1 : c_f1 (σ.1 231) (σ.1 232) c = c_rdF (σ.1 231) (σ.1 232) c.1 (nI w) c.2.1 := by rw [← hw]; exact nd _ _
  have hA := M_asks_s (σ := σ) (s := c.1) (i := c.2.1) hs hw9 hk hz hcl F1.symm
  have hr1 := c_f1_rng (σ.1 231) (σ.1 232) c
  have hT1 : ∀ m f1, c_ta1 m c f1 = c_bmp m (nI w) f1 := fun m f1 => by rw [← hw]; exact nd _ _
  -- asked, and met
  have step1 : ∀ (σ1 : pd_H), pu_fr (fun k => k = 230) σ σ1 → (∀ j, j ≠ 31 → σ1.1 230 j = σ.1 230 j) → M_asks c.1 (nI w) c.2.1 σ = some (σ1, some (pd_i (c_f1 (σ.1 231) (σ.1 232) c))) →
      M_moved (nI a) b σ = M_moved_L38 (nI a) b (c_f1 (σ.1 231) (σ.1 232) c) none none (pu_rwI σ1 256 (cond (decide (b = 0)) (σ1.1 256) (c_bmp (σ1.1 256) (nI w) (c_f1 (σ.1 231) (σ.1 232) c)))) := by
    intro σ1 h1 h2 h3
    have e0 : pu_rwI σ1 256 (σ1.1 256) = σ1 := by
      refine pu_H_ext (fun k => ?_) (fun k => rfl) rfl
      by_cases h : k = 256
      · subst h; exact pu_w1s
      · exact pu_w1n h
    rw [M_moved_eq]
    simp only [show pd_len 239 = 150 from rfl, show pd_len 240 = 150 from rfl, show pd_len 241 = 150 from rfl, o150, na, pd_bI_of, pd_bJ_of, pd_bV_of, pd_bR_of, cond_true, cond_false, e239, e240, e241, hw, h3, h1.1 241 (by decide), M_meets_s (show w < 18 by omega) hr1]
    cases decide (b = 0) with
    | true => rw [cond_true, cond_true, e0]
    | false => rfl
  by_cases h0 : c_f1 (σ.1 231) (σ.1 232) c = 0
  · obtain ⟨t, t1, t2, t3, t4, w', w'1, w'2, w'3⟩ := c_held_ok (R := m_R σ) hk hz hcl hc h0
    have eHT : c_ht (m_R σ) c = cond (decide (nI w = 8)) (σ.1 233 (c_cell c.1 c.2.1)) (nI w) := by rw [← hw]; exact nd _ _
    have eHN : c_hn (m_R σ) c = cond (decide (nI w = 8)) (σ.2.1 234 (c_cell c.1 c.2.1)) (c_wd (σ.1 233 (c_cell c.1 c.2.1)) (σ.2.1 234 (c_cell c.1 c.2.1)) (nI w)) := by rw [← hw]; exact nd _ _
    have eWW : c_ww (m_R σ) c = cond (decide (nI w = 8)) (8 + σ.1 233 (c_cell c.1 c.2.1)) (nI w) := by rw [← hw]; exact nd _ _
    rw [h0, decide_eq_true (rfl : (0 : Int32) = 0), cond_true, ← eHT, ← eHN] at hA
    have hFD : c_fd (σ.1 231) (σ.1 232) (m_R σ) c = c_f2 (σ.1 231) (σ.1 232) (m_R σ) c := by unfold c_fd; rw [h0]; rfl
    have hr2 : c_rng (c_f2 (σ.1 231) (σ.1 232) (m_R σ) c) := c_wrF_rng _ _ _ _ _
    rw [step1 (pd_upJ (pd_upI σ 230 31 (c_ht (m_R σ) c)) 230 32 (c_hn (m_R σ) c)) ((pu_fr.upI (K := fun k => k = 230) rfl).tr (pu_fr.upJ (K := fun k => k = 230) rfl)) (fun j hj => by rw [pu_j1, pu_u1s, pk_un hj]) (by rw [h0]; exact hA), h0]
    generalize hσ2 : pu_rwI (pd_upJ (pd_upI σ 230 31 (c_ht (m_R σ) c)) 230 32 (c_hn (m_R σ) c)) 256 (cond (decide (b = 0)) ((pd_upJ (pd_upI σ 230 31 (c_ht (m_R σ) c)) 230 32 (c_hn (m_R σ) c)).1 256) (c_bmp ((pd_upJ (pd_upI σ 230 31 (c_ht (m_R σ) c)) 230 32 (c_hn (m_R σ) c)).1 256) (nI w) 0)) = σ2
    have q1 : pu_fr (fun k => k = 230 ∨ k = 256) σ σ2 := by rw [← hσ2]; exact (((pu_fr.upI (Or.inl rfl)).tr (pu_fr.upJ (Or.inl rfl)))).tr (pu_fr.rwI (Or.inr rfl))
    have q2 : σ2.1 230 = upd (σ.1 230) 31 (c_ht (m_R σ) c) := by rw [← hσ2, pu_w1n (by decide), pu_j1, pu_u1s]
    have q3 : σ2.2.1 230 32 = c_hn (m_R σ) c := by rw [← hσ2]; show (pd_upJ _ 230 32 _).2.1 230 32 = _; rw [pu_j2s, pk_uLs]
    have q4 : σ2.1 256 = cond (decide (b = 0)) (σ.1 256) (c_ta1 (σ.1 256) c 0) := by rw [← hσ2, pu_w1s, pu_j1, pu_u1n (by decide), hT1]
    have k231 := q1.1 231 (by decide)
    have k232 := q1.1 232 (by decide)
    have k233 := q1.1 233 (by decide)
    have k234 := q1.2.1 234 (by decide)
    have hwm : m_way (c_ww (m_R σ) c) (c_ww (m_R σ) c) := by
      rw [w'2]
      have := w'3 hne
      by_cases q : w' < 8
      · exact m_way_low q
      · rw [show w' = 8 + (w' - 8) by omega]; exact m_way_8 (by omega)
    have hL := M_lays_s (σ := σ2) (s := c.2.2.2.1) (i := c.2.2.2.2.1) (wm := c_ww (m_R σ) c) (ww := c_ww (m_R σ) c) hto (by rw [k231]; exact hk) (by rw [k232]; exact hz) hwm t1 t3 t4 (f := c_f2 (σ.1 231) (σ.1 232) (m_R σ) c) (by rw [k231, k232]; rfl)
    rw [← t2, k231] at hL
    -- to the end
    have hrun : M_moved_L38 (nI a) b 0 none none σ2 = pd_bI (M_lays c.2.2.2.1 (c_ww (m_R σ) c) c.2.2.2.2.1 (c_ht (m_R σ) c) (c_hn (m_R σ) c) σ2) fun s1 v2 => cond (decide (b = 0)) (some (s1, some (pd_i v2))) (cond (decide ((8 : Int32) ≤ c_ww (m_R σ) c)) (pd_bV (M_meets 17 v2 s1) fun s3 => some (s3, some (pd_i v2))) (pd_bV (M_meets ((9 : Int32) + c_ww (m_R σ) c) v2 s1) fun s4 => some (s4, some (pd_i v2)))) := by
      rw [M_moved_L38_eq]
      simp only [show decide ((0 : Int32) ≤ 0) = true from rfl, pd_bI_of, pd_bJ_of, pd_bV_of, pd_bR_of, cond_true, cond_false, show pd_len 241 = 150 from rfl, o150, na, q1.1 241 (by decide), e241, hw, M_moved_L71_eq, show pd_len 243 = 150 from rfl, show pd_len 242 = 150 from rfl, q1.1 243 (by decide), q1.1 242 (by decide), e243, e242, q2, q3, pk_us]
      have h8 : decide ((8 : Int32) ≤ nI w) = decide (nI w = 8) := by
        have : ∀ w, w < 9 → decide ((8 : Int32) ≤ nI w) = decide (nI w = 8) := by decide +kernel
        exact this w hw9
      by_cases h : nI w = 8
      · rw [h8, decide_eq_true h, cond_true]
        rw [decide_eq_true h, cond_true] at eHT eWW
        rw [eWW, ← eHT]
      · rw [h8, decide_eq_false h, cond_false]
        rw [decide_eq_false h, cond_false] at eWW
        rw [eWW, h8, decide_eq_false h]
    rw [hrun, hL, hFD]
    obtain ⟨w20, w201⟩ : ∃ w : Nat, w < 20 ∧ c_ww (m_R σ) c = nI w := ⟨w', w'3 hne, w'2⟩
    have hTAL : ∀ m : Nat → Int32, c_tal m c 0 (c_ww (m_R σ) c) (c_f2 (σ.1 231) (σ.1 232) (m_R σ) c) = c_bmp (c_ta1 m c 0) (cond (decide (8 ≤ c_ww (m_R σ) c)) 17 (9 + c_ww (m_R σ) c)) (c_f2 (σ.1 231) (σ.1 232) (m_R σ) c) := fun m => by
      show c_ta2 (c_ta1 m c 0) _ _ = _
      unfold c_ta2
      rw [w'2]
      have : ∀ w, w < 20 → decide ((20 : Int32) ≤ nI w) = false := by decide +kernel
      rw [this w' (w'3 hne)]; rfl
    by_cases hf2 : c_f2 (σ.1 231) (σ.1 232) (m_R σ) c = 0
    · rw [decide_eq_true hf2, cond_true]
      simp only [pd_bI_of, pd_bJ_of, pd_bV_of, pd_bR_of, cond_true, cond_false]
      obtain ⟨τ, g1, g2⟩ := M_tail_s (R := m_R σ) (c := c) (σ0 := σ) (σ1 := σ) (b := b) (wm := c_ww (m_R σ) c) (go := fun v2 s1 => cond (decide (b = 0)) (some (s1, some (pd_i v2))) (cond (decide ((8 : Int32) ≤ c_ww (m_R σ) c)) (pd_bV (M_meets 17 v2 s1) fun s3 => some (s3, some (pd_i v2))) (pd_bV (M_meets ((9 : Int32) + c_ww (m_R σ) c) v2 s1) fun s4 => some (s4, some (pd_i v2))))) (fun _ _ => rfl) ⟨w20, w201⟩ 0 c_rng0 (pd_upJ (pd_upI σ2 233 (c_cell c.2.2.2.1 c.2.2.2.2.1) (cond (decide (7 < σ.1 231 c.2.2.2.1.toNatClampNeg)) (c_ht (m_R σ) c) (σ.1 231 c.2.2.2.1.toNatClampNeg))) 234 (c_cell c.2.2.2.1 c.2.2.2.2.1) (cond (decide (7 < σ.1 231 c.2.2.2.1.toNatClampNeg)) (c_hn (m_R σ) c) (c_wd (c_ht (m_R σ) c) (c_hn (m_R σ) c) (σ.1 231 c.2.2.2.1.toNatClampNeg))))
      refine ⟨τ, by rw [hf2]; exact g1, fun _ => ?_, fun h => absurd (hFD.trans hf2) h, ?_, ?_, ?_⟩
      · rw [g2]
        refine ⟨?_, ?_⟩
        · rw [pu_w1n (by decide), pu_j1, pu_u1s, k233]; rfl
        · show (pd_upJ _ 234 _ _).2.1 234 = _
          rw [pu_j2s, pu_u2, k234]; rfl
      · rw [g2]
        exact ((q1.mono fun k h => by unfold m_mvK; omega).tr ((pu_fr.upI (by unfold m_mvK; omega)).tr (pu_fr.upJ (by unfold m_mvK; omega)))).tr (pu_fr.rwI (by unfold m_mvK; omega))
      · intro j hj
        rw [g2, pu_w1n (by decide), pu_j1, pu_u1n (by decide), q2, pk_un hj]
      · rw [g2, pu_w1s, pu_j1, pu_u1n (by decide), q4, h0, hTAL, hf2]
        cases decide (b = 0) <;> rfl
    · rw [decide_eq_false hf2, cond_false]
      simp only [pd_bI_of, pd_bJ_of, pd_bV_of, pd_bR_of, cond_true, cond_false]
      obtain ⟨τ, g1, g2⟩ := M_tail_s (R := m_R σ) (c := c) (σ0 := σ) (σ1 := σ) (b := b) (wm := c_ww (m_R σ) c) (go := fun v2 s1 => cond (decide (b = 0)) (some (s1, some (pd_i v2))) (cond (decide ((8 : Int32) ≤ c_ww (m_R σ) c)) (pd_bV (M_meets 17 v2 s1) fun s3 => some (s3, some (pd_i v2))) (pd_bV (M_meets ((9 : Int32) + c_ww (m_R σ) c) v2 s1) fun s4 => some (s4, some (pd_i v2))))) (fun _ _ => rfl) ⟨w20, w201⟩ (c_f2 (σ.1 231) (σ.1 232) (m_R σ) c) hr2 σ2
      refine ⟨τ, g1, fun h => absurd (hFD ▸ h) hf2, fun _ => ?_, ?_, ?_, ?_⟩
      · rw [g2]; exact ⟨by rw [pu_w1n (by decide), k233], by rw [pu_w2]; exact k234⟩
      · rw [g2]
        exact (q1.mono fun k h => by unfold m_mvK; omega).tr (pu_fr.rwI (by unfold m_mvK; omega))
      · intro j hj
        rw [g2, pu_w1n (by decide), q2, pk_un hj]
      · rw [g2, pu_w1s, q4, h0, hTAL]
        cases decide (b = 0) <;> rfl
  · have hFD : c_fd (σ.1 231) (σ.1 232) (m_R σ) c = c_f1 (σ.1 231) (σ.1 232) c := by unfold c_fd; rw [decide_eq_false h0]; rfl
    rw [decide_eq_false h0, cond_false] at hA
    rw [step1 σ pu_fr.rf (fun j _ => rfl) hA, M_moved_L38_eq, c_rng_le hr1, decide_eq_false h0, cond_false, hFD]
    refine ⟨_, rfl, fun h => absurd (hFD ▸ h) h0, fun _ => ⟨pu_w1n (by decide), rfl⟩, pu_fr.rwI (by unfold m_mvK; omega), fun j hj => by rw [pu_w1n (by decide)], ?_⟩
    rw [pu_w1s]
    unfold c_tal
    rw [decide_eq_false h0, cond_false, hT1]
set_option maxHeartbeats 4000000 in
theorem M_tells_s (ha : a < 150) {c : cC} (hcc : m_wr σ a c) (hk : c_kok (σ.1 231)) (hz : c_zok (σ.1 232)) (hcl : c_cells (σ.1 231) (σ.1 232) (σ.1 233) (σ.2.1 234)) (hc : c_chok c) (b : Int32) :
    ∃ τ, M_tells (nI a) b σ = some (τ, some (pd_i (c_fd (σ.1 231) (σ.1 232) (m_R σ) c))) ∧ m_did σ τ c b := by
  obtain ⟨hcp, e238, e241, e239, e240, e242, -⟩ := hcc
  have o150 : pd_ob (nI a) 150 = false := pu_obN ha (by decide)
  have na := nI_clamp (show a < 2 ^ 31 by omega)
  obtain ⟨⟨hf, hto⟩, w, hw, hw1, hw2⟩ := id hc
  have hw22 := hw1 hcp
  have nd : ∀ {α : Type} (x y : α), cond (decide (c.1 = (-1 : Int32))) x y = x := fun x y => by rw [decide_eq_true hcp]; rfl
  have h0 : c_f1 (σ.1 231) (σ.1 232) c = 0 := nd _ _
  obtain ⟨t, t1, t2, t3, t4, -⟩ := c_held_ok (R := m_R σ) hk hz hcl hc h0
  have eWW : c_ww (m_R σ) c = nI w := by rw [← hw]; exact nd _ _
  have eHT : c_ht (m_R σ) c = c_tyW (nI w) := by rw [← hw]; exact nd _ _
  have eHN : c_hn (m_R σ) c = c_mk (nI t) c.2.2.2.2.2 := by
    have : c_hn (m_R σ) c = c_mk (c_tyW c.2.2.1) c.2.2.2.2.2 := nd _ _
    rw [this, hw, ← eHT, t2]
  have hT1 : ∀ m f1, c_ta1 m c f1 = m := fun m f1 => nd _ _
  have hFD : c_fd (σ.1 231) (σ.1 232) (m_R σ) c = c_f2 (σ.1 231) (σ.1 232) (m_R σ) c := by unfold c_fd; rw [h0]; rfl
  have hr2 : c_rng (c_f2 (σ.1 231) (σ.1 232) (m_R σ) c) := c_wrF_rng _ _ _ _ _
  have hL := M_lays_s (σ := σ) (s := c.2.2.2.1) (i := c.2.2.2.2.1) (wm := cond (decide ((20 : Int32) ≤ nI w)) (nI w - 3) (nI w)) (ww := nI w) hto hk hz (m_way_tell hw22) t1 (by rw [← eWW]; exact t3) t4 (f := c_f2 (σ.1 231) (σ.1 232) (m_R σ) c) (by rw [← eWW]; rfl)
  generalize hwm : cond (decide ((20 : Int32) ≤ nI w)) (nI w - 3) (nI w) = wm at hL
  have hrun : M_tells (nI a) b σ = pd_bI (M_lays c.2.2.2.1 wm c.2.2.2.2.1 (nI t) (c_hn (m_R σ) c) σ) fun s5 v6 => cond (decide (b = 0)) (some (s5, some (pd_i v6))) (cond (decide ((20 : Int32) ≤ s5.1 241 a)) (some (s5, some (pd_i v6))) (cond (decide ((8 : Int32) ≤ wm)) (pd_bV (M_meets 17 v6 s5) fun s7 => some (s7, some (pd_i v6))) (pd_bV (M_meets ((9 : Int32) + wm) v6 s5) fun s8 => some (s8, some (pd_i v6))))) := by
    have h28 : ∀ wm, M_tells_L28 (nI a) b none none none wm σ = pd_bI (M_lays c.2.2.2.1 wm c.2.2.2.2.1 (nI t) (c_hn (m_R σ) c) σ) fun s5 v6 => cond (decide (b = 0)) (some (s5, some (pd_i v6))) (cond (decide ((20 : Int32) ≤ s5.1 241 a)) (some (s5, some (pd_i v6))) (cond (decide ((8 : Int32) ≤ wm)) (pd_bV (M_meets 17 v6 s5) fun s7 => some (s7, some (pd_i v6))) (pd_bV (M_meets ((9 : Int32) + wm) v6 s5) fun s8 => some (s8, some (pd_i v6))))) := by
      intro wm
      rw [M_tells_L28_eq]
      simp only [show pd_len 239 = 150 from rfl, show pd_len 240 = 150 from rfl, show pd_len 241 = 150 from rfl, show pd_len 242 = 150 from rfl, o150, na, pd_bI_of, pd_bJ_of, pd_bV_of, pd_bR_of, cond_true, cond_false, e239, e240, e241, e242, hw, M_typeBy_s, ← eHT, t2, M_made_s t1, ← eHN]
    rw [M_tells_eq]
    simp only [show pd_len 241 = 150 from rfl, o150, na, pd_bI_of, pd_bJ_of, pd_bV_of, pd_bR_of, cond_true, cond_false, e241, hw]
    rw [h28, h28, ← hwm]
    cases decide ((20 : Int32) ≤ nI w) <;> rfl
  have m241 : ∀ s : pd_H, pu_fr (fun k => k = 233 ∨ k = 234) σ s → s.1 241 a = nI w := fun s h => by rw [h.1 241 (by decide), e241, hw]
  -- the end
  have hend : ∀ (s : pd_H) (f : Int32), c_rng f → s.1 241 a = nI w → (cond (decide (b = 0)) (some (s, some (pd_i f))) (cond (decide ((20 : Int32) ≤ s.1 241 a)) (some (s, some (pd_i f))) (cond (decide ((8 : Int32) ≤ wm)) (pd_bV (M_meets 17 f s) fun s7 => some (s7, some (pd_i f))) (pd_bV (M_meets ((9 : Int32) + wm) f s) fun s8 => some (s8, some (pd_i f)))))) = some (pu_rwI s 256 (cond (decide (b = 0)) (s.1 256) (c_ta2 (s.1 256) (nI w) f)), some (pd_i f)) := by
    intro s f hf h241
    have e0 : pu_rwI s 256 (s.1 256) = s := by
      refine pu_H_ext (fun k => ?_) (fun k => rfl) rfl
      by_cases h : k = 256
      · subst h; exact pu_w1s
      · exact pu_w1n h
    cases decide (b = 0) with
    | true => rw [cond_true, cond_true, e0]
    | false =>
      rw [cond_false, cond_false, h241]
      unfold c_ta2
      by_cases h20 : (20 : Int32) ≤ nI w
      · rw [decide_eq_true h20, cond_true, cond_true, e0]
      · rw [decide_eq_false h20, cond_false] at hwm ⊢
        subst hwm
        have hw20 : w < 20 := by
          rw [show (20 : Int32) = nI 20 from rfl, nI_leI (by decide) (by omega)] at h20
          omega
        have e9 : (9 : Int32) + nI w = nI (9 + w) := nI_add 9 w
        have h8 : decide ((8 : Int32) ≤ nI w) = decide (8 ≤ w) := by
          have : ∀ w, w < 20 → decide ((8 : Int32) ≤ nI w) = decide (8 ≤ w) := by decide +kernel
          exact this w hw20
        rw [h8]
        by_cases h : 8 ≤ w
        · rw [decide_eq_true h, cond_true, cond_true, show (17 : Int32) = nI 17 from rfl, M_meets_s (by decide) hf]; rfl
        · rw [decide_eq_false h, cond_false, cond_false, e9, M_meets_s (by omega) hf]; rfl
  have hTAL : ∀ m : Nat → Int32, c_tal m c 0 (c_ww (m_R σ) c) (c_f2 (σ.1 231) (σ.1 232) (m_R σ) c) = c_ta2 m (nI w) (c_f2 (σ.1 231) (σ.1 232) (m_R σ) c) := fun m => by
    show c_ta2 (c_ta1 m c 0) _ _ = _
    rw [hT1, eWW]
  rw [hrun, hL, hFD, ← t2]
  by_cases hf2 : c_f2 (σ.1 231) (σ.1 232) (m_R σ) c = 0
  · rw [decide_eq_true hf2, cond_true]
    simp only [pd_bI_of]
    have fr := (pu_fr.upI (K := fun k => k = 233 ∨ k = 234) (σ := σ) (k := 233) (i := c_cell c.2.2.2.1 c.2.2.2.2.1) (x := cond (decide (7 < σ.1 231 c.2.2.2.1.toNatClampNeg)) (c_ht (m_R σ) c) (σ.1 231 c.2.2.2.1.toNatClampNeg)) (Or.inl rfl)).tr (pu_fr.upJ (k := 234) (i := c_cell c.2.2.2.1 c.2.2.2.2.1) (x := cond (decide (7 < σ.1 231 c.2.2.2.1.toNatClampNeg)) (c_hn (m_R σ) c) (c_wd (c_ht (m_R σ) c) (c_hn (m_R σ) c) (σ.1 231 c.2.2.2.1.toNatClampNeg))) (Or.inr rfl))
    rw [hend _ 0 c_rng0 (m241 _ fr)]
    refine ⟨_, by rw [hf2], fun _ => ⟨?_, ?_⟩, fun h => absurd (hFD.trans hf2) h, ?_, ?_, ?_⟩
    · rw [pu_w1n (by decide), pu_j1, pu_u1s]; rfl
    · show (pd_upJ _ 234 _ _).2.1 234 = _
      rw [pu_j2s, pu_u2]; rfl
    · exact (fr.mono fun k h => by unfold m_mvK; omega).tr (pu_fr.rwI (by unfold m_mvK; omega))
    · intro j hj
      rw [pu_w1n (by decide), pu_j1, pu_u1n (by decide)]
    · rw [pu_w1s, pu_j1, pu_u1n (by decide), h0, hTAL, hf2]
  · rw [decide_eq_false hf2, cond_false]
    simp only [pd_bI_of]
    rw [hend σ _ hr2 (by rw [e241, hw])]
    refine ⟨_, rfl, fun h => absurd (hFD ▸ h) hf2, fun _ => ⟨pu_w1n (by decide), rfl⟩, pu_fr.rwI (by unfold m_mvK; omega), fun j hj => by rw [pu_w1n (by decide)], ?_⟩
    rw [pu_w1s, h0, hTAL]
/-- behind a change that the model does -/
def m_doK (k : Nat) : Prop := m_mvK k ∨ k = 237 ∨ k = 245 ∨ k = 246 ∨ k = 247 ∨ k = 248 ∨ k = 249
theorem M_isCell_s (x : Int32) (σ : pd_H) : M_isCell x σ = some (σ, some (pd_i (c_in x 0 71))) := by
  rw [M_isCell_eq, M_in_s]
  simp only [pd_bI_of, pd_bJ_of, pd_bV_of, pd_bR_of, cond_true, cond_false, pu_c01 (c_in_z _ _ _)]
theorem m_isC {x : Int32} (h : c_in x 0 71 ≠ 0) : ∃ j : Nat, j < 72 ∧ x = nI j := by
  unfold c_in at h
  by_cases h0 : x < 0
  · rw [decide_eq_true h0] at h; exact absurd rfl h
  · rw [decide_eq_false h0, cond_false] at h
    by_cases h1 : 71 < x
    · rw [decide_eq_true h1] at h; exact absurd rfl h
    · obtain ⟨j, h2, rfl⟩ := nI_of h0
      rw [show (71 : Int32) = nI 71 from rfl, nI_ltI (by decide) h2] at h1
      exact ⟨j, by omega, rfl⟩
theorem m_isC1 {j : Nat} (h : j < 72) : c_in (nI j) 0 71 = 1 := by
  have : ∀ j, j < 72 → c_in (nI j) 0 71 = 1 := by decide +kernel
  exact this j h
theorem M_cell_s (ha : a < 150) {c : cC} (hcc : m_is σ a c) : M_cellTo (nI a) σ = some (σ, some (pd_i (c.2.2.2.1 * 12 + c.2.2.2.2.1))) ∧ (c.1 ≠ -1 → M_cellFrom (nI a) σ = some (σ, some (pd_i (c.1 * 12 + c.2.1)))) ∧ ∃ x, M_cellFrom (nI a) σ = some (σ, some (pd_i x)) := by
  have o150 : pd_ob (nI a) 150 = false := pu_obN ha (by decide)
  have na := nI_clamp (show a < 2 ^ 31 by omega)
  rw [M_cellTo_eq, M_cellFrom_eq]
  simp only [show pd_len 238 = 150 from rfl, show pd_len 239 = 150 from rfl, show pd_len 240 = 150 from rfl, show pd_len 242 = 150 from rfl, show pd_len 243 = 150 from rfl, o150, na, pd_bI_of, pd_bJ_of, pd_bV_of, pd_bR_of, cond_true, cond_false, m_cell_comm]
  rcases hcc with ⟨q0, q1, q2, q3, q4, q5, q6⟩ | ⟨q0, q1, q2, q3, q4, q5, q6, q7⟩
  · refine ⟨?_, fun h => absurd q0 h, _, rfl⟩
    rw [q1, q3, q4]; rfl
  · refine ⟨?_, fun _ => ?_, _, rfl⟩
    · rw [q1, q5, q6]; rfl
    · rw [q2, q3]
set_option maxHeartbeats 4000000 in
theorem M_does_s (ha : a < 150) {c : cC} (hcc : m_is σ a c) (hk : c_kok (σ.1 231)) (hz : c_zok (σ.1 232)) (hcl : c_cells (σ.1 231) (σ.1 232) (σ.1 233) (σ.2.1 234)) (hc : c_chok c) (p b : Int32) :
    ∃ τ, M_does p (nI a) b σ = some (τ, some (pd_i (c_fd (σ.1 231) (σ.1 232) (m_R σ) c))) ∧ (c_fd (σ.1 231) (σ.1 232) (m_R σ) c = 0 → m_R τ = c_one (σ.1 231) p a c (m_R σ)) ∧ (c_fd (σ.1 231) (σ.1 232) (m_R σ) c ≠ 0 → m_R τ = m_R σ) ∧ pu_fr m_doK σ τ ∧ (∀ j, j ≠ 31 → τ.1 230 j = σ.1 230 j) ∧
      τ.1 256 = cond (decide (b = 0)) (σ.1 256) (c_tal (σ.1 256) c (c_f1 (σ.1 231) (σ.1 232) c) (c_ww (m_R σ) c) (c_f2 (σ.1 231) (σ.1 232) (m_R σ) c)) := by
  have o150 : pd_ob (nI a) 150 = false := pu_obN ha (by decide)
  have na := nI_clamp (show a < 2 ^ 31 by omega)
  obtain ⟨c1, c2, xf, c3⟩ := M_cell_s ha hcc
  -- what was there before
  have pre : ∃ (ot : Int32) (on : Int64) (ak : Int32) (d5 d9 d10 : Option pd_V), M_does p (nI a) b σ = M_does_L84 p (nI a) b (c.2.2.2.1 * 12 + c.2.2.2.2.1) d5 ot on d9 d10 ak σ ∧ (c_cld c → ot = σ.1 233 (c_tc c) ∧ on = σ.2.1 234 (c_tc c) ∧ ak = c_sr (m_R σ) c) := by
    have hA : ∃ (ot : Int32), (∀ d6 d7 d8 d9 d10, cond (decide (c_in (c.2.2.2.1 * 12 + c.2.2.2.2.1) 0 71 = 0)) (M_does_L33 p (nI a) b (c.2.2.2.1 * 12 + c.2.2.2.2.1) xf d6 d7 d8 d9 d10 0 σ) (cond (pd_ob (c.2.2.2.1 * 12 + c.2.2.2.2.1) (pd_len 233)) none (M_does_L33 p (nI a) b (c.2.2.2.1 * 12 + c.2.2.2.2.1) xf d6 d7 d8 d9 d10 (σ.1 233 (c.2.2.2.1 * 12 + c.2.2.2.2.1).toNatClampNeg) σ)) = M_does_L33 p (nI a) b (c.2.2.2.1 * 12 + c.2.2.2.2.1) xf d6 d7 d8 d9 d10 ot σ) ∧ (c_cld c → ot = σ.1 233 (c_tc c)) := by
      by_cases h : c_in (c.2.2.2.1 * 12 + c.2.2.2.2.1) 0 71 = 0
      · refine ⟨0, fun _ _ _ _ _ => by rw [decide_eq_true h]; rfl, fun hd => ?_⟩
        rw [hd.1.1, m_isC1 hd.1.2] at h; exact absurd h (by decide)
      · obtain ⟨j, h1, h2⟩ := m_isC h
        refine ⟨σ.1 233 j, fun _ _ _ _ _ => by rw [decide_eq_false h, h2, show pd_len 233 = 72 from rfl, pu_obN h1 (by decide), nI_clamp (by omega)]; rfl, fun hd => ?_⟩
        have e := h2.symm.trans hd.1.1
        rw [nI_eq (by omega) (by have := hd.1.2; omega)] at e
        rw [e]
    have hB : ∃ (on : Int64), (∀ d7 d8 d9 d10 ot, cond (decide (c_in (c.2.2.2.1 * 12 + c.2.2.2.2.1) 0 71 = 0)) (M_does_L54 p (nI a) b (c.2.2.2.1 * 12 + c.2.2.2.2.1) xf ot d7 d8 d9 d10 0 σ) (cond (pd_ob (c.2.2.2.1 * 12 + c.2.2.2.2.1) (pd_len 234)) none (M_does_L54 p (nI a) b (c.2.2.2.1 * 12 + c.2.2.2.2.1) xf ot d7 d8 d9 d10 (σ.2.1 234 (c.2.2.2.1 * 12 + c.2.2.2.2.1).toNatClampNeg) σ)) = M_does_L54 p (nI a) b (c.2.2.2.1 * 12 + c.2.2.2.2.1) xf ot d7 d8 d9 d10 on σ) ∧ (c_cld c → on = σ.2.1 234 (c_tc c)) := by
      by_cases h : c_in (c.2.2.2.1 * 12 + c.2.2.2.2.1) 0 71 = 0
      · refine ⟨0, fun _ _ _ _ _ => by rw [decide_eq_true h]; rfl, fun hd => ?_⟩
        rw [hd.1.1, m_isC1 hd.1.2] at h; exact absurd h (by decide)
      · obtain ⟨j, h1, h2⟩ := m_isC h
        refine ⟨σ.2.1 234 j, fun _ _ _ _ _ => by rw [decide_eq_false h, h2, show pd_len 234 = 72 from rfl, pu_obN h1 (by decide), nI_clamp (by omega)]; rfl, fun hd => ?_⟩
        have e := h2.symm.trans hd.1.1
        rw [nI_eq (by omega) (by have := hd.1.2; omega)] at e
        rw [e]
    have hC : ∃ (ak : Int32), (∀ d5 d9 d10 ot on, cond (decide (σ.1 238 a = 0)) (M_does_L84 p (nI a) b (c.2.2.2.1 * 12 + c.2.2.2.2.1) d5 ot on d9 d10 (-1) σ) (cond (decide (c_in xf 0 71 = 0)) (M_does_L84 p (nI a) b (c.2.2.2.1 * 12 + c.2.2.2.2.1) d5 ot on d9 d10 (-1) σ) (cond (pd_ob xf (pd_len 237)) none (M_does_L84 p (nI a) b (c.2.2.2.1 * 12 + c.2.2.2.2.1) d5 ot on d9 d10 (σ.1 237 xf.toNatClampNeg) σ))) = M_does_L84 p (nI a) b (c.2.2.2.1 * 12 + c.2.2.2.2.1) d5 ot on d9 d10 ak σ) ∧ (c_cld c → ak = c_sr (m_R σ) c) := by
      rcases hcc with ⟨q0, q1, -⟩ | ⟨q0, q1, -⟩
      · refine ⟨-1, fun _ _ _ _ _ => by rw [q1]; rfl, fun _ => ?_⟩
        show -1 = cond (decide (c.1 = (-1 : Int32))) (-1) _
        rw [decide_eq_true q0]; rfl
      · have hx : xf = c.1 * 12 + c.2.1 := by
          have := c3.symm.trans (c2 q0)
          injection this with this
          injection this with _ this
          injection this with this
          injection this with this
          injection this with this
        have hsr : c_sr (m_R σ) c = σ.1 237 (c_fc c) := by
          show cond (decide (c.1 = (-1 : Int32))) _ _ = _
          rw [decide_eq_false q0]; rfl
        by_cases h : c_in xf 0 71 = 0
        · refine ⟨-1, fun _ _ _ _ _ => by rw [q1, decide_eq_true h]; rfl, fun hd => ?_⟩
          obtain ⟨g1, g2⟩ := hd.2 q0
          rw [hx, g1, m_isC1 g2] at h; exact absurd h (by decide)
        · obtain ⟨j, h1, h2⟩ := m_isC h
          refine ⟨σ.1 237 j, fun _ _ _ _ _ => by rw [q1, decide_eq_false h, h2, show pd_len 237 = 72 from rfl, pu_obN h1 (by decide), nI_clamp (by omega)]; rfl, fun hd => ?_⟩
          obtain ⟨g1, g2⟩ := hd.2 q0
          have e := (h2.symm.trans hx).trans g1
          rw [nI_eq (by omega) (by omega)] at e
          rw [hsr, e]
    obtain ⟨ot, A1, A2⟩ := hA
    obtain ⟨on, B1, B2⟩ := hB
    obtain ⟨ak, C1, C2⟩ := hC
    refine ⟨ot, on, ak, some (pd_i xf), none, none, ?_, fun h => ⟨A2 h, B2 h, C2 h⟩⟩
    rw [M_does_eq, c1]
    simp only [pd_bI_of, pd_bJ_of, pd_bV_of, pd_bR_of, cond_true, cond_false, c3, M_isCell_s]
    rw [A1, M_does_L33_eq]
    simp only [pd_bI_of, pd_bJ_of, pd_bV_of, pd_bR_of, cond_true, cond_false, M_isCell_s]
    rw [B1, M_does_L54_eq]
    simp only [pd_bI_of, pd_bJ_of, pd_bV_of, pd_bR_of, cond_true, cond_false, M_isCell_s, show pd_len 238 = 150 from rfl, o150, na]
    rw [C1]
  obtain ⟨ot, on, ak, d5, d9, d10, P1, P2⟩ := pre
  -- the change itself
  have mid : ∃ τ, m_did σ τ c b ∧ M_does p (nI a) b σ = M_does_L110 p (nI a) (some (pd_i b)) (c.2.2.2.1 * 12 + c.2.2.2.2.1) d5 ot on ak d10 (c_fd (σ.1 231) (σ.1 232) (m_R σ) c) τ := by
    rw [P1, M_does_L84_eq]
    simp only [show pd_len 238 = 150 from rfl, o150, na, pd_bI_of, pd_bJ_of, pd_bV_of, pd_bR_of, cond_true, cond_false]
    rcases hcc with hcc | hcc
    · obtain ⟨τ, g1, g2⟩ := M_tells_s ha hcc hk hz hcl hc b
      refine ⟨τ, g2, ?_⟩
      rw [hcc.2.1, g1]; rfl
    · obtain ⟨τ, g1, g2⟩ := M_moved_s ha hcc hk hz hcl hc b
      refine ⟨τ, g2, ?_⟩
      rw [hcc.2.1, g1]; rfl
  obtain ⟨τ, ⟨g1, g2, g3, g4, g5⟩, hrun⟩ := mid
  have hr := c_fd_rng (σ.1 231) (σ.1 232) (m_R σ) c
  rw [hrun, M_does_L110_eq, c_rng_le hr]
  by_cases h0 : c_fd (σ.1 231) (σ.1 232) (m_R σ) c = 0
  · have hd := c_cld_of hz.sz hc.1 h0
    obtain ⟨P3, P4, P5⟩ := P2 hd
    obtain ⟨t1, t2⟩ := g1 h0
    have otc := pu_obN hd.1.2 (show 72 < 2 ^ 31 by decide)
    have ntc := nI_clamp (show c_tc c < 2 ^ 31 by have := hd.1.2; omega)
    rw [decide_eq_true h0, cond_true, hd.1.1]
    simp only [show pd_len 247 = 150 from rfl, show pd_len 248 = 150 from rfl, show pd_len 245 = 150 from rfl, show pd_len 246 = 150 from rfl, show pd_len 249 = 150 from rfl, show pd_len 233 = 72 from rfl, show pd_len 234 = 72 from rfl, show pd_len 237 = 72 from rfl, o150, otc, na, ntc, pd_bI_of, pd_bJ_of, pd_bV_of, pd_bR_of, cond_true, cond_false, pu_j1, pu_u2, pu_u1n (show 233 ≠ 247 by decide), pu_j2n (show 234 ≠ 248 by decide)]
    refine ⟨_, by rw [h0], fun _ => ?_, fun h => absurd h0 h, ?_, fun j hj => ?_, ?_⟩
    · unfold m_R c_one
      simp only [pu_j1, pu_u2, pu_u1s, pu_j2s, pu_u1n (show 233 ≠ 237 by decide), pu_u1n (show 233 ≠ 249 by decide), pu_u1n (show 233 ≠ 245 by decide), pu_u1n (show 233 ≠ 247 by decide), pu_j2n (show 234 ≠ 246 by decide), pu_j2n (show 234 ≠ 248 by decide), pu_u1n (show 237 ≠ 249 by decide), pu_u1n (show 237 ≠ 245 by decide), pu_u1n (show 237 ≠ 247 by decide), pu_u1n (show 247 ≠ 237 by decide), pu_u1n (show 247 ≠ 249 by decide), pu_u1n (show 247 ≠ 245 by decide), pu_j2n (show 248 ≠ 246 by decide), pu_u1n (show 245 ≠ 237 by decide), pu_u1n (show 245 ≠ 249 by decide), pu_u1n (show 245 ≠ 247 by decide), pu_j2n (show 246 ≠ 248 by decide), pu_u1n (show 249 ≠ 237 by decide), pu_u1n (show 249 ≠ 245 by decide), pu_u1n (show 249 ≠ 247 by decide), t1, t2, P3, P4, P5, pk_us, pk_uLs, g3.1 237 (by unfold m_mvK; omega), g3.1 247 (by unfold m_mvK; omega), g3.2.1 248 (by unfold m_mvK; omega), g3.1 245 (by unfold m_mvK; omega), g3.2.1 246 (by unfold m_mvK; omega), g3.1 249 (by unfold m_mvK; omega)]
      rfl
    · have K : ∀ k, (k = 237 ∨ k = 245 ∨ k = 246 ∨ k = 247 ∨ k = 248 ∨ k = 249) → m_doK k := fun k h => Or.inr h
      exact (g3.mono fun k h => Or.inl h).tr ((((((pu_fr.upI (K _ (by omega))).tr (pu_fr.upJ (K _ (by omega)))).tr (pu_fr.upI (K _ (by omega)))).tr (pu_fr.upJ (K _ (by omega)))).tr (pu_fr.upI (K _ (by omega)))).tr (pu_fr.upI (K _ (by omega))))
    · simp only [pu_j1, pu_u1n (show 230 ≠ 237 by decide), pu_u1n (show 230 ≠ 249 by decide), pu_u1n (show 230 ≠ 245 by decide), pu_u1n (show 230 ≠ 247 by decide)]
      exact g4 j hj
    · simp only [pu_j1, pu_u1n (show 256 ≠ 237 by decide), pu_u1n (show 256 ≠ 249 by decide), pu_u1n (show 256 ≠ 245 by decide), pu_u1n (show 256 ≠ 247 by decide)]
      exact g5
  · rw [decide_eq_false h0, cond_false]
    obtain ⟨t1, t2⟩ := g2 h0
    refine ⟨τ, rfl, fun h => absurd h h0, fun _ => ?_, g3.mono fun k h => Or.inl h, g4, g5⟩
    unfold m_R
    rw [t1, t2, g3.1 237 (by unfold m_mvK; omega), g3.1 247 (by unfold m_mvK; omega), g3.2.1 248 (by unfold m_mvK; omega), g3.1 245 (by unfold m_mvK; omega), g3.2.1 246 (by unfold m_mvK; omega), g3.1 249 (by unfold m_mvK; omega)]
end MODEL4
