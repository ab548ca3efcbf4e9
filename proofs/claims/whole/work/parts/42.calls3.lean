/-! change, move. -/
section CALLS3
variable {σ : pd_H} {S : cS}
theorem M_keeps_s {n : Nat} (hn : n < 150) (b c d e : Int32) (σ : pd_H) : M_keeps (nI n) b c d e σ = some (pd_upI (pd_upI (pd_upI (pd_upI σ 238 n (vp_nar .boolean b)) 239 n c) 240 n d) 241 n e, none) := by
  rw [M_keeps_eq]
  simp only [show pd_len 238 = 150 from rfl, show pd_len 239 = 150 from rfl, show pd_len 240 = 150 from rfl, show pd_len 241 = 150 from rfl, pu_obN hn (show 150 < 2 ^ 31 by decide), pd_bI_of, pd_bJ_of, pd_bV_of, pd_bR_of, cond_true, cond_false, nI_clamp (show n < 2 ^ 31 by omega)]
theorem m_144 (n : Nat) : (144 : Int32) + nI n = nI (144 + n) := nI_add 144 n
theorem m_eq6 {n : Nat} (h : n ≤ 6) : decide (nI n = (6 : Int32)) = !decide (nI n < (6 : Int32)) := by
  have : ∀ n, n < 7 → decide (nI n = (6 : Int32)) = !decide (nI n < (6 : Int32)) := by decide +kernel
  exact this n (by omega)
theorem x_lt6 {n : Nat} (h : n ≤ 6) : decide (nI n < (6 : Int32)) = decide (n < 6) := by
  have : ∀ n, n < 7 → decide (nI n < (6 : Int32)) = decide (n < 6) := by decide +kernel
  exact this n (by omega)
/-- the end of both: one more in the draft -/
theorem X_put_s (hw : s_wf S) (h : RX σ S) {c : cC} (hn : s_ln S 24 < 6) (hc : c_chok c) (hm : c_nrm c) : ∃ τ, (pd_bR (Book_nextOfDraft σ) 1 fun s3 v4 => pd_bV (Change_become v4 c.1 c.2.1 c.2.2.1 c.2.2.2.1 c.2.2.2.2.1 c.2.2.2.2.2 s3) fun s5 => some (pd_upI s5 9 24 ((s5.1 9 24) + 1), some (pd_i ((pd_upI s5 9 24 ((s5.1 9 24) + 1)).1 9 24)))) = some (τ, some (pd_i (nI (s_ln S 24 + 1)))) ∧ RX τ (s_add S c) ∧ XF σ τ := by
  obtain ⟨ρ, r1, r2, e0, e1, e2, e3, e4, e5⟩ := Change_become_s (224 + s_ln S 24) c.1 c.2.1 c.2.2.1 c.2.2.2.1 c.2.2.2.2.1 c.2.2.2.2.2 σ
  have h9 : ρ.1 9 24 = nI (s_ln S 24) := by rw [r2.1 9 (by omega)]; exact x_len24 h
  have f1 : pu_fr x_drK σ ρ := r2.mono (fun k hk => by unfold x_drK; omega)
  have f2 : pu_fr x_drK σ (pd_upI ρ 9 24 (nI (s_ln S 24 + 1))) := f1.tr (pu_fr.upI (Or.inl rfl))
  refine ⟨pd_upI ρ 9 24 (nI (s_ln S 24 + 1)), ?_, x_add hw h hn hc hm f2 (fun k h1 h2 => ?_) ?_ ?_, XF.of f2 (fun k hk => by unfold x_drK at hk; omega)⟩
  · rw [Book_nextOfDraft_s h hn, pd_bR_of, r1, pd_bV_of, h9, nI_1, pu_u1s, pk_us]
  · rw [pu_u1n h2, r2.1 k h1]
  · unfold x_chg
    rw [pu_u1n (by omega), show 80 + (144 + s_ln S 24) = 224 + s_ln S 24 by omega, e0, e1, e2, e3, e4, e5]
  · rw [pu_u1s, r2.1 9 (by omega)]
theorem J_change (h : JR σ S) (a b i v : Int32) : JI (X_change a b i v) (M_change a b i v) σ := by
  have h6 := h.1.2.1.2.1 24 (by omega)
  rcases c_slv_cases a with ⟨ha, ea⟩ | ⟨ea, -⟩
  · have bad : (b < 0 ∨ nI 22 ≤ b) → JI (X_change a b i v) (M_change a b i v) σ := fun q => by
      refine JI.same (v := -2) h ?_ (fun g => ?_)
      · rw [X_change_eq, X_slot, ea, pd_bI_of, decide_eq_false (by decide), cond_false]
        rcases q with q | q
        · rw [decide_eq_true q, cond_true]
        · have : ¬ b ≤ 21 := fun e => absurd (Int32.le_trans q e) (by decide)
          rw [decide_eq_false this, cond_false, Bool.cond_self]
      · rw [M_change_eq, M_slot, ea, pd_bI_of, decide_eq_false (by decide), cond_false, M_in_s, pd_bI_of, show (21 : Int32) = nI 22 - 1 from rfl, c_in_out (by decide) q]
        rfl
    rcases pk_ix b (n := 22) (by decide) with q | q | ⟨w, hw, rfl⟩
    · exact bad (Or.inl q)
    · exact bad (Or.inr q)
    · have hX0 : X_change a (nI w) i v σ = cond (decide (s_ln S 24 < 6)) (pd_bR (Book_nextOfDraft σ) 1 fun s3 v4 => pd_bV (Change_become v4 (-1) 0 (nI w) a i v s3) fun s5 => some (pd_upI s5 9 24 ((s5.1 9 24) + 1), some (pd_i ((pd_upI s5 9 24 ((s5.1 9 24) + 1)).1 9 24)))) (some (σ, some (pd_i (-4)))) := by
        rw [X_change_eq, X_slot, ea, pd_bI_of, decide_eq_false (by decide), cond_false, decide_eq_false (nI_pos (by omega)), cond_false, decide_eq_true (show nI w ≤ (21 : Int32) from nI_le (show w ≤ 21 by omega) (by decide)), cond_true, x_len24 h.2.1, x_lt6 h6]
      by_cases hn : s_ln S 24 < 6
      · rw [decide_eq_true hn, cond_true] at hX0
        have hc : c_chok (-1, 0, nI w, a, i, v) := ⟨⟨Or.inl rfl, ha⟩, w, rfl, fun _ => hw, fun q => absurd rfl q⟩
        have hm : c_nrm (-1, 0, nI w, a, i, v) := ⟨fun _ => rfl, fun q => absurd rfl q⟩
        obtain ⟨τ, t1, t2, t3⟩ := X_put_s (c := (-1, 0, nI w, a, i, v)) h.1 h.2.1 hn hc hm
        refine JI.of h (s_dr_wf h.1 (s_addK h.1 hn hc hm)) (hX0.trans t1) t2 t3 (fun g => ?_)
        have o150 : pd_ob (nI (144 + s_ln S 24)) 150 = false := pu_obN (by omega) (by decide)
        have n150 := nI_clamp (show 144 + s_ln S 24 < 2 ^ 31 by omega)
        refine ⟨pd_upI (pd_upI (pd_upI (pd_upI (pd_upI (pd_upI (pd_upI τ 238 (144 + s_ln S 24) 0) 239 (144 + s_ln S 24) a) 240 (144 + s_ln S 24) i) 241 (144 + s_ln S 24) (nI w)) 242 (144 + s_ln S 24) v) 243 (144 + s_ln S 24) 0) 244 24 (nI (s_ln S 24 + 1)), ?_, ?_, ?_⟩
        rotate_left
        · exact m_add (τ := pd_upI (pd_upI (pd_upI (pd_upI (pd_upI (pd_upI (pd_upI τ 238 (144 + s_ln S 24) 0) 239 (144 + s_ln S 24) a) 240 (144 + s_ln S 24) i) 241 (144 + s_ln S 24) (nI w)) 242 (144 + s_ln S 24) v) 243 (144 + s_ln S 24) 0) 244 24 (nI (s_ln S 24 + 1))) h.1 g hn hc hm
            (((((((pu_fr.upI (by unfold m_drK; omega)).tr (pu_fr.upI (by unfold m_drK; omega))).tr (pu_fr.upI (by unfold m_drK; omega))).tr (pu_fr.upI (by unfold m_drK; omega))).tr (pu_fr.upI (by unfold m_drK; omega))).tr (pu_fr.upI (by unfold m_drK; omega))).tr (pu_fr.upI (by unfold m_drK; omega)))
            (fun k j k1 k2 hj => by
              rw [pu_u1n (show k ≠ 244 by omega)]
              have hup : ∀ (ρ : pd_H) (q : Nat) (x : Int32), (pd_upI ρ q (144 + s_ln S 24) x).1 k j = ρ.1 k j := fun ρ q x => by
                by_cases e : k = q
                · subst e; rw [pu_u1s, pk_un hj]
                · rw [pu_u1n e]
              rw [hup, hup, hup, hup, hup, hup])
            (Or.inl ⟨rfl, by simp only [pu_u1n (show 238 ≠ 239 by decide), pu_u1n (show 238 ≠ 240 by decide), pu_u1n (show 238 ≠ 241 by decide), pu_u1n (show 238 ≠ 242 by decide), pu_u1n (show 238 ≠ 243 by decide), pu_u1n (show 238 ≠ 244 by decide), pu_u1s, pk_us], by simp only [pu_u1n (show 241 ≠ 242 by decide), pu_u1n (show 241 ≠ 243 by decide), pu_u1n (show 241 ≠ 244 by decide), pu_u1s, pk_us], by simp only [pu_u1n (show 239 ≠ 240 by decide), pu_u1n (show 239 ≠ 241 by decide), pu_u1n (show 239 ≠ 242 by decide), pu_u1n (show 239 ≠ 243 by decide), pu_u1n (show 239 ≠ 244 by decide), pu_u1s, pk_us], by simp only [pu_u1n (show 240 ≠ 241 by decide), pu_u1n (show 240 ≠ 242 by decide), pu_u1n (show 240 ≠ 243 by decide), pu_u1n (show 240 ≠ 244 by decide), pu_u1s, pk_us], by simp only [pu_u1n (show 242 ≠ 243 by decide), pu_u1n (show 242 ≠ 244 by decide), pu_u1s, pk_us], rfl⟩)
            (by simp only [pu_u1s, pu_u1n (show 244 ≠ 238 by decide), pu_u1n (show 244 ≠ 239 by decide), pu_u1n (show 244 ≠ 240 by decide), pu_u1n (show 244 ≠ 241 by decide), pu_u1n (show 244 ≠ 242 by decide), pu_u1n (show 244 ≠ 243 by decide)])
        · exact MF.of (((((((pu_fr.upI (K := m_drK) (by unfold m_drK; omega)).tr (pu_fr.upI (by unfold m_drK; omega))).tr (pu_fr.upI (by unfold m_drK; omega))).tr (pu_fr.upI (by unfold m_drK; omega))).tr (pu_fr.upI (by unfold m_drK; omega))).tr (pu_fr.upI (by unfold m_drK; omega))).tr (pu_fr.upI (by unfold m_drK; omega))) (fun k hk => by unfold m_drK at hk; omega)
        · rw [M_change_eq, M_slot, ea, pd_bI_of, decide_eq_false (by decide), cond_false, M_in_s, pd_bI_of, show (21 : Int32) = nI 22 - 1 from rfl, c_in_at hw (by decide), decide_eq_false (by decide), cond_false, M_changes_eq, m_len24 g, m_eq6 h6, x_lt6 h6, decide_eq_true hn, m_144, M_keeps_s (by omega)]
          simp only [Bool.not_true, pd_bI_of, pd_bJ_of, pd_bV_of, pd_bR_of, cond_true, cond_false, show pd_len 242 = 150 from rfl, show pd_len 243 = 150 from rfl, o150, n150, show vp_nar .boolean 0 = 0 from rfl, pu_u1s, pk_us, pu_u1n (show 244 ≠ 238 by decide), pu_u1n (show 244 ≠ 239 by decide), pu_u1n (show 244 ≠ 240 by decide), pu_u1n (show 244 ≠ 241 by decide), pu_u1n (show 244 ≠ 242 by decide), pu_u1n (show 244 ≠ 243 by decide), m_len24 g, nI_1]
      · rw [decide_eq_false hn, cond_false] at hX0
        refine JI.same (v := -4) h hX0 (fun g => ?_)
        rw [M_change_eq, M_slot, ea, pd_bI_of, decide_eq_false (by decide), cond_false, M_in_s, pd_bI_of, show (21 : Int32) = nI 22 - 1 from rfl, c_in_at hw (by decide), decide_eq_false (by decide), cond_false, M_changes_eq, m_len24 g, m_eq6 h6, x_lt6 h6, decide_eq_false hn]
        rfl
  · exact JI.same (v := -2) h (by rw [X_change_eq, X_slot, ea]; rfl) (fun g => by rw [M_change_eq, M_slot, ea]; rfl)
theorem J_move (h : JR σ S) (a i b t j : Int32) : JI (X_move a i b t j) (M_move a i b t j) σ := by
  have h6 := h.1.2.1.2.1 24 (by omega)
  rcases c_slv_cases a with ⟨ha, ea⟩ | ⟨ea, -⟩
  · have bad : (b < 0 ∨ nI 9 ≤ b) → JI (X_move a i b t j) (M_move a i b t j) σ := fun q => by
      refine JI.same (v := -2) h ?_ (fun g => ?_)
      · rw [X_move_eq, X_slot, ea, pd_bI_of, decide_eq_false (by decide), cond_false]
        rcases q with q | q
        · rw [decide_eq_true q, cond_true]
        · have : (8 : Int32) < b := Int32.lt_of_lt_of_le (by decide : (8 : Int32) < nI 9) q
          rw [decide_eq_true this, cond_true, Bool.cond_self]
      · rw [M_move_eq, M_slot, ea, pd_bI_of, decide_eq_false (by decide), cond_false, M_slot, pd_bI_of]
        rcases c_slv_cases t with ⟨-, et⟩ | ⟨et, -⟩
        · rw [et, decide_eq_false (by decide), cond_false, M_in_s, pd_bI_of, show (8 : Int32) = nI 9 - 1 from rfl, c_in_out (by decide) q]
          rfl
        · rw [et]; rfl
    rcases pk_ix b (n := 9) (by decide) with q | q | ⟨w, hw, rfl⟩
    · exact bad (Or.inl q)
    · exact bad (Or.inr q)
    · rcases c_slv_cases t with ⟨ht, et⟩ | ⟨et, -⟩
      · have hX0 : X_move a i (nI w) t j σ = cond (decide (s_ln S 24 < 6)) (pd_bR (Book_nextOfDraft σ) 1 fun s3 v4 => pd_bV (Change_become v4 a i (nI w) t j 0 s3) fun s5 => some (pd_upI s5 9 24 ((s5.1 9 24) + 1), some (pd_i ((pd_upI s5 9 24 ((s5.1 9 24) + 1)).1 9 24)))) (some (σ, some (pd_i (-4)))) := by
          rw [X_move_eq, X_slot, ea, pd_bI_of, decide_eq_false (by decide), cond_false, decide_eq_false (nI_pos (by omega)), cond_false, decide_eq_false (show ¬ (8 : Int32) < nI w from nI_nlt (show w ≤ 8 by omega) (by decide)), cond_false, X_slot, et, pd_bI_of, decide_eq_false (by decide), cond_false, x_len24 h.2.1, x_lt6 h6]
        by_cases hn : s_ln S 24 < 6
        · rw [decide_eq_true hn, cond_true] at hX0
          have hne : a ≠ -1 := fun e => by rw [e] at ha; exact absurd ha.1 (by decide)
          have hc : c_chok (a, i, nI w, t, j, 0) := ⟨⟨Or.inr ha, ht⟩, w, rfl, fun q => absurd q hne, fun _ => hw⟩
          have hm : c_nrm (a, i, nI w, t, j, 0) := ⟨fun q => absurd q hne, fun _ => rfl⟩
          obtain ⟨τ, t1, t2, t3⟩ := X_put_s (c := (a, i, nI w, t, j, 0)) h.1 h.2.1 hn hc hm
          refine JI.of h (s_dr_wf h.1 (s_addK h.1 hn hc hm)) (hX0.trans t1) t2 t3 (fun g => ?_)
          have o150 : pd_ob (nI (144 + s_ln S 24)) 150 = false := pu_obN (by omega) (by decide)
          have n150 := nI_clamp (show 144 + s_ln S 24 < 2 ^ 31 by omega)
          refine ⟨pd_upI (pd_upI (pd_upI (pd_upI (pd_upI (pd_upI (pd_upI τ 238 (144 + s_ln S 24) 1) 239 (144 + s_ln S 24) a) 240 (144 + s_ln S 24) i) 241 (144 + s_ln S 24) (nI w)) 243 (144 + s_ln S 24) t) 242 (144 + s_ln S 24) j) 244 24 (nI (s_ln S 24 + 1)), ?_, ?_, ?_⟩
          rotate_left
          · exact m_add (τ := pd_upI (pd_upI (pd_upI (pd_upI (pd_upI (pd_upI (pd_upI τ 238 (144 + s_ln S 24) 1) 239 (144 + s_ln S 24) a) 240 (144 + s_ln S 24) i) 241 (144 + s_ln S 24) (nI w)) 243 (144 + s_ln S 24) t) 242 (144 + s_ln S 24) j) 244 24 (nI (s_ln S 24 + 1))) h.1 g hn hc hm
              (((((((pu_fr.upI (by unfold m_drK; omega)).tr (pu_fr.upI (by unfold m_drK; omega))).tr (pu_fr.upI (by unfold m_drK; omega))).tr (pu_fr.upI (by unfold m_drK; omega))).tr (pu_fr.upI (by unfold m_drK; omega))).tr (pu_fr.upI (by unfold m_drK; omega))).tr (pu_fr.upI (by unfold m_drK; omega)))
              (fun k j k1 k2 hj => by
                rw [pu_u1n (show k ≠ 244 by omega)]
                have hup : ∀ (ρ : pd_H) (q : Nat) (x : Int32), (pd_upI ρ q (144 + s_ln S 24) x).1 k j = ρ.1 k j := fun ρ q x => by
                  by_cases e : k = q
                  · subst e; rw [pu_u1s, pk_un hj]
                  · rw [pu_u1n e]
                rw [hup, hup, hup, hup, hup, hup])
              (Or.inr ⟨hne, by simp only [pu_u1n (show 238 ≠ 239 by decide), pu_u1n (show 238 ≠ 240 by decide), pu_u1n (show 238 ≠ 241 by decide), pu_u1n (show 238 ≠ 242 by decide), pu_u1n (show 238 ≠ 243 by decide), pu_u1n (show 238 ≠ 244 by decide), pu_u1s, pk_us], by simp only [pu_u1n (show 239 ≠ 240 by decide), pu_u1n (show 239 ≠ 241 by decide), pu_u1n (show 239 ≠ 242 by decide), pu_u1n (show 239 ≠ 243 by decide), pu_u1n (show 239 ≠ 244 by decide), pu_u1s, pk_us], by simp only [pu_u1n (show 240 ≠ 241 by decide), pu_u1n (show 240 ≠ 242 by decide), pu_u1n (show 240 ≠ 243 by decide), pu_u1n (show 240 ≠ 244 by decide), pu_u1s, pk_us], by simp only [pu_u1n (show 241 ≠ 242 by decide), pu_u1n (show 241 ≠ 243 by decide), pu_u1n (show 241 ≠ 244 by decide), pu_u1s, pk_us], by simp only [pu_u1n (show 243 ≠ 242 by decide), pu_u1n (show 243 ≠ 244 by decide), pu_u1s, pk_us], by simp only [pu_u1n (show 242 ≠ 244 by decide), pu_u1s, pk_us], rfl⟩)
              (by simp only [pu_u1s, pu_u1n (show 244 ≠ 238 by decide), pu_u1n (show 244 ≠ 239 by decide), pu_u1n (show 244 ≠ 240 by decide), pu_u1n (show 244 ≠ 241 by decide), pu_u1n (show 244 ≠ 242 by decide), pu_u1n (show 244 ≠ 243 by decide)])
          · exact MF.of (((((((pu_fr.upI (K := m_drK) (by unfold m_drK; omega)).tr (pu_fr.upI (by unfold m_drK; omega))).tr (pu_fr.upI (by unfold m_drK; omega))).tr (pu_fr.upI (by unfold m_drK; omega))).tr (pu_fr.upI (by unfold m_drK; omega))).tr (pu_fr.upI (by unfold m_drK; omega))).tr (pu_fr.upI (by unfold m_drK; omega))) (fun k hk => by unfold m_drK at hk; omega)
          · rw [M_move_eq, M_slot, ea, pd_bI_of, decide_eq_false (by decide), cond_false, M_slot, et, pd_bI_of, decide_eq_false (by decide), cond_false, M_in_s, pd_bI_of, show (8 : Int32) = nI 9 - 1 from rfl, c_in_at hw (by decide), decide_eq_false (by decide), cond_false, M_movesMore_eq, m_len24 g, m_eq6 h6, x_lt6 h6, decide_eq_true hn, m_144, M_keeps_s (by omega)]
            simp only [Bool.not_true, pd_bI_of, pd_bJ_of, pd_bV_of, pd_bR_of, cond_true, cond_false, show pd_len 242 = 150 from rfl, show pd_len 243 = 150 from rfl, o150, n150, show vp_nar .boolean 1 = 1 from rfl, pu_u1s, pk_us, pu_u1n (show 244 ≠ 238 by decide), pu_u1n (show 244 ≠ 239 by decide), pu_u1n (show 244 ≠ 240 by decide), pu_u1n (show 244 ≠ 241 by decide), pu_u1n (show 244 ≠ 242 by decide), pu_u1n (show 244 ≠ 243 by decide), m_len24 g, nI_1]
        · rw [decide_eq_false hn, cond_false] at hX0
          refine JI.same (v := -4) h hX0 (fun g => ?_)
          rw [M_move_eq, M_slot, ea, pd_bI_of, decide_eq_false (by decide), cond_false, M_slot, et, pd_bI_of, decide_eq_false (by decide), cond_false, M_in_s, pd_bI_of, show (8 : Int32) = nI 9 - 1 from rfl, c_in_at hw (by decide), decide_eq_false (by decide), cond_false, M_movesMore_eq, m_len24 g, m_eq6 h6, x_lt6 h6, decide_eq_false hn]
          rfl
      · refine JI.same (v := -2) h ?_ (fun g => ?_)
        · rw [X_move_eq, X_slot, ea, pd_bI_of, decide_eq_false (by decide), cond_false, decide_eq_false (nI_pos (by omega)), cond_false, decide_eq_false (show ¬ (8 : Int32) < nI w from nI_nlt (show w ≤ 8 by omega) (by decide)), cond_false, X_slot, et]
          rfl
        · rw [M_move_eq, M_slot, ea, pd_bI_of, decide_eq_false (by decide), cond_false, M_slot, et]; rfl
  · exact JI.same (v := -2) h (by rw [X_move_eq, X_slot, ea]; rfl) (fun g => by rw [M_move_eq, M_slot, ea]; rfl)
end CALLS3
