/-! What each call of the desk answers, and what the desk holds then. -/
def zd (x : pd_H → Option pd_R) (σ : pd_H) (v : Int32) (S : cS) : Prop := ∃ τ, x σ = some (τ, some (pd_i v)) ∧ RX τ S
def zl (x : pd_H → Option pd_R) (σ : pd_H) (v : Int64) (S : cS) : Prop := ∃ τ, x σ = some (τ, some (pd_j v)) ∧ RX τ S
section ZD
variable {σ : pd_H} {S : cS}
theorem Z_row (hw : s_wf S) (h : RX σ S) {j k m : Nat} (hj : j < 6) (hk : k < 13) (hm : m ≤ 12) (hu : s_us S (nI j) = false) : zd (X_row (nI j) (nI k) (nI m)) σ (nI m) (s_rw S j (nI k) m (c_ty8 k)) := by
  obtain ⟨-, ea⟩ | ⟨-, ea⟩ := c_slv_cases (nI j)
  · have k14 : decide (nI k ≤ (14 : Int32)) = true := decide_eq_true (nI_le (show k ≤ 14 by omega) (by decide))
    have k0 : decide (nI k < 0) = false := decide_eq_false (nI_pos (by omega))
    have k12 : decide ((12 : Int32) < nI k) = false := decide_eq_false (nI_nlt (show k ≤ 12 by omega) (show 12 < 2 ^ 31 by decide))
    have m12 : decide (nI m ≤ (12 : Int32)) = true := decide_eq_true (nI_le hm (by decide))
    have m0 : decide (0 ≤ nI m) = true := decide_eq_true (nI_le (Nat.zero_le m) (by omega))
    have base : X_row (nI j) (nI k) (nI m) σ = X_row_L47 (nI j) (nI k) (nI m) 1 σ := by
      rw [X_row_eq, X_slot, ea, pd_bI_of, decide_eq_false (by decide : ¬ (1 : Int32) = 0), cond_false, k0, cond_false, k14, cond_true, k12]
      show cond (decide (nI m ≤ (12 : Int32))) _ _ = _
      rw [m12]; rfl
    obtain ⟨ρ, τ, t1, t2, t3, -⟩ := X_placed hw h hj (c_kt_k (show k < 15 by omega) hm) hu
    refine ⟨τ, ?_, t3⟩
    rw [base, X_row_L47_eq, X_used_s hw h, hu, cond_false, pd_bI_of, decide_eq_true (rfl : (0 : Int32) = 0), cond_true, decide_eq_false (by decide : ¬ (1 : Int32) = 0), cond_false, m0, cond_true, X_row_L73_eq, decide_eq_false (by decide : ¬ (1 : Int32) = 0), cond_false, X_row_L89_eq]
    show pd_bV (Shelf_place (nI j) (nI k) (nI m) σ) _ = _
    rw [t1, pd_bV_of, t2, pd_bV_of]
    rfl
  · exact absurd (pu_sl_of hj) ea
theorem Z_change (hw : s_wf S) (h : RX σ S) {a i v : Int32} {w : Nat} (ha : pu_sl a) (hw22 : w < 22) (hn : s_ln S 24 < 6) : zd (X_change a (nI w) i v) σ (nI (s_ln S 24 + 1)) (s_add S (-1, 0, nI w, a, i, v)) ∧ s_wf (s_add S (-1, 0, nI w, a, i, v)) := by
  obtain ⟨-, ea⟩ | ⟨-, ea⟩ := c_slv_cases a
  · have hX0 : X_change a (nI w) i v σ = pd_bR (Book_nextOfDraft σ) 1 fun s3 v4 => pd_bV (Change_become v4 (-1) 0 (nI w) a i v s3) fun s5 => some (pd_upI s5 9 24 ((s5.1 9 24) + 1), some (pd_i ((pd_upI s5 9 24 ((s5.1 9 24) + 1)).1 9 24))) := by
      rw [X_change_eq, X_slot, ea, pd_bI_of, decide_eq_false (by decide), cond_false, decide_eq_false (nI_pos (by omega)), cond_false, decide_eq_true (show nI w ≤ (21 : Int32) from nI_le (show w ≤ 21 by omega) (by decide)), cond_true, x_len24 h, x_lt6 (show s_ln S 24 ≤ 6 by omega), decide_eq_true hn, cond_true]
    have hc : c_chok (-1, 0, nI w, a, i, v) := ⟨⟨Or.inl rfl, ha⟩, w, rfl, fun _ => hw22, fun q => absurd rfl q⟩
    have hm : c_nrm (-1, 0, nI w, a, i, v) := ⟨fun _ => rfl, fun q => absurd rfl q⟩
    obtain ⟨τ, t1, t2, -⟩ := X_put_s (c := (-1, 0, nI w, a, i, v)) hw h hn hc hm
    exact ⟨⟨τ, hX0.trans t1, t2⟩, s_dr_wf hw (s_addK hw hn hc hm)⟩
  · exact absurd ha ea
theorem Z_move (hw : s_wf S) (h : RX σ S) {a i t j : Int32} {w : Nat} (ha : pu_sl a) (ht : pu_sl t) (hw9 : w < 9) (hn : s_ln S 24 < 6) : zd (X_move a i (nI w) t j) σ (nI (s_ln S 24 + 1)) (s_add S (a, i, nI w, t, j, 0)) ∧ s_wf (s_add S (a, i, nI w, t, j, 0)) := by
  obtain ⟨-, ea⟩ | ⟨-, ea⟩ := c_slv_cases a
  · obtain ⟨-, et⟩ | ⟨-, et⟩ := c_slv_cases t
    · have hX0 : X_move a i (nI w) t j σ = pd_bR (Book_nextOfDraft σ) 1 fun s3 v4 => pd_bV (Change_become v4 a i (nI w) t j 0 s3) fun s5 => some (pd_upI s5 9 24 ((s5.1 9 24) + 1), some (pd_i ((pd_upI s5 9 24 ((s5.1 9 24) + 1)).1 9 24))) := by
        rw [X_move_eq, X_slot, ea, pd_bI_of, decide_eq_false (by decide), cond_false, decide_eq_false (nI_pos (by omega)), cond_false, decide_eq_false (show ¬ (8 : Int32) < nI w from nI_nlt (show w ≤ 8 by omega) (by decide)), cond_false, X_slot, et, pd_bI_of, decide_eq_false (by decide), cond_false, x_len24 h, x_lt6 (show s_ln S 24 ≤ 6 by omega), decide_eq_true hn, cond_true]
      have hne : a ≠ -1 := fun e => by rw [e] at ha; exact absurd ha.1 (by decide)
      have hc : c_chok (a, i, nI w, t, j, 0) := ⟨⟨Or.inr ha, ht⟩, w, rfl, fun q => absurd q hne, fun _ => hw9⟩
      have hm : c_nrm (a, i, nI w, t, j, 0) := ⟨fun q => absurd q hne, fun _ => rfl⟩
      obtain ⟨τ, t1, t2, -⟩ := X_put_s (c := (a, i, nI w, t, j, 0)) hw h hn hc hm
      exact ⟨⟨τ, hX0.trans t1, t2⟩, s_dr_wf hw (s_addK hw hn hc hm)⟩
    · exact absurd ht et
  · exact absurd ha ea
/-- one less in the draft -/
def s_drop (S : cS) (n : Nat) : cS := s_dr S (s_ch S) (c_updN (s_ln S) 24 n)
theorem Z_drop (hw : s_wf S) (h : RX σ S) {n : Nat} (hn : s_ln S 24 = n + 1) : zd X_drop σ (nI n) (s_drop S n) ∧ s_wf (s_drop S n) := by
  have h6 := hw.2.1.2.1 24 (by omega)
  have eX := x_len24 h
  rw [hn] at eX h6
  have hd : s_drK S (s_ch S) (c_updN (s_ln S) 24 n) := ⟨fun _ _ => rfl, fun p hp => c_updN_n (by omega), by rw [c_updN_s]; omega, fun k hk => by rw [c_updN_s] at hk; exact hw.2.1.2.2 24 k (Or.inr rfl) (by omega)⟩
  have hX : X_drop σ = some (pd_upI σ 9 24 (nI n), some (pd_i (nI n))) := by
    rw [X_drop_eq, eX, nI_pred, decide_eq_false (nI_ne0 (by omega) (by omega)), cond_false, pu_u1s, pk_us]
  have frX : pu_fr x_drK σ (pd_upI σ 9 24 (nI n)) := pu_fr.upI (Or.inl rfl)
  refine ⟨⟨_, hX, RX_dr hw hd h frX ⟨fun p k hp hk => ?_, fun p hp => ?_, ?_⟩⟩, s_dr_wf hw hd⟩
  · have hk : k < c_updN (s_ln S) 24 n p := hk
    have hk2 : k < s_ln S p := by
      by_cases e : p = 24
      · rw [e, c_updN_s] at hk; rw [e]; omega
      · rw [c_updN_n e] at hk; exact hk
    have : x_chg (pd_upI σ 9 24 (nI n)) (6 * p + k) = x_chg σ (6 * p + k) := by unfold x_chg; rw [pu_u1n (by omega)]
    rw [this]; exact h.2.1.1 p k hp hk2
  · show (pd_upI σ 9 24 (nI n)).1 9 p = nI (c_updN (s_ln S) 24 n p) ∧ c_updN (s_ln S) 24 n p ≤ 6
    rw [pu_u1s]
    by_cases e : p = 24
    · rw [e, pk_us, c_updN_s]; exact ⟨rfl, by omega⟩
    · rw [pk_un e, c_updN_n e]; exact h.2.1.2.1 p hp
  · exact h.2.1.2.2
theorem Z_lay0 (hw : s_wf S) (h : RX σ S) (hn : s_ln S 24 ≠ 0) (h24 : s_pc S < 24) : (((s_ly S).1 = none → zd X_lay σ (nI (s_pc S)) (s_lay S (s_ly S).2) ∧ s_wf (s_lay S (s_ly S).2))) ∧ ∀ k f, (s_ly S).1 = some (k, f) → zd X_lay σ (-10 - f) (s_ft (s_md S (s_ly S).2) (24, nI k, f)) ∧ s_wf (s_ft (s_md S (s_ly S).2) (24, nI k, f)) := by
  have h6 := hw.2.1.2.1 24 (by decide)
  have hpc := hw.2.1.1
  have e72 : σ.1 7 2 = nI (s_pc S) := h.2.1.2.2
  have hne : decide (nI (s_ln S 24) = 0) = false := decide_eq_false (nI_ne0 (by omega) (by omega))
  obtain ⟨τ, t1, t2, t3, t4⟩ := X_stand_s hw h
  obtain ⟨υ, v1, v2, v3, v4⟩ := X_ly_s (s_ln S 24) 0 S τ _ _ none hw (Nat.zero_add _) (s_cells hw hw.2.2.1.1 hw.2.2.2.1) t2 t4
  have eX : X_lay σ = X_lay_L46 (nI (s_ln S 24)) (nI 0) none τ := by
    rw [X_lay_eq, x_len24 h, hne, cond_false, e72, show (24 : Int32) = nI 24 from rfl, decide_eq_true (nI_lt h24 (by decide)), cond_true, t1, pd_bV_of]
    rfl
  refine ⟨fun hr => ?_, fun k' f hr => ?_⟩
  · obtain ⟨d3', k1⟩ := v3 hr
    obtain ⟨θ, z1, z2, z3⟩ := X_lay_end hw h24 hr v1 d3'
    exact ⟨⟨θ, (eX.trans k1).trans z1, z2⟩, s_lay_wf hw h24 hr (s_ly S).2⟩
  · obtain ⟨θ, z1, z2, z3⟩ := X_refuse_s v1 24 (nI k') f
    exact ⟨⟨θ, (eX.trans (v4 k' f hr)).trans (by rw [z1, pd_bI_of]), z2⟩, s_ft_wf (s_md_wf hw _) _⟩
theorem Z_what (hw : s_wf S) (h : RX σ S) {a : Int32} (ha : pu_sl a) (i : Int32) : zd (X_what a i) σ (c_what S a i) S := ⟨σ, X_what_s hw h ha i, h⟩
theorem Z_get (hw : s_wf S) (h : RX σ S) {a : Int32} (ha : pu_sl a) (c : Int32) : zl (X_get a 8 c) σ (s_rd S a 8 c) (s_bm S 8 (s_rdF S a 8 c)) ∧ s_wf (s_bm S 8 (s_rdF S a 8 c)) := by
  obtain ⟨-, e⟩ | ⟨-, e⟩ := c_slv_cases a
  · have hf : c_rng (s_rdF S a (nI 8) c) := c_rdF_rng _ _ _ _ _
    have hX2 := RX_bm h (nI 8) (s_rdF S a (nI 8) c)
    refine ⟨⟨_, ?_, hX2⟩, s_bm_wf hw _ _⟩
    rw [X_get_eq, X_slot, e, pd_bI_of, decide_eq_false (by decide : ¬ (1 : Int32) = 0), cond_false, decide_eq_false (by decide : ¬ (8 : Int32) < 0), cond_false, decide_eq_true (by decide : (8 : Int32) ≤ 8), cond_true, x_rdF h ha, pd_bI_of]
    rw [show Tally_add 8 (c_rdF (s_kd S) (s_sz S) a 8 c) σ = _ from Tally_add_m (w := 8) (show 8 < 18 by omega) hf σ, pd_bV_of]
    rw [X_numberRead_s (s_bm_wf hw (nI 8) (s_rdF S a (nI 8) c)) hX2 ha, pd_bJ_of]
    rfl
  · exact absurd ha e
theorem Z_count0 (h : RX σ S) : zd (X_count 0) σ (nI (s_pc S)) S := ⟨σ, by rw [X_count_eq, decide_eq_true (rfl : (0 : Int32) = 0), cond_true, h.2.1.2.2], h⟩
theorem Z_count1 (h : RX σ S) : zd (X_count 1) σ (nI (s_or S).length) S := ⟨σ, by rw [X_count_eq, decide_eq_false (by decide : ¬ (1 : Int32) = 0), cond_false, decide_eq_true (rfl : (1 : Int32) = 1), cond_true, h.2.2.2.1.1.1], h⟩
theorem Z_count3 (h : RX σ S) : zd (X_count 3) σ (nI (s_un S).length) S := ⟨σ, by rw [X_count_eq, decide_eq_false (by decide : ¬ (3 : Int32) = 0), cond_false, decide_eq_false (by decide : ¬ (3 : Int32) = 1), cond_false, decide_eq_false (by decide : ¬ (3 : Int32) = 2), cond_false, decide_eq_true (rfl : (3 : Int32) = 3), cond_true, h.2.2.2.2.1.1.1], h⟩
theorem Z_count5 (hw : s_wf S) (h : RX σ S) : zd (X_count 5) σ (s_all S 6 0 0) S := ⟨σ, by rw [X_count_eq, decide_eq_false (by decide : ¬ (5 : Int32) = 0), cond_false, decide_eq_false (by decide : ¬ (5 : Int32) = 1), cond_false, decide_eq_false (by decide : ¬ (5 : Int32) = 2), cond_false, decide_eq_false (by decide : ¬ (5 : Int32) = 3), cond_false, decide_eq_false (by decide : ¬ (5 : Int32) = 4), cond_false, decide_eq_true (rfl : (5 : Int32) = 5), cond_true, X_all_s hw h, pd_bI_of], h⟩
theorem Z_count6 (hw : s_wf S) (h : RX σ S) : zd (X_count 6) σ (nI (c_line (s_ln S) (s_or S)).length) S := ⟨σ, by rw [X_count_eq, decide_eq_false (by decide : ¬ (6 : Int32) = 0), cond_false, decide_eq_false (by decide : ¬ (6 : Int32) = 1), cond_false, decide_eq_false (by decide : ¬ (6 : Int32) = 2), cond_false, decide_eq_false (by decide : ¬ (6 : Int32) = 3), cond_false, decide_eq_false (by decide : ¬ (6 : Int32) = 4), cond_false, decide_eq_false (by decide : ¬ (6 : Int32) = 5), cond_false, decide_eq_true (rfl : (6 : Int32) = 6), cond_true, X_applied_n hw h, pd_bI_of], h⟩
theorem Z_count7 (hw : s_wf S) (h : RX σ S) : zd (X_count 7) σ (nI (c_dn (s_ch S) (c_line (s_ln S) (s_or S)))) S := ⟨σ, by rw [X_count_eq, decide_eq_false (by decide : ¬ (7 : Int32) = 0), cond_false, decide_eq_false (by decide : ¬ (7 : Int32) = 1), cond_false, decide_eq_false (by decide : ¬ (7 : Int32) = 2), cond_false, decide_eq_false (by decide : ¬ (7 : Int32) = 3), cond_false, decide_eq_false (by decide : ¬ (7 : Int32) = 4), cond_false, decide_eq_false (by decide : ¬ (7 : Int32) = 5), cond_false, decide_eq_false (by decide : ¬ (7 : Int32) = 6), cond_false, decide_eq_true (rfl : (7 : Int32) = 7), cond_true, X_dead_n hw h, pd_bI_of], h⟩
theorem Z_fault0 (h : RX σ S) : zd (X_fault 0) σ (s_fl S).1 S := ⟨σ, by rw [X_fault_eq, h.2.2.2.2.2.2.1.1]; rfl, h⟩
theorem Z_fault2 (h : RX σ S) : zd (X_fault 2) σ (s_fl S).2.2 S := ⟨σ, by rw [X_fault_eq, h.2.2.2.2.2.2.1.2.2]; rfl, h⟩
theorem Z_undo0 (h : RX σ S) (hk : s_or S = []) : zd X_undo σ (-3) S := ⟨σ, by rw [X_undo_eq, h.2.2.2.1.1.1, hk]; rfl, h⟩
theorem Z_undo1 (hw : s_wf S) (hX : RX σ S) {m : List Nat} {p : Nat} (e1 : s_or S = m ++ [p]) : zd X_undo σ (nI p) (s_to S m (s_un S ++ [p])) ∧ s_wf (s_to S m (s_un S ++ [p])) := by
  obtain ⟨a1, b1, hrt, c1, d1⟩ := id hX
  have hor := c1.1
  have hrun := x_run hX
  have hun : pu_seq σ 17 (s_un S) := d1.1.1
  have hk : (s_or S).length = m.length + 1 := by rw [e1, List.length_append]; rfl
  have e3 : (s_or S)[m.length]? = some p := by rw [e1, List.getElem?_append_right (Nat.le_refl _), Nat.sub_self]; rfl
  generalize ek : m.length = k at hk e3
  have hk24 : k < 24 := by have := hor.2.1; omega
  have e2 : m.length = k := ek
  have hpo : p ∈ s_or S := List.mem_of_getElem? e3
  have hp := hw.2.2.1.1.2 p hpo
  have hpu : p ∉ s_un S := fun q => hw.2.2.1.2.2.1 p q hpo
  have hnd : (m ++ [p]).Nodup := e1 ▸ hw.2.2.1.1.1
  have hmo : ∀ x ∈ m, x ∈ s_or S := fun x hx => by rw [e1]; exact List.mem_append_left _ hx
  have hm' : s_ord S m := ⟨(List.nodup_append.mp hnd).1, fun x hx => hw.2.2.1.1.2 x (hmo x hx)⟩
  have hpm : p ∉ m := fun q => (List.nodup_append.mp hnd).2.2 p q p (List.mem_singleton.mpr rfl) rfl
  have hu' := s_ord_add hw.2.2.1.2.1 hp hpu
  have hu24 := s_add24 hw hw.2.2.1.2.1 hp hpu
  have hpl : (s_play S m).1 = none := s_play_pre (m := [p]) (by rw [← e1]; exact hw.2.2.2.1)
  have hmat : ∀ i x, m[i]? = some x → (s_or S)[i]? = some x := fun i x hx => by
    have : i < m.length := (List.getElem?_eq_some_iff.mp hx).1
    rw [e1, List.getElem?_append_left this]; exact hx
  have hwf : s_wf (s_to S m (s_un S ++ [p])) := s_to_wf hw hm' hpl hu' (fun q hq hq2 => by
    rw [List.mem_append, List.mem_singleton] at hq
    rcases hq with q1 | q1
    · exact hw.2.2.1.2.2.1 q q1 (hmo q hq2)
    · rw [q1] at hq2; exact hpm hq2)
  have hne : ¬ nI (k + 1) = 0 := by
    rw [show (0 : Int32) = nI 0 from rfl, nI_eq (by omega) (by omega)]; omega
  have fr1 : pu_fr (fun j => j = σ.2.2 0 + 1) σ (pd_upI σ (σ.2.2 0 + 1) 1 (nI k)) := pu_fr.upI rfl
  have hs1 : pu_seq (pd_upI σ (σ.2.2 0 + 1) 1 (nI k)) (σ.2.2 0 + 1) m := ⟨by rw [pu_u1s, pk_us, e2], by omega, fun i x hx => by
    rw [fr1.1 _ (by omega)]; exact hor.2.2 i x (hmat i x hx)⟩
  have hsh1 : x_sh (pd_upI σ (σ.2.2 0 + 1) 1 (nI k)) S := ⟨by rw [fr1.1 2 (by omega)]; exact a1.1, by rw [fr1.1 3 (by omega)]; exact a1.2.1, by rw [fr1.1 5 (by omega)]; exact a1.2.2.1, a1.2.2.2⟩
  have hbk1 : x_bk (pd_upI σ (σ.2.2 0 + 1) 1 (nI k)) S := ⟨fun q j hq hj => by
    have hx : x_chg (pd_upI σ (σ.2.2 0 + 1) 1 (nI k)) (6 * q + j) = x_chg σ (6 * q + j) := by unfold x_chg; rw [fr1.1 _ (by omega)]
    rw [hx]; exact b1.1 q j hq hj, fun q hq => by rw [fr1.1 9 (by omega)]; exact b1.2.1 q hq, by rw [fr1.1 7 (by omega)]; exact b1.2.2⟩
  obtain ⟨τ, t1, t2, -, t4, -⟩ := x_play hw hsh1 hbk1 (x_run3 hX) hs1 hm'
  obtain ⟨u1, -, u3⟩ := t4 hpl
  have fr2 : pu_fr (fun j => σ.2.2 0 ≤ j ∧ j < σ.2.2 0 + 16) σ τ := (fr1.mono fun j hj => by omega).tr (t2.mono fun j hj => x_plK_in j hj)
  have g1 : RX τ (s_to S m (s_un S)) := RX_now hw hX fr2 ⟨hs1.of (by rw [t2.1 _ (by unfold x_plK x_stK x_ddK; omega)]) (by rw [t2.1 _ (by unfold x_plK x_stK x_ddK; omega)]), x_rw_of (S := s_to S m (s_un S)) u1, u3⟩
  have hun2 : pu_seq τ 17 (s_un S) := g1.2.2.2.2.1.1
  obtain ⟨υ, v1, v2, v3⟩ := Seq_append_s hun2 (show pd_len 18 = 24 from rfl) p hu24
  have hot := g1.2.2.2.2
  have g2 : RX υ (s_to S m (s_un S ++ [p])) := RX_ot (un := s_un S ++ [p]) (vr := s_vr S) (tp := s_tp S) (fl := s_fl S) (mt := s_mt S) g1 (v3.mono fun j hj => by omega) ⟨⟨v2, by rw [v3.1 0 (by decide)]; exact hot.1.2.1, fun v l hv => (hot.1.2.2 v l hv).of (by rw [v3.1 _ (by omega)]) (v3.1 _ (by omega))⟩, by rw [v3.1 10 (by decide), v3.1 11 (by decide)]; exact hot.2.1, by rw [v3.1 0 (by decide)]; exact hot.2.2.1, by rw [v3.1 16 (by decide)]; exact hot.2.2.2⟩
  refine ⟨⟨υ, ?_, g2⟩, hwf⟩
  have ep : σ.1 (σ.2.2 0 + 1 + 1) k = nI p := hor.2.2 k p e3
  rw [X_undo_eq, hor.1, hk, decide_eq_false hne, cond_false, nI_pred, (x_trl hX).2.1, pu_obN hk24 (by decide), cond_false, nI_clamp (by omega), ep]
  show pd_bV (Run_play (σ.2.2 0) (pd_upI σ (σ.2.2 0 + 1) 1 (nI k))) _ = _
  rw [t1, pd_bV_of, v1, pd_bV_of]
theorem Z_out (hw : s_wf S) (h : RX σ S) {p : Nat} (hm : p ∈ s_or S) : zd (X_out (nI p)) σ (s_go S (c_rm (s_or S) p) [] (c_moved S (c_rm (s_or S) p))).2 (s_go S (c_rm (s_or S) p) [] (c_moved S (c_rm (s_or S) p))).1 ∧ s_wf (s_go S (c_rm (s_or S) p) [] (c_moved S (c_rm (s_or S) p))).1 := by
  have hp := hw.2.2.1.1.2 p hm
  have hp31 : p < 2 ^ 31 := by have := s_pc31 hw; omega
  have ho := s_ord_rm hw.2.2.1.1 p
  have h31 : ∀ x ∈ s_or S, x < 2 ^ 31 := fun x hx => by have := s_or25 hw x hx; omega
  obtain ⟨τ1, t1, t2, t3, t4, t5⟩ := X_tr_like hw h h.2.2.2.1.1 (x_trl h).2.1 (Or.inr rfl)
  obtain ⟨τ2, u1, u2, u3, u4, u5⟩ := X_tr_rm hw t3 t2 hp31 h31
  obtain ⟨τ3, v1, v2, v3⟩ := X_re hw u3 u2 ho
  refine ⟨⟨τ3, ?_, v2⟩, s_go_wf hw ho s_ord0 (fun q hq => by cases hq)⟩
  rw [X_out_eq, X_apErr_ok hw h hm, pd_bI_of]
  show pd_bV (Seq_becomeLike (σ.2.2 1 + 1) (σ.2.2 0 + 1) σ) _ = _
  rw [t1, pd_bV_of, u1, pd_bV_of]
  exact v1
theorem Z_out0 (h : RX σ S) (hp : s_pc S = 0) : zd (X_out 0) σ (-2) S := ⟨σ, by rw [X_out_eq, X_apErr_out h (a := 0) (Or.inr (by rw [hp]; decide))]; rfl, h⟩
theorem Z_hangs1 (hw : s_wf S) (h : RX σ S) {p : Nat} (hm : p ∈ s_or S) : zd (X_hangs (nI p)) σ (s_hg S p) S := ⟨σ, by rw [X_hangs_eq, X_apErr_ok hw h hm, pd_bI_of, decide_eq_true (rfl : (0 : Int32) = 0), cond_true, X_dep_s hw h hm]; rfl, h⟩
theorem Z_hangs0 (hw : s_wf S) (h : RX σ S) {p : Nat} (hp : p < s_pc S) (hm : p ∉ s_or S) : zd (X_hangs (nI p)) σ (-3) S := ⟨σ, by rw [X_hangs_eq, X_apErr_no hw h hp hm]; rfl, h⟩
theorem Z_without (hw : s_wf S) (h : RX σ S) {p : Nat} (hm : p ∈ s_or S) {b c : Int32} (hb : pu_sl b) (h0 : c_eltF (s_kd S) (s_sz S) b c = 0) : zl (X_without (nI p) b c) σ (s_wo S (c_rm (s_or S) p) (c_cell b c)) S := by
  obtain ⟨τ, t1, t2, -⟩ := X_wo_s hw h hm hb h0
  exact ⟨τ, t1, t2⟩
theorem Z_blame (hw : s_wf S) (h : RX σ S) {a : Int32} (ha : pu_sl a) (i : Int32) : zd (X_blame a i) σ (c_blame S a i) S := ⟨σ, X_blame_s hw h ha i, h⟩
theorem Z_since (hw : s_wf S) (hX : RX σ S) {a i : Int32} (ha : pu_sl a) (h0 : c_eltF (s_kd S) (s_sz S) a i = 0) : zd (X_since a i) σ (s_since S (c_cell a i)) S := by
  obtain ⟨q1, q2⟩ := c_elt_0 h0
  obtain ⟨e1, e2⟩ := c_cell_ok hw.1.2.1.sz ha q2
  exact ⟨σ, by rw [X_since_eq, X_elementError_0 hX ha h0, pd_bI_of, decide_eq_true (rfl : (0 : Int32) = 0), cond_true, X_cellOf_s, pd_bI_of, e1, X_unc_s hw hX e2, pd_bI_of], hX⟩
theorem Z_trace (hw : s_wf S) (hX : RX σ S) {p k : Nat} (hp : p < s_pc S) (hk : k < s_ln S p) : (p ∈ s_or S → zl (X_trace (nI p) (nI k) 0) σ (s_tr S (6 * p + k) false) S) ∧ (p ∉ s_or S → zl (X_trace (nI p) (nI k) 0) σ (c_lerr (-3)) S) := by
  have hpc := hw.2.1.1
  have hp25 : p < 25 := by omega
  have hl6 := hw.2.1.2.1 p hp25
  have eX : σ.1 9 p = nI (s_ln S p) := (hX.2.1.2.1 p hp25).1
  have e9 := pu_obN hp25 (show 25 < 2 ^ 31 by decide)
  have X0 : X_trace (nI p) (nI k) 0 σ = _ := X_trace_eq (nI p) (nI k) 0 σ
  rw [X_patch_1 hw hX hp, pd_bI_of, decide_eq_false (by decide : ¬ (1 : Int32) = 0), cond_false, show pd_len 9 = 25 from rfl, e9, cond_false, nI_clamp (by omega), eX] at X0
  have c1 : decide ((0 : Int32) < 0) = false := by decide
  have c2 : decide ((1 : Int32) < 0) = false := by decide
  have c3 : decide (nI k < 0) = false := decide_eq_false (nI_pos (by omega))
  have c4 : decide (nI k < nI (s_ln S p)) = true := decide_eq_true (nI_lt hk (by omega))
  have n150 : 6 * p + k < 150 := by omega
  rw [c1, c2, c3, c4, cond_false, cond_false, cond_false, cond_true, X_applied_s hw hX hp, pd_bI_of, X_lerr, pd_bJ_of, X_stepOf_s, c_step_nI, pd_bI_of, pd_bI_of] at X0
  refine ⟨fun hm => ?_, fun hm => ?_⟩
  · obtain ⟨L2, L4, L5, L6, L7, L9, L10, L12, L13, L14, L15⟩ := pu_len_run (x_run3 hX)
    have hL := c_line_in (len := s_ln S) hm hk
    obtain ⟨g1, g2, g3, g4, -⟩ := hX.2.2.2.1.2.1.2 _ hL
    have g3 : σ.1 (σ.2.2 0 + 11 + 1) (6 * p + k) = (s_play S (s_or S)).2.2.2.2.2.2.1 (6 * p + k) := g3
    have g4 : σ.2.1 (σ.2.2 0 + 11 + 2) (6 * p + k) = (s_play S (s_or S)).2.2.2.2.2.2.2.1 (6 * p + k) := g4
    rw [c_isn_1 hm, decide_eq_false (by decide : ¬ (1 : Int32) = 0), cond_false, X_numberAt_s L12 L13 n150 (by decide), pd_bJ_of, X_numberAt_s L9 L10 n150 (by decide), pd_bJ_of, g3, g4] at X0
    exact ⟨σ, by rw [X0]; rfl, hX⟩
  · rw [c_isn_0 hm, decide_eq_true (rfl : (0 : Int32) = 0), cond_true] at X0
    exact ⟨σ, X0, hX⟩
theorem Z_with (hw : s_wf S) (hX : RX σ S) {p : Nat} (hm : p ∈ s_or S) : zd (X_with (nI p)) σ (nI (s_or S).length - nI (c_wo (s_hg S p ||| c_one1 p) (s_or S)).length) (s_to S (c_wo (s_hg S p ||| c_one1 p) (s_or S)) []) ∧ s_wf (s_to S (c_wo (s_hg S p ||| c_one1 p) (s_or S)) []) := by
  have hp := hw.2.2.1.1.2 p hm
  have h24 := s_or24 hw
  have hrun := x_run hX
  generalize hM : s_hg S p ||| c_one1 p = M
  have hM' : s_hg S p ||| ((1 : Int32) <<< (nI p &&& 31)) = M := hM
  have ho := s_ord_wo hw.2.2.1.1 M
  have frA : pu_fr (fun k => k = σ.2.2 1 + 1 ∨ k = σ.2.2 1 + 1 + 1) σ (pd_upI σ (σ.2.2 1 + 1) 1 0) := pu_fr.upI (Or.inl rfl)
  obtain ⟨g1, g2⟩ := RX_td hw hX frA
  have g3 : x_td (pd_upI σ (σ.2.2 1 + 1) 1 0) [] := ⟨by
    show (pd_upI σ (σ.2.2 1 + 1) 1 0).1 (σ.2.2 1 + 1) 1 = _
    rw [pu_u1s, pk_us]; rfl, Nat.zero_le _, fun i x hx => by cases hx⟩
  obtain ⟨τ1, d6', t1, t2, t3, t4⟩ := X_with_loop hw (M := M) (some (pd_i (nI p))) (some (pd_i 0)) (s_or S) 0 [] _ none (Nat.zero_add _) (Nat.le_refl 0) g3 g1 (fun t x hx => by rw [Nat.zero_add]; exact hx)
  have t2 : x_td τ1 (c_wo M (s_or S)) := t2
  have hok : (s_play S (c_wo M (s_or S))).1 = none := by
    have h1 := s_with_ok hw hm
    rw [hM] at h1
    exact h1
  obtain ⟨τ2, v1, v2, v3, -⟩ := X_carryOut_ok hw t3 t2 ho hok
  have v4 : RX (pd_upI τ2 17 1 (nI 0)) (s_to S (c_wo M (s_or S)) []) := v2.un 0 (Nat.zero_le _)
  have hwf : s_wf (s_to S (c_wo M (s_or S)) []) := by
    have q := s_go_wf hw ho s_ord0 (fun q hq => by cases hq) (v := 0)
    rw [s_go_ok hok] at q
    exact q
  have e17 : (pd_upI τ2 17 1 0).1 (((pd_upI τ2 17 1 0).2.2 0) + 1) 1 = nI (c_wo M (s_or S)).length := v4.2.2.2.1.1.1
  refine ⟨⟨_, ?_, v4⟩, hwf⟩
  rw [X_with_eq, X_apErr_ok hw hX hm, pd_bI_of, decide_eq_true (rfl : (0 : Int32) = 0), cond_true, X_dep_s hw hX hm, pd_bI_of, hM', show σ.1 (σ.2.2 0 + 1) 1 = nI (s_or S).length from hX.2.2.2.1.1.1]
  refine t1.trans ?_
  rw [X_with_L51_eq, decide_eq_true (nI_le (Nat.le_refl _) (by omega)), cond_true, v1, pd_bI_of, e17]
  rfl
theorem Z_prune (hw : s_wf S) (h : RX σ S) : zd X_prune σ (nI (c_dn (s_ch S) (c_line (s_ln S) (s_or S)))) (s_pr S) := by
  obtain ⟨τ, t1, t2, -⟩ := X_prune_s hw h
  exact ⟨τ, t1, t2⟩
theorem Z_settle (hw : s_wf S) (h : RX σ S) : zd X_settle σ (nI (s_or S).length) (s_set S) := by
  obtain ⟨τ, t1, t2, -⟩ := X_settle_s hw h
  exact ⟨τ, t1, t2⟩
end ZD
