/-! (whole, 89.prune) -/
section PRUNE
variable {σ τ : pd_H} {S : cS}
def s_dd (S : cS) : Nat → Bool := c_dead (s_ch S) (c_line (s_ln S) (s_or S))
def s_lv (S : cS) (p : Nat) : List Nat := c_lk (s_dd S) p (s_ln S p)
def s_prl (S : cS) (p : Nat) : Nat := (s_lv S p).length
def s_prc (S : cS) (a : Nat) : cC := s_ch S (6 * (a / 6) + ((s_lv S (a / 6))[a % 6]?.getD (a % 6)))
def s_pr (S : cS) : cS := (s_kd S, s_sz S, s_bt S, s_bn S, s_prc S, s_prl S, s_pc S, s_or S, s_un S, s_vr S, s_tp S, s_fl S, s_mt S)
theorem s_prl_le {p : Nat} : s_prl S p ≤ s_ln S p := c_lk_len
theorem s_prc_at {p i x : Nat} (h : (s_lv S p)[i]? = some x) (hi : i < 6) : s_prc S (6 * p + i) = s_ch S (6 * p + x) := by
  unfold s_prc
  rw [show (6 * p + i) / 6 = p by omega, show (6 * p + i) % 6 = i by omega, h]
  rfl
theorem s_dd_out {p i : Nat} (h : p ∉ s_or S) (hi : i < 6) (h6 : ∀ q ∈ s_or S, s_ln S q ≤ 6) : s_dd S (6 * p + i) = false := c_dead_out (fun q => by
  obtain ⟨q1, h1, k, h2, h3⟩ := c_line_mem q
  have := h6 q1 h1
  have : q1 = p := by omega
  rw [this] at h1
  exact h h1)
theorem s_lv_out {p : Nat} (hw : s_wf S) (h : p ∉ s_or S) (hp : p < 25) : s_lv S p = List.range (s_ln S p) := c_lk_all (fun i hi => s_dd_out h (by have := hw.2.1.2.1 p hp; omega) (fun q hq => hw.2.1.2.1 q (s_or25 hw q hq)))
theorem s_lv_i {p i x : Nat} (hw : s_wf S) (hp : p < 25) (h : (s_lv S p)[i]? = some x) : i < s_prl S p ∧ i < 6 ∧ x < s_ln S p := by
  have h1 := (List.getElem?_eq_some_iff.mp h).1
  have h2 : (s_lv S p).length ≤ s_ln S p := c_lk_len
  have := hw.2.1.2.1 p hp
  exact ⟨h1, by omega, c_lk_mem h⟩
theorem s_prc_out {p k : Nat} (hw : s_wf S) (h : p ∉ s_or S) (hp : p < 25) (hk : k < s_ln S p) : s_prc S (6 * p + k) = s_ch S (6 * p + k) := by
  have h6 := hw.2.1.2.1 p hp
  refine s_prc_at (x := k) ?_ (by omega)
  rw [s_lv_out hw h hp, List.getElem?_range hk]
theorem s_pr_map (hw : s_wf S) : ∀ l : List Nat, (∀ p ∈ l, p < 25) → (c_line (s_prl S) l).map (s_prc S) = ((c_line (s_ln S) l).filter (fun a => !s_dd S a)).map (s_ch S) := by
  intro l
  induction l with
  | nil => intro _; rfl
  | cons p m ih =>
    intro h
    have hp := h p List.mem_cons_self
    show (c_blk p 0 (s_prl S p) ++ c_line (s_prl S) m).map (s_prc S) = ((c_blk p 0 (s_ln S p) ++ c_line (s_ln S) m).filter _).map (s_ch S)
    rw [List.map_append, List.filter_append, List.map_append, ih (fun q hq => h q (List.mem_cons_of_mem _ hq)), c_blk_flt]
    congr 1
    exact c_map_at (l := s_lv S p) (fun i x hx => s_prc_at hx (s_lv_i hw hp hx).2.1)
theorem s_pr_flt (hw : s_wf S) : (c_line (s_prl S) (s_or S)).map (s_prc S) = (c_flt (s_ch S) (c_line (s_ln S) (s_or S))).map (s_ch S) := by
  rw [s_pr_map hw _ (s_or25 hw), c_flt_filter (u := []) (s_lnd hw)]
  rfl
theorem s_pr_len (hw : s_wf S) : (c_line (s_prl S) (s_or S)).length + c_dn (s_ch S) (c_line (s_ln S) (s_or S)) = (c_line (s_ln S) (s_or S)).length := by
  have h := congrArg List.length (s_pr_flt hw)
  rw [List.length_map, List.length_map] at h
  rw [h]
  exact c_flt_dn
theorem s_pr_play (hw : s_wf S) : (s_play (s_pr S) (s_or S)).1 = none := by
  show (c_ply (s_kd S) (s_sz S) (s_prc S) (c_line (s_prl S) (s_or S)) (c_r0 (s_bt S) (s_bn S))).1 = none
  rw [c_ply_sq, s_pr_flt hw]
  exact c_flt_sq (c_ply_sq.mp hw.2.2.2.1) (fun x _ => ⟨rfl, rfl⟩)
theorem s_pr_wf (hw : s_wf S) : s_wf (s_pr S) := by
  refine ⟨hw.1, ⟨hw.2.1.1, fun p hp => Nat.le_trans s_prl_le (hw.2.1.2.1 p hp), fun p k hp hk => ?_⟩, hw.2.2.1, s_pr_play hw, hw.2.2.2.2⟩
  have hk : k < s_prl S p := hk
  have hp : s_is S p := hp
  have h25 : p < 25 := by have := hw.2.1.1; rcases hp with q | q <;> omega
  have e := List.getElem?_eq_getElem (l := s_lv S p) hk
  obtain ⟨-, h6, hx⟩ := s_lv_i hw h25 e
  show c_chok (s_prc S (6 * p + k)) ∧ c_nrm (s_prc S (6 * p + k))
  rw [s_prc_at e h6]
  exact hw.2.1.2.2 p _ hp hx
theorem c_has_dec (m s : Int32) : decide (((m >>> (s &&& 31)) &&& 1) = 0) = !c_has m s := by
  unfold c_has
  cases decide (((m >>> (s &&& 31)) &&& 1) = 0) <;> rfl
/-- one patch -/
theorem X_rem_loop {E : pd_H} {p n : Nat} (hp : p < 25) (hn : n ≤ 6) {mask : Int32} {dead : Nat → Bool} (hm : ∀ k, k < 6 → c_has mask (nI k) = dead (6 * p + k)) : ∀ (d k : Nat) (τ : pd_H), k + d = n → pu_fr (fun q => 80 + 6 * p ≤ q ∧ q < 80 + 6 * p + 6) E τ → (∀ i x, (c_lk dead p k)[i]? = some x → x_chg τ (6 * p + i) = x_chg E (6 * p + x)) → (∀ i, k ≤ i → i < n → x_chg τ (6 * p + i) = x_chg E (6 * p + i)) → ∃ υ, Book_removeChanges_L13 (nI p) mask (nI n) (nI (c_lk dead p k).length) (nI k) τ = some (pd_upI υ 9 p (nI (c_lk dead p n).length), some (pd_i (nI (n - (c_lk dead p n).length)))) ∧ pu_fr (fun q => 80 + 6 * p ≤ q ∧ q < 80 + 6 * p + 6) E υ ∧ ∀ i x, (c_lk dead p n)[i]? = some x → x_chg υ (6 * p + i) = x_chg E (6 * p + x) := by
  intro d
  induction d with
  | zero =>
    intro k τ hk hf h1 h2
    have hk : k = n := by omega
    subst hk
    have hl := c_lk_len (dead := dead) (p := p) (k := k)
    refine ⟨τ, ?_, hf, h1⟩
    rw [Book_removeChanges_L13_eq, decide_eq_true (nI_le (Nat.le_refl _) (by omega)), cond_true, show pd_len 9 = 25 from rfl, pu_obN hp (by decide), cond_false, nI_clamp (by omega), nI_subN hl]
  | succ d ih =>
    intro k τ hk hf h1 h2
    have hl := c_lk_len (dead := dead) (p := p) (k := k)
    have es := c_lk_succ (dead := dead) (p := p) (k := k)
    rw [Book_removeChanges_L13_eq, decide_eq_false (nI_ge (show k < n by omega) (by omega)), cond_false, c_has_dec, hm k (by omega)]
    cases hd : dead (6 * p + k) with
    | true =>
      rw [hd, cond_true, List.append_nil] at es
      rw [Bool.not_true, cond_false, ← nI_succ, ← es]
      exact ih (k + 1) τ (by omega) hf (by rw [es]; exact h1) (fun i h3 h4 => h2 i (by omega) h4)
    | false =>
      rw [hd, cond_false] at es
      have el : (c_lk dead p (k + 1)).length = (c_lk dead p k).length + 1 := by rw [es, List.length_append]; rfl
      obtain ⟨ρ, r1, r2, g0, g1, g2, g3, g4, g5⟩ := Change_become_s (80 + (6 * p + (c_lk dead p k).length)) (τ.1 (80 + (6 * p + k)) 0) (τ.1 (80 + (6 * p + k)) 1) (τ.1 (80 + (6 * p + k)) 2) (τ.1 (80 + (6 * p + k)) 3) (τ.1 (80 + (6 * p + k)) 4) (τ.1 (80 + (6 * p + k)) 5) τ
      have hρ : x_chg ρ (6 * p + (c_lk dead p k).length) = x_chg τ (6 * p + k) := by
        unfold x_chg
        rw [g0, g1, g2, g3, g4, g5]
      have hρo : ∀ i, i ≠ (c_lk dead p k).length → x_chg ρ (6 * p + i) = x_chg τ (6 * p + i) := fun i hi => by
        unfold x_chg; rw [r2.1 _ (by omega)]
      obtain ⟨υ, u1, u2, u3⟩ := ih (k + 1) ρ (by omega) (hf.tr (r2.mono fun q hq => by omega)) (fun i x hx => by
        rw [es, List.getElem?_append] at hx
        by_cases q : i < (c_lk dead p k).length
        · rw [if_pos q] at hx
          rw [hρo i (by omega)]; exact h1 i x hx
        · rw [if_neg q] at hx
          have hi : i - (c_lk dead p k).length < 1 := (List.getElem?_eq_some_iff.mp hx).1
          have hi : i = (c_lk dead p k).length := by omega
          rw [hi, Nat.sub_self] at hx
          have hx : some k = some x := hx
          cases hx
          rw [hi, hρ, h2 k (Nat.le_refl _) (by omega)]) (fun i h3 h4 => by
        rw [hρo i (by omega)]; exact h2 i (by omega) h4)
      refine ⟨υ, ?_, u2, u3⟩
      rw [Bool.not_false, cond_true, X_stepOf_s, c_step_nI, pd_bI_of, show pd_len 8 = 150 from rfl, pu_obN (show 6 * p + (c_lk dead p k).length < 150 by omega) (by decide), cond_false, X_stepOf_s, c_step_nI, pd_bI_of, pu_obN (show 6 * p + k < 150 by omega) (by decide), cond_false, nI_clamp (by omega), nI_clamp (by omega), Change_becomeLike_eq, r1, pd_bV_of, pd_bV_of, ← nI_succ, ← nI_succ, ← el]
      exact u1
/-- what the desk's books hold on the way -/
def x_pr (S : cS) (σ : pd_H) (u : List Nat) (τ : pd_H) : Prop := pu_fr (fun k => k = 9 ∨ (80 ≤ k ∧ k < 230)) σ τ ∧ (∀ p ∈ u, τ.1 9 p = nI (s_prl S p) ∧ ∀ i x, (s_lv S p)[i]? = some x → x_chg τ (6 * p + i) = s_ch S (6 * p + x)) ∧ ∀ p, p < 25 → p ∉ u → τ.1 9 p = σ.1 9 p ∧ ∀ i, i < 6 → x_chg τ (6 * p + i) = x_chg σ (6 * p + i)
theorem X_prune_loop (hw : s_wf S) (h : RX σ S) : ∀ (m u : List Nat) (τ : pd_H) (r : Nat) (d3 : Option pd_V), s_or S = u ++ m → x_pr S σ u τ → r + (c_line (s_prl S) u).length = (c_line (s_ln S) u).length → ∃ υ, x_pr S σ (s_or S) υ ∧ X_prune_L4 (nI r) (nI u.length) d3 τ = pd_bV (Run_play (υ.2.2 0) υ) fun s1 => some (s1, some (pd_i (nI (c_dn (s_ch S) (c_line (s_ln S) (s_or S)))))) := by
  have hor := h.2.2.2.1.1
  have ho24 := hor.2.1
  have hr32 : σ.2.2 0 = 32 ∨ σ.2.2 0 = 48 := by rcases h.2.2.1 with q | q <;> omega
  intro m
  induction m with
  | nil =>
    intro u τ r d3 e hx hr
    rw [List.append_nil] at e
    subst e
    have := s_pr_len hw
    have er : r = c_dn (s_ch S) (c_line (s_ln S) (s_or S)) := by omega
    refine ⟨τ, hx, ?_⟩
    rw [X_prune_L4_eq, hx.1.2.2, hx.1.1 (σ.2.2 0 + 1) (by omega), hor.1, decide_eq_true (nI_le (Nat.le_refl _) (by omega)), cond_true, er]
  | cons p m ih =>
    intro u τ r d3 e hx hr
    obtain ⟨x1, x2, x3⟩ := hx
    have hl : (s_or S).length = u.length + (m.length + 1) := by rw [e, List.length_append]; rfl
    have hpo : p ∈ s_or S := by rw [e]; exact List.mem_append_right _ List.mem_cons_self
    have hp : p < s_pc S := hw.2.2.1.1.2 p hpo
    have hpc := hw.2.1.1
    have hpu : p ∉ u := fun q => by
      have hnd := hw.2.2.1.1.1
      rw [e] at hnd
      exact (List.nodup_append.mp hnd).2.2 p q p List.mem_cons_self rfl
    have h6 := hw.2.1.2.1 p (by omega)
    have ep : σ.1 (σ.2.2 0 + 1 + 1) u.length = nI p := hor.2.2 _ _ (by rw [e, List.getElem?_append_right (Nat.le_refl _), Nat.sub_self]; rfl)
    have em : σ.1 (σ.2.2 0 + 15) p = c_mask (s_ch S) (c_line (s_ln S) (s_or S)) p := h.2.2.2.1.2.2 p hpo
    have e9 : τ.1 9 p = nI (s_ln S p) := (x3 p (by omega) hpu).1.trans (h.2.1.2.1 p (by omega)).1
    have hch : ∀ k, k < s_ln S p → x_chg τ (6 * p + k) = s_ch S (6 * p + k) := fun k hk => ((x3 p (by omega) hpu).2 k (by omega)).trans (h.2.1.1 p k (Or.inl hp) hk)
    obtain ⟨υ, u1, u2, u3⟩ := X_rem_loop (E := τ) (p := p) (n := s_ln S p) (mask := c_mask (s_ch S) (c_line (s_ln S) (s_or S)) p) (dead := s_dd S) (by omega) h6 (fun k hk => c_mask_dead hk) (s_ln S p) 0 τ (Nat.zero_add _) pu_fr.rf (fun i x q => by cases q) (fun i _ _ => rfl)
    have len15 : pd_len (σ.2.2 0 + 15) = 25 := by rcases hr32 with q | q <;> (rw [q]; rfl)
    have fr : pu_fr (fun k => k = 9 ∨ (80 ≤ k ∧ k < 230)) τ (pd_upI υ 9 p (nI (s_lv S p).length)) := (u2.mono fun q hq => by omega).tr (pu_fr.upI (Or.inl rfl))
    have hx' : x_pr S σ (u ++ [p]) (pd_upI υ 9 p (nI (s_lv S p).length)) := by
      refine ⟨x1.tr fr, fun q hq => ?_, fun q hq hqu => ?_⟩
      · have xe : ∀ a, x_chg (pd_upI υ 9 p (nI (s_lv S p).length)) a = x_chg υ a := fun a => by unfold x_chg; rw [pu_u1n (by omega)]
        rcases List.mem_append.mp hq with hq | hq
        · have hqp : q ≠ p := fun e => hpu (by rw [← e]; exact hq)
          have hq25 := s_or25 hw q (by rw [e]; exact List.mem_append_left _ hq)
          refine ⟨?_, fun i x hx => ?_⟩
          · rw [pu_u1s, pk_un hqp, u2.1 9 (by omega)]; exact (x2 q hq).1
          · have hi := (s_lv_i hw hq25 hx).2.1
            have : x_chg υ (6 * q + i) = x_chg τ (6 * q + i) := by unfold x_chg; rw [u2.1 _ (by omega)]
            rw [xe, this]; exact (x2 q hq).2 i x hx
        · rw [List.mem_singleton.mp hq]
          refine ⟨by rw [pu_u1s, pk_us]; rfl, fun i x hx => ?_⟩
          rw [xe, u3 i x hx]
          exact hch x (s_lv_i hw (by omega) hx).2.2
      · have hqp : q ≠ p := fun e => hqu (by rw [e]; exact List.mem_append_right _ (List.mem_singleton.mpr rfl))
        obtain ⟨k1, k2⟩ := x3 q hq (fun k => hqu (List.mem_append_left _ k))
        refine ⟨by rw [pu_u1s, pk_un hqp, u2.1 9 (by omega)]; exact k1, fun i hi => ?_⟩
        have : x_chg (pd_upI υ 9 p (nI (s_lv S p).length)) (6 * q + i) = x_chg τ (6 * q + i) := by unfold x_chg; rw [pu_u1n (by omega), u2.1 _ (by omega)]
        rw [this]; exact k2 i hi
    have hle : s_prl S p ≤ s_ln S p := s_prl_le
    have la : ∀ f : Nat → Nat, (c_line f (u ++ [p])).length = (c_line f u).length + f p := fun f => by
      rw [c_line_app, List.length_append]
      show _ + (c_blk p 0 (f p) ++ []).length = _
      rw [List.append_nil, c_blk_range, List.length_map, List.length_range']
    obtain ⟨ω, w1, w2⟩ := ih (u ++ [p]) _ (r + (s_ln S p - s_prl S p)) (some (pd_i (nI p))) (by rw [e, List.append_assoc]; rfl) hx' (by rw [la, la]; omega)
    rw [List.length_append] at w2
    refine ⟨ω, w1, ?_⟩
    have t1 : τ.1 (σ.2.2 0 + 1) = σ.1 (σ.2.2 0 + 1) := x1.1 _ (by omega)
    have t2 : τ.1 (σ.2.2 0 + 1 + 1) = σ.1 (σ.2.2 0 + 1 + 1) := x1.1 _ (by omega)
    have t3 : τ.1 (σ.2.2 0 + 15) = σ.1 (σ.2.2 0 + 15) := x1.1 _ (by omega)
    rw [X_prune_L4_eq, x1.2.2, t1, t2, t3, hor.1, decide_eq_false (nI_ge (show u.length < (s_or S).length by omega) (by omega)), cond_false, (x_trl h).2.1, pu_obN (show u.length < 24 by omega) (by decide), cond_false, nI_clamp (show u.length < 2 ^ 31 by omega), ep, len15, pu_obN (show p < 25 by omega) (by decide), cond_false, nI_clamp (show p < 2 ^ 31 by omega), em, Book_removeChanges_eq, show pd_len 9 = 25 from rfl, pu_obN (show p < 25 by omega) (by decide), cond_false, nI_clamp (show p < 2 ^ 31 by omega), e9]
    rw [show Book_removeChanges_L13 (nI p) (c_mask (s_ch S) (c_line (s_ln S) (s_or S)) p) (nI (s_ln S p)) 0 0 τ = _ from u1, pd_bI_of, nI_add, ← nI_succ]
    exact w2
/-- the desk's books are another's: it plays anew -/
theorem RX_books (hw : s_wf S) (h : RX σ S) {ch : Nat → cC} {ln : Nat → Nat} {pc : Nat} (hw' : s_wf (s_kd S, s_sz S, s_bt S, s_bn S, ch, ln, pc, s_or S, s_un S, s_vr S, s_tp S, s_fl S, s_mt S)) (hf : pu_fr (fun k => k = 7 ∨ k = 9 ∨ (80 ≤ k ∧ k < 230)) σ τ) (hb : x_bk τ (s_kd S, s_sz S, s_bt S, s_bn S, ch, ln, pc, s_or S, s_un S, s_vr S, s_tp S, s_fl S, s_mt S)) : ∃ υ, Run_play (τ.2.2 0) τ = some (υ, none) ∧ RX υ (s_kd S, s_sz S, s_bt S, s_bn S, ch, ln, pc, s_or S, s_un S, s_vr S, s_tp S, s_fl S, s_mt S) ∧ XF τ υ := by
  obtain ⟨⟨a1, a2, a3, a4⟩, -, hrt, ⟨c1, c2, c3⟩, ⟨d1, d2, d3⟩, d4, d5, d6⟩ := h
  have e22 := hf.2.2
  have hr : σ.2.2 0 = 32 ∨ σ.2.2 0 = 48 := by rcases hrt with q | q <;> omega
  have hsh : x_sh τ (s_kd S, s_sz S, s_bt S, s_bn S, ch, ln, pc, s_or S, s_un S, s_vr S, s_tp S, s_fl S, s_mt S) := ⟨by rw [hf.1 2 (by omega)]; exact a1, by rw [hf.1 3 (by omega)]; exact a2, by rw [hf.1 5 (by omega)]; exact a3, by rw [hf.2.1 6 (by omega)]; exact a4⟩
  have hor : pu_seq τ (σ.2.2 0 + 1) (s_or S) := c1.of (by rw [hf.1 _ (by omega)]) (hf.1 _ (by omega))
  obtain ⟨υ, t1, t2, -, t4, -⟩ := x_play (r := σ.2.2 0) hw' hsh hb (by omega) hor hw'.2.2.1.1
  obtain ⟨u1, -, u3⟩ := t4 hw'.2.2.2.1
  have fr2 : pu_fr (fun j => σ.2.2 0 ≤ j ∧ j < σ.2.2 0 + 16) τ υ := t2.mono fun j hj => x_plK_in j hj
  have e1 : ∀ k, ¬ (σ.2.2 0 ≤ k ∧ k < σ.2.2 0 + 16) → υ.1 k = τ.1 k := fr2.1
  have e1' : ∀ k, ¬ (σ.2.2 0 ≤ k ∧ k < σ.2.2 0 + 16) → ¬ (k = 7 ∨ k = 9 ∨ (80 ≤ k ∧ k < 230)) → υ.1 k = σ.1 k := fun k h1 h2 => (e1 k h1).trans (hf.1 k h2)
  have ee : υ.2.2 = σ.2.2 := fr2.2.2.trans e22
  have hseq : ∀ o l, 10 < o → o + 1 < 32 → pu_seq σ o l → pu_seq υ o l := fun o l h1 h2 q => q.of (by rw [e1' o (by omega) (by omega)]) (e1' (o + 1) (by omega) (by omega))
  refine ⟨υ, by rw [e22]; exact t1, ⟨⟨?_, ?_, ?_, ?_⟩, ⟨?_, ?_, ?_⟩, ?_, ⟨?_, ?_, ?_⟩, ⟨?_, ?_, ?_⟩, ?_, ?_, ?_⟩, XF.of fr2 (fun k hk => by omega)⟩
  · rw [e1 2 (by omega)]; exact hsh.1
  · rw [e1 3 (by omega)]; exact hsh.2.1
  · rw [e1 5 (by omega)]; exact hsh.2.2.1
  · rw [fr2.2.1 6 (by omega)]; exact hsh.2.2.2
  · intro p k hp hk
    have hx : x_chg υ (6 * p + k) = x_chg τ (6 * p + k) := by unfold x_chg; rw [e1 _ (by omega)]
    rw [hx]; exact hb.1 p k hp hk
  · intro p hp; rw [e1 9 (by omega)]; exact hb.2.1 p hp
  · rw [e1 7 (by omega)]; exact hb.2.2
  · rw [ee]; exact hrt
  · rw [ee]; exact hor.of (by rw [t2.1 _ (by unfold x_plK x_stK x_ddK; omega)]) (by rw [t2.1 _ (by unfold x_plK x_stK x_ddK; omega)])
  · rw [ee]; exact x_rw_of (S := (s_kd S, s_sz S, s_bt S, s_bn S, ch, ln, pc, s_or S, s_un S, s_vr S, s_tp S, s_fl S, s_mt S)) u1
  · rw [ee]; exact u3
  · exact hseq _ _ (by omega) (by omega) d1
  · rw [e1' 0 (by omega) (by omega)]; exact d2
  · intro v l hv
    have hv1 : v < (s_vr S).length := (List.getElem?_eq_some_iff.mp hv).1
    have hv6 := hw.2.2.1.2.2.2.1
    exact hseq _ _ (by omega) (by omega) (d3 v l hv)
  · rw [e1' 10 (by omega) (by omega), e1' 11 (by omega) (by omega)]; exact d4
  · rw [e1' 0 (by omega) (by omega)]; exact d5
  · rw [e1' 16 (by omega) (by omega)]; exact d6
theorem X_prune_s (hw : s_wf S) (h : RX σ S) : ∃ τ, X_prune σ = some (τ, some (pd_i (nI (c_dn (s_ch S) (c_line (s_ln S) (s_or S)))))) ∧ RX τ (s_pr S) ∧ XF σ τ := by
  have hpc := hw.2.1.1
  obtain ⟨υ, ⟨u1, u2, u3⟩, w⟩ := X_prune_loop hw h (s_or S) [] σ 0 none rfl ⟨pu_fr.rf, (fun p q => by cases q), fun p _ _ => ⟨rfl, fun _ _ => rfl⟩⟩ rfl
  obtain ⟨ω, z1, z2, z3⟩ := RX_books hw h (s_pr_wf hw) (u1.mono fun k hk => by omega) ⟨fun p k hp hk => by
    have hk : k < s_prl S p := hk
    have hp : s_is S p := hp
    have h25 : p < 25 := by rcases hp with q | q <;> omega
    show x_chg υ (6 * p + k) = s_prc S (6 * p + k)
    by_cases q : p ∈ s_or S
    · obtain ⟨x, ek⟩ : ∃ x, (s_lv S p)[k]? = some x := ⟨_, List.getElem?_eq_getElem hk⟩
      obtain ⟨-, hk6, hx⟩ := s_lv_i hw h25 ek
      rw [s_prc_at ek hk6]
      exact (u2 p q).2 k _ ek
    · have hkl : k < s_ln S p := Nat.lt_of_lt_of_le hk s_prl_le
      rw [s_prc_out hw q h25 hkl, (u3 p h25 q).2 k (by have := hw.2.1.2.1 p h25; omega)]
      exact h.2.1.1 p k hp hkl, fun p hp => by
    show υ.1 9 p = nI (s_prl S p) ∧ s_prl S p ≤ 6
    refine ⟨?_, Nat.le_trans s_prl_le (hw.2.1.2.1 p hp)⟩
    by_cases q : p ∈ s_or S
    · exact (u2 p q).1
    · rw [(u3 p hp q).1, (h.2.1.2.1 p hp).1]
      unfold s_prl
      rw [s_lv_out hw q hp, List.length_range], by
    show υ.1 7 2 = nI (s_pc S)
    rw [u1.1 7 (by omega)]; exact h.2.1.2.2⟩
  refine ⟨ω, ?_, z2, (XF.of u1 (fun k hk => by omega)).tr z3⟩
  rw [X_prune_eq]
  refine Eq.trans w ?_
  rw [z1, pd_bV_of]
end PRUNE
