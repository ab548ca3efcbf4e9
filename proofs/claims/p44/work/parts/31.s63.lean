/-! (whole, 63.without) -/
section WITHOUT
variable {σ : pd_H} {S : cS}
/-- what a cell would be without a patch -/
def s_wo (S : cS) (l : List Nat) (n : Nat) : Int64 := match (s_play S l).1 with
  | none => c_num ((s_play S l).2.1 n) ((s_play S l).2.2.1 n)
  | some (_, f) => c_lerr (-10 - f)
theorem s_wo_ok {l : List Nat} {n : Nat} (h : (s_play S l).1 = none) : s_wo S l n = c_num ((s_play S l).2.1 n) ((s_play S l).2.2.1 n) := by unfold s_wo; rw [h]
theorem s_wo_no {l : List Nat} {n a : Nat} {f : Int32} (h : (s_play S l).1 = some (a, f)) : s_wo S l n = c_lerr (-10 - f) := by unfold s_wo; rw [h]
theorem X_wo_s (hw : s_wf S) (h : RX σ S) {p : Nat} (hm : p ∈ s_or S) {b c : Int32} (hb : pu_sl b) (h0 : c_eltF (s_kd S) (s_sz S) b c = 0) : ∃ τ, X_without (nI p) b c σ = some (τ, some (pd_j (s_wo S (c_rm (s_or S) p) (c_cell b c)))) ∧ RX τ S ∧ XF σ τ := by
  have hp := hw.2.2.1.1.2 p hm
  have hp31 : p < 2 ^ 31 := by have := s_or25 hw p hm; omega
  have h31 : ∀ x ∈ s_or S, x < 2 ^ 31 := fun x hx => by have := s_or25 hw x hx; omega
  have ho := s_ord_rm hw.2.2.1.1 p
  obtain ⟨q1, q2⟩ := c_elt_0 h0
  obtain ⟨e1, e2⟩ := c_cell_ok hw.1.2.1.sz hb q2
  obtain ⟨τ1, t1, t2, t3, t4, t5⟩ := X_tr_like hw h h.2.2.2.1.1 (x_trl h).2.1 (Or.inr rfl)
  obtain ⟨τ2, u1, u2, u3, u4, u5⟩ := X_tr_rm hw t3 t2 hp31 h31
  have hr := x_run u3
  obtain ⟨τ3, v1, v2, v3, v4, v5⟩ := x_play hw u3.1 u3.2.1 (x_tr3 u3) u2 ho
  have frK : pu_fr (x_frK (τ2.2.2 1)) τ2 τ3 := v2.mono (fun k hk => by have := x_plK_in k hk; unfold x_frK; omega)
  have hX := RX_frK hw u3 frK
  have e22 : τ3.2.2 = τ2.2.2 := v2.2.2
  have hlen4 : pd_len (τ2.2.2 1 + 3 + 1) = 72 := by rcases hr with q | q <;> rw [q.2] <;> rfl
  have hlen5 : pd_len (τ2.2.2 1 + 3 + 2) = 72 := by rcases hr with q | q <;> rw [q.2] <;> rfl
  refine ⟨τ3, ?_, hX, (t4.tr u4).tr (fun k hk => ⟨v2.1 k (fun q => by have := x_plK_in k q; omega), v2.2.1 k (fun q => by have := x_plK_in k q; omega)⟩)⟩
  have e0 : X_without (nI p) b c σ = (cond (decide ((τ3.1 (τ2.2.2 1) 10) = 0)) (pd_bI (X_cellOf b c τ3) fun s14 v15 => pd_bJ (X_numberAt (τ2.2.2 1 + 3) v15 s14) fun s16 v17 => some (s16, some (pd_j v17))) (pd_bI (X_findingCode (τ3.1 (τ2.2.2 1) 10) τ3) fun s18 v19 => pd_bJ (X_longError v19 s18) fun s20 v21 => some (s20, some (pd_j v21)))) := by
    rw [X_without_eq, X_patch_1 hw h hp, pd_bI_of, decide_eq_false (by decide : ¬ (1 : Int32) = 0), cond_false, X_slot]
    rcases c_slv_cases b with ⟨-, e⟩ | ⟨-, e⟩
    · rw [e, pd_bI_of, decide_eq_false (by decide : ¬ (1 : Int32) = 0), cond_false, X_applied_s hw h hp, c_isn_1 hm, pd_bI_of, decide_eq_false (by decide : ¬ (1 : Int32) = 0), cond_false, X_elementError_0 h hb h0, pd_bI_of, decide_eq_true (rfl : (0 : Int32) = 0), cond_true, t1, pd_bV_of, u1, pd_bV_of, v1, pd_bV_of, e22]
    · exact absurd hb e
  cases hp : (s_play S (c_rm (s_or S) p)).1 with
  | none =>
    obtain ⟨w1, w2, -⟩ := v4 hp
    obtain ⟨g1, g2, g3⟩ := w1.1 _ e2
    have g1 : τ3.1 (τ2.2.2 1 + 3 + 1) (c_cell b c) = _ := g1
    have g2 : τ3.2.1 (τ2.2.2 1 + 3 + 2) (c_cell b c) = _ := g2
    rw [s_wo_ok hp, e0, w2, decide_eq_true (rfl : (0 : Int32) = 0), cond_true, X_cellOf_s, pd_bI_of, e1, X_numberAt_s hlen4 hlen5 e2 (by decide), pd_bJ_of, g1, g2]
  | some q =>
    obtain ⟨w1, -, -⟩ := v5 q.1 q.2 hp
    obtain ⟨hne, -, -⟩ := c_ply_ne (a := q.1) (f := q.2) hp
    rw [s_wo_no (a := q.1) (f := q.2) hp, e0, w1, decide_eq_false hne, cond_false, X_findingCode_s, pd_bI_of, X_lerr, pd_bJ_of]
end WITHOUT
/-! (whole, 64.since) -/
/-! Since when a cell has been as it is. -/
theorem c_log_keep {kd sz : Nat → Int32} {chg : Nat → cC} {b : Nat} : ∀ {t : List Nat} {R : cR}, b ∉ t → (c_ply kd sz chg t R).2.2.2.2.2.2.1 b = R.2.2.2.2.2.1 b ∧ (c_ply kd sz chg t R).2.2.2.2.2.2.2.1 b = R.2.2.2.2.2.2.1 b := by
  intro t
  induction t with
  | nil => intro R _; exact ⟨rfl, rfl⟩
  | cons a t ih =>
    intro R h
    by_cases h0 : c_fd kd sz R (chg a) = 0
    · obtain ⟨g1, g2⟩ := ih (R := c_one kd (nI (a / 6)) a (chg a) R) (fun q => h (List.mem_cons_of_mem _ q))
      have hne : b ≠ a := fun e => h (by rw [e]; exact List.mem_cons_self)
      rw [c_ply_ok h0, g1, g2]
      refine ⟨?_, ?_⟩
      · show upd R.2.2.2.2.2.1 a _ b = _
        rw [pk_un hne]
      · show vp_updL R.2.2.2.2.2.2.1 a _ b = _
        exact if_neg hne
    · rw [c_ply_bad h0]; exact ⟨rfl, rfl⟩
/-- what a patch does to a cell -/
theorem c_blk_cell {kd sz : Nat → Int32} {chg : Nat → cC} {cell q : Nat} (hq : q < 25) (hc : cell < 72) {R : cR} : ∀ {k : Nat}, k ≤ 6 → (∀ a ∈ c_blk q 0 k, c_cld (chg a)) → (c_ply kd sz chg (c_blk q 0 k) R).1 = none → (c_lst chg cell q k = 150 ∧ (c_ply kd sz chg (c_blk q 0 k) R).2.1 cell = R.1 cell ∧ (c_ply kd sz chg (c_blk q 0 k) R).2.2.1 cell = R.2.1 cell) ∨ (c_lst chg cell q k ≠ 150 ∧ (c_ply kd sz chg (c_blk q 0 k) R).2.1 cell = (c_ply kd sz chg (c_blk q 0 k) R).2.2.2.2.2.2.1 (c_lst chg cell q k) ∧ (c_ply kd sz chg (c_blk q 0 k) R).2.2.1 cell = (c_ply kd sz chg (c_blk q 0 k) R).2.2.2.2.2.2.2.1 (c_lst chg cell q k)) := by
  intro k
  induction k with
  | zero => intro _ _ _; exact Or.inl ⟨rfl, rfl, rfl⟩
  | succ k ih =>
    intro hk hcl hn
    have eB : c_blk q 0 (k + 1) = c_blk q 0 k ++ [6 * q + k] := by
      rw [c_blk_at (j := k) (Nat.lt_succ_self k), Nat.zero_add, show k + 1 - k - 1 = 0 by omega]; rfl
    have hcla := hcl (6 * q + k) (by rw [eB]; exact List.mem_append_right _ (List.mem_singleton.mpr rfl))
    rw [eB] at hn ⊢
    have hpre := c_ply_pre hn
    rw [c_ply_app hpre] at hn ⊢
    have ih' := ih (by omega) (fun a ha => hcl a (by rw [eB]; exact List.mem_append_left _ ha)) hpre
    generalize (c_ply kd sz chg (c_blk q 0 k) R).2 = T at hn ih' ⊢
    by_cases h0 : c_fd kd sz T (chg (6 * q + k)) = 0
    · rw [c_ply_ok h0]
      show (cond (decide ((chg (6 * q + k)).2.2.2.1 * 12 + (chg (6 * q + k)).2.2.2.2.1 = nI cell)) (6 * q + k) (c_lst chg cell q k) = 150 ∧ _) ∨ (cond (decide ((chg (6 * q + k)).2.2.2.1 * 12 + (chg (6 * q + k)).2.2.2.2.1 = nI cell)) (6 * q + k) (c_lst chg cell q k) ≠ 150 ∧ upd T.1 (c_tc (chg (6 * q + k))) (c_nt kd T (chg (6 * q + k))) cell = upd T.2.2.2.2.2.1 (6 * q + k) (c_nt kd T (chg (6 * q + k))) (cond (decide ((chg (6 * q + k)).2.2.2.1 * 12 + (chg (6 * q + k)).2.2.2.2.1 = nI cell)) (6 * q + k) (c_lst chg cell q k)) ∧ vp_updL T.2.1 (c_tc (chg (6 * q + k))) (c_nn kd T (chg (6 * q + k))) cell = vp_updL T.2.2.2.2.2.2.1 (6 * q + k) (c_nn kd T (chg (6 * q + k))) (cond (decide ((chg (6 * q + k)).2.2.2.1 * 12 + (chg (6 * q + k)).2.2.2.2.1 = nI cell)) (6 * q + k) (c_lst chg cell q k)))
      have tc72 := hcla.1.2
      rw [hcla.1.1, c_beq_d (by omega) (by omega)]
      by_cases e : c_tc (chg (6 * q + k)) = cell
      · rw [e, Nat.beq_refl, cond_true]
        refine Or.inr ⟨by omega, by rw [pk_us, pk_us], ?_⟩
        show (if cell = cell then _ else _) = (if 6 * q + k = 6 * q + k then _ else _)
        rw [if_pos rfl, if_pos rfl]
      · rw [c_beq_f e, cond_false]
        have hne : cell ≠ c_tc (chg (6 * q + k)) := fun q => e q.symm
        rcases ih' with ⟨i1, i2, i3⟩ | ⟨i1, i2, i3⟩
        · refine Or.inl ⟨i1, ?_, ?_⟩
          · show upd T.1 (c_tc (chg (6 * q + k))) _ cell = _
            rw [pk_un hne]; exact i2
          · show vp_updL T.2.1 (c_tc (chg (6 * q + k))) _ cell = _
            rw [show vp_updL T.2.1 (c_tc (chg (6 * q + k))) (c_nn kd T (chg (6 * q + k))) cell = T.2.1 cell from if_neg hne]; exact i3
        · have hlt := c_lst_lt i1
          have hne2 : c_lst chg cell q k ≠ 6 * q + k := by omega
          refine Or.inr ⟨i1, ?_, ?_⟩
          · rw [pk_un hne, pk_un hne2]; exact i2
          · rw [show vp_updL T.2.1 (c_tc (chg (6 * q + k))) (c_nn kd T (chg (6 * q + k))) cell = T.2.1 cell from if_neg hne, show vp_updL T.2.2.2.2.2.2.1 (6 * q + k) (c_nn kd T (chg (6 * q + k))) (c_lst chg cell q k) = T.2.2.2.2.2.2.1 (c_lst chg cell q k) from if_neg hne2]; exact i3
    · rw [c_ply_bad h0] at hn; cases hn
/-! going up, going down -/
def c_up (e : Nat → Bool) : Nat → Nat → Int32 → Int32
  | 0, _, s => s
  | d + 1, n, s => c_up e d (n + 1) (cond (e (n + 1)) s (nI (n + 2)))
def c_dw (e : Nat → Bool) : Nat → Nat
  | 0 => 0
  | k + 1 => cond (e k) (c_dw e k) (k + 1)
theorem c_up_dw {e : Nat → Bool} : ∀ (d n : Nat), c_up e d n (nI (c_dw e (n + 1))) = nI (c_dw e (n + d + 1)) := by
  intro d
  induction d with
  | zero => intro n; rfl
  | succ d ih =>
    intro n
    show c_up e d (n + 1) (cond (e (n + 1)) (nI (c_dw e (n + 1))) (nI (n + 2))) = _
    have : cond (e (n + 1)) (nI (c_dw e (n + 1))) (nI (n + 2)) = nI (c_dw e (n + 1 + 1)) := by
      show _ = nI (cond (e (n + 1)) (c_dw e (n + 1)) (n + 1 + 1))
      cases e (n + 1) <;> rfl
    rw [this, ih (n + 1), show n + 1 + d + 1 = n + (d + 1) + 1 by omega]
section SINCE
variable {σ : pd_H} {S : cS}
/-- a cell with the first patches only is as now -/
def s_eq (S : cS) (cell k : Nat) : Bool := decide ((s_play S (s_or S)).2.1 cell = (s_play S ((s_or S).take k)).2.1 cell) && decide ((s_play S (s_or S)).2.2.1 cell = (s_play S ((s_or S).take k)).2.2.1 cell)
def s_since (S : cS) (cell : Nat) : Int32 := nI (c_dw (s_eq S cell) (s_or S).length)
theorem s_take_ok (hw : s_wf S) (k : Nat) : (s_play S ((s_or S).take k)).1 = none := by
  refine s_play_pre (m := (s_or S).drop k) ?_
  rw [List.take_append_drop]; exact hw.2.2.2.1
theorem s_eq_full {cell : Nat} : s_eq S cell (s_or S).length = true := by
  unfold s_eq
  rw [List.take_length, decide_eq_true rfl, decide_eq_true rfl]; rfl
theorem c_dw_full {cell : Nat} : c_dw (s_eq S cell) ((s_or S).length + 1) = c_dw (s_eq S cell) (s_or S).length := by
  show cond (s_eq S cell (s_or S).length) _ _ = _
  rw [s_eq_full]; rfl
theorem s_take_next (hw : s_wf S) {n p cell : Nat} (hc : cell < 72) (hp : (s_or S)[n]? = some p) :
    (c_lst (s_ch S) cell p (s_ln S p) = 150 ∧ (s_play S ((s_or S).take (n + 1))).2.1 cell = (s_play S ((s_or S).take n)).2.1 cell ∧ (s_play S ((s_or S).take (n + 1))).2.2.1 cell = (s_play S ((s_or S).take n)).2.2.1 cell) ∨ (c_lst (s_ch S) cell p (s_ln S p) ≠ 150 ∧ (s_play S ((s_or S).take (n + 1))).2.1 cell = (s_play S (s_or S)).2.2.2.2.2.2.1 (c_lst (s_ch S) cell p (s_ln S p)) ∧ (s_play S ((s_or S).take (n + 1))).2.2.1 cell = (s_play S (s_or S)).2.2.2.2.2.2.2.1 (c_lst (s_ch S) cell p (s_ln S p))) := by
  have hn : n < (s_or S).length := (List.getElem?_eq_some_iff.mp hp).1
  have hpo := List.mem_of_getElem? hp
  have p25 := s_or25 hw p hpo
  have hl6 := hw.2.1.2.1 p p25
  have eT : (s_or S).take (n + 1) = (s_or S).take n ++ [p] := by
    rw [List.take_succ, hp]; rfl
  have ok1 := s_take_ok hw (n + 1)
  have ok0 := s_take_ok hw n
  have hall := hw.2.2.2.1
  have eO : s_or S = (s_or S).take (n + 1) ++ (s_or S).drop (n + 1) := (List.take_append_drop _ _).symm
  -- the play of one more
  have e1 : s_play S ((s_or S).take (n + 1)) = c_ply (s_kd S) (s_sz S) (s_ch S) (c_blk p 0 (s_ln S p)) (s_play S ((s_or S).take n)).2 := by
    unfold s_play c_play at ok0 ⊢
    rw [eT, c_line_app]
    show c_ply _ _ _ (c_line (s_ln S) ((s_or S).take n) ++ (c_blk p 0 (s_ln S p) ++ [])) _ = _
    rw [List.append_nil, c_ply_app ok0]
  have hcl : ∀ a ∈ c_blk p 0 (s_ln S p), c_cld (s_ch S a) := fun a ha => s_cld hw a (c_blk_line hpo ha)
  have key := c_blk_cell (kd := s_kd S) (sz := s_sz S) (chg := s_ch S) (R := (s_play S ((s_or S).take n)).2) p25 hc hl6 hcl (by rw [← e1]; exact ok1)
  rw [← e1] at key
  rcases key with k | ⟨k1, k2, k3⟩
  · exact Or.inl k
  · refine Or.inr ⟨k1, ?_⟩
    have hlt := c_lst_lt k1
    -- the log is kept to the end
    have e2 : s_play S (s_or S) = c_ply (s_kd S) (s_sz S) (s_ch S) (c_line (s_ln S) ((s_or S).drop (n + 1))) (s_play S ((s_or S).take (n + 1))).2 := by
      conv => lhs; rw [eO]
      unfold s_play c_play at ok1 ⊢
      rw [c_line_app, c_ply_app ok1]
    have hge : 6 * p ≤ c_lst (s_ch S) cell p (s_ln S p) := by
      have : ∀ k, c_lst (s_ch S) cell p k ≠ 150 → 6 * p ≤ c_lst (s_ch S) cell p k := by
        intro k
        induction k with
        | zero => intro h; exact absurd rfl h
        | succ k ih =>
          intro h
          unfold c_lst at h ⊢
          cases hd : decide ((s_ch S (6 * p + k)).2.2.2.1 * 12 + (s_ch S (6 * p + k)).2.2.2.2.1 = nI cell) with
          | true => rw [cond_true]; omega
          | false => rw [hd, cond_false] at h; rw [cond_false]; exact ih h
      exact this _ k1
    have hni : c_lst (s_ch S) cell p (s_ln S p) ∉ c_line (s_ln S) ((s_or S).drop (n + 1)) := fun h => by
      obtain ⟨q, q1, j, q2, q3⟩ := c_line_mem h
      have q25 := s_or25 hw q (List.mem_of_mem_drop q1)
      have := hw.2.1.2.1 q q25
      have hqp : q = p := by omega
      subst hqp
      have hnd : (((s_or S).take (n + 1)) ++ (s_or S).drop (n + 1)).Nodup := eO ▸ hw.2.2.1.1.1
      exact (List.nodup_append.mp hnd).2.2 q (by rw [eT]; exact List.mem_append_right _ (List.mem_singleton.mpr rfl)) q q1 rfl
    obtain ⟨g1, g2⟩ := c_log_keep (kd := s_kd S) (sz := s_sz S) (chg := s_ch S) (R := (s_play S ((s_or S).take (n + 1))).2) hni
    rw [← e2] at g1 g2
    exact ⟨k2.trans g1.symm, k3.trans g2.symm⟩
theorem s_unc (hw : s_wf S) {cell : Nat} (hc : cell < 72) : ∀ (m : List Nat) (n : Nat) (s : Int32), n + m.length = (s_or S).length → (∀ t x, m[t]? = some x → (s_or S)[n + t]? = some x) → c_unc (s_ch S) (s_ln S) (s_play S (s_or S)).2 cell m n ((s_play S ((s_or S).take n)).2.1 cell) ((s_play S ((s_or S).take n)).2.2.1 cell) s = c_up (s_eq S cell) m.length n s := by
  intro m
  induction m with
  | nil => intro n s _ _; rfl
  | cons p m ih =>
    intro n s hn hm
    have hn : n + (m.length + 1) = (s_or S).length := hn
    have hp : (s_or S)[n]? = some p := by have := hm 0 p rfl; rwa [Nat.add_zero] at this
    have hmt : ∀ t x, m[t]? = some x → (s_or S)[n + 1 + t]? = some x := fun t x h => by
      rw [show n + 1 + t = n + (t + 1) by omega]; exact hm (t + 1) x h
    have ih' := ih (n + 1) (cond (s_eq S cell (n + 1)) s (nI (n + 2))) (by omega) hmt
    show cond (Nat.beq (c_lst (s_ch S) cell p (s_ln S p)) 150) _ _ = c_up (s_eq S cell) m.length (n + 1) (cond (s_eq S cell (n + 1)) s (nI (n + 2)))
    rw [← ih']
    rcases s_take_next hw hc hp with ⟨k1, k2, k3⟩ | ⟨k1, k2, k3⟩
    · rw [k1, Nat.beq_refl, cond_true]
      unfold s_eq
      rw [k2, k3]
    · rw [c_beq_f k1, cond_false]
      unfold s_eq
      rw [k2, k3]
end SINCE
/-! (whole, 65.since2) -/
/-! Since, both. -/
theorem c_lst_congr {chg chg' : Nat → cC} {cell p : Nat} : ∀ {k : Nat}, (∀ j, j < k → chg (6 * p + j) = chg' (6 * p + j)) → c_lst chg cell p k = c_lst chg' cell p k := by
  intro k
  induction k with
  | zero => intro _; rfl
  | succ k ih =>
    intro h
    unfold c_lst
    rw [h k (Nat.lt_succ_self k), ih (fun j hj => h j (by omega))]
theorem c_unc_congr {chg chg' : Nat → cC} {len : Nat → Nat} {R T : cR} {cell : Nat} (h1 : R.1 cell = T.1 cell) (h2 : R.2.1 cell = T.2.1 cell) : ∀ {m : List Nat} {n : Nat} {ty : Int32} {nu : Int64} {s : Int32}, (∀ p ∈ m, (∀ j, j < len p → chg (6 * p + j) = chg' (6 * p + j)) ∧ (c_lst chg' cell p (len p) ≠ 150 → R.2.2.2.2.2.1 (c_lst chg' cell p (len p)) = T.2.2.2.2.2.1 (c_lst chg' cell p (len p)) ∧ R.2.2.2.2.2.2.1 (c_lst chg' cell p (len p)) = T.2.2.2.2.2.2.1 (c_lst chg' cell p (len p)))) → c_unc chg len R cell m n ty nu s = c_unc chg' len T cell m n ty nu s := by
  intro m
  induction m with
  | nil => intro n ty nu s _; rfl
  | cons p m ih =>
    intro n ty nu s h
    obtain ⟨g1, g2⟩ := h p List.mem_cons_self
    have hr := fun q hq => h q (List.mem_cons_of_mem _ hq)
    unfold c_unc
    rw [c_lst_congr g1]
    by_cases e : c_lst chg' cell p (len p) = 150
    · rw [e, Nat.beq_refl, cond_true, cond_true, h1, h2]
      exact ih hr
    · obtain ⟨g3, g4⟩ := g2 e
      rw [c_beq_f e, cond_false, cond_false, h1, h2, g3, g4]
      exact ih hr
section SINCE2
variable {σ : pd_H} {S : cS}
theorem X_unc_s (hw : s_wf S) (h : RX σ S) {cell : Nat} (hc : cell < 72) : Run_unchangedAfter (σ.2.2 0) (nI cell) σ = some (σ, some (pd_i (s_since S cell))) := by
  obtain ⟨g1, g2, g3⟩ := x_cell h hc
  rw [Run_unchangedAfter_s (x_run3 h) h.2.1.2.1 h.2.2.2.1.1 (s_or25 hw) hc]
  refine congrArg (fun v => some (σ, some (pd_i v))) ?_
  have e5 : σ.1 5 cell = (s_play S ((s_or S).take 0)).2.1 cell := by rw [h.1.2.2.1]; rfl
  have e6 : σ.2.1 6 cell = (s_play S ((s_or S).take 0)).2.2.1 cell := by rw [h.1.2.2.2]; rfl
  rw [g1, g2, e5, e6]
  have ec := c_unc_congr (chg := x_chg σ) (chg' := s_ch S) (len := s_ln S) (R := x_rows σ (σ.2.2 0)) (T := (s_play S (s_or S)).2) (cell := cell) g1 g2 (m := s_or S) (n := 0) (ty := (s_play S ((s_or S).take 0)).2.1 cell) (nu := (s_play S ((s_or S).take 0)).2.2.1 cell) (s := cond (s_eq S cell 0) 0 1) (fun p hp => ⟨fun j hj => h.2.1.1 p j (Or.inl (hw.2.2.1.1.2 p hp)) hj, fun hne => by
    have hlt := c_lst_lt hne
    have hge : 6 * p ≤ c_lst (s_ch S) cell p (s_ln S p) := by
      have : ∀ k, c_lst (s_ch S) cell p k ≠ 150 → 6 * p ≤ c_lst (s_ch S) cell p k := by
        intro k
        induction k with
        | zero => intro h; exact absurd rfl h
        | succ k ih =>
          intro h
          unfold c_lst at h ⊢
          cases hd : decide ((s_ch S (6 * p + k)).2.2.2.1 * 12 + (s_ch S (6 * p + k)).2.2.2.2.1 = nI cell) with
          | true => rw [cond_true]; omega
          | false => rw [hd, cond_false] at h; rw [cond_false]; exact ih h
      exact this _ hne
    obtain ⟨j, hj⟩ : ∃ j, c_lst (s_ch S) cell p (s_ln S p) = 6 * p + j := ⟨_, (Nat.add_sub_cancel' hge).symm⟩
    have hL : c_lst (s_ch S) cell p (s_ln S p) ∈ c_line (s_ln S) (s_or S) := by
      rw [hj]; exact c_line_in hp (by omega)
    have := h.2.2.2.1.2.1.2 _ hL
    exact ⟨this.2.2.1, this.2.2.2.1⟩⟩)
  refine ec.trans ?_
  rw [s_unc hw hc (s_or S) 0 _ (Nat.zero_add _) (fun t x hx => by rw [Nat.zero_add]; exact hx)]
  have e0 : cond (s_eq S cell 0) (0 : Int32) 1 = nI (c_dw (s_eq S cell) 1) := by
    show _ = nI (cond (s_eq S cell 0) 0 1)
    cases s_eq S cell 0 <;> rfl
  rw [e0, c_up_dw, Nat.zero_add, c_dw_full]
  rfl
end SINCE2
/-! (whole, 69.view) -/
/-! Preview: values only. -/
theorem c_fd_v {kd sz : Nat → Int32} {R : cR} {c : cC} : c_fd kd sz R c = c_fd kd sz (c_r0 R.1 R.2.1) c := rfl
def c_vag (V : Nat → Prop) (t u : Nat → Int32) (n v : Nat → Int64) : Prop := ∀ c, V c → t c = u c ∧ n c = v c
theorem c_vag.agr {V : Nat → Prop} {t u : Nat → Int32} {n v : Nat → Int64} (h : c_vag V t u n v) : c_agr V (fun _ => False) (c_r0 t n) (c_r0 u v) := ⟨fun c hc => ⟨(h c hc).1, (h c hc).2, rfl⟩, fun a ha => ha.elim⟩
/-! (whole, 72.tape) -/
section TAPE
variable {σ₀ σ : pd_H} {L l : List Nat} {x : Int32}
theorem nI_subN {a b : Nat} (h : b ≤ a) : nI a - nI b = nI (a - b) := (Int32.ofNat_sub a b h).symm
end TAPE
/-! (whole, 73.flawx) -/
/-- a suffix behind bytes that are no semicolon -/
def c_sf (l r : List Nat) : Prop := ∃ u, l = u ++ r ∧ 59 ∉ u
theorem c_sf.rf {l : List Nat} : c_sf l l := ⟨[], rfl, List.not_mem_nil⟩
theorem c_sf.tr {l r s : List Nat} (h : c_sf l r) (g : c_sf r s) : c_sf l s := by
  obtain ⟨u, h1, h2⟩ := h
  obtain ⟨v, g1, g2⟩ := g
  exact ⟨u ++ v, by rw [h1, g1, List.append_assoc], fun q => (List.mem_append.mp q).elim h2 g2⟩
/-! (whole, 74.flawm) -/
section TAPEM
variable {L : List Nat}
/-- its own places -/
def mF (σ τ : pd_H) : Prop := pu_fr (fun k => k = 230) σ τ ∧ ∀ j, j < 40 ∨ 43 < j → τ.1 230 j = σ.1 230 j
theorem mF.rf {σ : pd_H} : mF σ σ := ⟨pu_fr.rf, fun _ _ => rfl⟩
theorem mF.tr {σ τ υ : pd_H} (h : mF σ τ) (g : mF τ υ) : mF σ υ := ⟨h.1.tr g.1, fun j hj => (g.2 j hj).trans (h.2 j hj)⟩
theorem mF.upJ {σ : pd_H} {j : Nat} {v : Int64} : mF σ (pd_upJ σ 230 j v) := ⟨pu_fr.upJ rfl, fun i hi => rfl⟩
end TAPEM
/-! (whole, 77.read) -/
section READM
variable {L : List Nat} {σ₀ : pd_H} {base : Nat} {CS : List cC}
/-- what its reading changes -/
def rF (base : Nat) (σ τ : pd_H) : Prop := pu_fr (fun k => k = 230 ∨ (238 ≤ k ∧ k ≤ 243)) σ τ ∧ (∀ j, j < 40 ∨ 43 < j → τ.1 230 j = σ.1 230 j) ∧ ∀ k, 238 ≤ k → k ≤ 243 → ∀ a, a < base → τ.1 k a = σ.1 k a
theorem rF.rf {σ : pd_H} : rF base σ σ := ⟨pu_fr.rf, fun _ _ => rfl, fun _ _ _ _ _ => rfl⟩
theorem rF.tr {σ τ υ : pd_H} (h : rF base σ τ) (g : rF base τ υ) : rF base σ υ := ⟨h.1.tr g.1, fun j hj => (g.2.1 j hj).trans (h.2.1 j hj), fun k h1 h2 a ha => (g.2.2 k h1 h2 a ha).trans (h.2.2 k h1 h2 a ha)⟩
end READM
