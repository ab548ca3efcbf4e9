/-! Since when a cell has been as it is. -/
theorem c_log_keep {kd sz : Nat → Int32} {chg : Nat → cC} {b : Nat} : ∀ {t : List Nat} {R : cR}, b ∉ t → (c_ply kd sz chg t R).2.2.2.2.2.2.1 b = R.2.2.2.2.2.1 b ∧ (c_ply kd sz chg t R).2.2.2.2.2.2.2.1 b = R.2.2.2.2.2.2.1 b := by
  intro t
  induction t with
  | nil => intro R _; exact ⟨rfl, rfl⟩
  | cons a t ih =>
    intro R h
    by_cases h0 : c_fd kd sz R (chg a) = 0
    · obtain ⟨g1, g2⟩ := ih (R := c_one kd (nI (a / 6)) a (chg a) R) (fun q => h (List.mem_cons_of_mem _ q))
      have hne : b ≠ a := fun e => h (by rw [e]; exact List.mem_cons_self)
      rw [c_ply_ok h0, g1, g2]
      refine ⟨?_, ?_⟩
      · show upd R.2.2.2.2.2.1 a _ b = _
        rw [pk_un hne]
      · show vp_updL R.2.2.2.2.2.2.1 a _ b = _
        exact if_neg hne
    · rw [c_ply_bad h0]; exact ⟨rfl, rfl⟩
/-- what a patch does to a cell -/
theorem c_blk_cell {kd sz : Nat → Int32} {chg : Nat → cC} {cell q : Nat} (hq : q < 25) (hc : cell < 72) {R : cR} : ∀ {k : Nat}, k ≤ 6 → (∀ a ∈ c_blk q 0 k, c_cld (chg a)) → (c_ply kd sz chg (c_blk q 0 k) R).1 = none → (c_lst chg cell q k = 150 ∧ (c_ply kd sz chg (c_blk q 0 k) R).2.1 cell = R.1 cell ∧ (c_ply kd sz chg (c_blk q 0 k) R).2.2.1 cell = R.2.1 cell) ∨ (c_lst chg cell q k ≠ 150 ∧ (c_ply kd sz chg (c_blk q 0 k) R).2.1 cell = (c_ply kd sz chg (c_blk q 0 k) R).2.2.2.2.2.2.1 (c_lst chg cell q k) ∧ (c_ply kd sz chg (c_blk q 0 k) R).2.2.1 cell = (c_ply kd sz chg (c_blk q 0 k) R).2.2.2.2.2.2.2.1 (c_lst chg cell q k)) := by
  intro k
  induction k with
  | zero => intro _ _ _; exact Or.inl ⟨rfl, rfl, rfl⟩
  | succ k ih =>
    intro hk hcl hn
    have eB : c_blk q 0 (k + 1) = c_blk q 0 k ++ [6 * q + k] := by
      rw [c_blk_at (j := k) (Nat.lt_succ_self k), Nat.zero_add, show k + 1 - k - 1 = 0 by omega]; rfl
    have hcla := hcl (6 * q + k) (by rw [eB]; exact List.mem_append_right _ (List.mem_singleton.mpr rfl))
    rw [eB] at hn ⊢
    have hpre := c_ply_pre hn
    rw [c_ply_app hpre] at hn ⊢
    have ih' := ih (by omega) (fun a ha => hcl a (by rw [eB]; exact List.mem_append_left _ ha)) hpre
    generalize (c_ply kd sz chg (c_blk q 0 k) R).2 = T at hn ih' ⊢
    by_cases h0 : c_fd kd sz T (chg (6 * q + k)) = 0
    · rw [c_ply_ok h0]
      show (cond (decide ((chg (6 * q + k)).2.2.2.1 * 12 + (chg (6 * q + k)).2.2.2.2.1 = nI cell)) (6 * q + k) (c_lst chg cell q k) = 150 ∧ _) ∨ (cond (decide ((chg (6 * q + k)).2.2.2.1 * 12 + (chg (6 * q + k)).2.2.2.2.1 = nI cell)) (6 * q + k) (c_lst chg cell q k) ≠ 150 ∧ upd T.1 (c_tc (chg (6 * q + k))) (c_nt kd T (chg (6 * q + k))) cell = upd T.2.2.2.2.2.1 (6 * q + k) (c_nt kd T (chg (6 * q + k))) (cond (decide ((chg (6 * q + k)).2.2.2.1 * 12 + (chg (6 * q + k)).2.2.2.2.1 = nI cell)) (6 * q + k) (c_lst chg cell q k)) ∧ vp_updL T.2.1 (c_tc (chg (6 * q + k))) (c_nn kd T (chg (6 * q + k))) cell = vp_updL T.2.2.2.2.2.2.1 (6 * q + k) (c_nn kd T (chg (6 * q + k))) (cond (decide ((chg (6 * q + k)).2.2.2.1 * 12 + (chg (6 * q + k)).2.2.2.2.1 = nI cell)) (6 * q + k) (c_lst chg cell q k)))
      have tc72 := hcla.1.2
      rw [hcla.1.1, c_beq_d (by omega) (by omega)]
      by_cases e : c_tc (chg (6 * q + k)) = cell
      · rw [e, Nat.beq_refl, cond_true]
        refine Or.inr ⟨by omega, by rw [pk_us, pk_us], ?_⟩
        show (if cell = cell then _ else _) = (if 6 * q + k = 6 * q + k then _ else _)
        rw [if_pos rfl, if_pos rfl]
      · rw [c_beq_f e, cond_false]
        have hne : cell ≠ c_tc (chg (6 * q + k)) := fun q => e q.symm
        rcases ih' with ⟨i1, i2, i3⟩ | ⟨i1, i2, i3⟩
        · refine Or.inl ⟨i1, ?_, ?_⟩
          · show upd T.1 (c_tc (chg (6 * q + k))) _ cell = _
            rw [pk_un hne]; exact i2
          · show vp_updL T.2.1 (c_tc (chg (6 * q + k))) _ cell = _
            rw [show vp_updL T.2.1 (c_tc (chg (6 * q + k))) (c_nn kd T (chg (6 * q + k))) cell = T.2.1 cell from if_neg hne]; exact i3
        · have hlt := c_lst_lt i1
          have hne2 : c_lst chg cell q k ≠ 6 * q + k := by omega
          refine Or.inr ⟨i1, ?_, ?_⟩
          · rw [pk_un hne, pk_un hne2]; exact i2
          · rw [show vp_updL T.2.1 (c_tc (chg (6 * q + k))) (c_nn kd T (chg (6 * q + k))) cell = T.2.1 cell from if_neg hne, show vp_updL T.2.2.2.2.2.2.1 (6 * q + k) (c_nn kd T (chg (6 * q + k))) (c_lst chg cell q k) = T.2.2.2.2.2.2.1 (c_lst chg cell q k) from if_neg hne2]; exact i3
    · rw [c_ply_bad h0] at hn; cases hn
/-! going up, going down -/
def c_up (e : Nat → Bool) : Nat → Nat → Int32 → Int32
  | 0, _, s => s
  | d + 1, n, s => c_up e d (n + 1) (cond (e (n + 1)) s (nI (n + 2)))
def c_dw (e : Nat → Bool) : Nat → Nat
  | 0 => 0
  | k + 1 => cond (e k) (c_dw e k) (k + 1)
theorem c_up_dw {e : Nat → Bool} : ∀ (d n : Nat), c_up e d n (nI (c_dw e (n + 1))) = nI (c_dw e (n + d + 1)) := by
  intro d
  induction d with
  | zero => intro n; rfl
  | succ d ih =>
    intro n
    show c_up e d (n + 1) (cond (e (n + 1)) (nI (c_dw e (n + 1))) (nI (n + 2))) = _
    have : cond (e (n + 1)) (nI (c_dw e (n + 1))) (nI (n + 2)) = nI (c_dw e (n + 1 + 1)) := by
      show _ = nI (cond (e (n + 1)) (c_dw e (n + 1)) (n + 1 + 1))
      cases e (n + 1) <;> rfl
    rw [this, ih (n + 1), show n + 1 + d + 1 = n + (d + 1) + 1 by omega]
section SINCE
variable {σ : pd_H} {S : cS}
/-- a cell with the first patches only is as now -/
def s_eq (S : cS) (cell k : Nat) : Bool := decide ((s_play S (s_or S)).2.1 cell = (s_play S ((s_or S).take k)).2.1 cell) && decide ((s_play S (s_or S)).2.2.1 cell = (s_play S ((s_or S).take k)).2.2.1 cell)
def s_since (S : cS) (cell : Nat) : Int32 := nI (c_dw (s_eq S cell) (s_or S).length)
theorem s_take_ok (hw : s_wf S) (k : Nat) : (s_play S ((s_or S).take k)).1 = none := by
  refine s_play_pre (m := (s_or S).drop k) ?_
  rw [List.take_append_drop]; exact hw.2.2.2.1
theorem s_eq_full {cell : Nat} : s_eq S cell (s_or S).length = true := by
  unfold s_eq
  rw [List.take_length, decide_eq_true rfl, decide_eq_true rfl]; rfl
theorem c_dw_full {cell : Nat} : c_dw (s_eq S cell) ((s_or S).length + 1) = c_dw (s_eq S cell) (s_or S).length := by
  show cond (s_eq S cell (s_or S).length) _ _ = _
  rw [s_eq_full]; rfl
theorem s_take_next (hw : s_wf S) {n p cell : Nat} (hc : cell < 72) (hp : (s_or S)[n]? = some p) :
    (c_lst (s_ch S) cell p (s_ln S p) = 150 ∧ (s_play S ((s_or S).take (n + 1))).2.1 cell = (s_play S ((s_or S).take n)).2.1 cell ∧ (s_play S ((s_or S).take (n + 1))).2.2.1 cell = (s_play S ((s_or S).take n)).2.2.1 cell) ∨ (c_lst (s_ch S) cell p (s_ln S p) ≠ 150 ∧ (s_play S ((s_or S).take (n + 1))).2.1 cell = (s_play S (s_or S)).2.2.2.2.2.2.1 (c_lst (s_ch S) cell p (s_ln S p)) ∧ (s_play S ((s_or S).take (n + 1))).2.2.1 cell = (s_play S (s_or S)).2.2.2.2.2.2.2.1 (c_lst (s_ch S) cell p (s_ln S p))) := by
  have hn : n < (s_or S).length := (List.getElem?_eq_some_iff.mp hp).1
  have hpo := List.mem_of_getElem? hp
  have p25 := s_or25 hw p hpo
  have hl6 := hw.2.1.2.1 p p25
  have eT : (s_or S).take (n + 1) = (s_or S).take n ++ [p] := by
    rw [List.take_succ, hp]; rfl
  have ok1 := s_take_ok hw (n + 1)
  have ok0 := s_take_ok hw n
  have hall := hw.2.2.2.1
  have eO : s_or S = (s_or S).take (n + 1) ++ (s_or S).drop (n + 1) := (List.take_append_drop _ _).symm
  -- the play of one more
  have e1 : s_play S ((s_or S).take (n + 1)) = c_ply (s_kd S) (s_sz S) (s_ch S) (c_blk p 0 (s_ln S p)) (s_play S ((s_or S).take n)).2 := by
    unfold s_play c_play at ok0 ⊢
    rw [eT, c_line_app]
    show c_ply _ _ _ (c_line (s_ln S) ((s_or S).take n) ++ (c_blk p 0 (s_ln S p) ++ [])) _ = _
    rw [List.append_nil, c_ply_app ok0]
  have hcl : ∀ a ∈ c_blk p 0 (s_ln S p), c_cld (s_ch S a) := fun a ha => s_cld hw a (c_blk_line hpo ha)
  have key := c_blk_cell (kd := s_kd S) (sz := s_sz S) (chg := s_ch S) (R := (s_play S ((s_or S).take n)).2) p25 hc hl6 hcl (by rw [← e1]; exact ok1)
  rw [← e1] at key
  rcases key with k | ⟨k1, k2, k3⟩
  · exact Or.inl k
  · refine Or.inr ⟨k1, ?_⟩
    have hlt := c_lst_lt k1
    -- the log is kept to the end
    have e2 : s_play S (s_or S) = c_ply (s_kd S) (s_sz S) (s_ch S) (c_line (s_ln S) ((s_or S).drop (n + 1))) (s_play S ((s_or S).take (n + 1))).2 := by
      conv => lhs; rw [eO]
      unfold s_play c_play at ok1 ⊢
      rw [c_line_app, c_ply_app ok1]
    have hge : 6 * p ≤ c_lst (s_ch S) cell p (s_ln S p) := by
      have : ∀ k, c_lst (s_ch S) cell p k ≠ 150 → 6 * p ≤ c_lst (s_ch S) cell p k := by
        intro k
        induction k with
        | zero => intro h; exact absurd rfl h
        | succ k ih =>
          intro h
          unfold c_lst at h ⊢
          cases hd : decide ((s_ch S (6 * p + k)).2.2.2.1 * 12 + (s_ch S (6 * p + k)).2.2.2.2.1 = nI cell) with
          | true => rw [cond_true]; omega
          | false => rw [hd, cond_false] at h; rw [cond_false]; exact ih h
      exact this _ k1
    have hni : c_lst (s_ch S) cell p (s_ln S p) ∉ c_line (s_ln S) ((s_or S).drop (n + 1)) := fun h => by
      obtain ⟨q, q1, j, q2, q3⟩ := c_line_mem h
      have q25 := s_or25 hw q (List.mem_of_mem_drop q1)
      have := hw.2.1.2.1 q q25
      have hqp : q = p := by omega
      subst hqp
      have hnd : (((s_or S).take (n + 1)) ++ (s_or S).drop (n + 1)).Nodup := eO ▸ hw.2.2.1.1.1
      exact (List.nodup_append.mp hnd).2.2 q (by rw [eT]; exact List.mem_append_right _ (List.mem_singleton.mpr rfl)) q q1 rfl
    obtain ⟨g1, g2⟩ := c_log_keep (kd := s_kd S) (sz := s_sz S) (chg := s_ch S) (R := (s_play S ((s_or S).take (n + 1))).2) hni
    rw [← e2] at g1 g2
    exact ⟨k2.trans g1.symm, k3.trans g2.symm⟩
theorem s_unc (hw : s_wf S) {cell : Nat} (hc : cell < 72) : ∀ (m : List Nat) (n : Nat) (s : Int32), n + m.length = (s_or S).length → (∀ t x, m[t]? = some x → (s_or S)[n + t]? = some x) → c_unc (s_ch S) (s_ln S) (s_play S (s_or S)).2 cell m n ((s_play S ((s_or S).take n)).2.1 cell) ((s_play S ((s_or S).take n)).2.2.1 cell) s = c_up (s_eq S cell) m.length n s := by
  intro m
  induction m with
  | nil => intro n s _ _; rfl
  | cons p m ih =>
    intro n s hn hm
    have hn : n + (m.length + 1) = (s_or S).length := hn
    have hp : (s_or S)[n]? = some p := by have := hm 0 p rfl; rwa [Nat.add_zero] at this
    have hmt : ∀ t x, m[t]? = some x → (s_or S)[n + 1 + t]? = some x := fun t x h => by
      rw [show n + 1 + t = n + (t + 1) by omega]; exact hm (t + 1) x h
    have ih' := ih (n + 1) (cond (s_eq S cell (n + 1)) s (nI (n + 2))) (by omega) hmt
    show cond (Nat.beq (c_lst (s_ch S) cell p (s_ln S p)) 150) _ _ = c_up (s_eq S cell) m.length (n + 1) (cond (s_eq S cell (n + 1)) s (nI (n + 2)))
    rw [← ih']
    rcases s_take_next hw hc hp with ⟨k1, k2, k3⟩ | ⟨k1, k2, k3⟩
    · rw [k1, Nat.beq_refl, cond_true]
      unfold s_eq
      rw [k2, k3]
    · rw [c_beq_f k1, cond_false]
      unfold s_eq
      rw [k2, k3]
end SINCE
