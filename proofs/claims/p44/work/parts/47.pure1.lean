/-! What the law holds, of desks alone: pruning, undoing to the end. -/
section PRUNE
variable {kd sz : Nat → Int32} {chg chg' : Nat → cC}
/-- the live changes alone leave the same values -/
theorem p_flt : ∀ {l : List Nat} {s s' : pS}, (p_ply kd sz (l.map (fun a => (chg a, nI (a / 6)))) s).1 = none → c_nag (c_need chg l) s.1 s'.1 s.2.1 s'.2.1 → (p_ply kd sz ((c_flt chg l).map (fun a => (chg a, nI (a / 6)))) s').1 = none ∧ ∀ x, (p_ply kd sz (l.map (fun a => (chg a, nI (a / 6)))) s).2.1 x = (p_ply kd sz ((c_flt chg l).map (fun a => (chg a, nI (a / 6)))) s').2.1 x ∧ (p_ply kd sz (l.map (fun a => (chg a, nI (a / 6)))) s).2.2.1 x = (p_ply kd sz ((c_flt chg l).map (fun a => (chg a, nI (a / 6)))) s').2.2.1 x := by
  intro l
  induction l with
  | nil =>
    intro s s' _ hA
    exact ⟨rfl, fun x => hA x (by show ¬ (1 : Int32) = 0; decide)⟩
  | cons a l ih =>
    intro s s' h hA
    have hA : ∀ x, c_nst (chg a) (c_need chg l) x ≠ 0 → s.1 x = s'.1 x ∧ s.2.1 x = s'.2.1 x := hA
    have h0 : c_fd kd sz (c_r0 s.1 s.2.1) (chg a) = 0 := by
      by_cases q : c_fd kd sz (c_r0 s.1 s.2.1) (chg a) = 0
      · exact q
      · rw [List.map_cons, p_bad (c := (chg a, nI (a / 6))) q] at h; cases h
    have e : p_ply kd sz ((a :: l).map (fun a => (chg a, nI (a / 6)))) s = p_ply kd sz (l.map (fun a => (chg a, nI (a / 6)))) (p_one kd (chg a, nI (a / 6)) s) := p_ok (c := (chg a, nI (a / 6))) h0
    rw [e] at h ⊢
    by_cases q : c_need chg l (c_tc (chg a)) = 0
    · have ef : c_flt chg (a :: l) = c_flt chg l := by
        show cond (decide (c_need chg l (c_tc (chg a)) = 0)) _ _ = _
        rw [decide_eq_true q, cond_true]
      rw [ef]
      refine ih h (fun x hx => ?_)
      have hne : x ≠ c_tc (chg a) := fun e => hx (by rw [e]; exact q)
      show upd s.1 (c_tc (chg a)) _ x = s'.1 x ∧ vp_updL s.2.1 (c_tc (chg a)) _ x = s'.2.1 x
      rw [pk_un hne, pk_uLn hne]
      exact hA x (c_nst_at hne hx)
    · have ef : c_flt chg (a :: l) = a :: c_flt chg l := by
        show cond (decide (c_need chg l (c_tc (chg a)) = 0)) _ _ = _
        rw [decide_eq_false q, cond_false]
      obtain ⟨w1, w2, w3⟩ := c_ww_nag (N := c_need chg l) (t := s.1) (u := s'.1) (n := s.2.1) (v := s'.2.1) (c := chg a) (fun h => hA _ (c_nst_src q h))
      have h1 : c_fd kd sz (c_r0 s'.1 s'.2.1) (chg a) = 0 := by
        unfold c_fd c_f2 at h0 ⊢
        rw [← w1]; exact h0
      have e2 : p_ply kd sz ((c_flt chg (a :: l)).map (fun a => (chg a, nI (a / 6)))) s' = p_ply kd sz ((c_flt chg l).map (fun a => (chg a, nI (a / 6)))) (p_one kd (chg a, nI (a / 6)) s') := by
        rw [ef]
        exact p_ok (c := (chg a, nI (a / 6))) h1
      rw [e2]
      refine ih h (fun x hx => ?_)
      have g1 : c_nt kd (c_r0 s.1 s.2.1) (chg a) = c_nt kd (c_r0 s'.1 s'.2.1) (chg a) := by unfold c_nt; rw [w2]
      have g2 : c_nn kd (c_r0 s.1 s.2.1) (chg a) = c_nn kd (c_r0 s'.1 s'.2.1) (chg a) := by unfold c_nn; rw [w2, w3]
      show upd s.1 (c_tc (chg a)) (c_nt kd (c_r0 s.1 s.2.1) (chg a)) x = upd s'.1 (c_tc (chg a)) (c_nt kd (c_r0 s'.1 s'.2.1) (chg a)) x ∧ vp_updL s.2.1 (c_tc (chg a)) (c_nn kd (c_r0 s.1 s.2.1) (chg a)) x = vp_updL s'.2.1 (c_tc (chg a)) (c_nn kd (c_r0 s'.1 s'.2.1) (chg a)) x
      rw [g1, g2]
      by_cases hne : x = c_tc (chg a)
      · rw [hne, pk_us, pk_us, pk_uLs, pk_uLs]; exact ⟨rfl, rfl⟩
      · rw [pk_un hne, pk_un hne, pk_uLn hne, pk_uLn hne]
        exact hA x (c_nst_at hne hx)
theorem c_need_map : ∀ {t t' : List Nat}, t.map chg = t'.map chg' → c_need chg t = c_need chg' t' ∧ c_dn chg t = c_dn chg' t' := by
  intro t
  induction t with
  | nil =>
    intro t' h
    cases t' with
    | nil => exact ⟨rfl, rfl⟩
    | cons b t' => cases h
  | cons a t ih =>
    intro t' h
    cases t' with
    | nil => cases h
    | cons b t' =>
      obtain ⟨e1, e2⟩ := List.cons.inj h
      obtain ⟨g1, g2⟩ := ih e2
      refine ⟨?_, ?_⟩
      · show c_nst (chg a) (c_need chg t) = c_nst (chg' b) (c_need chg' t')
        rw [e1, g1]
      · show c_dd chg a t + c_dn chg t = c_dd chg' b t' + c_dn chg' t'
        unfold c_dd
        rw [e1, g1, g2]
theorem c_flt_need : ∀ {t : List Nat}, c_need chg (c_flt chg t) = c_need chg t ∧ c_dn chg (c_flt chg t) = 0 := by
  intro t
  induction t with
  | nil => exact ⟨rfl, rfl⟩
  | cons a t ih =>
    by_cases q : c_need chg t (c_tc (chg a)) = 0
    · have ef : c_flt chg (a :: t) = c_flt chg t := by
        show cond (decide (c_need chg t (c_tc (chg a)) = 0)) _ _ = _
        rw [decide_eq_true q, cond_true]
      rw [ef]
      refine ⟨?_, ih.2⟩
      rw [ih.1]
      show c_need chg t = c_nst (chg a) (c_need chg t)
      unfold c_nst
      rw [decide_eq_true q, cond_true]
      funext x
      by_cases e : x = c_tc (chg a)
      · rw [e, pk_us, q]
      · rw [pk_un e]
    · have ef : c_flt chg (a :: t) = a :: c_flt chg t := by
        show cond (decide (c_need chg t (c_tc (chg a)) = 0)) _ _ = _
        rw [decide_eq_false q, cond_false]
      rw [ef]
      refine ⟨?_, ?_⟩
      · show c_nst (chg a) (c_need chg (c_flt chg t)) = c_nst (chg a) (c_need chg t)
        rw [ih.1]
      · show c_dd chg a (c_flt chg t) + c_dn chg (c_flt chg t) = 0
        unfold c_dd
        rw [ih.1, ih.2, decide_eq_false q]
        rfl
end PRUNE
section PURE1
variable {S T : cS} {L : Nat} {xs : Nat → Int32}
theorem s_pr_vals (hw : s_wf S) : (s_play (s_pr S) (s_or S)).2.1 = (s_play S (s_or S)).2.1 ∧ (s_play (s_pr S) (s_or S)).2.2.1 = (s_play S (s_or S)).2.2.1 := by
  have e1 := s_play_p (S := S) (l := s_or S)
  have e2 := s_play_p (S := s_pr S) (l := s_or S)
  have hn : (p_ply (s_kd S) (s_sz S) (s_pl S (s_or S)) (s_p0 S)).1 = none := by rw [e1, hw.2.2.2.1]; rfl
  have hf := p_flt (kd := s_kd S) (sz := s_sz S) (chg := s_ch S) (l := c_line (s_ln S) (s_or S)) (s := s_p0 S) (s' := s_p0 S) hn (fun x _ => ⟨rfl, rfl⟩)
  have hl := p_lab (kd := s_kd S) (sz := s_sz S) (t := s_pl (s_pr S) (s_or S)) (t' := (c_flt (s_ch S) (c_line (s_ln S) (s_or S))).map (fun a => (s_ch S a, nI (a / 6)))) (s := s_p0 S) (s' := s_p0 S) (by
    unfold s_pl
    rw [List.map_map, List.map_map]
    show (c_line (s_prl S) (s_or S)).map (s_prc S) = (c_flt (s_ch S) (c_line (s_ln S) (s_or S))).map (s_ch S)
    exact s_pr_flt hw) rfl rfl
  have e2 : p_ply (s_kd S) (s_sz S) (s_pl (s_pr S) (s_or S)) (s_p0 S) = _ := e2
  rw [e2] at hl
  have e1 : p_ply (s_kd S) (s_sz S) ((c_line (s_ln S) (s_or S)).map (fun a => (s_ch S a, nI (a / 6)))) (s_p0 S) = _ := e1
  rw [e1] at hf
  exact ⟨hl.2.1.trans (funext fun x => (hf.2 x).1.symm), hl.2.2.trans (funext fun x => (hf.2 x).2.symm)⟩
theorem s_pr_dead (hw : s_wf S) : c_dn (s_ch (s_pr S)) (c_line (s_ln (s_pr S)) (s_or (s_pr S))) = 0 := by
  have h := c_need_map (chg := s_prc S) (chg' := s_ch S) (s_pr_flt hw)
  exact h.2.trans c_flt_need.2
/-- desks of the same rows and values answer alike -/
theorem l_ag_of (h1 : s_kd S = s_kd T) (h2 : s_sz S = s_sz T) (h3 : (s_play S (s_or S)).2.1 = (s_play T (s_or T)).2.1) (h4 : (s_play S (s_or S)).2.2.1 = (s_play T (s_or T)).2.2.1) : l_ag L xs S T := by
  intro k _ i _
  unfold c_what s_rd s_rdF
  rw [h1, h2, h3, h4]
  exact ⟨rfl, rfl⟩
theorem c_mvb_same {t : Nat → Int32} {n : Nat → Int64} : ∀ {l : List Nat} {s : Int32}, c_mvb t t n n l s = s := by
  intro l
  induction l with
  | nil => intro s; rfl
  | cons a l ih =>
    intro s
    show c_mvb t t n n l (cond (decide (t a = t a) && decide (n a = n a)) s (s + 1)) = s
    rw [decide_eq_true rfl, decide_eq_true rfl]
    exact ih
theorem s_all_0 (h : s_or S = []) : ∀ (d j : Nat) (s : Int32), s_all S d j s = s
  | 0, _, _ => rfl
  | d + 1, j, s => by
    show s_all S d (j + 1) (cond (decide (c_arrF (s_kd S) (nI j) = 0)) (s + s_df S j (s_n S j)) s) = s
    have e : s_df S j (s_n S j) = 0 := by
      unfold s_df
      rw [h]
      exact c_mvb_same
    rw [s_all_0 h d (j + 1), e, Int32.add_zero]
    cases decide (c_arrF (s_kd S) (nI j) = 0) <;> rfl
end PURE1
theorem c_snoc {l : List Nat} {k : Nat} (h : l.length = k + 1) : ∃ m p, l = m ++ [p] ∧ m.length = k ∧ l[k]? = some p ∧ l.take k = m := by
  have hk : k < l.length := by omega
  have e : l.take k ++ [l[k]] = l := by
    have := List.take_append_getElem hk
    rw [show k + 1 = l.length by omega, List.take_length] at this
    exact this
  exact ⟨l.take k, l[k], e.symm, by rw [List.length_take]; omega, List.getElem?_eq_getElem hk, rfl⟩
/-! The law's end: whatever came before, T and U. -/
def gF (r : Option pd_R) : Prop := ∃ τ, r = some (τ, some (pd_i 1))
section TAIL
variable {s : Nat → pd_H} {Q : Nat → cS} {L : Nat} {xs : Nat → Int32}
theorem t_1024 (h : l_W s Q) (h1 : s_or (Q 2) = []) {n : Nat} (h2 : (s_un (Q 2)).length = n) (d0 d2 d3 d5 d6 d7 d8 d9 d10 d11 d12 d13 d14 d15 d16 d17 d18 d19 d20 d21 d22 d23 : Option pd_V) : gF (L_law_L1024 d0 d2 d3 d5 d6 d7 d8 d9 1 d10 d11 d12 d13 d14 d15 d16 d17 d18 d19 d20 d21 (nI n) d23 (p4_jn s)) := by
  have d4 : (2 : Nat) < 4 := by decide
  obtain ⟨s1, a1, a2, a3⟩ := y_undo d4 h (Z_undo0 (h 2 d4).2.1 h1) (h 2 d4).1
  rw [qs_self] at a2
  obtain ⟨s2, b1, b2, b3⟩ := y_count d4 a2 5 (Z_count5 (a2 2 d4).1 (a2 2 d4).2.1) (a2 2 d4).1
  rw [qs_self] at b2
  obtain ⟨s3, c1, c2, c3⟩ := y_count d4 b2 3 (Z_count3 (b2 2 d4).2.1) (b2 2 d4).1
  rw [qs_self] at c2
  obtain ⟨s4, e1, e2, e3⟩ := y_settle d4 c2 (Z_settle (c2 2 d4).1 (c2 2 d4).2.1) (s_set_wf (c2 2 d4).1)
  obtain ⟨s5, f1, f2, f3⟩ := y_count d4 e2 0 (Z_count0 (e2 2 d4).2.1) (e2 2 d4).1
  rw [qs_s] at f1
  refine ⟨p4_jn s5, ?_⟩
  rw [L_law_L1024_eq, decide_eq_false (by decide : ¬ (1 : Int32) = 0), cond_false]
  refine (congrArg (fun z => pd_bI z _) a1).trans ?_
  rw [pd_bI_of, decide_eq_true (rfl : (-3 : Int32) = -3), cond_true]
  refine (congrArg (fun z => pd_bI z _) b1).trans ?_
  rw [pd_bI_of, s_all_0 h1, decide_eq_true (rfl : (0 : Int32) = 0), cond_true]
  refine (congrArg (fun z => pd_bI z _) c1).trans ?_
  rw [pd_bI_of, h2, decide_eq_true rfl, cond_true]
  refine (congrArg (fun z => pd_bI z _) e1).trans ?_
  rw [pd_bI_of, h1, decide_eq_true (show nI ([] : List Nat).length = 0 from rfl), cond_true]
  refine (congrArg (fun z => pd_bI z _) f1).trans ?_
  rw [pd_bI_of, decide_eq_true (show nI (s_pc (s_set (Q 2))) = 0 from rfl), cond_true]
theorem t_992 : ∀ (r : Nat) (s : Nat → pd_H) (Q : Nat → cS) (x n : Nat) (d0 d2 d3 d5 d6 d7 d8 d9 d10 d11 d12 d13 d14 d15 d16 d17 d18 d19 d20 d21 : Option pd_V), l_W s Q → (s_or (Q 2)).length = r → (s_un (Q 2)).length = x → x + r = n → n < 2 ^ 31 → gF (L_law_L992 d0 d2 d3 d5 d6 d7 d8 d9 1 d10 d11 d12 d13 d14 d15 d16 d17 d18 d19 d20 d21 (nI n) (nI x) (p4_jn s)) := by
  intro r
  induction r with
  | zero =>
    intro s Q x n d0 d2 d3 d5 d6 d7 d8 d9 d10 d11 d12 d13 d14 d15 d16 d17 d18 d19 d20 d21 h h1 h2 h3 hn
    have h3 : x = n := by omega
    subst h3
    rw [L_law_L992_eq, decide_eq_true (nI_le (Nat.le_refl _) hn), cond_true]
    exact t_1024 h (List.length_eq_zero_iff.mp h1) h2 _ _ _ _ _ _ _ _ _ _ _ _ _ _ _ _ _ _ _ _ d0 _
  | succ r ih =>
    intro s Q x n d0 d2 d3 d5 d6 d7 d8 d9 d10 d11 d12 d13 d14 d15 d16 d17 d18 d19 d20 d21 h h1 h2 h3 hn
    have d4 : (2 : Nat) < 4 := by decide
    obtain ⟨m, p, e1, e2, e3, e4⟩ := c_snoc h1
    obtain ⟨z1, z2⟩ := Z_undo1 (h 2 d4).1 (h 2 d4).2.1 e1
    obtain ⟨s1, a1, a2, a3⟩ := y_undo d4 h z1 z2
    have hp : p < s_pc (Q 2) := (h 2 d4).1.2.2.1.1.2 p (by rw [e1]; exact List.mem_append_right _ List.mem_cons_self)
    have hpc := (h 2 d4).1.2.1.1
    rw [L_law_L992_eq, decide_eq_false (nI_ge (show x < n by omega) hn), cond_false, decide_eq_false (by decide : ¬ (1 : Int32) = 0), cond_false]
    have e : ∀ K : pd_H → Int32 → Option pd_R, pd_bI (Y_undo 460 (p4_jn s)) K = K (p4_jn s1) (nI p) := fun K => (congrArg (fun z => pd_bI z K) a1).trans pd_bI_of
    rw [e, decide_eq_false (nI_pos (by omega)), cond_false, nI_1]
    refine ih s1 _ (x + 1) n _ _ _ _ _ _ _ _ _ _ _ _ _ _ _ _ _ _ _ _ a2 ?_ ?_ (by omega) hn
    · rw [qs_s]; exact e2
    · rw [qs_s]
      show (s_un (Q 2) ++ [p]).length = x + 1
      rw [List.length_append, List.length_singleton, h2]
end TAIL
