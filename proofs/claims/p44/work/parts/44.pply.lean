/-! Changes one after the other: values, and whose they are; without the changes' numbers. -/
abbrev pS : Type := (Nat → Int32) × (Nat → Int64) × (Nat → Int32)
abbrev pC : Type := cC × Int32
def p_one (kd : Nat → Int32) (c : pC) (s : pS) : pS := (upd s.1 (c_tc c.1) (c_nt kd (c_r0 s.1 s.2.1) c.1), vp_updL s.2.1 (c_tc c.1) (c_nn kd (c_r0 s.1 s.2.1) c.1), upd s.2.2 (c_tc c.1) c.2)
def p_ply (kd sz : Nat → Int32) : List pC → pS → Option Int32 × pS
  | [], s => (none, s)
  | c :: t, s => cond (decide (c_fd kd sz (c_r0 s.1 s.2.1) c.1 = 0)) (p_ply kd sz t (p_one kd c s)) (some (c_fd kd sz (c_r0 s.1 s.2.1) c.1), s)
section PP
variable {kd sz : Nat → Int32} {chg : Nat → cC}
theorem p_ok {c : pC} {t : List pC} {s : pS} (h : c_fd kd sz (c_r0 s.1 s.2.1) c.1 = 0) : p_ply kd sz (c :: t) s = p_ply kd sz t (p_one kd c s) := by
  show cond (decide (c_fd kd sz (c_r0 s.1 s.2.1) c.1 = 0)) _ _ = _
  rw [decide_eq_true h]; rfl
theorem p_bad {c : pC} {t : List pC} {s : pS} (h : c_fd kd sz (c_r0 s.1 s.2.1) c.1 ≠ 0) : p_ply kd sz (c :: t) s = (some (c_fd kd sz (c_r0 s.1 s.2.1) c.1), s) := by
  show cond (decide (c_fd kd sz (c_r0 s.1 s.2.1) c.1 = 0)) _ _ = _
  rw [decide_eq_false h]; rfl
theorem p_of_ply : ∀ {t : List Nat} {R : cR}, p_ply kd sz (t.map (fun a => (chg a, nI (a / 6)))) (R.1, R.2.1, R.2.2.1) = ((c_ply kd sz chg t R).1.map Prod.snd, (c_ply kd sz chg t R).2.1, (c_ply kd sz chg t R).2.2.1, (c_ply kd sz chg t R).2.2.2.1) := by
  intro t
  induction t with
  | nil => intro R; rfl
  | cons a t ih =>
    intro R
    by_cases h0 : c_fd kd sz R (chg a) = 0
    · rw [c_ply_ok h0, ← ih]
      exact p_ok (c := (chg a, nI (a / 6))) (s := (R.1, R.2.1, R.2.2.1)) h0
    · rw [c_ply_bad h0]
      exact p_bad (c := (chg a, nI (a / 6))) (s := (R.1, R.2.1, R.2.2.1)) h0
theorem p_app_ok : ∀ {u v : List pC} {s : pS}, (p_ply kd sz u s).1 = none → p_ply kd sz (u ++ v) s = p_ply kd sz v (p_ply kd sz u s).2 := by
  intro u
  induction u with
  | nil => intro v s _; rfl
  | cons c u ih =>
    intro v s h
    by_cases h0 : c_fd kd sz (c_r0 s.1 s.2.1) c.1 = 0
    · rw [p_ok h0] at h ⊢
      exact (p_ok (t := u ++ v) h0).trans (ih h)
    · rw [p_bad h0] at h; cases h
theorem p_app_bad : ∀ {u v : List pC} {s : pS} {f : Int32}, (p_ply kd sz u s).1 = some f → p_ply kd sz (u ++ v) s = p_ply kd sz u s := by
  intro u
  induction u with
  | nil => intro v s f h; cases h
  | cons c u ih =>
    intro v s f h
    by_cases h0 : c_fd kd sz (c_r0 s.1 s.2.1) c.1 = 0
    · rw [p_ok h0] at h ⊢
      exact (p_ok (t := u ++ v) h0).trans (ih h)
    · rw [p_bad h0]
      exact p_bad (t := u ++ v) h0
theorem p_app_1 {u v : List pC} {s : pS} (h : (p_ply kd sz (u ++ v) s).1 = none) : (p_ply kd sz u s).1 = none := by
  cases hu : (p_ply kd sz u s).1 with
  | none => rfl
  | some f => rw [p_app_bad hu, hu] at h; cases h
theorem p_upd {g : Int32 → Int32} {w : Nat → Int32} {k : Nat} {x : Int32} : upd (fun i => g (w i)) k (g x) = fun i => g (upd w k x i) := by
  funext i
  by_cases h : i = k
  · subst h; rw [pk_us, pk_us]
  · rw [pk_un h, pk_un h]
theorem p_ren (g : Int32 → Int32) : ∀ {t : List pC} {s : pS}, p_ply kd sz (t.map (fun c => (c.1, g c.2))) (s.1, s.2.1, fun x => g (s.2.2 x)) = ((p_ply kd sz t s).1, (p_ply kd sz t s).2.1, (p_ply kd sz t s).2.2.1, fun x => g ((p_ply kd sz t s).2.2.2 x)) := by
  intro t
  induction t with
  | nil => intro s; rfl
  | cons c t ih =>
    intro s
    by_cases h0 : c_fd kd sz (c_r0 s.1 s.2.1) c.1 = 0
    · rw [p_ok h0, ← ih]
      refine (p_ok (c := (c.1, g c.2)) (s := (s.1, s.2.1, fun x => g (s.2.2 x))) h0).trans ?_
      congr 1
      show (_, _, upd (fun x => g (s.2.2 x)) (c_tc c.1) (g c.2)) = _
      rw [p_upd]
      rfl
    · rw [p_bad h0]
      exact p_bad (c := (c.1, g c.2)) (s := (s.1, s.2.1, fun x => g (s.2.2 x))) h0
/-- findings and values don't look at whose the changes are -/
theorem p_lab : ∀ {t t' : List pC} {s s' : pS}, t.map Prod.fst = t'.map Prod.fst → s.1 = s'.1 → s.2.1 = s'.2.1 → (p_ply kd sz t s).1 = (p_ply kd sz t' s').1 ∧ (p_ply kd sz t s).2.1 = (p_ply kd sz t' s').2.1 ∧ (p_ply kd sz t s).2.2.1 = (p_ply kd sz t' s').2.2.1 := by
  intro t
  induction t with
  | nil =>
    intro t' s s' h h1 h2
    cases t' with
    | nil => exact ⟨rfl, h1, h2⟩
    | cons c t' => cases h
  | cons c t ih =>
    intro t' s s' h h1 h2
    cases t' with
    | nil => cases h
    | cons c' t' =>
      obtain ⟨e1, e2⟩ := List.cons.inj h
      have e0 : c_fd kd sz (c_r0 s.1 s.2.1) c.1 = c_fd kd sz (c_r0 s'.1 s'.2.1) c'.1 := by rw [h1, h2, e1]
      by_cases h0 : c_fd kd sz (c_r0 s.1 s.2.1) c.1 = 0
      · rw [p_ok h0, p_ok (c := c') (s := s') (e0 ▸ h0)]
        refine ih e2 ?_ ?_
        · show upd s.1 (c_tc c.1) _ = upd s'.1 (c_tc c'.1) _
          rw [h1, h2, e1]
        · show vp_updL s.2.1 (c_tc c.1) _ = vp_updL s'.2.1 (c_tc c'.1) _
          rw [h1, h2, e1]
      · rw [p_bad h0, p_bad (c := c') (s := s') (e0 ▸ h0)]
        exact ⟨congrArg some e0, h1, h2⟩
theorem p_rng : ∀ {t : List pC} {s : pS} {f : Int32}, (p_ply kd sz t s).1 = some f → f ≠ 0 ∧ c_rng f := by
  intro t
  induction t with
  | nil => intro s f h; cases h
  | cons c t ih =>
    intro s f h
    by_cases h0 : c_fd kd sz (c_r0 s.1 s.2.1) c.1 = 0
    · rw [p_ok h0] at h; exact ih h
    · rw [p_bad h0] at h
      cases h
      exact ⟨h0, c_fd_rng _ _ _ _⟩
end PP
/-! The desk's play so. -/
def s_pl (S : cS) (l : List Nat) : List pC := (c_line (s_ln S) l).map (fun a => (s_ch S a, nI (a / 6)))
def s_p0 (S : cS) : pS := (s_bt S, s_bn S, fun _ => -1)
theorem s_play_p {S : cS} {l : List Nat} : p_ply (s_kd S) (s_sz S) (s_pl S l) (s_p0 S) = ((s_play S l).1.map Prod.snd, (s_play S l).2.1, (s_play S l).2.2.1, (s_play S l).2.2.2.1) := p_of_ply (R := c_r0 (s_bt S) (s_bn S))
theorem s_pl_app {S : cS} {l m : List Nat} : s_pl S (l ++ m) = s_pl S l ++ s_pl S m := by
  unfold s_pl
  rw [c_line_app, List.map_append]
/-- the changes of drafts, and whose they are -/
def p_dr (D : Nat → Nat → cC) (j q : Nat) : List pC := [(D q 0, nI j), (D q 1, nI j), (D q 2, nI j)]
def p_ls (D : Nat → Nat → cC) : List (Nat × Nat) → List pC
  | [] => []
  | x :: r => p_dr D x.1 x.2 ++ p_ls D r
theorem p_ls_app {D : Nat → Nat → cC} : ∀ {u v : List (Nat × Nat)}, p_ls D (u ++ v) = p_ls D u ++ p_ls D v := by
  intro u
  induction u with
  | nil => intro v; rfl
  | cons x u ih => intro v; show p_dr D x.1 x.2 ++ p_ls D (u ++ v) = p_dr D x.1 x.2 ++ p_ls D u ++ p_ls D v; rw [ih, List.append_assoc]
theorem p_ls_fst {D : Nat → Nat → cC} : ∀ {u v : List (Nat × Nat)}, u.map Prod.snd = v.map Prod.snd → (p_ls D u).map Prod.fst = (p_ls D v).map Prod.fst := by
  intro u
  induction u with
  | nil =>
    intro v h
    cases v with
    | nil => rfl
    | cons y v => cases h
  | cons x u ih =>
    intro v h
    cases v with
    | nil => cases h
    | cons y v =>
      obtain ⟨e1, e2⟩ := List.cons.inj h
      show (p_dr D x.1 x.2 ++ p_ls D u).map Prod.fst = (p_dr D y.1 y.2 ++ p_ls D v).map Prod.fst
      rw [List.map_append, List.map_append, ih e2]
      show [D x.2 0, D x.2 1, D x.2 2] ++ _ = [D y.2 0, D y.2 1, D y.2 2] ++ _
      rw [show x.2 = y.2 from e1]
theorem p_ls_ren {D : Nat → Nat → cC} {g : Int32 → Int32} {r : Nat → Nat} : ∀ {u : List (Nat × Nat)}, (∀ x ∈ u, g (nI x.1) = nI (r x.1)) → p_ls D (u.map (fun x => (r x.1, x.2))) = (p_ls D u).map (fun c => (c.1, g c.2)) := by
  intro u
  induction u with
  | nil => intro _; rfl
  | cons x u ih =>
    intro h
    show p_dr D (r x.1) x.2 ++ p_ls D (u.map _) = (p_dr D x.1 x.2 ++ p_ls D u).map _
    rw [ih (fun y hy => h y (List.mem_cons_of_mem _ hy)), List.map_append]
    show [(D x.2 0, nI (r x.1)), (D x.2 1, nI (r x.1)), (D x.2 2, nI (r x.1))] ++ _ = [(D x.2 0, g (nI x.1)), (D x.2 1, g (nI x.1)), (D x.2 2, g (nI x.1))] ++ _
    rw [h x List.mem_cons_self]
/-- drafts laid one after the other on a desk of some rows -/
def s_bs (B S : cS) : Prop := s_kd S = s_kd B ∧ s_sz S = s_sz B ∧ s_bt S = s_bt B ∧ s_bn S = s_bn B
def s_of (B : cS) (D : Nat → Nat → cC) (A : List Nat) (S : cS) : Prop := s_bs B S ∧ (s_or S = List.range A.length ∧ s_pc S = A.length ∧ s_un S = []) ∧ s_ln S 24 = 0 ∧ ∀ j q, A[j]? = some q → s_ln S j = 3 ∧ ∀ k, k < 3 → s_ch S (6 * j + k) = D q k
/-- .. and a draft waits -/
def s_o3 (B : cS) (D : Nat → Nat → cC) (A : List Nat) (q0 : Nat) (S : cS) : Prop := s_bs B S ∧ (s_or S = List.range A.length ∧ s_pc S = A.length ∧ s_un S = []) ∧ (s_ln S 24 = 3 ∧ ∀ k, k < 3 → s_ch S (144 + k) = D q0 k) ∧ ∀ j q, A[j]? = some q → s_ln S j = 3 ∧ ∀ k, k < 3 → s_ch S (6 * j + k) = D q k
def p_at (A : List Nat) (l : List Nat) : List (Nat × Nat) := l.map (fun j => (j, A.getD j 0))
theorem p_blk3 {S : cS} {D : Nat → Nat → cC} {j q : Nat} (h1 : s_ln S j = 3) (h2 : ∀ k, k < 3 → s_ch S (6 * j + k) = D q k) : s_pl S [j] = p_dr D j q := by
  unfold s_pl
  show (c_blk j 0 (s_ln S j) ++ []).map _ = _
  rw [h1, List.append_nil]
  show [(s_ch S (6 * j + 0), nI ((6 * j + 0) / 6)), (s_ch S (6 * j + 1), nI ((6 * j + 1) / 6)), (s_ch S (6 * j + 2), nI ((6 * j + 2) / 6))] = _
  rw [h2 0 (by decide), h2 1 (by decide), h2 2 (by decide), show (6 * j + 0) / 6 = j by omega, show (6 * j + 1) / 6 = j by omega, show (6 * j + 2) / 6 = j by omega]
  rfl
theorem p_pl_of {S : cS} {D : Nat → Nat → cC} {A : List Nat} (h : ∀ j q, A[j]? = some q → s_ln S j = 3 ∧ ∀ k, k < 3 → s_ch S (6 * j + k) = D q k) : ∀ {l : List Nat}, (∀ j ∈ l, j < A.length) → s_pl S l = p_ls D (p_at A l) := by
  intro l
  induction l with
  | nil => intro _; rfl
  | cons j l ih =>
    intro hl
    have hj := hl j List.mem_cons_self
    have e : A[j]? = some (A.getD j 0) := by
      rw [List.getD_eq_getElem?_getD, List.getElem?_eq_getElem hj]; rfl
    obtain ⟨h1, h2⟩ := h j _ e
    show s_pl S ([j] ++ l) = p_dr D j (A.getD j 0) ++ p_ls D (p_at A l)
    rw [s_pl_app, p_blk3 h1 h2, ih (fun x hx => hl x (List.mem_cons_of_mem _ hx))]
/-- all of them, in their order -/
def p_all (D : Nat → Nat → cC) (A : List Nat) : List pC := p_ls D (p_at A (List.range A.length))
theorem p_all_add {D : Nat → Nat → cC} {A : List Nat} {q : Nat} : p_all D (A ++ [q]) = p_all D A ++ p_dr D A.length q := by
  unfold p_all
  have e1 : p_at (A ++ [q]) (List.range (A ++ [q]).length) = p_at A (List.range A.length) ++ [(A.length, q)] := by
    rw [List.length_append, List.length_singleton, List.range_succ]
    unfold p_at
    rw [List.map_append]
    congr 1
    · refine List.map_congr_left (fun j hj => ?_)
      have hj := List.mem_range.mp hj
      rw [List.getD_eq_getElem?_getD, List.getD_eq_getElem?_getD, List.getElem?_append_left hj]
    · show [(A.length, (A ++ [q]).getD A.length 0)] = _
      rw [List.getD_eq_getElem?_getD, List.getElem?_append_right (Nat.le_refl _), Nat.sub_self]
      rfl
  rw [e1, p_ls_app]
  show _ ++ (p_dr D A.length q ++ []) = _
  rw [List.append_nil]
section OFS
variable {B S : cS} {D : Nat → Nat → cC} {A : List Nat} {q : Nat}
theorem s_of.pl (h : s_of B D A S) : s_pl S (s_or S) = p_all D A := by
  rw [h.2.1.1]
  exact p_pl_of h.2.2.2 (fun j hj => List.mem_range.mp hj)
theorem s_bs.p0 (h : s_bs B S) : s_p0 S = s_p0 B := by
  unfold s_p0
  rw [h.2.2.1, h.2.2.2]
/-- the desk's values are those of the drafts -/
theorem s_bs.play (h : s_bs B S) {l : List Nat} {t : List pC} (ht : s_pl S l = t) : p_ply (s_kd B) (s_sz B) t (s_p0 B) = ((s_play S l).1.map Prod.snd, (s_play S l).2.1, (s_play S l).2.2.1, (s_play S l).2.2.2.1) := by
  rw [← ht, ← h.p0, ← h.1, ← h.2.1]
  exact s_play_p
theorem s_o3.pl (h : s_o3 B D A q S) : s_pl S (s_or S) = p_all D A := by
  rw [h.2.1.1]
  exact p_pl_of h.2.2.2 (fun j hj => List.mem_range.mp hj)
theorem c_ly_p {kd sz : Nat → Int32} {chg : Nat → cC} {x : Int32} : ∀ (d k : Nat) (t : Nat → Int32) (n : Nat → Int64) (mt w : Nat → Int32), (p_ply kd sz ((List.range' k d).map (fun i => (chg (144 + i), x))) (t, n, w)).1 = (c_ly kd sz chg d k t n mt).1.map Prod.snd := by
  intro d
  induction d with
  | zero => intro k t n mt w; rfl
  | succ d ih =>
    intro k t n mt w
    rw [List.range'_succ, List.map_cons]
    by_cases h0 : c_fd kd sz (c_r0 t n) (chg (144 + k)) = 0
    · rw [p_ok (c := (chg (144 + k), x)) (s := (t, n, w)) h0]
      show _ = (cond (decide (c_fd kd sz (c_r0 t n) (chg (144 + k)) = 0)) _ _ : Option (Nat × Int32) × (Nat → Int32)).1.map Prod.snd
      rw [decide_eq_true h0, cond_true]
      exact ih (k + 1) _ _ _ _
    · rw [p_bad (c := (chg (144 + k), x)) (s := (t, n, w)) h0]
      show _ = (cond (decide (c_fd kd sz (c_r0 t n) (chg (144 + k)) = 0)) _ _ : Option (Nat × Int32) × (Nat → Int32)).1.map Prod.snd
      rw [decide_eq_false h0, cond_false]
      rfl
/-- a draft on top: its finding -/
theorem s_o3.ly (hw : s_wf S) (h : s_o3 B D A q S) : (p_ply (s_kd B) (s_sz B) (p_all D (A ++ [q])) (s_p0 B)).1 = (s_ly S).1.map Prod.snd := by
  have e := h.1.play h.pl
  have e1 : (p_ply (s_kd B) (s_sz B) (p_all D A) (s_p0 B)).1 = none := by
    rw [e, hw.2.2.2.1]; rfl
  rw [p_all_add, p_app_ok e1, e]
  unfold s_ly
  rw [h.2.2.1.1, h.1.1, h.1.2.1, ← c_ly_p 3 0 (s_play S (s_or S)).2.1 (s_play S (s_or S)).2.2.1 (s_mt S) (s_play S (s_or S)).2.2.2.1 (x := nI A.length)]
  show _ = (p_ply (s_kd B) (s_sz B) [(s_ch S (144 + 0), nI A.length), (s_ch S (144 + 1), nI A.length), (s_ch S (144 + 2), nI A.length)] _).1
  rw [h.2.2.1.2 0 (by decide), h.2.2.1.2 1 (by decide), h.2.2.1.2 2 (by decide)]
  rfl
theorem s_o3.lay (h : s_o3 B D A q S) (hA : A.length < 24) (mt : Nat → Int32) : s_of B D (A ++ [q]) (s_lay S mt) := by
  obtain ⟨h1, ⟨h2, h3, h4⟩, ⟨h5, h6⟩, h7⟩ := h
  have hpc : s_pc S = A.length := h3
  refine ⟨h1, ⟨?_, ?_, rfl⟩, s_npl_24 (S := s_md S mt), fun j x hx => ?_⟩
  · show s_or S ++ [s_pc S] = _
    rw [h2, h3, List.length_append, List.length_singleton, List.range_succ]
  · show s_pc S + 1 = _
    rw [h3, List.length_append, List.length_singleton]
  · show s_npl (s_md S mt) j = 3 ∧ ∀ k, k < 3 → s_npc (s_md S mt) (6 * j + k) = D x k
    by_cases e : j < A.length
    · rw [List.getElem?_append_left e] at hx
      obtain ⟨g1, g2⟩ := h7 j x hx
      refine ⟨(s_npl_n (S := s_md S mt) (by show j ≠ s_pc S; omega) (by omega)).trans g1, fun k hk => (s_npc_lo (S := s_md S mt) (by show 6 * j + k < 6 * s_pc S; omega)).trans (g2 k hk)⟩
    · have hj : j < (A ++ [q]).length := (List.getElem?_eq_some_iff.mp hx).1
      rw [List.length_append, List.length_singleton] at hj
      have hj : j = A.length := by omega
      subst hj
      rw [List.getElem?_append_right (Nat.le_refl _), Nat.sub_self] at hx
      cases hx
      refine ⟨?_, fun k hk => ?_⟩
      · have := s_npl_pc (S := s_md S mt) (by show s_pc S < 24; omega)
        rw [show s_pc (s_md S mt) = A.length from h3] at this
        exact this.trans h5
      · have := s_npc_in (S := s_md S mt) (k := k) (by show k < s_ln S 24; omega)
        rw [show s_pc (s_md S mt) = A.length from h3] at this
        exact this.trans (h6 k hk)
/-- the draft as it is made, and dropped again -/
theorem s_of.add3 (h : s_of B D A S) (hA : A.length ≤ 24) : s_o3 B D A q (s_add (s_add (s_add S (D q 0)) (D q 1)) (D q 2)) := by
  obtain ⟨h1, h2, h3, h4⟩ := h
  have e1 : s_ln (s_add S (D q 0)) 24 = 1 := by
    show c_updN (s_ln S) 24 (s_ln S 24 + 1) 24 = 1
    rw [c_updN_s, h3]
  have e2 : s_ln (s_add (s_add S (D q 0)) (D q 1)) 24 = 2 := by
    show c_updN (s_ln (s_add S (D q 0))) 24 (s_ln (s_add S (D q 0)) 24 + 1) 24 = 2
    rw [c_updN_s, e1]
  have e3 : s_ln (s_add (s_add (s_add S (D q 0)) (D q 1)) (D q 2)) 24 = 3 := by
    show c_updN (s_ln (s_add (s_add S (D q 0)) (D q 1))) 24 (s_ln (s_add (s_add S (D q 0)) (D q 1)) 24 + 1) 24 = 3
    rw [c_updN_s, e2]
  have c1 : ∀ a, s_ch (s_add S (D q 0)) a = if a = 144 then D q 0 else s_ch S a := fun a => by
    show c_updC (s_ch S) (144 + s_ln S 24) (D q 0) a = _
    rw [h3]; rfl
  have c2 : ∀ a, s_ch (s_add (s_add S (D q 0)) (D q 1)) a = if a = 145 then D q 1 else s_ch (s_add S (D q 0)) a := fun a => by
    show c_updC (s_ch (s_add S (D q 0))) (144 + s_ln (s_add S (D q 0)) 24) (D q 1) a = _
    rw [e1]; rfl
  have c3 : ∀ a, s_ch (s_add (s_add (s_add S (D q 0)) (D q 1)) (D q 2)) a = if a = 146 then D q 2 else s_ch (s_add (s_add S (D q 0)) (D q 1)) a := fun a => by
    show c_updC (s_ch (s_add (s_add S (D q 0)) (D q 1))) (144 + s_ln (s_add (s_add S (D q 0)) (D q 1)) 24) (D q 2) a = _
    rw [e2]; rfl
  have lo : ∀ j, j ≠ 24 → s_ln (s_add (s_add (s_add S (D q 0)) (D q 1)) (D q 2)) j = s_ln S j := fun j hj => by
    show c_updN (c_updN (c_updN (s_ln S) 24 _) 24 _) 24 _ j = _
    rw [c_updN_n hj, c_updN_n hj, c_updN_n hj]
  refine ⟨h1, h2, ⟨e3, fun k hk => ?_⟩, fun j x hx => ?_⟩
  · rcases (show k = 0 ∨ k = 1 ∨ k = 2 by omega) with e | e | e <;> subst e
    · rw [c3, if_neg (by decide), c2, if_neg (by decide), c1, if_pos rfl]
    · rw [c3, if_neg (by decide), c2, if_pos rfl]
    · rw [c3, if_pos rfl]
  · have hj := (List.getElem?_eq_some_iff.mp hx).1
    obtain ⟨g1, g2⟩ := h4 j x hx
    refine ⟨(lo j (by omega)).trans g1, fun k hk => ?_⟩
    rw [c3, if_neg (by omega), c2, if_neg (by omega), c1, if_neg (by omega)]
    exact g2 k hk
theorem s_o3.drop3 (h : s_o3 B D A q S) (hA : A.length ≤ 24) : s_of B D A (s_drop (s_drop (s_drop S 2) 1) 0) := by
  obtain ⟨h1, h2, h3, h4⟩ := h
  have lo : ∀ j, j ≠ 24 → s_ln (s_drop (s_drop (s_drop S 2) 1) 0) j = s_ln S j := fun j hj => by
    show c_updN (c_updN (c_updN (s_ln S) 24 _) 24 _) 24 _ j = _
    rw [c_updN_n hj, c_updN_n hj, c_updN_n hj]
  refine ⟨h1, h2, (by show c_updN (s_ln (s_drop (s_drop S 2) 1)) 24 0 24 = 0; exact c_updN_s), fun j x hx => ?_⟩
  have hj := (List.getElem?_eq_some_iff.mp hx).1
  obtain ⟨g1, g2⟩ := h4 j x hx
  exact ⟨(lo j (by omega)).trans g1, g2⟩
theorem s_o3.ft (h : s_o3 B D A q S) (mt : Nat → Int32) (fl : Int32 × Int32 × Int32) : s_o3 B D A q (s_ft (s_md S mt) fl) := h
theorem s_of.md (h : s_of B D A S) (mt : Nat → Int32) : s_of B D A (s_md S mt) := h
end OFS
