/-! One patch taken out, against a desk that never had it: pure. -/
section OUTP
variable {S S' B R : cS} {D : Nat → Nat → cC} {A : List Nat} {p L : Nat} {xs : Nat → Int32}
theorem k_one1 {p j : Nat} (hp : p < 25) (hj : j < 25) : c_has (c_one1 p) (nI j) = Nat.beq j p := by
  have : ∀ p, p < 25 → ∀ j, j < 25 → c_has (c_one1 p) (nI j) = Nat.beq j p := by decide +kernel
  exact this p hp j hj
theorem k_wo_rm {l : List Nat} (hp : p < 25) (hl : ∀ j ∈ l, j < 25) : c_wo (c_one1 p) l = c_rm l p := by
  unfold c_wo c_rm
  refine List.filter_congr (fun x hx => ?_)
  rw [k_one1 hp (hl x hx)]
theorem s_of.ln (h : s_of B D A S) {j : Nat} (hj : j < A.length) : s_ln S j = 3 := (h.2.2.2 j _ (List.getElem?_eq_getElem hj)).1
/-- two desks of the same drafts play alike -/
theorem s_of.same (h : s_of B D A S) (h' : s_of B D A S') {l : List Nat} (hl : ∀ j ∈ l, j < A.length) : s_play S l = s_play S' l := by
  have e1 : c_line (s_ln S) l = c_line (s_ln S') l := c_line_congr (fun j hj => by rw [h.ln (hl j hj), h'.ln (hl j hj)])
  unfold s_play c_play
  rw [h.1.1, h.1.2.1, h.1.2.2.1, h.1.2.2.2, h'.1.1, h'.1.2.1, h'.1.2.2.1, h'.1.2.2.2, e1]
  refine c_ply_congr (fun a ha => ?_)
  obtain ⟨j, h1, k, h2, rfl⟩ := c_line_mem ha
  have hj := hl j h1
  rw [h'.ln hj] at h2
  rw [(h.2.2.2 j _ (List.getElem?_eq_getElem hj)).2 k h2, (h'.2.2.2 j _ (List.getElem?_eq_getElem hj)).2 k h2]
theorem c_dep_len {src : Nat → Int32} {len len' : Nat → Nat} {a : Nat} : ∀ {t : List Nat} {s : Int32}, (∀ q ∈ t, len q = len' q) → c_dep src len a t s = c_dep src len' a t s := by
  intro t
  induction t with
  | nil => intro s _; rfl
  | cons q t ih =>
    intro s h
    show c_dep src len a t (cond (c_rdf src (s ||| c_one1 a) (c_blk q 0 (len q))) (s ||| c_one1 q) s) = c_dep src len' a t (cond (c_rdf src (s ||| c_one1 a) (c_blk q 0 (len' q))) (s ||| c_one1 q) s)
    rw [h q List.mem_cons_self]
    exact ih (fun x hx => h x (List.mem_cons_of_mem _ hx))
theorem s_of.hg (h : s_of B D A S) (h' : s_of B D A S') (p : Nat) : s_hg S p = s_hg S' p := by
  unfold s_hg
  rw [h.2.1.1, h'.2.1.1, h.same h' (fun j hj => List.mem_range.mp hj)]
  exact c_dep_len (fun q hq => by
    have := List.mem_range.mp (List.mem_of_mem_drop hq)
    rw [h.ln this, h'.ln this])
theorem c_mvb_0 {t t' : Nat → Int32} {n n' : Nat → Int64} : ∀ {l : List Nat} {s : Int32}, (∀ a ∈ l, t a = t' a ∧ n a = n' a) → c_mvb t t' n n' l s = s := by
  intro l
  induction l with
  | nil => intro s _; rfl
  | cons a l ih =>
    intro s h
    obtain ⟨h1, h2⟩ := h a List.mem_cons_self
    show c_mvb t t' n n' l (cond (decide (t a = t' a) && decide (n a = n' a)) s (s + 1)) = s
    rw [decide_eq_true h1, decide_eq_true h2]
    exact ih (fun b hb => h b (List.mem_cons_of_mem _ hb))
theorem c_mv_0 {t t' : Nat → Int32} {n n' : Nat → Int64} {len : Nat → Nat} {l' : List Nat} : ∀ {m : List Nat} {s : Int32}, (∀ q ∈ m, ∀ a ∈ c_blk q 0 (len q), t a = t' a ∧ n a = n' a) → c_mv t t' n n' len l' m s = s := by
  intro m
  induction m with
  | nil => intro s _; rfl
  | cons q m ih =>
    intro s h
    show c_mv t t' n n' len l' m (cond (Nat.ble l'.length (c_ix l' q)) s (c_mvb t t' n n' (c_blk q 0 (len q)) s)) = s
    rw [c_mvb_0 (h q List.mem_cons_self), Bool.cond_self]
    exact ih (fun x hx => h x (List.mem_cons_of_mem _ hx))
theorem c_mvb_nI {t t' : Nat → Int32} {n n' : Nat → Int64} : ∀ {l : List Nat} {s : Nat}, ∃ m, m ≤ s + l.length ∧ c_mvb t t' n n' l (nI s) = nI m := by
  intro l
  induction l with
  | nil => intro s; exact ⟨s, Nat.le_refl _, rfl⟩
  | cons a l ih =>
    intro s
    show ∃ m, m ≤ s + (l.length + 1) ∧ c_mvb t t' n n' l (cond (decide (t a = t' a) && decide (n a = n' a)) (nI s) (nI s + 1)) = nI m
    cases (decide (t a = t' a) && decide (n a = n' a)) with
    | true =>
      obtain ⟨m, h1, h2⟩ := ih (s := s)
      exact ⟨m, by omega, h2⟩
    | false =>
      obtain ⟨m, h1, h2⟩ := ih (s := s + 1)
      exact ⟨m, by omega, by rw [cond_false, nI_1]; exact h2⟩
theorem c_mv_nI {t t' : Nat → Int32} {n n' : Nat → Int64} {len : Nat → Nat} {l' : List Nat} : ∀ {l : List Nat} {s : Nat}, (∀ q ∈ l, len q ≤ 6) → ∃ m, m ≤ s + 6 * l.length ∧ c_mv t t' n n' len l' l (nI s) = nI m := by
  intro l
  induction l with
  | nil => intro s _; exact ⟨s, Nat.le_refl _, rfl⟩
  | cons q l ih =>
    intro s h
    have hq := h q List.mem_cons_self
    have ht := fun x hx => h x (List.mem_cons_of_mem q hx)
    show ∃ m, m ≤ s + 6 * (l.length + 1) ∧ c_mv t t' n n' len l' l (cond (Nat.ble l'.length (c_ix l' q)) (nI s) (c_mvb t t' n n' (c_blk q 0 (len q)) (nI s))) = nI m
    cases Nat.ble l'.length (c_ix l' q) with
    | true =>
      obtain ⟨m, h1, h2⟩ := ih (s := s) ht
      exact ⟨m, by omega, h2⟩
    | false =>
      obtain ⟨k, k1, k2⟩ := c_mvb_nI (t := t) (t' := t') (n := n) (n' := n') (l := c_blk q 0 (len q)) (s := s)
      rw [l_blk_len] at k1
      obtain ⟨m, h1, h2⟩ := ih (s := k) ht
      exact ⟨m, by omega, by rw [cond_false, k2]; exact h2⟩
theorem s_moved_nI (hw : s_wf S) {l : List Nat} (hl : s_ord S l) : ∃ m, m < 2 ^ 31 ∧ c_moved S l = nI m := by
  obtain ⟨m, h1, h2⟩ := c_mv_nI (t := (s_play S l).2.2.2.2.2.2.1) (t' := (s_play S (s_or S)).2.2.2.2.2.2.1) (n := (s_play S l).2.2.2.2.2.2.2.1) (n' := (s_play S (s_or S)).2.2.2.2.2.2.2.1) (len := s_ln S) (l' := s_or S) (l := l) (s := 0) (fun q hq => hw.2.1.2.1 q (s_ord25 hw hl q hq))
  have h24 := s_len24 hw hl
  exact ⟨m, by omega, h2⟩
/-- nothing hangs on it: no finding, and nothing moves -/
theorem s_out_0 (hw : s_wf S) (hm : p ∈ s_or S) (h0 : s_hg S p = 0) : (s_play S (c_rm (s_or S) p)).1 = none ∧ c_moved S (c_rm (s_or S) p) = 0 := by
  have h25 := s_or25 hw
  have hp25 := h25 p hm
  have e1 : s_hg S p ||| c_one1 p = c_one1 p := by
    rw [h0]
    have : ∀ p, p < 25 → (0 : Int32) ||| c_one1 p = c_one1 p := by decide +kernel
    exact this p hp25
  have hs := s_stays hw hw.2.2.1.1 hw.2.2.2.1 (fun _ hq hn _ hj => s_hg_closed hw hm hq hn hj)
  rw [e1, k_wo_rm hp25 h25] at hs
  refine ⟨hs.1, c_mv_0 (fun q hq a ha => ?_)⟩
  have hqm := c_rm_mem.mp hq
  obtain ⟨j, j1, j2, rfl⟩ := c_blk_mem ha
  have h6 := hw.2.1.2.1 q (h25 q hqm.1)
  obtain ⟨g1, g2, -⟩ := hs.2.2 (6 * q + j) ⟨c_line_in hqm.1 (by omega), by
    rw [show (6 * q + j) / 6 = q by omega, k_one1 hp25 (h25 q hqm.1)]
    exact c_beq_f hqm.2⟩
  exact ⟨g1.symm, g2.symm⟩
/-! numbers one lower -/
def k_ren (p i : Nat) : Nat := if i < p then i else i + 1
def k_gr (p : Nat) (b : Int32) : Int32 := cond (decide (b < nI p)) b (b + 1)
theorem k_gr_nI {i : Nat} (hi : i < 2 ^ 31) (hp : p < 2 ^ 31) : k_gr p (nI i) = nI (k_ren p i) := by
  unfold k_gr k_ren
  by_cases h : i < p
  · rw [decide_eq_true (nI_lt h hp), cond_true, if_pos h]
  · rw [decide_eq_false (nI_nlt (Nat.not_lt.mp h) hi), cond_false, if_neg h, nI_1]
theorem k_gr_m1 (hp : p < 25) : k_gr p (-1) = -1 := by
  have : ∀ p, p < 25 → k_gr p (-1) = -1 := by decide +kernel
  exact this p hp
theorem k_rm_range : ∀ {n : Nat}, p ≤ n → c_rm (List.range (n + 1)) p = (List.range n).map (k_ren p) := by
  intro n h
  induction h with
  | refl =>
    rw [List.range_succ]
    unfold c_rm
    rw [List.filter_append, List.filter_eq_self.mpr (fun x hx => by rw [c_beq_f (by have := List.mem_range.mp hx; omega)]; rfl), List.filter_cons_of_neg (by rw [Nat.beq_refl]; decide), List.filter_nil, List.append_nil]
    apply List.ext_getElem?
    intro i
    rw [List.getElem?_map]
    rcases Nat.lt_or_ge i p with q | q
    · rw [List.getElem?_range q]
      show some i = some (k_ren p i)
      rw [show k_ren p i = i from if_pos q]
    · rw [List.getElem?_eq_none (by rw [List.length_range]; exact q)]; rfl
  | @step m hm ih =>
    have hm : p ≤ m := hm
    rw [List.range_succ, List.range_succ, List.map_append, ← ih]
    unfold c_rm
    rw [List.filter_append, List.filter_cons_of_pos (by rw [c_beq_f (by omega)]; rfl), List.filter_nil]
    show _ ++ [m + 1] = _ ++ [k_ren p m]
    rw [show k_ren p m = m + 1 from if_neg (by omega), ← List.range_succ]
theorem k_at_ren (hp : p < A.length) : p_at A (c_rm (List.range A.length) p) = (p_at ((c_rm (List.range A.length) p).map (fun j => A.getD j 0)) (List.range ((c_rm (List.range A.length) p).map (fun j => A.getD j 0)).length)).map (fun x => (k_ren p x.1, x.2)) := by
  obtain ⟨n, hn⟩ : ∃ n, A.length = n + 1 := ⟨A.length - 1, by omega⟩
  rw [hn, k_rm_range (by omega), List.map_map, List.length_map, List.length_range]
  unfold p_at
  rw [List.map_map, List.map_map]
  refine List.map_congr_left (fun i hi => ?_)
  have hi := List.mem_range.mp hi
  show (k_ren p i, A.getD (k_ren p i) 0) = (k_ren p i, ((List.range n).map (fun i => A.getD (k_ren p i) 0)).getD i 0)
  rw [List.getD_eq_getElem?_getD (l := (List.range n).map _), List.getElem?_map, List.getElem?_range hi]
  rfl
/-- whose the elements are -/
theorem s_out_wr (h : s_of B D A S) (hA : A.length ≤ 7) (hp : p < A.length) : (s_play S (c_rm (List.range A.length) p)).2.2.2.1 = fun x => k_gr p ((k_F B D ((c_rm (List.range A.length) p).map (fun j => A.getD j 0))).2.2.2 x) := by
  have hl : ∀ j ∈ c_rm (List.range A.length) p, j < A.length := fun j hj => List.mem_range.mp (c_rm_mem.mp hj).1
  have e := h.1.play (p_pl_of h.2.2.2 hl)
  rw [k_at_ren hp, p_ls_ren (g := k_gr p) (fun x hx => ?_)] at e
  · have e2 := p_ren (kd := s_kd B) (sz := s_sz B) (k_gr p) (t := p_all D ((c_rm (List.range A.length) p).map (fun j => A.getD j 0))) (s := s_p0 B)
    have e3 : ((s_p0 B).1, (s_p0 B).2.1, fun x => k_gr p ((s_p0 B).2.2 x)) = s_p0 B := by
      show (s_bt B, s_bn B, fun _ => k_gr p (-1)) = _
      rw [k_gr_m1 (by omega)]
      rfl
    rw [e3] at e2
    exact congrArg (fun z : Option Int32 × pS => z.2.2.2) (e.symm.trans e2)
  · unfold p_at at hx
    obtain ⟨i, hi, rfl⟩ := List.mem_map.mp hx
    have hi := List.mem_range.mp hi
    rw [List.length_map] at hi
    have h2 : (c_rm (List.range A.length) p).length ≤ A.length := by
      have := List.length_filter_le (fun x => !Nat.beq x p) (List.range A.length)
      rw [List.length_range] at this
      exact this
    exact k_gr_nI (by show i < 2 ^ 31; omega) (by omega)
/-- since when -/
theorem s_out_pre (h : s_of B D A S) (hR : s_of B D ((c_rm (List.range A.length) p).map (fun j => A.getD j 0)) R) (k : Nat) : (s_play S ((c_rm (List.range A.length) p).take k)).2.1 = (s_play R ((s_or R).take k)).2.1 ∧ (s_play S ((c_rm (List.range A.length) p).take k)).2.2.1 = (s_play R ((s_or R).take k)).2.2.1 := by
  have hl : ∀ j ∈ (c_rm (List.range A.length) p).take k, j < A.length := fun j hj => List.mem_range.mp (c_rm_mem.mp (List.mem_of_mem_take hj)).1
  have e1 := h.1.play (p_pl_of h.2.2.2 hl)
  have hl2 : ∀ j ∈ (s_or R).take k, j < ((c_rm (List.range A.length) p).map (fun j => A.getD j 0)).length := fun j hj => by
    have := List.mem_of_mem_take hj
    rw [hR.2.1.1] at this
    exact List.mem_range.mp this
  have e2 := hR.1.play (p_pl_of hR.2.2.2 hl2)
  have g := p_lab (kd := s_kd B) (sz := s_sz B) (t := p_ls D (p_at A ((c_rm (List.range A.length) p).take k))) (t' := p_ls D (p_at ((c_rm (List.range A.length) p).map (fun j => A.getD j 0)) ((s_or R).take k))) (s := s_p0 B) (s' := s_p0 B) (p_ls_fst (by rw [p_at_snd, p_at_snd, hR.2.1.1, List.map_take, List.map_take, k_getD])) rfl rfl
  rw [e1, e2] at g
  exact g.2
theorem c_dw_congr {e f : Nat → Bool} : ∀ {n : Nat}, (∀ k, k < n → e k = f k) → c_dw e n = c_dw f n := by
  intro n
  induction n with
  | zero => intro _; rfl
  | succ n ih =>
    intro h
    show cond (e n) (c_dw e n) (n + 1) = cond (f n) (c_dw f n) (n + 1)
    rw [h n (Nat.lt_succ_self _), ih (fun k hk => h k (Nat.lt_succ_of_lt hk))]
theorem s_out_since (h : s_of B D A S) (hR : s_of B D ((c_rm (List.range A.length) p).map (fun j => A.getD j 0)) R) (cell : Nat) : s_since (s_to S (c_rm (List.range A.length) p) []) cell = s_since R cell := by
  have hlen : (s_or R).length = (c_rm (List.range A.length) p).length := by rw [hR.2.1.1, List.length_range, List.length_map]
  have full := s_out_pre h hR (c_rm (List.range A.length) p).length
  rw [List.take_length, ← hlen, List.take_length] at full
  unfold s_since
  rw [hlen]
  show nI (c_dw (s_eq (s_to S (c_rm (List.range A.length) p) []) cell) (c_rm (List.range A.length) p).length) = _
  rw [c_dw_congr (fun k hk => ?_)]
  have g := s_out_pre h hR k
  unfold s_eq
  show (decide ((s_play S (c_rm (List.range A.length) p)).2.1 cell = (s_play S ((c_rm (List.range A.length) p).take k)).2.1 cell) && decide ((s_play S (c_rm (List.range A.length) p)).2.2.1 cell = (s_play S ((c_rm (List.range A.length) p).take k)).2.2.1 cell)) = _
  rw [full.1, full.2, g.1, g.2]
/-! the rows -/
theorem k_row_kd : ∀ m, ∀ k, k < m → s_kd (k_row L xs m) k = nI (k_kd L xs k) ∧ s_sz (k_row L xs m) k = nI (k_sz L xs k)
  | 0, k, h => absurd h (Nat.not_lt_zero k)
  | m + 1, k, h => by
    show upd (s_kd (k_row L xs m)) m (nI (k_kd L xs m)) k = _ ∧ upd (s_sz (k_row L xs m)) m (nI (k_sz L xs m)) k = _
    by_cases e : k = m
    · subst e; rw [pk_us, pk_us]; exact ⟨rfl, rfl⟩
    · rw [pk_un e, pk_un e]
      exact k_row_kd m k (by omega)
theorem l_arr (h : s_bs (k_row L xs 6) S) {k : Nat} (hk : k < 6) : c_arrF (s_kd S) (nI k) = 0 := by
  have hkd := k_kd_lt (L := L) (xs := xs) (k := k)
  have e : s_kd S (nI k).toNatClampNeg = nI (k_kd L xs k) := by rw [nI_clamp (by omega), h.1]; exact (k_row_kd 6 k hk).1
  unfold c_arrF
  rw [e, decide_eq_false (fun q => by
    have h1 := nI_toInt (show k_kd L xs k < 2 ^ 31 by omega)
    rw [q] at h1
    have h2 : (-1 : Int32).toInt = -1 := by decide
    omega), cond_false, decide_eq_true (show nI (k_kd L xs k) ≤ (12 : Int32) from nI_le (show k_kd L xs k ≤ 12 by omega) (by decide)), cond_true]
theorem l_idx (h : s_bs (k_row L xs 6) S) {k i : Nat} (hk : k < 6) (hi : i < k_sz L xs k) : c_idxF (s_sz S) (nI k) (nI i) = 0 := by
  have hsz := k_sz_le (L := L) (xs := xs) (k := k)
  have e : s_sz S (nI k).toNatClampNeg = nI (k_sz L xs k) := by rw [nI_clamp (by omega), h.2.1]; exact (k_row_kd 6 k hk).2
  unfold c_idxF
  rw [e, decide_eq_false (nI_pos (by omega)), cond_false, decide_eq_true (nI_lt hi (by omega)), cond_true]
theorem l_elt (h : s_bs (k_row L xs 6) S) {k i : Nat} (hk : k < 6) (hi : i < k_sz L xs k) : c_eltF (s_kd S) (s_sz S) (nI k) (nI i) = 0 := by
  unfold c_eltF
  rw [l_arr h hk, decide_eq_true rfl, cond_true, l_idx h hk hi]
/-- what an element reads as it is -/
theorem l_rd (h : s_bs (k_row L xs 6) S) {k i : Nat} (hk : k < 6) (hi : i < k_sz L xs k) : s_rd S (nI k) 8 (nI i) = c_num ((s_play S (s_or S)).2.1 (c_cell (nI k) (nI i))) ((s_play S (s_or S)).2.2.1 (c_cell (nI k) (nI i))) := by
  have e : s_rdF S (nI k) 8 (nI i) = 0 := by
    unfold s_rdF c_rdF
    rw [l_arr h hk, decide_eq_true rfl, cond_true, decide_eq_true rfl, cond_true, l_idx h hk hi]
  unfold s_rd
  rw [e, decide_eq_true rfl, cond_true, decide_eq_true rfl, cond_true]
  rfl
theorem l_blame (h : s_bs (k_row L xs 6) S) {k i : Nat} (hk : k < 6) (hi : i < k_sz L xs k) : c_blame S (nI k) (nI i) = (s_play S (s_or S)).2.2.2.1 (c_cell (nI k) (nI i)) := by
  unfold c_blame
  rw [l_elt h hk hi, decide_eq_true rfl, cond_true]
end OUTP
