/-! The law from 'with' on: pure first. -/
section WITHP
variable {S B : cS} {D : Nat → Nat → cC} {A : List Nat}
theorem k_getD {A : List Nat} : (List.range A.length).map (fun j => A.getD j 0) = A := by
  apply List.ext_getElem?
  intro i
  rw [List.getElem?_map]
  rcases Nat.lt_or_ge i A.length with q | q
  · rw [List.getElem?_range q, List.getElem?_eq_getElem q]
    show some (A.getD i 0) = _
    rw [List.getD_eq_getElem?_getD, List.getElem?_eq_getElem q]
    rfl
  · rw [List.getElem?_eq_none (by rw [List.length_range]; exact q), List.getElem?_eq_none q]
    rfl
theorem p_at_snd {l : List Nat} : (p_at A l).map Prod.snd = l.map (fun j => A.getD j 0) := by
  unfold p_at
  rw [List.map_map]
  rfl
/-- the drafts of some patches, laid anew: the same findings and values -/
theorem p_all_lab {kd sz : Nat → Int32} {l : List Nat} {s : pS} : (p_ply kd sz (p_all D (l.map (fun j => A.getD j 0))) s).1 = (p_ply kd sz (p_ls D (p_at A l)) s).1 ∧ (p_ply kd sz (p_all D (l.map (fun j => A.getD j 0))) s).2.1 = (p_ply kd sz (p_ls D (p_at A l)) s).2.1 ∧ (p_ply kd sz (p_all D (l.map (fun j => A.getD j 0))) s).2.2.1 = (p_ply kd sz (p_ls D (p_at A l)) s).2.2.1 := by
  refine p_lab ?_ rfl rfl
  unfold p_all
  exact p_ls_fst (by rw [p_at_snd, k_getD, p_at_snd])
/-- of a desk of drafts: its play of some patches -/
theorem s_of.some (h : s_of B D A S) {l : List Nat} (hl : ∀ j ∈ l, j < A.length) : (k_F B D (l.map (fun j => A.getD j 0))).1 = (s_play S l).1.map Prod.snd ∧ (k_F B D (l.map (fun j => A.getD j 0))).2.1 = (s_play S l).2.1 ∧ (k_F B D (l.map (fun j => A.getD j 0))).2.2.1 = (s_play S l).2.2.1 := by
  have e := h.1.play (p_pl_of h.2.2.2 hl)
  have g := p_all_lab (kd := s_kd B) (sz := s_sz B) (D := D) (A := A) (l := l) (s := s_p0 B)
  rw [e] at g
  exact g
theorem s_of.vals (h : s_of B D A S) : (k_F B D A).1 = (s_play S (s_or S)).1.map Prod.snd ∧ (k_F B D A).2.1 = (s_play S (s_or S)).2.1 ∧ (k_F B D A).2.2.1 = (s_play S (s_or S)).2.2.1 ∧ (k_F B D A).2.2.2 = (s_play S (s_or S)).2.2.2.1 := by
  have e := h.1.play h.pl
  unfold k_F
  rw [e]
  exact ⟨rfl, rfl, rfl, rfl⟩
variable {p : Nat}
theorem s_of.or24 (h : s_of B D A S) (hA : A.length ≤ 7) {j : Nat} (hj : j ∈ s_or S) : j < A.length := by
  rw [h.2.1.1] at hj
  exact List.mem_range.mp hj
theorem s_hg_self (hw : s_wf S) (hm : p ∈ s_or S) : c_has (s_hg S p) (nI p) = false := by
  have h25 := s_or25 hw
  cases hc : c_has (s_hg S p) (nI p) with
  | false => rfl
  | true =>
    exfalso
    have hs := c_ix_split hm
    have hnd : (s_or S).Nodup := hw.2.2.1.1.1
    rw [hs] at hnd
    obtain ⟨-, n2, -⟩ := List.nodup_append.mp hnd
    rcases c_dep_in (h25 p hm) (fun q hq => h25 q (List.mem_of_mem_drop hq)) hc with g | g
    · rw [c_has_0 (h25 p hm)] at g; cases g
    · exact (List.nodup_cons.mp n2).1 g
theorem s_hg_in (hw : s_wf S) (hm : p ∈ s_or S) {j : Nat} (hj : j < 25) (hc : c_has (s_hg S p ||| c_one1 p) (nI j) = true) : j ∈ s_or S := by
  have h25 := s_or25 hw
  rw [c_has_or (h25 p hm) hj, Bool.or_eq_true] at hc
  rcases hc with hc | hc
  · rcases c_dep_in hj (fun q hq => h25 q (List.mem_of_mem_drop hq)) hc with g | g
    · rw [c_has_0 hj] at g; cases g
    · exact List.mem_of_mem_drop g
  · rw [Nat.eq_of_beq_eq_true hc]; exact hm
theorem s_hg_p (hw : s_wf S) (hm : p ∈ s_or S) : c_has (s_hg S p ||| c_one1 p) (nI p) = true := by
  have h25 := s_or25 hw
  rw [c_has_or (h25 p hm) (h25 p hm), Nat.beq_refl, Bool.or_true]
theorem k_size_flt {x : Int32} {n : Nat} : k_size x n + (c_wo x (List.range n)).length = n := by
  induction n with
  | zero => rfl
  | succ n ih =>
    rw [k_size_succ, List.range_succ]
    unfold c_wo at ih ⊢
    rw [List.filter_append, List.length_append]
    cases h : c_has x (nI n) with
    | true =>
      rw [List.filter_cons_of_neg (by rw [h]; decide)]
      show k_size x n + 1 + ((List.filter (fun x_1 => !c_has x (nI x_1)) (List.range n)).length + 0) = n + 1
      omega
    | false =>
      rw [List.filter_cons_of_pos (by rw [h]; rfl)]
      show k_size x n + 0 + ((List.filter (fun x_1 => !c_has x (nI x_1)) (List.range n)).length + 1) = n + 1
      omega
theorem k_size_up {x : Int32} {n : Nat} : ∀ {m : Nat}, n ≤ m → (∀ j, n ≤ j → j < m → c_has x (nI j) = false) → k_size x m = k_size x n := by
  intro m h
  induction h with
  | refl => intro _; rfl
  | step hm ih =>
    intro g
    rw [k_size_succ, ih (fun j h1 h2 => g j h1 (Nat.lt_succ_of_lt h2)), g _ hm (Nat.lt_succ_self _)]
    rfl
theorem s_with_size (hw : s_wf S) (h : s_of B D A S) (hA : A.length ≤ 7) (hm : p ∈ s_or S) : k_size (s_hg S p ||| c_one1 p) 24 + (c_wo (s_hg S p ||| c_one1 p) (s_or S)).length = A.length := by
  rw [k_size_up (n := A.length) (by omega) (fun j h1 h2 => by
    cases hc : c_has (s_hg S p ||| c_one1 p) (nI j) with
    | false => rfl
    | true =>
      have := h.or24 hA (s_hg_in hw hm (by omega) hc)
      omega), h.2.1.1]
  exact k_size_flt
/-- what those that stay write -/
theorem s_with_tr (hw : s_wf S) (hm : p ∈ s_or S) {j k : Nat} (hj : j ∈ s_or S) (hk : k < s_ln S j) (hc : c_has (s_hg S p ||| c_one1 p) (nI j) = false) : s_tr (s_to S (c_wo (s_hg S p ||| c_one1 p) (s_or S)) []) (6 * j + k) false = s_tr S (6 * j + k) false := by
  have h := (s_stays hw hw.2.2.1.1 hw.2.2.2.1 (fun _ hq hn _ hj => s_hg_closed hw hm hq hn hj)).2
  have h6 := hw.2.1.2.1 j (s_or25 hw j hj)
  obtain ⟨g1, g2, -⟩ := h.2 (6 * j + k) ⟨c_line_in hj hk, by rw [show (6 * j + k) / 6 = j by omega]; exact hc⟩
  unfold s_tr
  rw [cond_false, cond_false]
  have g1 : (s_play S (s_or S)).2.2.2.2.2.2.1 (6 * j + k) = (s_play (s_to S (c_wo (s_hg S p ||| c_one1 p) (s_or S)) []) (c_wo (s_hg S p ||| c_one1 p) (s_or S))).2.2.2.2.2.2.1 (6 * j + k) := g1
  have g2 : (s_play S (s_or S)).2.2.2.2.2.2.2.1 (6 * j + k) = (s_play (s_to S (c_wo (s_hg S p ||| c_one1 p) (s_or S)) []) (c_wo (s_hg S p ||| c_one1 p) (s_or S))).2.2.2.2.2.2.2.1 (6 * j + k) := g2
  rw [g1, g2]
  rfl
end WITHP
/-! The law's blocks from there to its end. -/
abbrev k_lst : Int64 := -9223372036854775808
def g_902 (s : Nat → pd_H) : Prop := ∀ d0 d1 d2 d6 d7 d8 d9 d10 d11 d12 d13 d14 d15 d16 d17 d18 d19 d20 d21 d22 d23, gF (L_law_L902 d0 d1 d2 d6 d7 d8 d9 d10 d11 d12 d13 d14 d15 d16 d17 d18 d19 d20 d21 d22 d23 1 (p4_jn s))
def g_868 (s : Nat → pd_H) (gone : Int32) : Prop := ∀ d1 d2 d6 d7 d8 d10 d11 d12 d13 d14 d15 d16 d17 d18 d20 d21 d22 d23, gF (L_law_L868 d1 d2 d6 d7 d8 1 d10 d11 d12 d13 d14 d15 d16 d17 d18 gone d20 d21 d22 d23 (p4_jn s))
def g_797 (s : Nat → pd_H) (n : Nat) (gone : Int32) (x : Nat) : Prop := ∀ d1 d2 d11 d12 d13 d14 d15 d16 d17 d18 d21 d22 d23, gF (L_law_L797 d1 d2 k_lst 1 (nI n) d11 d12 d13 d14 d15 d16 d17 d18 gone (nI x) d21 d22 d23 (p4_jn s))
def g_698 (s : Nat → pd_H) (n p : Nat) (h gone : Int32) (x : Nat) : Prop := ∀ d1 d2 d13 d14 d15 d16 d17 d18 d21 d22 d23, gF (L_law_L698 d1 d2 k_lst 1 (nI n) (nI p) h d13 d14 d15 d16 d17 d18 gone (nI x) d21 d22 d23 (p4_jn s))
section TAIL2
variable {s : Nat → pd_H} {Q : Nat → cS} {L : Nat} {xs : Nat → Int32} {B : cS} {A : List Nat} {aI : Nat → Int32}
theorem l_ag.tr {S T U : cS} (h : l_ag L xs S T) (g : l_ag L xs T U) : l_ag L xs S U := fun k hk i hi => ⟨(h k hk i hi).1.trans (g k hk i hi).1, (h k hk i hi).2.trans (g k hk i hi).2⟩
theorem l_ag.sy {S T : cS} (h : l_ag L xs S T) : l_ag L xs T S := fun k hk i hi => ⟨(h k hk i hi).1.symm, (h k hk i hi).2.symm⟩
theorem l_blk_len {p : Nat} : ∀ {d k : Nat}, (c_blk p k d).length = d
  | 0, _ => rfl
  | d + 1, k => congrArg (· + 1) (l_blk_len (d := d) (k := k + 1))
theorem l_has_1 (m t : Int32) : decide ((m >>> (t &&& 31)) &&& 1 = 1) = c_has m t := by
  rw [l_bit]
  cases c_has m t <;> rfl
theorem s_len150 {S : cS} (hw : s_wf S) : (c_line (s_ln S) (s_or S)).length < 2 ^ 31 := by
  have h6 : ∀ l : List Nat, (∀ p ∈ l, s_ln S p ≤ 6) → (c_line (s_ln S) l).length ≤ 6 * l.length := by
    intro l
    induction l with
    | nil => intro _; exact Nat.le_refl 0
    | cons p l ih =>
      intro h
      show (c_blk p 0 (s_ln S p) ++ c_line (s_ln S) l).length ≤ 6 * (l.length + 1)
      have := ih (fun q hq => h q (List.mem_cons_of_mem _ hq))
      have := h p List.mem_cons_self
      rw [List.length_append, l_blk_len]
      omega
  have h1 := h6 (s_or S) (fun p hp => hw.2.1.2.1 p (s_or25 hw p hp))
  have h2 := s_or24 hw
  omega
theorem t_902 (h : l_W s Q) (hR : l_R s L xs) (hag : l_ag L xs (Q 2) (Q 3)) (hun : s_un (Q 2) = []) : g_902 s := by
  intro d0 d1 d2 d6 d7 d8 d9 d10 d11 d12 d13 d14 d15 d16 d17 d18 d19 d20 d21 d22 d23
  have d4 : (2 : Nat) < 4 := by decide
  obtain ⟨s1, a1, a2, a3⟩ := y_count d4 h 7 (Z_count7 (h 2 d4).1 (h 2 d4).2.1) (h 2 d4).1
  rw [qs_self] at a2
  obtain ⟨s2, b1, b2, b3⟩ := y_count d4 a2 6 (Z_count6 (a2 2 d4).1 (a2 2 d4).2.1) (a2 2 d4).1
  rw [qs_self] at b2
  have hw := (h 2 d4).1
  have hwp := s_pr_wf hw
  obtain ⟨s3, c1, c2, c3⟩ := y_prune d4 b2 (Z_prune (b2 2 d4).1 (b2 2 d4).2.1) hwp
  have z6 := Z_count6 (c2 2 d4).1 (c2 2 d4).2.1
  rw [qs_s] at z6
  obtain ⟨s4, e1, e2, e3⟩ := y_count d4 c2 6 z6 hwp
  rw [qs_qs] at e2
  have z7 := Z_count7 (e2 2 d4).1 (e2 2 d4).2.1
  rw [qs_s] at z7
  obtain ⟨s5, f1, f2, f3⟩ := y_count d4 e2 7 z7 hwp
  rw [qs_qs] at f2
  have hs5 : s5 4 = s 4 := f3.trans (e3.trans (c3.trans (b3.trans a3)))
  have hag2 : l_ag L xs (qs Q 2 (s_pr (Q 2)) 2) (qs Q 2 (s_pr (Q 2)) 3) := by
    rw [qs_s, qs_n (by decide)]
    have hv := s_pr_vals hw
    exact (l_ag_of (S := s_pr (Q 2)) (T := Q 2) rfl rfl hv.1 hv.2).tr hag
  obtain ⟨s6, m1, m2, g1, g2, g3⟩ := l_alike d4 (by decide : (3 : Nat) < 4) (by decide) f2 (hR.of hs5) hag2
  have q2e : q2 (qs Q 2 (s_pr (Q 2))) 2 3 m1 m2 2 = s_md (s_pr (Q 2)) m1 := by rw [q2_d (by decide), qs_s]
  obtain ⟨hw6, hX6, -⟩ := g2 2 d4
  rw [q2e] at hw6 hX6
  have zp := Z_prune hw6 hX6
  have edn : c_dn (s_ch (s_md (s_pr (Q 2)) m1)) (c_line (s_ln (s_md (s_pr (Q 2)) m1)) (s_or (s_md (s_pr (Q 2)) m1))) = 0 := s_pr_dead hw
  rw [edn] at zp
  obtain ⟨s7, k1, k2, k3⟩ := y_prune d4 g2 zp (s_pr_wf hw6)
  have z1 := Z_count1 (k2 2 d4).2.1
  rw [qs_s] at z1
  obtain ⟨s8, n1, n2, n3⟩ := y_count d4 k2 1 z1 (s_pr_wf hw6)
  rw [qs_qs] at n2
  have hlen := s_pr_len hw
  have h150 := s_len150 hw
  have a1 : Y_count 460 7 (p4_jn s) = _ := a1
  have b1 : Y_count 460 6 (p4_jn s1) = _ := b1
  have c1 : Y_prune 460 (p4_jn s2) = _ := c1
  have e1 : Y_count 460 6 (p4_jn s3) = _ := e1
  have f1 : Y_count 460 7 (p4_jn s4) = _ := f1
  have g1 : L_alike 460 690 (p4_jn s5) = _ := g1
  have k1 : Y_prune 460 (p4_jn s6) = _ := k1
  have n1 : Y_count 460 1 (p4_jn s7) = _ := n1
  have esub : nI (c_line (s_ln (s_pr (Q 2))) (s_or (s_pr (Q 2)))).length = nI (c_line (s_ln (Q 2)) (s_or (Q 2))).length - nI (c_dn (s_ch (Q 2)) (c_line (s_ln (Q 2)) (s_or (Q 2)))) := by
    rw [pk_sub (by omega)]
    congr 1
    show (c_line (s_prl (Q 2)) (s_or (Q 2))).length = _
    omega
  have e7 : nI (c_dn (s_ch (s_pr (Q 2))) (c_line (s_ln (s_pr (Q 2))) (s_or (s_pr (Q 2))))) = 0 := by rw [s_pr_dead hw]; rfl
  rw [L_law_L902_eq, a1, pd_bI_of, b1, pd_bI_of, decide_eq_false (by decide : ¬ (1 : Int32) = 0), cond_false, c1, pd_bI_of, decide_eq_true rfl, cond_true, e1, pd_bI_of, decide_eq_true esub, cond_true, f1, pd_bI_of, decide_eq_true e7, cond_true, g1, pd_bI_of, decide_eq_false (by decide : ¬ (1 : Int32) = 0), cond_false, k1, pd_bI_of, decide_eq_true (show nI 0 = 0 from rfl), cond_true, n1, pd_bI_of]
  have h24 := s_or24 hw
  refine t_992 _ s8 _ 0 _ _ _ _ _ _ _ _ _ _ _ _ _ _ _ _ _ _ _ _ _ n2 rfl ?_ (Nat.zero_add _) ?_
  · rw [qs_s]
    show (s_un (Q 2)).length = 0
    rw [hun]; rfl
  · show (s_or (Q 2)).length < 2 ^ 31
    omega
theorem t_868 (hL : L < 2 ^ 31) (h : l_W s Q) (hM : l_M s L xs) (hR : l_R s L xs) (hA : l_A s aI 7) {gone : Int32} (hU : s_of B (k_D L xs) [] (Q 3)) (hbs : s_bs B (Q 2)) (hun : s_un (Q 2) = []) (hF : (k_F B (k_D L xs) ((List.range 7).filter (k_tk aI gone))).1 = none) (h1 : (k_F B (k_D L xs) ((List.range 7).filter (k_tk aI gone))).2.1 = (s_play (Q 2) (s_or (Q 2))).2.1) (h2 : (k_F B (k_D L xs) ((List.range 7).filter (k_tk aI gone))).2.2.1 = (s_play (Q 2) (s_or (Q 2))).2.2.1) : g_868 s gone := by
  intro d1 d2 d6 d7 d8 d10 d11 d12 d13 d14 d15 d16 d17 d18 d20 d21 d22 d23
  have d4 : (3 : Nat) < 4 := by decide
  obtain ⟨s1, U, a1, a2, a3⟩ := l_lays hL d4 h hM hR hA (but := gone) hU
  rcases a3 with ⟨e1, hof⟩ | ⟨f, -, hf⟩
  · have hv := hof.vals
    have hag : l_ag L xs (qs Q 3 U 2) (qs Q 3 U 3) := by
      rw [qs_s, qs_n (by decide)]
      exact l_ag_of (hbs.1.trans hof.1.1.symm) (hbs.2.1.trans hof.1.2.1.symm) (h1.symm.trans hv.2.1) (h2.symm.trans hv.2.2.1)
    obtain ⟨s2, m1, m2, g1, g2, g3⟩ := l_alike (by decide : (2 : Nat) < 4) d4 (by decide) a1 (hR.of a2) hag
    have e1 : L_lays 690 gone (p4_jn s) = _ := e1
    have g1 : L_alike 460 690 (p4_jn s1) = _ := g1
    rw [L_law_L868_eq, decide_eq_false (by decide : ¬ (1 : Int32) = 0), cond_false, e1, pd_bI_of, decide_eq_true (rfl : (0 : Int32) = 0), cond_true, g1, pd_bI_of, decide_eq_false (by decide : ¬ (1 : Int32) = 0), cond_false]
    refine t_902 g2 (hR.of (g3.trans a2)) (l_ag_q2 (by decide) hag m1 m2) ?_ _ _ _ _ _ _ _ _ _ _ _ _ _ _ _ _ _ _ _ _ _
    rw [q2_d (by decide), qs_n (by decide)]
    exact hun
  · rw [hF] at hf; cases hf
theorem k_div3 {x : Nat} (hx : x < 2 ^ 31) : nI x / (3 : Int32) = nI (x / 3) ∧ nI x - nI x / (3 : Int32) * (3 : Int32) = nI (x % 3) := ⟨pk_div hx (by decide) (by decide), pk_rem hx (by decide) (by decide)⟩
theorem t_797 (h : l_W s Q) (hA : A.length ≤ 7) (hpc : s_pc (Q 2) = A.length) (hln : ∀ j, j < A.length → s_ln (Q 2) j = 3) {gone : Int32} {vv : Nat → Int64} (hv : ∀ x, x < 3 * A.length → (s 4).2.1 1 x = vv x) (h1 : ∀ j, j < A.length → c_has gone (nI j) = true → j ∉ s_or (Q 2)) (h2 : ∀ j, j < A.length → c_has gone (nI j) = false → j ∈ s_or (Q 2) ∧ ∀ k, k < 3 → s_tr (Q 2) (6 * j + k) false = vv (3 * j + k)) (hnext : ∀ s', l_W s' Q → s' 4 = s 4 → g_868 s' gone) : ∀ (r : Nat) (s' : Nat → pd_H) (x : Nat), x + r = 3 * A.length → l_W s' Q → s' 4 = s 4 → g_797 s' A.length gone x := by
  have d4 : (2 : Nat) < 4 := by decide
  have e3 : (3 : Int32) * nI A.length = nI (3 * A.length) := pk_mul 3 _
  intro r
  induction r with
  | zero =>
    intro s' x hx h' hs'
    intro d1 d2 d11 d12 d13 d14 d15 d16 d17 d18 d21 d22 d23
    rw [L_law_L797_eq, e3, decide_eq_true (nI_le (show 3 * A.length ≤ x by omega) (by omega)), cond_true]
    exact hnext s' h' hs' _ _ _ _ _ _ _ _ _ _ _ _ _ _ _ _ _ _
  | succ r ih =>
    intro s' x hx h' hs'
    intro d1 d2 d11 d12 d13 d14 d15 d16 d17 d18 d21 d22 d23
    have hj : x / 3 < A.length := by omega
    have hk : x % 3 < 3 := Nat.mod_lt _ (by decide)
    obtain ⟨z1, z2⟩ := Z_trace (h' 2 d4).1 (h' 2 d4).2.1 (p := x / 3) (k := x % 3) (by omega) (by rw [hln _ hj]; exact hk)
    obtain ⟨q1, q2⟩ := k_div3 (x := x) (by omega)
    rw [L_law_L797_eq, e3, decide_eq_false (nI_ge (show x < 3 * A.length by omega) (by omega)), cond_false, decide_eq_false (by decide : ¬ (1 : Int32) = 0), cond_false, q2, q1, l_has_1]
    cases hc : c_has gone (nI (x / 3)) with
    | true =>
      obtain ⟨s1, a1, a2, a3⟩ := y_trace d4 h' (nI (x / 3)) (nI (x % 3)) 0 (z2 (h1 _ hj hc)) (h' 2 d4).1
      rw [qs_self] at a2
      have a1 : Y_trace 460 (nI (x / 3)) (nI (x % 3)) 0 (p4_jn s') = _ := a1
      rw [a1, pd_bJ_of, cond_true, L_law_L851_eq, pu_cmp0, decide_eq_true (show c_lerr (-3) = k_lst + 3 from by decide +kernel), cond_true, nI_1]
      exact ih s1 (x + 1) (by omega) a2 (a3.trans hs') _ _ _ _ _ _ _ _ _ _ _ _ _
    | false =>
      obtain ⟨g1, g2⟩ := h2 _ hj hc
      obtain ⟨s1, a1, a2, a3⟩ := y_trace d4 h' (nI (x / 3)) (nI (x % 3)) 0 (z1 g1) (h' 2 d4).1
      rw [qs_self] at a2
      have a1 : Y_trace 460 (nI (x / 3)) (nI (x % 3)) 0 (p4_jn s') = _ := a1
      have hm : (p4_jn s1).2.1 921 x = vv x := by
        show (s1 4).2.1 1 x = vv x
        rw [a3.trans hs']
        exact hv x (by omega)
      have e : s_tr (Q 2) (6 * (x / 3) + x % 3) false = vv x := by
        rw [g2 _ hk]
        congr 1
        omega
      rw [a1, pd_bJ_of, cond_false, l_len24, pu_obN (show x < 24 by omega) (by decide), cond_false, nI_clamp (by omega), hm, L_law_L851_eq, pu_cmp0, decide_eq_true e, cond_true, nI_1]
      exact ih s1 (x + 1) (by omega) a2 (a3.trans hs') _ _ _ _ _ _ _ _ _ _ _ _ _
theorem p4_up4J {i : Nat} {v : Int64} : pd_upJ (p4_jn s) 921 i v = p4_jn (p4_pt s 4 (pd_upJ (s 4) 1 i v)) := by
  have h := p4_upJ (s := s) (d := 4) (S := s 4) (k := 1) (i := i) (w := v) (by decide)
  rw [p4_pt_self] at h
  exact h
end TAIL2
