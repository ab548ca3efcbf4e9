/-! The law whole. -/
def g_311 (s : Nat → pd_H) (n : Nat) : Prop := ∀ d9 d11 d12 d13 d14 d15 d16 d17 d18 d19 d20 d21 d22 d23, gF (L_law_L311 k_lst d9 (nI n) d11 d12 d13 d14 d15 d16 d17 d18 d19 d20 d21 d22 d23 1 (p4_jn s))
def g_260 (s : Nat → pd_H) (n : Nat) : Prop := ∀ d11 d12 d13 d14 d15 d16 d17 d18 d19 d20 d21 d22 d23, gF (L_law_L260 k_lst 1 (nI n) d11 d12 d13 d14 d15 d16 d17 d18 d19 d20 d21 d22 d23 (p4_jn s))
def g_104 (s : Nat → pd_H) (n q : Nat) : Prop := ∀ d12 d13 d14 d15 d16 d17 d18 d19 d20 d21 d22 d23, gF (L_law_L104 k_lst 1 (nI n) (nI q) d12 d13 d14 d15 d16 d17 d18 d19 d20 d21 d22 d23 (p4_jn s))
section LAWW
variable {s : Nat → pd_H} {Q : Nat → cS} {L : Nat} {xs : Nat → Int32} {A : List Nat} {aI : Nat → Int32}
theorem t_311a (hL : L < 2 ^ 31) (hC : l_C s Q L xs aI A) (hO : s_of (k_row L xs 6) (k_D L xs) A (Q 0)) (hR : s_of (k_row L xs 6) (k_D L xs) [] (Q 1)) {p k i : Nat} (hp : p < A.length) (hk : k < 6) (hi : i < k_sz L xs k) : ∃ s' v no w, (∃ s1 s2, Y_hangs 460 (nI p) (p4_jn s) = some (p4_jn s1, some (pd_i (s_hg (Q 2) p))) ∧ s1 4 = s 4 ∧ Y_without 460 (nI p) (nI k) (nI i) (p4_jn s1) = some (p4_jn s2, some (pd_j w)) ∧ ∃ s3, Y_out 0 (nI p) (p4_jn s2) = some (p4_jn s3, some (pd_i v)) ∧ L_lays 230 (c_one1 p) (p4_jn s3) = some (p4_jn s', some (pd_i no))) ∧ ((0 ≤ v ∧ g_460 s' A.length p (s_hg (Q 2) p) k i w v no 230 0) ∨ (¬ 0 ≤ v ∧ g_460 s' A.length p (s_hg (Q 2) p) k i w v no 460 0)) := by
  have d0 : (0 : Nat) < 4 := by decide
  have d1 : (1 : Nat) < 4 := by decide
  have d2 : (2 : Nat) < 4 := by decide
  have hT := hC.2.2.1
  have hA7 := hC.2.2.2.2.1
  obtain ⟨hw2, hX2, -⟩ := hC.1 2 d2
  obtain ⟨hwO, -, -⟩ := hC.1 0 d0
  have hor : s_or (Q 0) = List.range A.length := hO.2.1.1
  have hor2 : s_or (Q 2) = List.range A.length := hT.2.1.1
  have hm2 : p ∈ s_or (Q 2) := by rw [hor2]; exact List.mem_range.mpr hp
  have hm0 : p ∈ s_or (Q 0) := by rw [hor]; exact List.mem_range.mpr hp
  obtain ⟨s1, a1, a2, a3⟩ := y_hangs d2 hC.1 (nI p) (Z_hangs1 hw2 hX2 hm2) hw2
  rw [qs_self] at a2
  obtain ⟨s2, b1, b2, b3⟩ := y_without d2 a2 (nI p) (nI k) (nI i) (Z_without (a2 2 d2).1 (a2 2 d2).2.1 hm2 (pu_sl_of hk) (l_elt hT.1 hk hi)) (a2 2 d2).1
  rw [qs_self] at b2
  obtain ⟨z1, z2⟩ := Z_out (b2 0 d0).1 (b2 0 d0).2.1 hm0
  obtain ⟨s3, c1, c2, c3⟩ := y_out d0 b2 (nI p) z1 z2
  have h34 : s3 4 = s 4 := c3.trans (b3.trans a3)
  obtain ⟨s4, R, e1, e2, e3⟩ := l_lays hL d1 c2 (hC.2.1.1.of h34) (hC.2.1.2.1.of h34) (aI := aI) (hC.2.1.2.2.of1 (by rw [h34])) (but := c_one1 p) (B := k_row L xs 6) (by rw [qs_n (by decide)]; exact hR)
  rw [hor] at c1 z1 z2 c2 e1
  rw [hor2] at b1
  rw [Nat.mul_zero] at c1
  rw [Nat.mul_one] at e3
  have hl25 : ∀ j ∈ List.range A.length, j < 25 := fun j hj => by have := List.mem_range.mp hj; omega
  have hflt : (List.range 7).filter (k_tk aI (c_one1 p)) = (c_rm (List.range A.length) p).map (fun j => A.getD j 0) := by
    rw [hC.2.2.2.2.2 (c_one1 p), k_wo_rm (by omega) hl25]
  rw [hflt] at e3
  have hlr : ∀ j ∈ c_rm (List.range A.length) p, j < A.length := fun j hj => List.mem_range.mp (c_rm_mem.mp hj).1
  have hsm := hO.some hlr
  have hC4 : ∀ Q4, l_W s4 Q4 → Q4 2 = Q 2 → Q4 3 = Q 3 → l_C s4 Q4 L xs aI A := fun Q4 h4 q2 q3 => hC.of h4 (e2.trans h34) (by rw [q2]; exact hT) q3
  cases hn : (s_play (Q 0) (c_rm (List.range A.length) p)).1 with
  | none =>
    rw [s_go_ok hn] at c1 e1
    rw [hn] at hsm
    rcases e3 with ⟨g1, g2⟩ | ⟨f, -, g2⟩
    · refine ⟨s4, _, 0, _, ⟨s1, s2, a1, a3, b1, s3, c1, g1⟩, ?_⟩
      have ho : s_ord (Q 0) (c_rm (List.range A.length) p) := by
        have := s_ord_rm hwO.2.2.1.1 p
        rw [hor] at this
        exact this
      obtain ⟨m, m1, m2⟩ := s_moved_nI hwO ho
      refine Or.inl ⟨by show 0 ≤ c_moved (Q 0) _; rw [m2]; exact nI_pos' m1, ?_⟩
      have q0 : qs (qs Q 0 (s_to (Q 0) (c_rm (List.range A.length) p) [])) 1 R 0 = s_to (Q 0) (c_rm (List.range A.length) p) [] := by rw [qs_n (by decide), qs_s]
      have q1 : qs (qs Q 0 (s_to (Q 0) (c_rm (List.range A.length) p) [])) 1 R 1 = R := qs_s
      have q2 : qs (qs Q 0 (s_to (Q 0) (c_rm (List.range A.length) p) [])) 1 R 2 = Q 2 := by rw [qs_n (by decide), qs_n (by decide)]
      have q3 : qs (qs Q 0 (s_to (Q 0) (c_rm (List.range A.length) p) [])) 1 R 3 = Q 3 := by rw [qs_n (by decide), qs_n (by decide)]
      exact t_out_a hL (hC4 _ e1 q2 q3) hp hO hwO q0 q1 g2 (by rw [q2]) rfl hk hi hn (by rw [q2])
    · rw [g2] at hsm; cases hsm.1
  | some af =>
    obtain ⟨a, f⟩ := af
    rw [s_go_no hn] at c1 e1
    rw [hn] at hsm
    rcases e3 with ⟨g1, g2⟩ | ⟨f', g1, g2⟩
    · have hwR := (e1 1 d1).1
      rw [qs_s] at hwR
      have := g2.vals.1
      rw [hsm.1, hwR.2.2.2.1] at this
      cases this
    · have hff : f' = f := by
        rw [g2] at hsm
        exact Option.some.inj hsm.1
      subst hff
      refine ⟨s4, _, _, _, ⟨s1, s2, a1, a3, b1, s3, c1, g1⟩, ?_⟩
      have hrng := (c_ply_ne (a := a) (f := f') hn).2.1
      refine Or.inr ⟨of_decide_eq_false (c_err_neg hrng).1, ?_⟩
      have q0 : qs (qs Q 0 (s_ft (Q 0) (nI (a / 6), nI (a % 6), f'))) 1 R 0 = s_ft (Q 0) (nI (a / 6), nI (a % 6), f') := by rw [qs_n (by decide), qs_s]
      have q2 : qs (qs Q 0 (s_ft (Q 0) (nI (a / 6), nI (a % 6), f'))) 1 R 2 = Q 2 := by rw [qs_n (by decide), qs_n (by decide)]
      have q3 : qs (qs Q 0 (s_ft (Q 0) (nI (a / 6), nI (a % 6), f'))) 1 R 3 = Q 3 := by rw [qs_n (by decide), qs_n (by decide)]
      exact t_out_r hL (hC4 _ e1 q2 q3) hp hO hwO (by rw [q2]; exact hw2) q0 (by rw [q2]) rfl hn (by rw [q2])
/-- nothing was laid -/
theorem t_323 (hW : l_W s Q) (h0 : s_or (Q 0) = []) (h1 : s_pc (Q 0) = 0) (d0 d2 d3 d4 d5 d6 d7 d8 d10 d11 d12 d13 d14 d15 d16 d17 d18 d19 d20 d21 d22 d23 : Option pd_V) : gF (L_law_L323 d0 d2 d3 d4 d5 d6 d7 d8 1 d10 d11 d12 d13 d14 d15 d16 d17 d18 d19 d20 d21 d22 d23 (p4_jn s)) := by
  have e0 : (0 : Nat) < 4 := by decide
  obtain ⟨s1, a1, a2, a3⟩ := y_undo e0 hW (Z_undo0 (hW 0 e0).2.1 h0) (hW 0 e0).1
  rw [qs_self] at a2
  obtain ⟨s2, b1, b2, b3⟩ := y_count e0 a2 5 (Z_count5 (a2 0 e0).1 (a2 0 e0).2.1) (a2 0 e0).1
  rw [qs_self] at b2
  obtain ⟨s3, c1, c2, c3⟩ := y_out e0 b2 0 (Z_out0 (b2 0 e0).2.1 h1) (b2 0 e0).1
  rw [Nat.mul_zero] at a1 b1 c1
  rw [s_all_0 h0] at b1
  refine ⟨p4_jn s3, ?_⟩
  rw [L_law_L323_eq, decide_eq_false (by decide : ¬ (1 : Int32) = 0), cond_false, a1, pd_bI_of, decide_eq_true (rfl : (-3 : Int32) = -3), cond_true, b1, pd_bI_of, decide_eq_true (rfl : (0 : Int32) = 0), cond_true, c1, pd_bI_of, decide_eq_true (rfl : (-2 : Int32) = -2), cond_true]
theorem t_311 (hL : L < 2 ^ 31) (hC : l_C s Q L xs aI A) (hO : s_of (k_row L xs 6) (k_D L xs) A (Q 0)) (hR : s_of (k_row L xs 6) (k_D L xs) [] (Q 1)) : g_311 s A.length := by
  intro d9 d11 d12 d13 d14 d15 d16 d17 d18 d19 d20 d21 d22 d23
  have hA7 := hC.2.2.2.2.1
  by_cases h0 : A.length = 0
  · rw [L_law_L311_eq, h0, decide_eq_true (show nI 0 = 0 from rfl), cond_true]
    refine t_323 hC.1 ?_ ?_ _ _ _ _ _ _ _ _ _ _ _ _ _ _ _ _ _ _ _ _ _ _
    · rw [hO.2.1.1, h0]; rfl
    · exact hO.2.1.2.1.trans h0
  · generalize hp : k_lo (k_cell L xs 27) A.length = p
    generalize hk : k_lo (k_cell L xs 28) 6 = k
    generalize hi : k_lo (k_cell L xs 28 >>> (4 &&& 31)) (k_sz L xs k) = i
    have hsz := k_sz_le (L := L) (xs := xs) (k := k)
    have p1 : p < A.length := by rw [← hp]; exact k_lo_lt _ (by omega)
    have k1 : k < 6 := by rw [← hk]; exact k_lo_lt _ (by decide)
    have i1 : i < k_sz L xs k := by rw [← hi]; exact k_lo_lt _ (by omega)
    obtain ⟨s4, v, no, w, ⟨s1, s2, a1, a3, b1, s3, c1, e1⟩, hg⟩ := t_311a hL hC hO hR p1 k1 i1
    have e6 : (6 : Int32) + nI k = nI (6 + k) := nI_add 6 _
    have hM1 := hC.2.1.1.of a3
    have hR1 := hC.2.1.2.1.of a3
    rw [L_law_L311_eq, decide_eq_false (nI_ne0 (by omega) (by omega)), cond_false, decide_eq_false (by decide : ¬ (1 : Int32) = 0), cond_false, l_cell (c := 27) (i := 27) hL hC.2.1.1 rfl (by decide), pd_bI_of, l_low (c := nI A.length) (n := A.length) rfl (by omega) (by omega), pd_bI_of, hp, a1, pd_bI_of, l_cell (c := 28) (i := 28) hL hM1 rfl (by decide), pd_bI_of, l_low (c := 6) (n := 6) rfl (by decide) (by decide), pd_bI_of, hk, l_cell (c := 28) (i := 28) hL hM1 rfl (by decide), pd_bI_of, e6, l_20 (by omega), cond_false, nI_clamp (by omega), l_m, (hR1 _ k1).2, l_low (c := nI (k_sz L xs k)) (n := k_sz L xs k) rfl (by omega) (by omega), pd_bI_of, hi, b1, pd_bJ_of, c1, pd_bI_of]
    have e1 : L_lays 230 ((1 : Int32) <<< (nI p &&& 31)) (p4_jn s3) = some (p4_jn s4, some (pd_i no)) := e1
    rw [e1, pd_bI_of]
    rcases hg with ⟨hv, hg⟩ | ⟨hv, hg⟩
    · rw [decide_eq_true hv, cond_true]
      exact hg _ _ _ _ _ _
    · rw [decide_eq_false hv, cond_false]
      exact hg _ _ _ _ _ _
theorem t_260 (hL : L < 2 ^ 31) (hW : l_W s Q) (hM : l_M s L xs) (hR : l_R s L xs) (hA : l_A s aI 7) (hA7 : A.length ≤ 7) (hbut : ∀ but, (List.range 7).filter (k_tk aI but) = (c_wo but (List.range A.length)).map (fun j => A.getD j 0)) (hO : s_of (k_row L xs 6) (k_D L xs) A (Q 0)) (h1 : s_of (k_row L xs 6) (k_D L xs) [] (Q 1)) (h2 : s_of (k_row L xs 6) (k_D L xs) [] (Q 2)) (h3 : s_of (k_row L xs 6) (k_D L xs) [] (Q 3)) : g_260 s A.length := by
  intro d11 d12 d13 d14 d15 d16 d17 d18 d19 d20 d21 d22 d23
  have d0 : (0 : Nat) < 4 := by decide
  have d2 : (2 : Nat) < 4 := by decide
  have hl25 : ∀ j ∈ List.range A.length, j < 25 := fun j hj => by have := List.mem_range.mp hj; omega
  have e0 : c_wo 0 (List.range A.length) = List.range A.length := by
    unfold c_wo
    exact List.filter_eq_self.mpr (fun x hx => by rw [c_has_0 (hl25 x hx)]; rfl)
  have hflt : (List.range 7).filter (k_tk aI 0) = A := by rw [hbut 0, e0, k_getD]
  obtain ⟨s1, T, a1, a2, a3⟩ := l_lays hL d2 hW hM hR hA (but := 0) (B := k_row L xs 6) h2
  rw [hflt] at a3
  have hov := hO.vals
  rcases a3 with ⟨b1, hT⟩ | ⟨f, -, hf⟩
  · have hq0 : qs Q 2 T 0 = Q 0 := qs_n (by decide)
    have zc := Z_count1 (a1 0 d0).2.1
    obtain ⟨s2, c1, c2, c3⟩ := y_count d0 a1 1 zc (a1 0 d0).1
    rw [qs_self] at c2
    have zp := Z_count0 (c2 2 d2).2.1
    obtain ⟨s3, f1, f2, f3⟩ := y_count d2 c2 0 zp (c2 2 d2).1
    rw [qs_self] at f2
    have hs3 : s3 4 = s 4 := f3.trans (c3.trans a2)
    have htv := hT.vals
    have hag : l_ag L xs (qs Q 2 T 0) (qs Q 2 T 2) := by
      rw [hq0, qs_s]
      exact l_ag_of (hO.1.1.trans hT.1.1.symm) (hO.1.2.1.trans hT.1.2.1.symm) (hov.2.1.symm.trans htv.2.1) (hov.2.2.1.symm.trans htv.2.2.1)
    obtain ⟨s4, m1, m2, g1, g2, g3⟩ := l_alike d0 d2 (by decide) f2 (hR.of hs3) hag
    rw [hq0, Nat.mul_zero] at c1
    rw [qs_s] at f1
    rw [Nat.mul_zero] at g1
    have b1 : L_lays 460 0 (p4_jn s) = some (p4_jn s1, some (pd_i 0)) := b1
    have f1 : Y_count 460 0 (p4_jn s2) = some (p4_jn s3, some (pd_i (nI (s_pc T)))) := f1
    have g1 : L_alike 0 460 (p4_jn s3) = some (p4_jn s4, some (pd_i 1)) := g1
    have e1 : nI (s_or (Q 0)).length = nI A.length := by rw [hO.2.1.1, List.length_range]
    have e2 : nI (s_pc T) = nI A.length := by rw [hT.2.1.2.1]
    rw [L_law_L260_eq, decide_eq_false (by decide : ¬ (1 : Int32) = 0), cond_false, b1, pd_bI_of, decide_eq_true (rfl : (0 : Int32) = 0), cond_true, c1, pd_bI_of, decide_eq_true e1, cond_true, f1, pd_bI_of, decide_eq_true e2, cond_true, g1, pd_bI_of, decide_eq_false (by decide : ¬ (1 : Int32) = 0), cond_false]
    have hs4 : s4 4 = s 4 := g3.trans hs3
    have q0 : q2 (qs Q 2 T) 0 2 m1 m2 0 = s_md (Q 0) m1 := by rw [q2_d (by decide), hq0]
    have q1 : q2 (qs Q 2 T) 0 2 m1 m2 1 = Q 1 := by rw [q2_n (by decide) (by decide), qs_n (by decide)]
    have q2' : q2 (qs Q 2 T) 0 2 m1 m2 2 = s_md T m2 := by rw [q2_e, qs_s]
    have q3 : q2 (qs Q 2 T) 0 2 m1 m2 3 = Q 3 := by rw [q2_n (by decide) (by decide), qs_n (by decide)]
    exact t_311 hL (aI := aI) (A := A) ⟨g2, ⟨hM.of hs4, hR.of hs4, hA.of1 (by rw [hs4])⟩, by rw [q2']; exact hT.md m2, by rw [q3]; exact h3, hA7, hbut⟩ (by rw [q0]; exact hO.md m1) (by rw [q1]; exact h1) _ _ _ _ _ _ _ _ _ _ _ _ _ _
  · have := hov.1
    rw [hf, (hW 0 d0).1.2.2.2.1] at this
    cases this
/-! which drafts are laid -/
def k_A (L : Nat) (xs : Nat → Int32) : Nat → List Nat
  | 0 => []
  | q + 1 => cond (k_F (k_row L xs 6) (k_D L xs) (k_A L xs q ++ [q])).1.isNone (k_A L xs q ++ [q]) (k_A L xs q)
def k_aI (L : Nat) (xs : Nat → Int32) (q : Nat) : Int32 := cond (k_F (k_row L xs 6) (k_D L xs) (k_A L xs q ++ [q])).1.isNone (nI (k_A L xs q).length) (-1)
theorem k_A_len : ∀ q, (k_A L xs q).length ≤ q
  | 0 => Nat.le_refl 0
  | q + 1 => by
    show (cond _ (k_A L xs q ++ [q]) (k_A L xs q)).length ≤ q + 1
    have := k_A_len q
    cases (k_F (k_row L xs 6) (k_D L xs) (k_A L xs q ++ [q])).1.isNone with
    | true => rw [cond_true, List.length_append, List.length_singleton]; omega
    | false => rw [cond_false]; omega
theorem k_A_tk (but : Int32) : ∀ q, q ≤ 7 → (List.range q).filter (k_tk (k_aI L xs) but) = (c_wo but (List.range (k_A L xs q).length)).map (fun j => (k_A L xs q).getD j 0) := by
  intro q
  induction q with
  | zero => intro _; rfl
  | succ q ih =>
    intro hq
    have hlen := k_A_len (L := L) (xs := xs) q
    have eA : k_A L xs (q + 1) = cond (k_F (k_row L xs 6) (k_D L xs) (k_A L xs q ++ [q])).1.isNone (k_A L xs q ++ [q]) (k_A L xs q) := rfl
    have ea : k_aI L xs q = cond (k_F (k_row L xs 6) (k_D L xs) (k_A L xs q ++ [q])).1.isNone (nI (k_A L xs q).length) (-1) := rfl
    rw [k_flt_succ, ih (by omega), eA]
    unfold k_tk
    rw [ea]
    cases (k_F (k_row L xs 6) (k_D L xs) (k_A L xs q ++ [q])).1.isNone with
    | false =>
      rw [cond_false, cond_false, decide_eq_true (by decide : (-1 : Int32) < 0)]
      exact List.append_nil _
    | true =>
      rw [cond_true, cond_true, decide_eq_false (nI_pos (by omega)), List.length_append, List.length_singleton, List.range_succ]
      unfold c_wo
      rw [List.filter_append, List.map_append]
      congr 1
      · refine List.map_congr_left (fun j hj => ?_)
        have hj := List.mem_range.mp (List.mem_filter.mp hj).1
        rw [List.getD_eq_getElem?_getD, List.getD_eq_getElem?_getD, List.getElem?_append_left hj]
      · have eg : (k_A L xs q ++ [q]).getD (k_A L xs q).length 0 = q := by
          rw [List.getD_eq_getElem?_getD, List.getElem?_append_right (Nat.le_refl _), Nat.sub_self]
          rfl
        cases hb : c_has but (nI (k_A L xs q).length) with
        | true => rw [List.filter_cons_of_neg (by rw [hb]; decide)]; rfl
        | false =>
          rw [List.filter_cons_of_pos (by rw [hb]; rfl)]
          show [q] = [(k_A L xs q ++ [q]).getD (k_A L xs q).length 0]
          rw [eg]
theorem k_neg15 {f : Int32} (h : c_rng f) (h0 : f ≠ 0) : (-10 - f : Int32) < 0 ∧ ¬ (-11 : Int32) < -10 - f ∧ ¬ (-10 - f : Int32) < -15 := by
  obtain ⟨g, h1, rfl⟩ := h
  have : ∀ g, g < 6 → nI g ≠ 0 → (-10 - nI g : Int32) < 0 ∧ ¬ (-11 : Int32) < -10 - nI g ∧ ¬ (-10 - nI g : Int32) < -15 := by decide +kernel
  exact this g h1 h0
/-- the desks as the loop of the drafts leaves them -/
def l_P (s : Nat → pd_H) (Q : Nat → cS) (L : Nat) (xs : Nat → Int32) (q : Nat) : Prop := l_W s Q ∧ (l_M s L xs ∧ l_R s L xs ∧ l_A s (k_aI L xs) q) ∧ s_of (k_row L xs 6) (k_D L xs) (k_A L xs q) (Q 0) ∧ s_of (k_row L xs 6) (k_D L xs) [] (Q 1) ∧ s_of (k_row L xs 6) (k_D L xs) [] (Q 2) ∧ s_of (k_row L xs 6) (k_D L xs) [] (Q 3)
theorem t_151 (hL : L < 2 ^ 31) {q : Nat} (hq : q < 7) (hP : l_P s Q L xs q) : ∃ s' Q', l_P s' Q' L xs (q + 1) ∧ ∀ l12 d13 d14 d15 d16 d17 d18 d19 d20 d21 d22 d23, ∃ d12' d13' d14' d15' d16' d17' d18' d19' d20' d21' d22' d23', L_law_L104 k_lst 1 (nI (k_A L xs q).length) (nI q) l12 d13 d14 d15 d16 d17 d18 d19 d20 d21 d22 d23 (p4_jn s) = L_law_L104 k_lst 1 (nI (k_A L xs (q + 1)).length) (nI (q + 1)) d12' d13' d14' d15' d16' d17' d18' d19' d20' d21' d22' d23' (p4_jn s') := by
  obtain ⟨hW, ⟨hM, hR, hA⟩, hO, h1, h2, h3⟩ := hP
  have d0 : (0 : Nat) < 4 := by decide
  have hlen := k_A_len (L := L) (xs := xs) q
  have e12 : (12 : Int32) + nI q = nI (12 + q) := nI_add 12 _
  obtain ⟨s1, a1, a2, a3⟩ := l_draft hL d0 hW hM hR hq hO.2.2.1
  rw [Nat.mul_zero] at a1
  have ho3 := hO.add3 (q := q) (by omega)
  generalize hS3 : s_add (s_add (s_add (Q 0) (k_D L xs q 0)) (k_D L xs q 1)) (k_D L xs q 2) = S3 at a2 ho3
  obtain ⟨hw3, hX3, -⟩ := a2 0 d0
  rw [qs_s] at hw3 hX3
  have hpc : s_pc S3 = (k_A L xs q).length := ho3.2.1.2.1
  obtain ⟨z1, z2⟩ := Z_lay0 hw3 hX3 (by rw [ho3.2.2.1.1]; decide) (by omega)
  have hly : (k_F (k_row L xs 6) (k_D L xs) (k_A L xs q ++ [q])).1 = (s_ly S3).1.map Prod.snd := ho3.ly hw3
  have eA : k_A L xs (q + 1) = cond (k_F (k_row L xs 6) (k_D L xs) (k_A L xs q ++ [q])).1.isNone (k_A L xs q ++ [q]) (k_A L xs q) := rfl
  have ea : k_aI L xs q = cond (k_F (k_row L xs 6) (k_D L xs) (k_A L xs q ++ [q])).1.isNone (nI (k_A L xs q).length) (-1) := rfl
  -- the place of the row of ints
  have put : ∀ (s2 : Nat → pd_H) (Q2 : Nat → cS) (v : Int32), l_W s2 Q2 → s2 4 = s 4 → v = k_aI L xs q → l_W (p4_pt s2 4 (pd_upI (s2 4) 0 (12 + q) v)) Q2 ∧ l_M (p4_pt s2 4 (pd_upI (s2 4) 0 (12 + q) v)) L xs ∧ l_R (p4_pt s2 4 (pd_upI (s2 4) 0 (12 + q) v)) L xs ∧ l_A (p4_pt s2 4 (pd_upI (s2 4) 0 (12 + q) v)) (k_aI L xs) (q + 1) := fun s2 Q2 v w1 w2 w3 => by
    refine ⟨w1.at4 _, ?_, ?_, ?_⟩
    · unfold l_M
      rw [p4_ptd, pu_u1n (by decide), pu_u1n (by decide), w2]
      exact hM
    · intro k hk
      rw [p4_ptd, pu_u1s, pk_un (by omega), pk_un (by omega), w2]
      exact hR k hk
    · intro j hj
      rw [p4_ptd, pu_u1s]
      by_cases e : j = q
      · subst e; rw [pk_us]; exact w3
      · rw [pk_un (by omega), w2]
        exact hA j (by omega)
  cases hr : (s_ly S3).1 with
  | none =>
    rw [hr] at hly
    rw [hly] at eA ea
    have eA : k_A L xs (q + 1) = k_A L xs q ++ [q] := eA
    have ea : k_aI L xs q = nI (k_A L xs q).length := ea
    obtain ⟨y1, y2⟩ := z1 hr
    obtain ⟨s2, b1, b2, b3⟩ := y_lay d0 a2 y1 y2
    rw [qs_qs] at b2
    rw [Nat.mul_zero, hpc] at b1
    obtain ⟨p1, p2, p3, p4⟩ := put s2 _ (nI (k_A L xs q).length) b2 (b3.trans a3) ea.symm
    refine ⟨_, _, ⟨p1, ⟨p2, p3, p4⟩, by rw [qs_s, eA]; exact ho3.lay (by omega) _, by rw [qs_n (by decide)]; exact h1, by rw [qs_n (by decide)]; exact h2, by rw [qs_n (by decide)]; exact h3⟩, fun l12 d13 d14 d15 d16 d17 d18 d19 d20 d21 d22 d23 => ?_⟩
    have el : (k_A L xs (q + 1)).length = (k_A L xs q).length + 1 := by rw [eA, List.length_append]; rfl
    have hneg : decide (nI (k_A L xs q).length < 0) = false := decide_eq_false (nI_pos (by omega))
    rw [L_law_L104_eq, decide_eq_false (show ¬ (7 : Int32) ≤ nI q from nI_ge hq (by decide)), cond_false, decide_eq_false (by decide : ¬ (1 : Int32) = 0), cond_false, a1, pd_bI_of, b1, pd_bI_of, hneg, cond_false, L_law_L151_eq, e12, l_20 (by omega), cond_false, decide_eq_false (by decide : ¬ (1 : Int32) = 0), cond_false, hneg, cond_false, decide_eq_true (Eq.refl (nI (k_A L xs q).length)), cond_true, nI_clamp (by omega), p4_up4, L_law_L237_eq, hneg, cond_false, nI_1, nI_1, el]
    exact ⟨_, _, _, _, _, _, _, _, _, _, _, _, rfl⟩
  | some kf =>
    obtain ⟨k', f⟩ := kf
    rw [hr] at hly
    rw [hly] at eA ea
    have eA : k_A L xs (q + 1) = k_A L xs q := eA
    have ea : k_aI L xs q = -1 := ea
    have hly : (k_F (k_row L xs 6) (k_D L xs) (k_A L xs q ++ [q])).1 = some f := hly
    have hrng := p_rng hly
    obtain ⟨n1, n2, n3⟩ := k_neg15 hrng.2 hrng.1
    obtain ⟨y1, y2⟩ := z2 k' f hr
    obtain ⟨s2, b1, b2, b3⟩ := y_lay d0 a2 y1 y2
    rw [qs_qs] at b2
    rw [Nat.mul_zero] at b1
    obtain ⟨p1, p2, p3, p4⟩ := put s2 _ (-1) b2 (b3.trans a3) ea.symm
    generalize hs3 : p4_pt s2 4 (pd_upI (s2 4) 0 (12 + q) (-1)) = s3 at p1 p2 p3 p4
    have hft := ho3.ft (s_ly S3).2 (24, nI k', f)
    generalize hS4 : s_ft (s_md S3 (s_ly S3).2) (24, nI k', f) = S4 at p1 hft
    have hfl : s_fl S4 = (24, nI k', f) := by rw [← hS4]; rfl
    obtain ⟨hw4, hX4, -⟩ := p1 0 d0
    rw [qs_s] at hw4 hX4
    have zf0 := Z_fault0 (p1 0 d0).2.1
    obtain ⟨s4, c1, c2, c3⟩ := y_fault d0 p1 0 zf0 (p1 0 d0).1
    rw [qs_self] at c2
    have zf2 := Z_fault2 (c2 0 d0).2.1
    obtain ⟨s5, e1, e2, e3⟩ := y_fault d0 c2 2 zf2 (c2 0 d0).1
    rw [qs_self] at e2
    have hX5 := (e2 0 d0).2.1
    rw [qs_s] at hX5
    obtain ⟨zd1, zd2⟩ := Z_drop hw4 hX5 (n := 2) hft.2.2.1.1
    have zd1' : zd X_drop (s5 0) (nI 2) (s_drop S4 2) := zd1
    obtain ⟨s6, f1, f2, f3⟩ := y_drop d0 e2 zd1' zd2
    rw [qs_qs] at f2
    have hX6 := (f2 0 d0).2.1
    rw [qs_s] at hX6
    obtain ⟨ze1, ze2⟩ := Z_drop zd2 hX6 (n := 1) (by show c_updN (s_ln S4) 24 2 24 = 2; exact c_updN_s)
    obtain ⟨s7, g1, g2, g3⟩ := y_drop d0 f2 ze1 ze2
    rw [qs_qs] at g2
    have hX7 := (g2 0 d0).2.1
    rw [qs_s] at hX7
    obtain ⟨zg1, zg2⟩ := Z_drop ze2 hX7 (n := 0) (by show c_updN (s_ln (s_drop S4 2)) 24 1 24 = 1; exact c_updN_s)
    obtain ⟨s8, j1, j2, j3⟩ := y_drop d0 g2 zg1 zg2
    rw [qs_qs] at j2
    rw [Nat.mul_zero] at c1 e1 f1 g1 j1
    rw [qs_s, hfl] at c1 e1
    have hs8 : s8 4 = s3 4 := j3.trans (g3.trans (f3.trans (e3.trans c3)))
    refine ⟨s8, _, ⟨j2, ⟨p2.of hs8, p3.of hs8, by unfold l_A; rw [hs8]; exact p4⟩, by rw [qs_s, eA]; exact hft.drop3 (by omega), by rw [qs_n (by decide)]; exact h1, by rw [qs_n (by decide)]; exact h2, by rw [qs_n (by decide)]; exact h3⟩, fun l12 d13 d14 d15 d16 d17 d18 d19 d20 d21 d22 d23 => ?_⟩
    have hneg : decide (-10 - f < 0) = true := decide_eq_true n1
    rw [L_law_L104_eq, decide_eq_false (show ¬ (7 : Int32) ≤ nI q from nI_ge hq (by decide)), cond_false, decide_eq_false (by decide : ¬ (1 : Int32) = 0), cond_false, a1, pd_bI_of, b1, pd_bI_of, hneg, cond_true, L_law_L151_eq, e12, l_20 (by omega), cond_false, decide_eq_false (by decide : ¬ (1 : Int32) = 0), cond_false, hneg, cond_true, decide_eq_false n2, cond_false, decide_eq_false n3, cond_false, nI_clamp (by omega), p4_up4, hs3, c1, pd_bI_of, decide_eq_true (Eq.refl (24 : Int32)), cond_true, e1, pd_bI_of, decide_eq_true (k_back hrng.2), cond_true, f1, pd_bI_of, decide_eq_true (show nI 2 = 2 from rfl), cond_true, g1, pd_bI_of, decide_eq_true (show nI 1 = 1 from rfl), cond_true, j1, pd_bI_of, decide_eq_true (show nI 0 = 0 from rfl), cond_true, L_law_L237_eq, hneg, cond_true, nI_1, eA, Int32.add_zero]
    exact ⟨_, _, _, _, _, _, _, _, _, _, _, _, rfl⟩
theorem t_104 (hL : L < 2 ^ 31) : ∀ (r : Nat) (s : Nat → pd_H) (Q : Nat → cS) (q : Nat), q + r = 7 → l_P s Q L xs q → g_104 s (k_A L xs q).length q := by
  intro r
  induction r with
  | zero =>
    intro s Q q hq hP
    intro d12 d13 d14 d15 d16 d17 d18 d19 d20 d21 d22 d23
    have hq : q = 7 := hq
    subst hq
    obtain ⟨hW, ⟨hM, hR, hA⟩, hO, h1, h2, h3⟩ := hP
    rw [L_law_L104_eq, decide_eq_true (by decide : (7 : Int32) ≤ nI 7), cond_true]
    exact t_260 hL hW hM hR hA (k_A_len 7) (fun but => k_A_tk but 7 (Nat.le_refl 7)) hO h1 h2 h3 _ _ _ _ _ _ _ _ _ _ _ _ _
  | succ r ih =>
    intro s Q q hq hP
    intro d12 d13 d14 d15 d16 d17 d18 d19 d20 d21 d22 d23
    obtain ⟨s', Q', hP', h⟩ := t_151 hL (q := q) (by omega) hP
    obtain ⟨e12, e13, e14, e15, e16, e17, e18, e19, e20, e21, e22, e23, he⟩ := h d12 d13 d14 d15 d16 d17 d18 d19 d20 d21 d22 d23
    rw [he]
    exact ih s' Q' (q + 1) (by omega) hP' _ _ _ _ _ _ _ _ _ _ _ _
/-- from four fresh desks on the law comes to true -/
theorem l_law (hL : L < 2 ^ 31) (hW : l_W s (fun _ => s_00)) (hM : l_M s L xs) (d7 d8 d9 d10 d11 d12 d13 d14 d15 d16 d17 d18 d19 d20 d21 d22 d23 : Option pd_V) : gF (L_law_L45 d7 d8 d9 d10 d11 d12 d13 d14 d15 d16 d17 d18 d19 d20 d21 d22 d23 (p4_jn s)) := by
  obtain ⟨s1, a1, a2, a3, -⟩ := l_rows hL (by decide : (0 : Nat) < 4) hW hM rfl
  obtain ⟨s2, b1, b2, b3, -⟩ := l_rows hL (by decide : (1 : Nat) < 4) a2 a3 (qs_n (by decide))
  obtain ⟨s3, c1, c2, c3, -⟩ := l_rows hL (by decide : (2 : Nat) < 4) b2 b3 (by rw [qs_n (by decide), qs_n (by decide)])
  obtain ⟨s4, e1, e2, e3, e4⟩ := l_rows hL (by decide : (3 : Nat) < 4) c2 c3 (by rw [qs_n (by decide), qs_n (by decide), qs_n (by decide)])
  rw [Nat.mul_zero] at a1
  rw [Nat.mul_one] at b1
  have c1 : L_rows 460 (p4_jn s2) = some (p4_jn s3, some (pd_i 1)) := c1
  have e1 : L_rows 690 (p4_jn s3) = some (p4_jn s4, some (pd_i 1)) := e1
  have n1 : decide ((1 : Int32) = 0) = false := decide_eq_false (by decide)
  rw [L_law_L45_eq, a1, pd_bI_of, n1, cond_false, b1, pd_bI_of, n1, cond_false, c1, pd_bI_of, n1, cond_false, e1, pd_bI_of, n1, cond_false]
  have hB : s_of (k_row L xs 6) (k_D L xs) [] (k_row L xs 6) := ⟨⟨rfl, rfl, rfl, rfl⟩, ⟨rfl, rfl, rfl⟩, rfl, fun j x hx => by cases hx⟩
  refine t_104 hL 7 s4 _ 0 rfl ⟨e2, ⟨e3, e4, fun j hj => absurd hj (Nat.not_lt_zero j)⟩, ?_, ?_, ?_, ?_⟩ _ _ _ _ _ _ _ _ _ _ _ _
  · rw [qs_n (by decide), qs_n (by decide), qs_n (by decide), qs_s]; exact hB
  · rw [qs_n (by decide), qs_n (by decide), qs_s]; exact hB
  · rw [qs_n (by decide), qs_s]; exact hB
  · rw [qs_s]; exact hB
end LAWW
