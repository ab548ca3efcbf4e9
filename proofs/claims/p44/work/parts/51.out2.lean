/-! The law's middle: a patch is taken out. -/
section OUT2
variable {s : Nat → pd_H} {Q : Nat → cS} {L : Nat} {xs : Nat → Int32} {A : List Nat} {aI : Nat → Int32} {n p k i : Nat} {h v : Int32} {w : Int64}
theorem t_523a (hW : l_W s Q) (hk : k < 6) (hw : w = s_rd (Q 0) (nI k) 8 (nI i)) (hv : 0 ≤ v) (hz : h = 0 → v = 0) (hn : ∀ s' m, l_W s' (qs Q 0 (s_md (Q 0) m)) → s' 4 = s 4 → g_573 s' n p h v 0) : g_523 s n p h k i w v := by
  intro d9 d18 d19 d20 d21 d22 d23
  have d0 : (0 : Nat) < 4 := by decide
  obtain ⟨z1, z2⟩ := Z_get (hW 0 d0).1 (hW 0 d0).2.1 (pu_sl_of hk) (nI i)
  obtain ⟨s1, a1, a2, a3⟩ := y_get d0 hW (nI k) 8 (nI i) z1 z2
  rw [Nat.mul_zero] at a1
  rw [L_law_L523_eq, decide_eq_true hv, cond_true, a1, pd_bJ_of]
  exact t_549 (hn s1 _ a2 a3) hw hz _ _ _ _ _ _ _ _ _ _ _
theorem t_523r (hw : w = c_lerr v) (hv : ¬ 0 ≤ v) (hz : h = 0 → v = 0) (hn : g_573 s n p h v 0) : g_523 s n p h k i w v := by
  intro d9 d18 d19 d20 d21 d22 d23
  rw [L_law_L523_eq, decide_eq_false hv, cond_false]
  exact t_549 hn hw hz _ _ _ _ _ _ _ _ _ _ _
theorem t_460a (hW : l_W s Q) (hR : l_R s L xs) (hag : l_ag L xs (Q 0) (Q 1)) (hv : 0 ≤ v) (hlen : (s_or (Q 0)).length + 1 = n) (hn : ∀ s' m1 m2, l_W s' (q2 Q 0 1 m1 m2) → s' 4 = s 4 → g_523 s' n p h k i w v) : g_460 s n p h k i w v 0 230 0 := by
  intro d9 d19 d20 d21 d22 d23
  have d0 : (0 : Nat) < 4 := by decide
  obtain ⟨s1, m1, m2, a1, a2, a3⟩ := l_alike d0 (by decide : (1 : Nat) < 4) (by decide) hW hR hag
  have zc := Z_count1 (a2 0 d0).2.1
  obtain ⟨s2, b1, b2, b3⟩ := y_count d0 a2 1 zc (a2 0 d0).1
  rw [qs_self] at b2
  rw [Nat.mul_zero, Nat.mul_one] at a1
  rw [Nat.mul_zero, q2_d (by decide)] at b1
  have e : nI (s_or (s_md (Q 0) m1)).length = nI n - 1 := by
    show nI (s_or (Q 0)).length = nI n - 1
    rw [← hlen, nI_pred]
  rw [L_law_L460_eq, a1, pd_bI_of, decide_eq_false (by decide : ¬ (1 : Int32) = 0), cond_false, decide_eq_true hv, cond_true, decide_eq_true (rfl : (0 : Int32) = 0), cond_true, b1, pd_bI_of, decide_eq_true e, cond_true]
  exact hn s2 m1 m2 b2 (b3.trans a3) _ _ _ _ _ _ _
theorem t_460r (hW : l_W s Q) (hR : l_R s L xs) (hag : l_ag L xs (Q 0) (Q 2)) (hv : ¬ 0 ≤ v) (hf : (s_fl (Q 0)).2.2 = -10 - v) (hlen : (s_or (Q 0)).length = n) (hn : ∀ s' m1 m2, l_W s' (q2 Q 0 2 m1 m2) → s' 4 = s 4 → g_523 s' n p h k i w v) : g_460 s n p h k i w v v 460 0 := by
  intro d9 d19 d20 d21 d22 d23
  have d0 : (0 : Nat) < 4 := by decide
  obtain ⟨s1, m1, m2, a1, a2, a3⟩ := l_alike d0 (by decide : (2 : Nat) < 4) (by decide) hW hR hag
  have zf := Z_fault2 (a2 0 d0).2.1
  obtain ⟨s2, b1, b2, b3⟩ := y_fault d0 a2 2 zf (a2 0 d0).1
  rw [qs_self] at b2
  have zc := Z_count1 (b2 0 d0).2.1
  obtain ⟨s3, c1, c2, c3⟩ := y_count d0 b2 1 zc (b2 0 d0).1
  rw [qs_self] at c2
  rw [Nat.mul_zero] at a1
  rw [Nat.mul_zero, q2_d (by decide)] at b1 c1
  have a1 : L_alike 0 460 (p4_jn s) = some (p4_jn s1, some (pd_i 1)) := a1
  have e1 : (s_fl (s_md (Q 0) m1)).2.2 = -10 - v := hf
  have e2 : nI (s_or (s_md (Q 0) m1)).length = nI n := by
    show nI (s_or (Q 0)).length = nI n
    rw [hlen]
  rw [L_law_L460_eq, a1, pd_bI_of, decide_eq_false (by decide : ¬ (1 : Int32) = 0), cond_false, decide_eq_false hv, cond_false, decide_eq_true (Eq.refl v), cond_true, b1, pd_bI_of, decide_eq_true e1, cond_true, c1, pd_bI_of, decide_eq_true e2, cond_true]
  exact hn s3 m1 m2 c2 (c3.trans (b3.trans a3)) _ _ _ _ _ _ _
theorem k_back {f : Int32} (h : c_rng f) : f = -10 - (-10 - f) := by
  obtain ⟨g, h1, rfl⟩ := h
  have : ∀ g, g < 6 → nI g = -10 - (-10 - nI g) := by decide +kernel
  exact this g h1
theorem l_C.of (hC : l_C s Q L xs aI A) {s' : Nat → pd_H} {Q' : Nat → cS} (h : l_W s' Q') (e : s' 4 = s 4) (h2 : s_of (k_row L xs 6) (k_D L xs) A (Q' 2)) (h3 : Q' 3 = Q 3) : l_C s' Q' L xs aI A := ⟨h, ⟨hC.2.1.1.of e, hC.2.1.2.1.of e, hC.2.1.2.2.of1 (by rw [e])⟩, h2, by rw [h3]; exact hC.2.2.2.1, hC.2.2.2.2⟩
/-- no finding: o is like r -/
theorem t_out_a (hL : L < 2 ^ 31) (hC : l_C s Q L xs aI A) {O R : cS} (hp : p < A.length) (hO : s_of (k_row L xs 6) (k_D L xs) A O) (hwO : s_wf O) (h0 : Q 0 = s_to O (c_rm (List.range A.length) p) []) (h1 : Q 1 = R) (hRo : s_of (k_row L xs 6) (k_D L xs) ((c_rm (List.range A.length) p).map (fun j => A.getD j 0)) R) (hh : h = s_hg (Q 2) p) (hv : v = c_moved O (c_rm (List.range A.length) p)) (hk : k < 6) (hi : i < k_sz L xs k) (hn : (s_play O (c_rm (List.range A.length) p)).1 = none) (hw : w = s_wo (Q 2) (c_rm (List.range A.length) p) (c_cell (nI k) (nI i))) : g_460 s A.length p h k i w v 0 230 0 := by
  have hor : s_or O = List.range A.length := hO.2.1.1
  have hlr : ∀ j ∈ c_rm (List.range A.length) p, j < A.length := fun j hj => List.mem_range.mp (c_rm_mem.mp hj).1
  have hord : s_ord O (c_rm (List.range A.length) p) := by
    have := s_ord_rm hwO.2.2.1.1 p
    rw [hor] at this
    exact this
  have hv0 : 0 ≤ v := by
    obtain ⟨m, m1, m2⟩ := s_moved_nI hwO hord
    rw [hv, m2]
    exact nI_pos' m1
  have hA7 := hC.2.2.2.2.1
  have hsm := hO.some hlr
  have hrv := hRo.vals
  have hag : l_ag L xs (Q 0) (Q 1) := by
    rw [h0, h1]
    exact l_ag_of (hO.1.1.trans hRo.1.1.symm) (hO.1.2.1.trans hRo.1.2.1.symm) (hsm.2.1.symm.trans hrv.2.1) (hsm.2.2.symm.trans hrv.2.2.1)
  have hsame := hC.2.2.1.same hO hlr
  have hhg := hC.2.2.1.hg hO p
  have hm : p ∈ s_or O := by rw [hor]; exact List.mem_range.mpr hp
  have hz : h = 0 → v = 0 := fun e => by
    have e0 : s_hg O p = 0 := by rw [← hhg, ← hh]; exact e
    have := (s_out_0 hwO hm e0).2
    rw [hor] at this
    rw [hv]; exact this
  have hrl : (c_rm (List.range A.length) p).length + 1 = A.length := by
    obtain ⟨n, hn⟩ : ∃ n, A.length = n + 1 := ⟨A.length - 1, by omega⟩
    rw [hn, k_rm_range (by omega), List.length_map, List.length_range]
  have hbl : l_bl L xs p (s_to O (c_rm (List.range A.length) p) []) R := by
    intro k hk i hi
    refine ⟨?_, s_out_since hO hRo _⟩
    rw [l_blame (S := s_to O (c_rm (List.range A.length) p) []) hO.1 hk hi, l_blame hRo.1 hk hi]
    show (s_play O (c_rm (List.range A.length) p)).2.2.2.1 _ = _
    rw [s_out_wr hO hA7 hp, hrv.2.2.2]
  refine t_460a hC.1 hC.2.1.2.1 hag hv0 (by rw [h0]; exact hrl) (fun s1 m1 m2 a1 a2 => ?_)
  refine t_523a a1 hk ?_ hv0 hz (fun s2 m b1 b2 => ?_)
  · rw [q2_d (by decide), h0, hw]
    show s_wo (Q 2) (c_rm (List.range A.length) p) (c_cell (nI k) (nI i)) = s_rd (s_to O (c_rm (List.range A.length) p) []) (nI k) 8 (nI i)
    rw [l_rd (S := s_to O (c_rm (List.range A.length) p) []) hO.1 hk hi, s_wo_ok (by rw [hsame]; exact hn), hsame]
    rfl
  · have c2 : qs (q2 Q 0 1 m1 m2) 0 (s_md (q2 Q 0 1 m1 m2 0) m) 2 = Q 2 := by rw [qs_n (by decide), q2_n (by decide) (by decide)]
    have c3 : qs (q2 Q 0 1 m1 m2) 0 (s_md (q2 Q 0 1 m1 m2 0) m) 3 = Q 3 := by rw [qs_n (by decide), q2_n (by decide) (by decide)]
    have c0 : qs (q2 Q 0 1 m1 m2) 0 (s_md (q2 Q 0 1 m1 m2 0) m) 0 = s_md (s_to O (c_rm (List.range A.length) p) []) m := by rw [qs_s, q2_d (by decide), h0]; rfl
    have c1 : qs (q2 Q 0 1 m1 m2) 0 (s_md (q2 Q 0 1 m1 m2 0) m) 1 = s_md R m2 := by rw [qs_n (by decide), q2_e, h1]
    have hC2 := hC.of b1 (b2.trans a2) (by rw [c2]; exact hC.2.2.1) c3
    refine t_573a hL hC2 hp (by rw [c2]; exact hh) (fun q => absurd (Int32.lt_of_le_of_lt hv0 q) Int32.lt_irrefl) (by rw [c0]; exact hO.1) (by rw [c1]; exact hRo.1) (by rw [c0, c1]; exact hbl) 6 s2 0 rfl b1 rfl
/-- refused: o is like t, and r is refused alike -/
theorem t_out_r (hL : L < 2 ^ 31) (hC : l_C s Q L xs aI A) {O : cS} (hp : p < A.length) (hO : s_of (k_row L xs 6) (k_D L xs) A O) (hwO : s_wf O) (hw2 : s_wf (Q 2)) {a : Nat} {f : Int32} (h0 : Q 0 = s_ft O (nI (a / 6), nI (a % 6), f)) (hh : h = s_hg (Q 2) p) (hv : v = -10 - f) (hn : (s_play O (c_rm (List.range A.length) p)).1 = some (a, f)) (hw : w = s_wo (Q 2) (c_rm (List.range A.length) p) (c_cell (nI k) (nI i))) : g_460 s A.length p h k i w v v 460 0 := by
  have hor : s_or O = List.range A.length := hO.2.1.1
  have hlr : ∀ j ∈ c_rm (List.range A.length) p, j < A.length := fun j hj => List.mem_range.mp (c_rm_mem.mp hj).1
  have hrng := (c_ply_ne (a := a) (f := f) hn).2.1
  have hneg := c_err_neg hrng
  have hv0 : ¬ 0 ≤ v := by rw [hv]; exact of_decide_eq_false hneg.1
  have hvl : v < 0 := Int32.not_le.mp hv0
  have hO2 := hC.2.2.1
  have hov := hO.vals
  have htv := hO2.vals
  have hag : l_ag L xs (Q 0) (Q 2) := by
    rw [h0]
    exact l_ag_of (hO.1.1.trans hO2.1.1.symm) (hO.1.2.1.trans hO2.1.2.1.symm) (hov.2.1.symm.trans htv.2.1) (hov.2.2.1.symm.trans htv.2.2.1)
  have hsame := hO2.same hO hlr
  have hhg := hO2.hg hO p
  have hm : p ∈ s_or O := by rw [hor]; exact List.mem_range.mpr hp
  have hz : h = 0 → v = 0 := fun e => by
    have e0 : s_hg O p = 0 := by rw [← hhg, ← hh]; exact e
    have := (s_out_0 hwO hm e0).1
    rw [hor, hn] at this
    cases this
  refine t_460r hC.1 hC.2.1.2.1 hag hv0 (by rw [h0, hv]; exact k_back hrng) (by rw [h0]; show (s_or O).length = _; rw [hor, List.length_range]) (fun s1 m1 m2 a1 a2 => ?_)
  refine t_523r ?_ hv0 hz ?_
  · rw [hw, s_wo_no (a := a) (f := f) (by rw [hsame]; exact hn), hv]
  · have c2 : q2 Q 0 2 m1 m2 2 = s_md (Q 2) m2 := q2_e
    have c3 : q2 Q 0 2 m1 m2 3 = Q 3 := q2_n (by decide) (by decide)
    have hC2 := hC.of a1 a2 (by rw [c2]; exact hO2) c3
    exact t_573r hL hC2 hp (by rw [c2]; exact hh) hvl
end OUT2
