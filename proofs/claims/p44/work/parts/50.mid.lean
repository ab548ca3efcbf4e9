/-! The law from the loops of blame on. -/
def l_C (s : Nat → pd_H) (Q : Nat → cS) (L : Nat) (xs : Nat → Int32) (aI : Nat → Int32) (A : List Nat) : Prop := l_W s Q ∧ (l_M s L xs ∧ l_R s L xs ∧ l_A s aI 7) ∧ s_of (k_row L xs 6) (k_D L xs) A (Q 2) ∧ s_of (k_row L xs 6) (k_D L xs) [] (Q 3) ∧ A.length ≤ 7 ∧ ∀ but, (List.range 7).filter (k_tk aI but) = (c_wo but (List.range A.length)).map (fun j => A.getD j 0)
def g_573 (s : Nat → pd_H) (n p : Nat) (h v : Int32) (k : Nat) : Prop := ∀ d13 d14 d15 d16 d18 d20 d21 d22 d23, gF (L_law_L573 k_lst 1 (nI n) (nI p) h d13 d14 d15 d16 v d18 (nI k) d20 d21 d22 d23 (p4_jn s))
def g_593 (s : Nat → pd_H) (n p : Nat) (h v : Int32) (k i : Nat) : Prop := ∀ d13 d14 d15 d16 d18 d21 d22 d23, gF (L_law_L593 k_lst 1 (nI n) (nI p) h d13 d14 d15 d16 v d18 (nI k) (nI i) d21 d22 d23 (p4_jn s))
def g_549 (s : Nat → pd_H) (n p : Nat) (h v : Int32) (t0 t1 : Int64) : Prop := ∀ d9 d13 d14 d15 d16 d18 d19 d20 d21 d22 d23, gF (L_law_L549 k_lst d9 (nI n) (nI p) h d13 d14 d15 d16 v d18 d19 d20 d21 d22 d23 t0 t1 (p4_jn s))
def g_523 (s : Nat → pd_H) (n p : Nat) (h : Int32) (k i : Nat) (w : Int64) (v : Int32) : Prop := ∀ d9 d18 d19 d20 d21 d22 d23, gF (L_law_L523 k_lst d9 (nI n) (nI p) h (nI k) (nI i) w v d18 d19 d20 d21 d22 d23 (p4_jn s))
def g_460 (s : Nat → pd_H) (n p : Nat) (h : Int32) (k i : Nat) (w : Int64) (v no : Int32) (t0 t1 : Nat) : Prop := ∀ d9 d19 d20 d21 d22 d23, gF (L_law_L460 k_lst d9 (nI n) (nI p) h (nI k) (nI i) w v no d19 d20 d21 d22 d23 t0 t1 (p4_jn s))
section MID
variable {s : Nat → pd_H} {Q : Nat → cS} {L : Nat} {xs : Nat → Int32} {A : List Nat} {aI : Nat → Int32} {p : Nat}
theorem l_M.of1 (h : l_M s L xs) {s' : Nat → pd_H} (e : (s' 4).1 = (s 4).1) : l_M s' L xs := by unfold l_M; rw [e]; exact h
theorem l_R.of1 (h : l_R s L xs) {s' : Nat → pd_H} (e : (s' 4).1 = (s 4).1) : l_R s' L xs := by unfold l_R; rw [e]; exact h
theorem l_A.of1 {n : Nat} (h : l_A s aI n) {s' : Nat → pd_H} (e : (s' 4).1 = (s 4).1) : l_A s' aI n := by unfold l_A; rw [e]; exact h
theorem t_698 (hL : L < 2 ^ 31) (hC : l_C s Q L xs aI A) (hp : p < A.length) : ∀ (r : Nat) (s' : Nat → pd_H) (x : Nat), x + r = 3 * A.length → l_W s' Q → (s' 4).1 = (s 4).1 → (∀ y, y < x → (s' 4).2.1 1 y = s_tr (Q 2) (6 * (y / 3) + y % 3) false) → g_698 s' A.length p (s_hg (Q 2) p) (s_hg (Q 2) p ||| c_one1 p) x := by
  obtain ⟨-, ⟨hM, hR, hA⟩, hof, hU, hA7, hbut⟩ := hC
  have d4 : (2 : Nat) < 4 := by decide
  have e3 : (3 : Int32) * nI A.length = nI (3 * A.length) := pk_mul 3 _
  have hm : p ∈ s_or (Q 2) := by rw [hof.2.1.1]; exact List.mem_range.mpr hp
  have hpc : s_pc (Q 2) = A.length := hof.2.1.2.1
  intro r
  induction r with
  | zero =>
    intro s' x hx h' hs' hv
    intro d1 d2 d13 d14 d15 d16 d17 d18 d21 d22 d23
    obtain ⟨hw, hX, -⟩ := h' 2 d4
    have hsize := s_with_size hw hof hA7 hm
    have hself := s_hg_self hw hm
    have hpp := s_hg_p hw hm
    have hok := s_with_ok hw hm
    obtain ⟨z1, z2⟩ := Z_with hw hX hm
    have htr := fun (j k : Nat) (hj : j ∈ s_or (Q 2)) (hk : k < s_ln (Q 2) j) (hc : c_has (s_hg (Q 2) p ||| c_one1 p) (nI j) = false) => s_with_tr hw hm hj hk hc
    generalize hg : s_hg (Q 2) p ||| c_one1 p = gone at hsize hpp hok z1 z2 htr
    have holen : (s_or (Q 2)).length = A.length := by rw [hof.2.1.1, List.length_range]
    obtain ⟨s1, a1, a2, a3⟩ := y_with d4 h' (nI p) z1 z2
    generalize hT : s_to (Q 2) (c_wo gone (s_or (Q 2))) [] = T at a2 z2 htr
    have hTor : s_or T = c_wo gone (s_or (Q 2)) := by rw [← hT]; rfl
    have hTpc : s_pc T = A.length := by rw [← hT]; exact hpc
    have hTln : ∀ j, j < A.length → s_ln T j = 3 := fun j hj => by rw [← hT]; exact hof.ln hj
    have hTbs : s_bs (k_row L xs 6) T := by rw [← hT]; exact hof.1
    have hTun : s_un T = [] := by rw [← hT]; rfl
    have hTplay : ∀ l, s_play T l = s_play (Q 2) l := fun l => by rw [← hT]; rfl
    have hpT : p ∉ s_or T := by
      rw [hTor]
      intro q
      have := (List.mem_filter.mp q).2
      rw [hpp] at this
      cases this
    have zc := Z_count1 (a2 2 d4).2.1
    rw [qs_s] at zc
    obtain ⟨s2, b1, b2, b3⟩ := y_count d4 a2 1 zc z2
    rw [qs_qs] at b2
    have zh := Z_hangs0 (b2 2 d4).1 (b2 2 d4).2.1 (p := p) (by rw [qs_s, hTpc]; exact hp) (by rw [qs_s]; exact hpT)
    rw [qs_s] at zh
    obtain ⟨s3, c1, c2, c3⟩ := y_hangs d4 b2 (nI p) zh z2
    rw [qs_qs] at c2
    have a1 : Y_with 460 (nI p) (p4_jn s') = _ := a1
    have b1 : Y_count 460 1 (p4_jn s1) = _ := b1
    have c1 : Y_hangs 460 (nI p) (p4_jn s2) = _ := c1
    have h34 : s3 4 = s' 4 := c3.trans (b3.trans a3)
    have hTl : (s_or T).length = (c_wo gone (s_or (Q 2))).length := by rw [hTor]
    have q1 : nI (s_or (Q 2)).length - nI (c_wo gone (s_or (Q 2))).length = nI (k_size gone 24) := by
      rw [holen, pk_sub (by omega)]
      congr 1
      omega
    have q2 : nI (s_or T).length = nI A.length - nI (k_size gone 24) := by
      rw [hTl, pk_sub (by omega)]
      congr 1
      omega
    rw [L_law_L698_eq, e3, decide_eq_true (nI_le (show 3 * A.length ≤ x by omega) (by omega)), cond_true, decide_eq_false (by decide : ¬ (1 : Int32) = 0), cond_false, c_nothas, hself, Bool.not_false, cond_true, a1, pd_bI_of, l_size, pd_bI_of, decide_eq_true q1, cond_true, b1, pd_bI_of, l_size, pd_bI_of, decide_eq_true q2, cond_true, c1, pd_bI_of, decide_eq_true (rfl : (-3 : Int32) = -3), cond_true]
    refine t_797 (s := s3) (Q := qs Q 2 T) (A := A) c2 hA7 (by rw [qs_s]; exact hTpc) (by rw [qs_s]; exact hTln) (gone := gone) (vv := fun y => s_tr (Q 2) (6 * (y / 3) + y % 3) false) (fun y hy => ?_) (fun j hj hc => ?_) (fun j hj hc => ?_) (fun s4 hs4 e4 => ?_) (3 * A.length) s3 0 (Nat.zero_add _) c2 rfl _ _ _ _ _ _ _ _ _ _ _ _ _
    · rw [h34]
      exact hv y (by omega)
    · rw [qs_s, hTor]
      intro q
      have := (List.mem_filter.mp q).2
      rw [hc] at this
      cases this
    · rw [qs_s, hTor]
      have hjo : j ∈ s_or (Q 2) := by rw [hof.2.1.1]; exact List.mem_range.mpr hj
      refine ⟨List.mem_filter.mpr ⟨hjo, by rw [hc]; rfl⟩, fun k hk => ?_⟩
      show s_tr T (6 * j + k) false = s_tr (Q 2) (6 * ((3 * j + k) / 3) + (3 * j + k) % 3) false
      rw [htr j k hjo (by rw [hof.ln hj]; exact hk) hc, show (3 * j + k) / 3 = j by omega, show (3 * j + k) % 3 = k by omega]
    · have e44 : (s4 4).1 = (s 4).1 := by rw [e4, h34, hs']
      have hF : (List.range 7).filter (k_tk aI gone) = (s_or T).map (fun j => A.getD j 0) := by rw [hbut gone, hTor, hof.2.1.1]
      have hsm := hof.some (l := s_or T) (fun j hj => by
        rw [hTor] at hj
        exact hof.or24 hA7 (List.mem_filter.mp hj).1)
      rw [← hF] at hsm
      refine t_868 hL hs4 (hM.of1 e44) (hR.of1 e44) (hA.of1 e44) (gone := gone) (B := k_row L xs 6) (by rw [qs_n (by decide)]; exact hU) (by rw [qs_s]; exact hTbs) (by rw [qs_s]; exact hTun) ?_ ?_ ?_
      · rw [hsm.1, hTor, hok]; rfl
      · rw [qs_s, hTplay]; exact hsm.2.1
      · rw [qs_s, hTplay]; exact hsm.2.2
  | succ r ih =>
    intro s' x hx h' hs' hv
    intro d1 d2 d13 d14 d15 d16 d17 d18 d21 d22 d23
    obtain ⟨hw, hX, -⟩ := h' 2 d4
    have hj : x / 3 < A.length := by omega
    have hk : x % 3 < 3 := Nat.mod_lt _ (by decide)
    have hjo : x / 3 ∈ s_or (Q 2) := by rw [hof.2.1.1]; exact List.mem_range.mpr hj
    obtain ⟨q1, q2⟩ := k_div3 (x := x) (by omega)
    obtain ⟨z1, -⟩ := Z_trace hw hX (p := x / 3) (k := x % 3) (by omega) (by rw [hof.ln hj]; exact hk)
    obtain ⟨s1, a1, a2, a3⟩ := y_trace d4 h' (nI (x / 3)) (nI (x % 3)) 0 (z1 hjo) hw
    rw [qs_self] at a2
    have a1 : Y_trace 460 (nI (x / 3)) (nI (x % 3)) 0 (p4_jn s') = _ := a1
    rw [L_law_L698_eq, e3, decide_eq_false (nI_ge (show x < 3 * A.length by omega) (by omega)), cond_false, q2, q1, a1, pd_bJ_of, l_len24, pu_obN (show x < 24 by omega) (by decide), cond_false, nI_clamp (by omega), p4_up4J, nI_1]
    refine ih _ (x + 1) (by omega) (a2.at4 _) ?_ (fun y hy => ?_) _ _ _ _ _ _ _ _ _ _ _
    · rw [p4_ptd]
      show (s1 4).1 = (s 4).1
      rw [a3, hs']
    · rw [p4_ptd]
      show (if 1 = 1 then vp_updL ((s1 4).2.1 1) x (s_tr (Q 2) (6 * (x / 3) + x % 3) false) else (s1 4).2.1 1) y = _
      rw [if_pos rfl]
      by_cases e : y = x
      · rw [e, pk_uLs]
      · rw [pk_uLn e, a3]
        exact hv y (by omega)
theorem t_698' (hL : L < 2 ^ 31) (hC : l_C s Q L xs aI A) (hp : p < A.length) {h : Int32} (hh : h = s_hg (Q 2) p) : g_698 s A.length p h (h ||| c_one1 p) 0 := by
  rw [hh]
  exact t_698 hL hC hp (3 * A.length) s 0 (Nat.zero_add _) hC.1 rfl (fun y hy => absurd hy (Nat.not_lt_zero y))
/-- refused: nothing of blame is asked -/
theorem t_573r (hL : L < 2 ^ 31) (hC : l_C s Q L xs aI A) (hp : p < A.length) {h : Int32} (hh : h = s_hg (Q 2) p) {v : Int32} (hv : v < 0) : g_573 s A.length p h v 0 := by
  intro d13 d14 d15 d16 d18 d20 d21 d22 d23
  rw [L_law_L573_eq, decide_eq_false (by decide : ¬ (6 : Int32) ≤ nI 0), cond_false, decide_eq_false (by decide : ¬ (1 : Int32) = 0), cond_false, decide_eq_true hv, cond_true]
  exact t_698' hL hC hp hh _ _ _ _ _ _ _ _ _ _ _
/-- whose, and since when, is the same on both, but for the numbers -/
def l_bl (L : Nat) (xs : Nat → Int32) (p : Nat) (S R : cS) : Prop := ∀ k, k < 6 → ∀ i, i < k_sz L xs k → c_blame S (nI k) (nI i) = k_gr p (c_blame R (nI k) (nI i)) ∧ s_since S (c_cell (nI k) (nI i)) = s_since R (c_cell (nI k) (nI i))
theorem t_645 (hb0 : l_W s Q) (h0 : s_bs (k_row L xs 6) (Q 0)) (h1 : s_bs (k_row L xs 6) (Q 1)) {n : Nat} {h v : Int32} {k i : Nat} (hk : k < 6) (hi : i < k_sz L xs k) (hs : s_since (Q 0) (c_cell (nI k) (nI i)) = s_since (Q 1) (c_cell (nI k) (nI i))) {t : Int32} (hnext : ∀ s', l_W s' Q → s' 4 = s 4 → g_593 s' n p h v k (i + 1)) (d9 d13 d14 d15 d16 d18 d21 d22 d23 : Option pd_V) : gF (L_law_L645 k_lst d9 (nI n) (nI p) h d13 d14 d15 d16 v d18 (nI k) (nI i) d21 d22 d23 t t (p4_jn s)) := by
  have hsl := pu_sl_of hk
  have d0 : (0 : Nat) < 4 := by decide
  have d1 : (1 : Nat) < 4 := by decide
  obtain ⟨s3, c1, c2, c3⟩ := y_since d0 hb0 (nI k) (nI i) (Z_since (hb0 0 d0).1 (hb0 0 d0).2.1 hsl (l_elt h0 hk hi)) (hb0 0 d0).1
  rw [qs_self] at c2
  obtain ⟨s4, e1, e2, e3⟩ := y_since d1 c2 (nI k) (nI i) (Z_since (c2 1 d1).1 (c2 1 d1).2.1 hsl (l_elt h1 hk hi)) (c2 1 d1).1
  rw [qs_self] at e2
  rw [Nat.mul_zero] at c1
  rw [Nat.mul_one] at e1
  rw [L_law_L645_eq, decide_eq_true (Eq.refl t), cond_true, c1, pd_bI_of, e1, pd_bI_of, decide_eq_true hs, cond_true, nI_1]
  exact hnext s4 e2 (e3.trans c3) _ _ _ _ _ _ _ _
theorem t_593z (hR : l_R s L xs) {n : Nat} {h v : Int32} {k i : Nat} (hk : k < 6) (hi : i = k_sz L xs k) (hnext : g_573 s n p h v (k + 1)) : g_593 s n p h v k i := by
  have e6 : (6 : Int32) + nI k = nI (6 + k) := nI_add 6 _
  have hsz := k_sz_le (L := L) (xs := xs) (k := k)
  have hr : (p4_jn s).1 920 (6 + k) = nI (k_sz L xs k) := by
    rw [l_m]; exact (hR k hk).2
  intro d13 d14 d15 d16 d18 d21 d22 d23
  rw [L_law_L593_eq, e6, l_20 (by omega), cond_false, nI_clamp (by omega), hr, hi, decide_eq_true (nI_le (Nat.le_refl _) (by omega)), cond_true, nI_1]
  exact hnext _ _ _ _ _ _ _ _ _
theorem k_gr_cond {α : Type} {w : Int32} (F : Int32 → α) : cond (decide (w < nI p)) (F w) (F (w + 1)) = F (k_gr p w) := by
  unfold k_gr
  cases decide (w < nI p) <;> rfl
theorem t_593s (hR : l_R s L xs) (h' : l_W s Q) {n : Nat} {h v : Int32} {k i : Nat} (hk : k < 6) (hi : i < k_sz L xs k) (hb : c_blame (Q 0) (nI k) (nI i) = k_gr p (c_blame (Q 1) (nI k) (nI i))) (hnext : ∀ s' t, l_W s' Q → s' 4 = s 4 → ∀ d9 d13 d14 d15 d16 d18 d21 d22 d23, gF (L_law_L645 k_lst d9 (nI n) (nI p) h d13 d14 d15 d16 v d18 (nI k) (nI i) d21 d22 d23 t t (p4_jn s'))) : g_593 s n p h v k i := by
  have e6 : (6 : Int32) + nI k = nI (6 + k) := nI_add 6 _
  have hsz := k_sz_le (L := L) (xs := xs) (k := k)
  have d0 : (0 : Nat) < 4 := by decide
  have d1 : (1 : Nat) < 4 := by decide
  have hr : (p4_jn s).1 920 (6 + k) = nI (k_sz L xs k) := by
    rw [l_m]; exact (hR k hk).2
  have hsl := pu_sl_of hk
  obtain ⟨s1, a1, a2, a3⟩ := y_blame d1 h' (nI k) (nI i) (Z_blame (h' 1 d1).1 (h' 1 d1).2.1 hsl (nI i)) (h' 1 d1).1
  rw [qs_self] at a2
  obtain ⟨s2, b1, b2, b3⟩ := y_blame d0 a2 (nI k) (nI i) (Z_blame (a2 0 d0).1 (a2 0 d0).2.1 hsl (nI i)) (a2 0 d0).1
  rw [qs_self] at b2
  rw [Nat.mul_one] at a1
  rw [Nat.mul_zero, hb] at b1
  have hs2 : s2 4 = s 4 := b3.trans a3
  generalize c_blame (Q 1) (nI k) (nI i) = w at a1 b1
  intro d13 d14 d15 d16 d18 d21 d22 d23
  rw [L_law_L593_eq, e6, l_20 (by omega), cond_false, nI_clamp (by omega), hr, decide_eq_false (nI_ge hi (by omega)), cond_false, decide_eq_false (by decide : ¬ (1 : Int32) = 0), cond_false, a1, pd_bI_of, b1, pd_bI_of]
  rw [k_gr_cond (p := p) (w := w) (fun t0 => L_law_L645 k_lst (some (pd_i 1)) (nI n) (nI p) h d13 d14 d15 d16 v d18 (nI k) (nI i) (some (pd_i w)) d22 d23 t0 (k_gr p w) (p4_jn s2))]
  exact hnext s2 (k_gr p w) b2 hs2 _ _ _ _ _ _ _ _ _
theorem t_593 (hR : l_R s L xs) (h0 : s_bs (k_row L xs 6) (Q 0)) (h1 : s_bs (k_row L xs 6) (Q 1)) (hb : l_bl L xs p (Q 0) (Q 1)) {n : Nat} {h v : Int32} {k : Nat} (hk : k < 6) (hnext : ∀ s', l_W s' Q → s' 4 = s 4 → g_573 s' n p h v (k + 1)) : ∀ (r : Nat) (s' : Nat → pd_H) (i : Nat), i + r = k_sz L xs k → l_W s' Q → s' 4 = s 4 → g_593 s' n p h v k i := by
  intro r
  induction r with
  | zero => exact fun s' i hi h' hs' => t_593z (hR.of hs') hk hi (hnext s' h' hs')
  | succ r ih =>
    intro s' i hi h' hs'
    have hi' : i < k_sz L xs k := by omega
    exact t_593s (hR.of hs') h' hk hi' (hb k hk i hi').1 (fun s2 t h2 e2 => t_645 h2 h0 h1 hk hi' (hb k hk i hi').2 (fun s4 h4 e4 => ih s4 (i + 1) (by omega) h4 (e4.trans (e2.trans hs'))))
theorem t_573a (hL : L < 2 ^ 31) (hC : l_C s Q L xs aI A) (hp : p < A.length) {h : Int32} (hh : h = s_hg (Q 2) p) {v : Int32} (hv : ¬ v < 0) (h0 : s_bs (k_row L xs 6) (Q 0)) (h1 : s_bs (k_row L xs 6) (Q 1)) (hb : l_bl L xs p (Q 0) (Q 1)) : ∀ (r : Nat) (s' : Nat → pd_H) (k : Nat), k + r = 6 → l_W s' Q → s' 4 = s 4 → g_573 s' A.length p h v k := by
  have next : ∀ s', l_W s' Q → s' 4 = s 4 → g_698 s' A.length p h (h ||| c_one1 p) 0 := fun s' h' e => t_698' (Q := Q) hL ⟨h', ⟨hC.2.1.1.of e, hC.2.1.2.1.of e, hC.2.1.2.2.of1 (by rw [e])⟩, hC.2.2⟩ hp hh
  intro r
  induction r with
  | zero =>
    intro s' k hk h' hs'
    intro d13 d14 d15 d16 d18 d20 d21 d22 d23
    have hk : k = 6 := by omega
    subst hk
    rw [L_law_L573_eq, decide_eq_true (by decide : (6 : Int32) ≤ nI 6), cond_true]
    exact next s' h' hs' _ _ _ _ _ _ _ _ _ _ _
  | succ r ih =>
    intro s' k hk h' hs'
    intro d13 d14 d15 d16 d18 d20 d21 d22 d23
    rw [L_law_L573_eq, decide_eq_false (show ¬ (6 : Int32) ≤ nI k from nI_ge (show k < 6 by omega) (by decide)), cond_false, decide_eq_false (by decide : ¬ (1 : Int32) = 0), cond_false, decide_eq_false hv, cond_false]
    exact t_593 (s := s) hC.2.1.2.1 h0 h1 hb (show k < 6 by omega) (fun s'' h'' e => ih s'' (k + 1) (by omega) h'' e) (k_sz L xs k) s' 0 (Nat.zero_add _) h' hs' _ _ _ _ _ _ _ _
theorem t_549 {n : Nat} {h v : Int32} {t0 t1 : Int64} (hn : g_573 s n p h v 0) (e : t1 = t0) (hz : h = 0 → v = 0) : g_549 s n p h v t0 t1 := by
  intro d9 d13 d14 d15 d16 d18 d19 d20 d21 d22 d23
  rw [L_law_L549_eq, pu_cmp0, decide_eq_true e, cond_true]
  by_cases q : h = 0
  · rw [decide_eq_true q, cond_true, decide_eq_true (hz q), cond_true]
    exact hn _ _ _ _ _ _ _ _ _
  · rw [decide_eq_false q, cond_false]
    exact hn _ _ _ _ _ _ _ _ _
end MID
