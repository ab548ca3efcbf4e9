/-! The law's own: its script, its row of ints; its small methods. -/
def k_cell (L : Nat) (xs : Nat → Int32) (i : Nat) : Int32 := if i < L then xs i else 40503 * (nI i + 3)
def k_lo (v : Int32) (n : Nat) : Nat := v.toBitVec.toNat % 2 ^ 31 % n
theorem k_lo_lt (v : Int32) {n : Nat} (h : 0 < n) : k_lo v n < n := Nat.mod_lt _ h
theorem l_low {v c : Int32} {n : Nat} (hc : c = nI n) (h0 : 0 < n) (hn : n < 2 ^ 31) (σ : pd_H) : L_low v c σ = some (σ, some (pd_i (nI (k_lo v n)))) := by
  subst hc
  rw [L_low_eq, decide_eq_false (nI_ne0 h0 hn), cond_false, pk_and v 31 (by decide +kernel), pk_rem (Nat.mod_lt _ (by decide)) h0 hn]
  rfl
/-- the script -/
def l_M (s : Nat → pd_H) (L : Nat) (xs : Nat → Int32) : Prop := (s 4).1 2 = xs ∧ (s 4).1 3 0 = nI L
/-- kinds and sizes of the rows -/
def k_kd (L : Nat) (xs : Nat → Int32) (k : Nat) : Nat := k_lo (k_cell L xs k) 13
def k_sz (L : Nat) (xs : Nat → Int32) (k : Nat) : Nat := 1 + k_lo (k_cell L xs k >>> (5 &&& 31)) 12
def l_R (s : Nat → pd_H) (L : Nat) (xs : Nat → Int32) : Prop := ∀ k, k < 6 → (s 4).1 0 k = nI (k_kd L xs k) ∧ (s 4).1 0 (6 + k) = nI (k_sz L xs k)
theorem k_kd_lt {L : Nat} {xs : Nat → Int32} {k : Nat} : k_kd L xs k < 13 := k_lo_lt _ (by decide)
theorem k_sz_le {L : Nat} {xs : Nat → Int32} {k : Nat} : 1 ≤ k_sz L xs k ∧ k_sz L xs k ≤ 12 := by
  have := k_lo_lt (k_cell L xs k >>> (5 &&& 31)) (n := 12) (by decide)
  unfold k_sz
  omega
theorem l_len20 : p4_len 920 = 20 := rfl
theorem l_len24 : p4_len 921 = 24 := rfl
theorem l_20 {i : Nat} (h : i < 20) : pd_ob (nI i) (p4_len 920) = false := pu_obN h (by decide)
theorem l_m {s : Nat → pd_H} {i : Nat} : (p4_jn s).1 920 i = (s 4).1 0 i := rfl
section LAW
variable {s : Nat → pd_H} {Q : Nat → cS} {d L : Nat} {xs : Nat → Int32}
theorem l_M.of (h : l_M s L xs) {s' : Nat → pd_H} (e : s' 4 = s 4) : l_M s' L xs := by unfold l_M; rw [e]; exact h
theorem l_R.of (h : l_R s L xs) {s' : Nat → pd_H} (e : s' 4 = s 4) : l_R s' L xs := by unfold l_R; rw [e]; exact h
theorem l_cell (hL : L < 2 ^ 31) (h : l_M s L xs) {c : Int32} {i : Nat} (hc : c = nI i) (hi : i < 2 ^ 31) : L_cell c (p4_jn s) = some (p4_jn s, some (pd_i (k_cell L xs i))) := by
  subst hc
  have e1 : (p4_jn s).1 923 0 = nI L := h.2
  have e2 : (p4_jn s).1 922 = xs := h.1
  rw [L_cell_eq, e1, e2]
  unfold k_cell
  by_cases q : i < L
  · rw [decide_eq_false (nI_ge q hL), cond_false, nI_clamp hL, pu_obN q hL, cond_false, nI_clamp hi, if_pos q]
  · rw [decide_eq_true (nI_le (Nat.not_lt.mp q) hi), cond_true, if_neg q]
/-- a way -/
def k_way (kind : Nat) (x : Int32) : Nat := if 8 ≤ kind then (if kind = 12 then 8 + k_lo (x >>> (2 &&& 31)) 9 else if kind = 8 then (if k_lo x 3 = 0 then 19 else 16) else if kind = 9 then 17 + k_lo x 3 else if kind = 10 then (if k_lo x 3 = 0 then 19 else if k_lo x 3 = 1 then 18 else 21) else (if k_lo x 3 = 0 then 19 else 12)) else if k_lo x 3 = 0 then kind else 8 + kind
theorem k_way_lt {kind : Nat} (h : kind < 13) (x : Int32) : k_way kind x < 22 := by
  have h1 := k_lo_lt x (n := 3) (by decide)
  have h2 := k_lo_lt (x >>> (2 &&& 31)) (n := 9) (by decide)
  unfold k_way
  repeat' split
  all_goals omega
theorem l_way {kind : Nat} (h : kind < 13) (x : Int32) (σ : pd_H) : L_way (nI kind) x σ = some (σ, some (pd_i (nI (k_way kind x)))) := by
  have h1 := k_lo_lt x (n := 3) (by decide)
  have h2 := k_lo_lt (x >>> (2 &&& 31)) (n := 9) (by decide)
  have e9 : L_low (x >>> (2 &&& 31)) 9 σ = some (σ, some (pd_i (nI (k_lo (x >>> (2 &&& 31)) 9)))) := l_low (c := 9) (n := 9) rfl (by decide) (by decide) σ
  rw [L_way_eq, l_low (v := x) (c := 3) (n := 3) rfl (by decide) (by decide), pd_bI_of]
  simp only [L_way_L80_eq, e9, pd_bI_of, pu_cs]
  refine congrArg (fun v => some (σ, some (pd_i v))) ?_
  unfold k_way
  generalize k_lo x 3 = b at h1 ⊢
  generalize k_lo (x >>> (2 &&& 31)) 9 = c at h2 ⊢
  revert h2; revert c; revert h1; revert b; revert h; revert kind
  decide +kernel
/-- a change by a cell -/
def k_t (x : Int32) : Nat := k_lo x 6
def k_j (sz : Nat → Nat) (x : Int32) : Nat := k_lo (x >>> (3 &&& 31)) (sz (k_t x))
def k_f (x : Int32) : Nat := if k_lo (x >>> (9 &&& 31)) 2 = 0 then k_t x else k_lo (x >>> (10 &&& 31)) 6
def k_i (sz : Nat → Nat) (x : Int32) : Nat := k_lo (x >>> (12 &&& 31)) (sz (k_f x))
def k_b (kd : Nat → Nat) (x : Int32) : Nat := if k_lo (x >>> (15 &&& 31)) 3 = 0 then (if 8 ≤ kd (k_f x) then 8 else kd (k_f x)) else 8
def k_chg (kd sz : Nat → Nat) (x : Int32) : cC := if k_lo (x >>> (7 &&& 31)) 3 = 0 then (nI (k_f x), nI (k_i sz x), nI (k_b kd x), nI (k_t x), nI (k_j sz x), 0) else (-1, 0, nI (k_way (kd (k_t x)) (x >>> (9 &&& 31))), nI (k_t x), nI (k_j sz x), x >>> (11 &&& 31))
theorem k_t_lt (x : Int32) : k_t x < 6 := k_lo_lt _ (by decide)
theorem k_f_lt (x : Int32) : k_f x < 6 := by
  unfold k_f
  split
  · exact k_t_lt x
  · exact k_lo_lt _ (by decide)
theorem k_b_lt {kd : Nat → Nat} (x : Int32) : k_b kd x < 9 := by
  unfold k_b
  repeat' split
  all_goals omega
theorem l_L92 (hd : d < 4) (h : l_W s Q) (hR : l_R s L xs) (hn : s_ln (Q d) 24 < 6) {x i : Int32} {j : Int32} {f b : Nat} (hf : f < 6) (hb : b < 9) (d7 : Option pd_V) : ∃ s', L_change_L92 (230 * d) x (nI (k_t x)) j (nI f) i d7 (nI b) (p4_jn s) = some (p4_jn s', some (pd_i 1)) ∧ l_W s' (qs Q d (s_add (Q d) (if k_lo (x >>> (7 &&& 31)) 3 = 0 then (nI f, i, nI b, nI (k_t x), j, 0) else (-1, 0, nI (k_way (k_kd L xs (k_t x)) (x >>> (9 &&& 31))), nI (k_t x), j, x >>> (11 &&& 31))))) ∧ s' 4 = s 4 := by
  obtain ⟨hw, hX, -⟩ := h d hd
  have ht := k_t_lt x
  have hle : decide (nI (s_ln (Q d) 24 + 1) ≤ 0) = false := decide_eq_false (nI_nle (by omega) (by omega))
  rw [L_change_L92_eq, l_low (c := 3) (n := 3) rfl (by decide) (by decide), pd_bI_of]
  by_cases h0 : k_lo (x >>> (7 &&& 31)) 3 = 0
  · obtain ⟨z1, z2⟩ := Z_move hw hX (a := nI f) (i := i) (t := nI (k_t x)) (j := j) (w := b) (pu_sl_of hf) (pu_sl_of ht) hb hn
    obtain ⟨s', y1, y2, y3⟩ := y_move hd h (nI f) i (nI b) (nI (k_t x)) j z1 z2
    refine ⟨s', ?_, ?_, y3⟩
    · rw [h0, decide_eq_true (show nI 0 = 0 from rfl), cond_true, y1, pd_bI_of, hle, cond_false]
    · rw [if_pos h0]; exact y2
  · obtain ⟨z1, z2⟩ := Z_change hw hX (a := nI (k_t x)) (i := j) (v := x >>> (11 &&& 31)) (w := k_way (k_kd L xs (k_t x)) (x >>> (9 &&& 31))) (pu_sl_of ht) (k_way_lt k_kd_lt _) hn
    obtain ⟨s', y1, y2, y3⟩ := y_change hd h (nI (k_t x)) (nI (k_way (k_kd L xs (k_t x)) (x >>> (9 &&& 31)))) j (x >>> (11 &&& 31)) z1 z2
    have h3 := k_lo_lt (x >>> (7 &&& 31)) (n := 3) (by decide)
    refine ⟨s', ?_, ?_, y3⟩
    · rw [decide_eq_false (nI_ne0 (by omega) (by omega)), cond_false, l_20 (by omega), cond_false, nI_clamp (by omega), l_m, (hR _ ht).1, l_way k_kd_lt, pd_bI_of, y1, pd_bI_of, hle, cond_false]
    · rw [if_neg h0]; exact y2
theorem l_L45 (hd : d < 4) (h : l_W s Q) (hR : l_R s L xs) (hn : s_ln (Q d) 24 < 6) {x : Int32} {j : Int32} (d5 d6 d7 : Option pd_V) : ∃ s', L_change_L45 (230 * d) x (nI (k_t x)) j d5 d6 d7 (nI (k_f x)) (p4_jn s) = some (p4_jn s', some (pd_i 1)) ∧ l_W s' (qs Q d (s_add (Q d) (if k_lo (x >>> (7 &&& 31)) 3 = 0 then (nI (k_f x), nI (k_i (k_sz L xs) x), nI (k_b (k_kd L xs) x), nI (k_t x), j, 0) else (-1, 0, nI (k_way (k_kd L xs (k_t x)) (x >>> (9 &&& 31))), nI (k_t x), j, x >>> (11 &&& 31))))) ∧ s' 4 = s 4 := by
  have hf := k_f_lt x
  have hs := k_sz_le (L := L) (xs := xs) (k := k_f x)
  have hk := k_kd_lt (L := L) (xs := xs) (k := k_f x)
  have e6 : (6 : Int32) + nI (k_f x) = nI (6 + k_f x) := nI_add 6 _
  obtain ⟨s', y1, y2, y3⟩ := l_L92 hd h hR hn (x := x) (i := nI (k_i (k_sz L xs) x)) (j := j) hf (k_b_lt (kd := k_kd L xs) x) d7
  refine ⟨s', ?_, y2, y3⟩
  rw [L_change_L45_eq, e6, l_20 (by omega), cond_false, nI_clamp (by omega), l_m, (hR _ hf).2, l_low (n := k_sz L xs (k_f x)) rfl (by omega) (by omega), pd_bI_of, l_low (c := 3) (n := 3) rfl (by decide) (by decide), pd_bI_of, l_20 (i := k_f x) (by omega), cond_false, nI_clamp (show k_f x < 2 ^ 31 by omega), l_m, (hR _ hf).1, cond_false]
  have e : k_lo (x >>> (12 &&& 31)) (k_sz L xs (k_f x)) = k_i (k_sz L xs) x := rfl
  rw [e]
  unfold k_b at y1
  have h3 := k_lo_lt (x >>> (15 &&& 31)) (n := 3) (by decide)
  by_cases h0 : k_lo (x >>> (15 &&& 31)) 3 = 0
  · rw [if_pos h0] at y1
    rw [h0, decide_eq_true (show nI 0 = 0 from rfl), cond_true]
    by_cases h8 : 8 ≤ k_kd L xs (k_f x)
    · rw [if_pos h8] at y1
      rw [decide_eq_true (show (8 : Int32) ≤ nI (k_kd L xs (k_f x)) from nI_le (show 8 ≤ k_kd L xs (k_f x) from h8) (by omega)), cond_true]
      exact y1
    · rw [if_neg h8] at y1
      rw [decide_eq_false (show ¬ (8 : Int32) ≤ nI (k_kd L xs (k_f x)) from nI_ge (show k_kd L xs (k_f x) < 8 by omega) (by decide)), cond_false]
      exact y1
  · rw [if_neg h0] at y1
    rw [decide_eq_false (nI_ne0 (by omega) (by omega)), cond_false]
    exact y1
theorem l_change (hd : d < 4) (h : l_W s Q) (hR : l_R s L xs) (hn : s_ln (Q d) 24 < 6) (x : Int32) : ∃ s', L_change (230 * d) x (p4_jn s) = some (p4_jn s', some (pd_i 1)) ∧ l_W s' (qs Q d (s_add (Q d) (k_chg (k_kd L xs) (k_sz L xs) x))) ∧ s' 4 = s 4 := by
  have ht := k_t_lt x
  have hs := k_sz_le (L := L) (xs := xs) (k := k_t x)
  have e6 : (6 : Int32) + nI (k_t x) = nI (6 + k_t x) := nI_add 6 _
  obtain ⟨s', y1, y2, y3⟩ := l_L45 hd h hR hn (x := x) (j := nI (k_j (k_sz L xs) x)) none none none
  refine ⟨s', ?_, y2, y3⟩
  have et : k_lo x 6 = k_t x := rfl
  have h2 := k_lo_lt (x >>> (9 &&& 31)) (n := 2) (by decide)
  rw [L_change_eq, l_low (v := x) (c := 6) (n := 6) rfl (by decide) (by decide), pd_bI_of, et, e6, l_20 (by omega), cond_false, nI_clamp (by omega), l_m, (hR _ ht).2, l_low (n := k_sz L xs (k_t x)) rfl (by omega) (by omega), pd_bI_of, l_low (c := 2) (n := 2) rfl (by decide) (by decide), pd_bI_of]
  have ej : k_lo (x >>> (3 &&& 31)) (k_sz L xs (k_t x)) = k_j (k_sz L xs) x := rfl
  rw [ej]
  by_cases h0 : k_lo (x >>> (9 &&& 31)) 2 = 0
  · have ef : k_f x = k_t x := if_pos h0
    rw [h0, decide_eq_true (show nI 0 = 0 from rfl), cond_true]
    rw [ef] at y1
    exact y1
  · have ef : k_f x = k_lo (x >>> (10 &&& 31)) 6 := if_neg h0
    rw [decide_eq_false (nI_ne0 (by omega) (by omega)), cond_false, l_low (c := 6) (n := 6) rfl (by decide) (by decide), pd_bI_of, ← ef]
    exact y1
/-- a draft by cells -/
def k_D (L : Nat) (xs : Nat → Int32) (q k : Nat) : cC := k_chg (k_kd L xs) (k_sz L xs) (k_cell L xs (6 + 3 * q + k))
theorem qs_qs {S S' : cS} : qs (qs Q d S) d S' = qs Q d S' := by
  funext e
  unfold qs
  by_cases h : e = d
  · rw [if_pos h, if_pos h]
  · rw [if_neg h, if_neg h, if_neg h]
theorem l_draft1 (hL : L < 2 ^ 31) (hd : d < 4) (h : l_W s Q) (hM : l_M s L xs) (hR : l_R s L xs) {q k : Nat} (hq : q < 7) (hk : k < 3) (hn : s_ln (Q d) 24 < 6) : ∃ s', L_draft_L6 (230 * d) (nI q) 1 (nI k) (p4_jn s) = L_draft_L6 (230 * d) (nI q) 1 (nI (k + 1)) (p4_jn s') ∧ l_W s' (qs Q d (s_add (Q d) (k_D L xs q k))) ∧ s' 4 = s 4 := by
  obtain ⟨s', y1, y2, y3⟩ := l_change hd h hR hn (k_cell L xs (6 + 3 * q + k))
  refine ⟨s', ?_, y2, y3⟩
  have e : ((6 : Int32) + ((3 : Int32) * nI q)) + nI k = nI (6 + 3 * q + k) := by
    rw [show (3 : Int32) = nI 3 from rfl, pk_mul, show (6 : Int32) = nI 6 from rfl, nI_add, nI_add]
  rw [L_draft_L6_eq, decide_eq_false (show ¬ (3 : Int32) ≤ nI k from nI_ge hk (by decide)), cond_false, decide_eq_false (by decide : ¬ (1 : Int32) = 0), cond_false, e, l_cell hL hM rfl (by omega), pd_bI_of, y1, pd_bI_of, nI_1]
theorem l_draft (hL : L < 2 ^ 31) (hd : d < 4) (h : l_W s Q) (hM : l_M s L xs) (hR : l_R s L xs) {q : Nat} (hq : q < 7) (hn : s_ln (Q d) 24 = 0) : ∃ s', L_draft (230 * d) (nI q) (p4_jn s) = some (p4_jn s', some (pd_i 1)) ∧ l_W s' (qs Q d (s_add (s_add (s_add (Q d) (k_D L xs q 0)) (k_D L xs q 1)) (k_D L xs q 2))) ∧ s' 4 = s 4 := by
  have l1 : ∀ (S : cS) (c : cC), s_ln (s_add S c) 24 = s_ln S 24 + 1 := fun S c => by
    show c_updN (s_ln S) 24 (s_ln S 24 + 1) 24 = s_ln S 24 + 1
    exact c_updN_s
  obtain ⟨s1, a1, a2, a3⟩ := l_draft1 hL hd h hM hR hq (k := 0) (by decide) (by omega)
  obtain ⟨s2, b1, b2, b3⟩ := l_draft1 hL hd a2 (hM.of a3) (hR.of a3) hq (k := 1) (by decide) (by rw [qs_s, l1]; omega)
  rw [qs_s, qs_qs] at b2
  have h2 := b3.trans a3
  obtain ⟨s3, c1, c2, c3⟩ := l_draft1 hL hd b2 (hM.of h2) (hR.of h2) hq (k := 2) (by decide) (by rw [qs_s, l1, l1]; omega)
  rw [qs_s, qs_qs] at c2
  refine ⟨s3, ?_, c2, c3.trans h2⟩
  rw [L_draft_eq]
  refine (a1.trans (b1.trans c1)).trans ?_
  rw [L_draft_L6_eq, decide_eq_true (by decide : (3 : Int32) ≤ nI (2 + 1)), cond_true, decide_eq_true (by decide : (1 : Int32) = 0 ∨ (1 : Int32) = 1), cond_true]
/-! rows -/
def k_row (L : Nat) (xs : Nat → Int32) : Nat → cS
  | 0 => s_00
  | k + 1 => s_rw (k_row L xs k) k (nI (k_kd L xs k)) (k_sz L xs k) (c_ty8 (k_kd L xs k))
theorem k_row_or : ∀ k, s_or (k_row L xs k) = []
  | 0 => rfl
  | k + 1 => k_row_or k
theorem k_row_us (k : Nat) (x : Int32) : s_us (k_row L xs k) x = false := by
  unfold s_us
  rw [k_row_or]; rfl
theorem k_row_wf : ∀ k, k ≤ 6 → s_wf (k_row L xs k)
  | 0, _ => s_00_wf
  | k + 1, h => s_rw_wf (k_row_wf k (by omega)) (by omega) (c_kt_k (by have := k_kd_lt (L := L) (xs := xs) (k := k); omega) k_sz_le.2) (k_row_us k _)
theorem p4_up4 {i : Nat} {v : Int32} : pd_upI (p4_jn s) 920 i v = p4_jn (p4_pt s 4 (pd_upI (s 4) 0 i v)) := by
  have h := p4_upI (s := s) (d := 4) (S := s 4) (k := 0) (i := i) (w := v) (by decide)
  rw [p4_pt_self] at h
  exact h
theorem l_W.at4 (h : l_W s Q) (T : pd_H) : l_W (p4_pt s 4 T) Q := fun e he => by
  rw [show p4_pt s 4 T e = s e from if_neg (by omega)]
  exact h e he
/-- so far as the rows are laid -/
def l_Rk (s : Nat → pd_H) (L : Nat) (xs : Nat → Int32) (n : Nat) : Prop := ∀ k, k < n → (s 4).1 0 k = nI (k_kd L xs k) ∧ (s 4).1 0 (6 + k) = nI (k_sz L xs k)
theorem l_rows1 (hL : L < 2 ^ 31) (hd : d < 4) (h : l_W s Q) (hM : l_M s L xs) {k : Nat} (hk : k < 6) (hQ : Q d = k_row L xs k) (hR : l_Rk s L xs k) (d5 : Option pd_V) : ∃ s' d5', L_rows_L5 (230 * d) 1 (nI k) d5 (p4_jn s) = L_rows_L5 (230 * d) 1 (nI (k + 1)) d5' (p4_jn s') ∧ l_W s' (qs Q d (k_row L xs (k + 1))) ∧ l_M s' L xs ∧ l_Rk s' L xs (k + 1) := by
  obtain ⟨hw, hX, -⟩ := h d hd
  have hkd := k_kd_lt (L := L) (xs := xs) (k := k)
  have hsz := k_sz_le (L := L) (xs := xs) (k := k)
  have e6 : (6 : Int32) + nI k = nI (6 + k) := nI_add 6 _
  generalize hs1 : p4_pt s 4 (pd_upI (s 4) 0 k (nI (k_kd L xs k))) = s1
  generalize hs2 : p4_pt s1 4 (pd_upI (s1 4) 0 (6 + k) (nI (k_sz L xs k))) = s2
  have m1 : (s1 4).1 0 = upd ((s 4).1 0) k (nI (k_kd L xs k)) := by rw [← hs1, p4_ptd, pu_u1s]
  have m2 : (s2 4).1 0 = upd ((s1 4).1 0) (6 + k) (nI (k_sz L xs k)) := by rw [← hs2, p4_ptd, pu_u1s]
  have h1 : l_W s1 Q := by rw [← hs1]; exact h.at4 _
  have h2 : l_W s2 Q := by rw [← hs2]; exact h1.at4 _
  have hM2 : l_M s2 L xs := by
    unfold l_M
    rw [← hs2, p4_ptd, pu_u1n (by decide), pu_u1n (by decide), ← hs1, p4_ptd, pu_u1n (by decide), pu_u1n (by decide)]
    exact hM
  have r1 : (s2 4).1 0 k = nI (k_kd L xs k) := by rw [m2, pk_un (by omega), m1, pk_us]
  have r2 : (s2 4).1 0 (6 + k) = nI (k_sz L xs k) := by rw [m2, pk_us]
  have hR2 : l_Rk s2 L xs (k + 1) := fun j hj => by
    by_cases e : j = k
    · subst e; exact ⟨r1, r2⟩
    · obtain ⟨g1, g2⟩ := hR j (by omega)
      rw [m2, pk_un (by omega), m1, pk_un e, pk_un (by omega), pk_un (by omega)]
      exact ⟨g1, g2⟩
  obtain ⟨hw2, hX2, -⟩ := h2 d hd
  have hz := Z_row hw2 hX2 (j := k) (k := k_kd L xs k) (m := k_sz L xs k) hk hkd hsz.2 (by rw [hQ]; exact k_row_us k _)
  rw [hQ] at hz
  obtain ⟨s', y1, y2, y3⟩ := y_row hd h2 (nI k) (nI (k_kd L xs k)) (nI (k_sz L xs k)) hz (k_row_wf (k + 1) (by omega))
  refine ⟨s', some (pd_i (k_cell L xs k)), ?_, y2, hM2.of y3, by unfold l_Rk; rw [y3]; exact hR2⟩
  rw [L_rows_L5_eq, decide_eq_false (show ¬ (6 : Int32) ≤ nI k from nI_ge hk (by decide)), cond_false, decide_eq_false (by decide : ¬ (1 : Int32) = 0), cond_false, l_cell hL hM rfl (by omega), pd_bI_of, l_low (c := 13) (n := 13) rfl (by decide) (by decide), pd_bI_of, l_20 (by omega), cond_false, nI_clamp (by omega), show k_lo (k_cell L xs k) 13 = k_kd L xs k from rfl, p4_up4, hs1, l_low (c := 12) (n := 12) rfl (by decide) (by decide), pd_bI_of, e6, l_20 (by omega), cond_false, cond_false, cond_false, nI_clamp (show 6 + k < 2 ^ 31 by omega), show (1 : Int32) + nI (k_lo (k_cell L xs k >>> (5 &&& 31)) 12) = nI (k_sz L xs k) from nI_add 1 _, p4_up4, hs2, l_m, l_m, r1, r2, y1, pd_bI_of, l_m, y3, r2, decide_eq_true rfl, cond_true, nI_1, cond_false]
theorem l_rows (hL : L < 2 ^ 31) (hd : d < 4) (h : l_W s Q) (hM : l_M s L xs) (hQ : Q d = s_00) : ∃ s', L_rows (230 * d) (p4_jn s) = some (p4_jn s', some (pd_i 1)) ∧ l_W s' (qs Q d (k_row L xs 6)) ∧ l_M s' L xs ∧ l_R s' L xs := by
  have loop : ∀ n, n ≤ 6 → ∃ s' d5', L_rows (230 * d) (p4_jn s) = L_rows_L5 (230 * d) 1 (nI n) d5' (p4_jn s') ∧ l_W s' (qs Q d (k_row L xs n)) ∧ l_M s' L xs ∧ l_Rk s' L xs n := by
    intro n
    induction n with
    | zero =>
      intro _
      refine ⟨s, none, L_rows_eq _ _, ?_, hM, fun k hk => absurd hk (Nat.not_lt_zero k)⟩
      have : qs Q d (k_row L xs 0) = Q := by
        funext e
        unfold qs
        by_cases q : e = d
        · rw [if_pos q, q, hQ]; rfl
        · rw [if_neg q]
      rw [this]; exact h
    | succ n ih =>
      intro hn
      obtain ⟨s1, d5, a1, a2, a3, a4⟩ := ih (by omega)
      obtain ⟨s2, d5', b1, b2, b3, b4⟩ := l_rows1 hL hd a2 a3 (k := n) (by omega) qs_s a4 d5
      rw [qs_qs] at b2
      exact ⟨s2, d5', a1.trans b1, b2, b3, b4⟩
  obtain ⟨s', d5, a1, a2, a3, a4⟩ := loop 6 (Nat.le_refl 6)
  refine ⟨s', ?_, a2, a3, a4⟩
  rw [a1, L_rows_L5_eq, decide_eq_true (by decide : (6 : Int32) ≤ nI 6), cond_true, decide_eq_true (by decide : (1 : Int32) = 0 ∨ (1 : Int32) = 1), cond_true]
end LAW
