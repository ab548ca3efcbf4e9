/-! (whole, 45.takes) -/
theorem c_mvb_congr {t t' u u' : Nat → Int32} {n n' v v' : Nat → Int64} : ∀ {b : List Nat} {s : Int32}, (∀ a ∈ b, t a = u a ∧ t' a = u' a ∧ n a = v a ∧ n' a = v' a) → c_mvb t t' n n' b s = c_mvb u u' v v' b s := by
  intro b
  induction b with
  | nil => intro s _; rfl
  | cons a r ih =>
    intro s h
    obtain ⟨h1, h2, h3, h4⟩ := h a List.mem_cons_self
    unfold c_mvb
    rw [h1, h2, h3, h4]
    exact ih (fun b hb => h b (List.mem_cons_of_mem _ hb))
theorem c_ble_mem {l : List Nat} {q : Nat} : Nat.ble l.length (c_ix l q) = false ↔ q ∈ l := by
  rw [← c_ix_mem]
  constructor
  · intro h
    rcases Nat.lt_or_ge (c_ix l q) l.length with g | g
    · exact g
    · rw [Nat.ble_eq_true_of_le g] at h; cases h
  · intro h
    rw [Bool.eq_false_iff]
    intro g
    have := Nat.le_of_ble_eq_true g
    omega
theorem c_mv_congr {t t' u u' : Nat → Int32} {n n' v v' : Nat → Int64} {len : Nat → Nat} {l' : List Nat} : ∀ {m : List Nat} {s : Int32}, (∀ q ∈ m, q ∈ l' → ∀ a ∈ c_blk q 0 (len q), t a = u a ∧ t' a = u' a ∧ n a = v a ∧ n' a = v' a) → c_mv t t' n n' len l' m s = c_mv u u' v v' len l' m s := by
  intro m
  induction m with
  | nil => intro s _; rfl
  | cons q m ih =>
    intro s h
    unfold c_mv
    have hr := fun x hx => h x (List.mem_cons_of_mem _ hx)
    cases hb : Nat.ble l'.length (c_ix l' q) with
    | true => exact ih hr
    | false =>
      rw [cond_false, cond_false, c_mvb_congr (h q List.mem_cons_self (c_ble_mem.mp hb))]
      exact ih hr
/-- how many changes move by another order -/
def c_moved (S : cS) (l : List Nat) : Int32 := c_mv (s_play S l).2.2.2.2.2.2.1 (s_play S (s_or S)).2.2.2.2.2.2.1 (s_play S l).2.2.2.2.2.2.2.1 (s_play S (s_or S)).2.2.2.2.2.2.2.1 (s_ln S) (s_or S) l 0
theorem c_blk_line {len : Nat → Nat} {l : List Nat} {q a : Nat} (hq : q ∈ l) (ha : a ∈ c_blk q 0 (len q)) : a ∈ c_line len l := by
  obtain ⟨j, h1, h2, rfl⟩ := c_blk_mem ha
  exact c_line_in hq (by omega)
/-! (whole, 46.takes2) -/
section TAKES2
variable {σ : pd_H} {S : cS}
theorem c_err_neg {f : Int32} (h : c_rng f) : decide (0 ≤ -10 - f) = false ∧ decide (-10 - f = 0) = false ∧ -10 - f ≠ 0 := by
  obtain ⟨g, h1, rfl⟩ := h
  have : ∀ g, g < 6 → decide (0 ≤ -10 - nI g) = false ∧ decide (-10 - nI g = 0) = false ∧ -10 - nI g ≠ 0 := by decide +kernel
  exact this g h1
end TAKES2
/-! (whole, 47.order) -/
section ORDER
variable {σ : pd_H} {S : cS}
theorem s_pc31 (hw : s_wf S) : s_pc S < 2 ^ 31 := by have := hw.2.1.1; omega
theorem X_patch_1 (hw : s_wf S) (h : RX σ S) {p : Nat} (hp : p < s_pc S) : X_isPatch (nI p) σ = some (σ, some (pd_i 1)) := by
  rw [X_isPatch_eq, h.2.1.2.2]
  exact pu_at hp (s_pc31 hw) _ _
theorem X_patch_0 (h : RX σ S) {a : Int32} (ha : a < 0 ∨ nI (s_pc S) ≤ a) : X_isPatch a σ = some (σ, some (pd_i 0)) := by
  rw [X_isPatch_eq, h.2.1.2.2]
  exact pu_out ha _ _
def c_isn (l : List Nat) (p : Nat) : Int32 := cond (Nat.ble l.length (c_ix l p)) 0 1
theorem c_isn_1 {l : List Nat} {p : Nat} (h : p ∈ l) : c_isn l p = 1 := by unfold c_isn; rw [c_ble_mem.mpr h]; rfl
theorem c_isn_0 {l : List Nat} {p : Nat} (h : p ∉ l) : c_isn l p = 0 := by
  unfold c_isn
  cases hb : Nat.ble l.length (c_ix l p) with
  | true => rfl
  | false => exact absurd (c_ble_mem.mp hb) h
theorem s_or25 (hw : s_wf S) : ∀ x ∈ s_or S, x < 25 := fun x hx => by have := hw.2.2.1.1.2 x hx; have := hw.2.1.1; omega
theorem s_ord25 (hw : s_wf S) {l : List Nat} (ho : s_ord S l) : ∀ x ∈ l, x < 25 := fun x hx => by have := ho.2 x hx; have := hw.2.1.1; omega
theorem X_applied_s (hw : s_wf S) (h : RX σ S) {p : Nat} (hp : p < s_pc S) : X_isApplied (nI p) σ = some (σ, some (pd_i (c_isn (s_or S) p))) := by
  obtain ⟨L2, -⟩ := pu_len_run (x_run3 h)
  have h31 := s_pc31 hw
  rw [X_isApplied_eq, Seq_indexOf_s h.2.2.2.1.1 L2 (by omega) (fun x hx => by have := s_or25 hw x hx; omega), pd_bI_of]
  unfold c_ixI c_isn
  have hle := h.2.2.2.1.1.2.1
  cases hb : Nat.ble (s_or S).length (c_ix (s_or S) p) with
  | true => rfl
  | false =>
    have : c_ix (s_or S) p < 2 ^ 31 := by have := c_ix_le (s_or S) p; omega
    have hne : ¬ nI (c_ix (s_or S) p) = -1 := fun q => by
      have := nI_toInt this
      rw [q] at this
      have e : (-1 : Int32).toInt = -1 := by decide
      omega
    rw [cond_false, decide_eq_false hne, cond_false]; rfl
theorem X_apErr_out (h : RX σ S) {a : Int32} (ha : a < 0 ∨ nI (s_pc S) ≤ a) : X_appliedError a σ = some (σ, some (pd_i (-2))) := by
  rw [X_appliedError_eq, X_patch_0 h ha]; rfl
theorem X_apErr_no (hw : s_wf S) (h : RX σ S) {p : Nat} (hp : p < s_pc S) (hn : p ∉ s_or S) : X_appliedError (nI p) σ = some (σ, some (pd_i (-3))) := by
  rw [X_appliedError_eq, X_patch_1 hw h hp, pd_bI_of, X_applied_s hw h hp, c_isn_0 hn]; rfl
theorem X_apErr_ok (hw : s_wf S) (h : RX σ S) {p : Nat} (hn : p ∈ s_or S) : X_appliedError (nI p) σ = some (σ, some (pd_i 0)) := by
  have hp := hw.2.2.1.1.2 p hn
  rw [X_appliedError_eq, X_patch_1 hw h hp, pd_bI_of, X_applied_s hw h hp, c_isn_1 hn]; rfl
/-! fewer undone ones -/
theorem RX.un (h : RX σ S) (n : Nat) (hn : n ≤ (s_un S).length) : RX (pd_upI σ 17 1 (nI n)) (s_to S (s_or S) ((s_un S).take n)) := by
  obtain ⟨⟨a1, a2, a3, a4⟩, ⟨b1, b2, b3⟩, hrt, ⟨c1, c2, c3⟩, ⟨d1, d2, d3⟩, d4, d5, d6⟩ := h
  have hr : σ.2.2 0 = 32 ∨ σ.2.2 0 = 48 := by rcases hrt with q | q <;> omega
  have e1 : ∀ k, k ≠ 17 → (pd_upI σ 17 1 (nI n)).1 k = σ.1 k := fun k hk => pu_u1n hk
  have hseq : ∀ o l, o ≠ 17 → o ≠ 16 → pu_seq σ o l → pu_seq (pd_upI σ 17 1 (nI n)) o l := fun o l h1 h2 q => q.of (by rw [e1 o h1]) (e1 (o + 1) (by omega))
  refine ⟨⟨?_, ?_, ?_, a4⟩, ⟨?_, ?_, ?_⟩, hrt, ⟨hseq (σ.2.2 0 + 1) _ (by omega) (by omega) c1, ?_, ?_⟩, ⟨⟨?_, ?_, ?_⟩, ?_, fun v l hv => hseq (20 + 2 * v) _ (by omega) (by omega) (d3 v l hv)⟩, ?_, ?_, ?_⟩
  · rw [e1 2 (by omega)]; exact a1
  · rw [e1 3 (by omega)]; exact a2
  · rw [e1 5 (by omega)]; exact a3
  · intro p k hp hk
    have hx : x_chg (pd_upI σ 17 1 (nI n)) (6 * p + k) = x_chg σ (6 * p + k) := by unfold x_chg; rw [e1 _ (by omega)]
    rw [hx]; exact b1 p k hp hk
  · intro p hp; rw [e1 9 (by omega)]; exact b2 p hp
  · rw [e1 7 (by omega)]; exact b3
  · have : x_rw S (pd_upI σ 17 1 (nI n)) (σ.2.2 0) = x_rw S σ (σ.2.2 0) := by
      unfold x_rw
      rw [e1 _ (by omega : σ.2.2 0 + 4 ≠ 17), e1 _ (by omega : σ.2.2 0 + 6 ≠ 17), e1 _ (by omega : σ.2.2 0 + 9 ≠ 17), e1 _ (by omega : σ.2.2 0 + 12 ≠ 17), e1 _ (by omega : σ.2.2 0 + 14 ≠ 17)]
      rfl
    show c_agr _ _ (x_rw S _ (σ.2.2 0)) _
    rw [this]; exact c2
  · show ∀ p ∈ s_or S, (pd_upI σ 17 1 (nI n)).1 (σ.2.2 0 + 15) p = _
    rw [e1 _ (by omega)]; exact c3
  · rw [pu_u1s, pk_us, show s_un (s_to S (s_or S) ((s_un S).take n)) = (s_un S).take n from rfl, List.length_take, Nat.min_eq_left hn]
  · show ((s_un S).take n).length ≤ 24
    rw [List.length_take]
    have : (s_un S).length ≤ 24 := d1.2.1
    omega
  · intro i x hx
    have hx : ((s_un S).take n)[i]? = some x := hx
    rw [e1 18 (by omega)]
    rw [List.getElem?_take] at hx
    split at hx
    · exact d1.2.2 i x hx
    · cases hx
  · rw [e1 0 (by omega)]; exact d2
  · rw [e1 10 (by omega), e1 11 (by omega)]; exact d4
  · rw [e1 0 (by omega)]; exact d5
  · rw [e1 16 (by omega)]; exact d6
/-! what comes of another order -/
def s_go (S : cS) (l un : List Nat) (v : Int32) : cS × Int32 := match (s_play S l).1 with
  | none => (s_to S l un, v)
  | some (a, f) => (s_ft S (nI (a / 6), nI (a % 6), f), -10 - f)
theorem s_go_ok {l un : List Nat} {v : Int32} (h : (s_play S l).1 = none) : s_go S l un v = (s_to S l un, v) := by unfold s_go; rw [h]
theorem s_go_no {l un : List Nat} {v : Int32} {a : Nat} {f : Int32} (h : (s_play S l).1 = some (a, f)) : s_go S l un v = (s_ft S (nI (a / 6), nI (a % 6), f), -10 - f) := by unfold s_go; rw [h]
theorem s_go_wf (hw : s_wf S) {l un : List Nat} {v : Int32} (ho : s_ord S l) (hu : s_ord S un) (hd : ∀ p ∈ un, p ∉ l) : s_wf (s_go S l un v).1 := by
  cases hp : (s_play S l).1 with
  | none => rw [s_go_ok hp]; exact s_to_wf hw ho hp hu hd
  | some q => rw [s_go_no (a := q.1) (f := q.2) hp]; exact s_ft_wf hw _
theorem s_ord0 : s_ord S [] := ⟨List.nodup_nil, fun p hp => by cases hp⟩
theorem X_re (hw : s_wf S) (h : RX σ S) {l : List Nat} (hl : pu_seq σ (σ.2.2 1 + 1) l) (ho : s_ord S l) : ∃ τ, (pd_bI (X_carryOut σ) fun s1 v1 => pd_bI (X_rearranged v1 s1) fun s2 v2 => some (s2, some (pd_i v2))) = some (τ, some (pd_i (s_go S l [] (c_moved S l)).2)) ∧ RX τ (s_go S l [] (c_moved S l)).1 ∧ XF σ τ := by
  cases hp : (s_play S l).1 with
  | some q =>
    rw [s_go_no (a := q.1) (f := q.2) hp]
    obtain ⟨τ, t1, t2, t3⟩ := X_carryOut_no hw h hl ho (a := q.1) (f := q.2) hp
    refine ⟨τ, ?_, t2, t3⟩
    have hr := c_err_neg (c_ply_ne (a := q.1) (f := q.2) hp).2.1
    rw [t1, pd_bI_of, X_rearranged_eq, hr.2.1]; rfl
  | none =>
    rw [s_go_ok hp]
    obtain ⟨τ, t1, t2, t3, t4, t5⟩ := X_carryOut_ok hw h hl ho hp
    have hu := t2.un 0 (Nat.zero_le _)
    have hpc := hw.2.1.1
    have fr : pu_fr (fun k => k = 17) τ (pd_upI τ 17 1 0) := pu_fr.upI rfl
    have hrt := x_run t2
    have hm := Run_movedFrom_s (E := pd_upI τ 17 1 0) (r := τ.2.2 0) (q := τ.2.2 1) (len := s_ln S) (l := l) (l' := s_or S) (x_run3 t2) (x_tr3 t2) hu.2.1.2.1 hu.2.2.2.1.1 (t4.of (by rw [fr.1 _ (by omega)]) (fr.1 _ (by omega))) (s_ord25 hw ho) (s_or25 hw)
    refine ⟨pd_upI τ 17 1 0, ?_, hu, t3.tr (XF.of fr (fun k hk => by omega))⟩
    rw [t1, pd_bI_of, X_rearranged_eq]
    show pd_bI (pd_bI (Run_movedFrom (τ.2.2 0) (τ.2.2 1) (pd_upI τ 17 1 0)) _) _ = _
    rw [hm, pd_bI_of, pd_bI_of]
    have e : c_mv ((pd_upI τ 17 1 0).1 (τ.2.2 0 + 12)) ((pd_upI τ 17 1 0).1 (τ.2.2 1 + 12)) ((pd_upI τ 17 1 0).2.1 (τ.2.2 0 + 13)) ((pd_upI τ 17 1 0).2.1 (τ.2.2 1 + 13)) (s_ln S) (s_or S) l 0 = c_moved S l := by
      unfold c_moved
      refine c_mv_congr (fun q hq hq' a ha => ?_)
      have n1 := t2.2.2.2.1.2.1.2 a (c_blk_line hq ha)
      have n2 := t5.2 a (c_blk_line hq' ha)
      refine ⟨?_, ?_, ?_, ?_⟩
      · rw [fr.1 _ (by omega)]; exact n1.2.2.1
      · rw [fr.1 _ (by omega)]; exact n2.2.2.1
      · exact n1.2.2.2.1
      · exact n2.2.2.2.1
    rw [e]
end ORDER
/-! (whole, 48.tried) -/
section TRIED
variable {σ : pd_H} {S : cS}
/-- the desk's trial's order -/
def x_td (σ : pd_H) (l : List Nat) : Prop := pu_seq σ (σ.2.2 1 + 1) l
theorem x_trl (h : RX σ S) : pd_len (σ.2.2 1 + 1 + 1) = 24 ∧ pd_len (σ.2.2 0 + 1 + 1) = 24 ∧ σ.2.2 0 + 1 ≠ σ.2.2 1 + 1 ∧ σ.2.2 0 + 1 + 1 ≠ σ.2.2 1 + 1 := by
  obtain ⟨L2, -⟩ := pu_len_run (x_run3 h)
  obtain ⟨L2', -⟩ := pu_len_run (x_tr3 h)
  have := x_run h
  exact ⟨L2', L2, by omega, by omega⟩
theorem RX_td {τ : pd_H} (hw : s_wf S) (h : RX σ S) (hf : pu_fr (fun k => k = σ.2.2 1 + 1 ∨ k = σ.2.2 1 + 1 + 1) σ τ) : RX τ S ∧ XF σ τ := by
  have := x_run h
  exact ⟨RX_frK hw h (hf.mono fun k hk => by unfold x_frK; omega), XF.of hf (fun k hk => by omega)⟩
theorem X_tr_like (hw : s_wf S) (h : RX σ S) {o : Nat} {l : List Nat} (hl : pu_seq σ o l) (ho : pd_len (o + 1) = 24) (h1 : o < 32 ∨ o = σ.2.2 0 + 1) : ∃ τ, Seq_becomeLike (σ.2.2 1 + 1) o σ = some (τ, none) ∧ x_td τ l ∧ RX τ S ∧ XF σ τ ∧ τ.2.2 = σ.2.2 := by
  obtain ⟨L1, L2, n1, n2⟩ := x_trl h
  have := x_run h
  obtain ⟨τ, t1, t2, t3⟩ := Seq_becomeLike_s (o := σ.2.2 1 + 1) (a := o) hl L1 ho (by omega) (by omega)
  obtain ⟨g1, g2⟩ := RX_td hw h t3
  refine ⟨τ, t1, ?_, g1, g2, t3.2.2⟩
  unfold x_td; rw [t3.2.2]; exact t2
theorem X_tr_add (hw : s_wf S) (h : RX σ S) {l : List Nat} (hl : x_td σ l) (h24 : l.length < 24) (p : Nat) : ∃ τ, Seq_append (σ.2.2 1 + 1) (nI p) σ = some (τ, none) ∧ x_td τ (l ++ [p]) ∧ RX τ S ∧ XF σ τ ∧ τ.2.2 = σ.2.2 := by
  obtain ⟨L1, L2, n1, n2⟩ := x_trl h
  obtain ⟨τ, t1, t2, t3⟩ := Seq_append_s hl L1 p h24
  obtain ⟨g1, g2⟩ := RX_td hw h t3
  refine ⟨τ, t1, ?_, g1, g2, t3.2.2⟩
  unfold x_td; rw [t3.2.2]; exact t2
theorem X_tr_rm (hw : s_wf S) (h : RX σ S) {l : List Nat} (hl : x_td σ l) {p : Nat} (hp : p < 2 ^ 31) (h31 : ∀ x ∈ l, x < 2 ^ 31) : ∃ τ, Seq_remove (σ.2.2 1 + 1) (nI p) σ = some (τ, none) ∧ x_td τ (c_rm l p) ∧ RX τ S ∧ XF σ τ ∧ τ.2.2 = σ.2.2 := by
  obtain ⟨L1, L2, n1, n2⟩ := x_trl h
  obtain ⟨τ, t1, t2, t3⟩ := Seq_remove_s hl L1 hp h31
  obtain ⟨g1, g2⟩ := RX_td hw h t3
  refine ⟨τ, t1, ?_, g1, g2, t3.2.2⟩
  unfold x_td; rw [t3.2.2]; exact t2
/-! one taken out; one put on top -/
theorem c_rm_mem {l : List Nat} {p x : Nat} : x ∈ c_rm l p ↔ x ∈ l ∧ x ≠ p := by
  unfold c_rm
  rw [List.mem_filter]
  refine and_congr_right fun _ => ⟨fun h e => ?_, fun h => ?_⟩
  · rw [e, Nat.beq_refl] at h; cases h
  · cases hb : Nat.beq x p with
    | false => rfl
    | true => exact absurd (Nat.eq_of_beq_eq_true hb) h
theorem s_ord_rm {l : List Nat} (h : s_ord S l) (p : Nat) : s_ord S (c_rm l p) := ⟨h.1.filter _, fun x hx => h.2 x (c_rm_mem.mp hx).1⟩
theorem s_ord_add {l : List Nat} (h : s_ord S l) {p : Nat} (hp : p < s_pc S) (hn : p ∉ l) : s_ord S (l ++ [p]) := by
  refine ⟨?_, fun x hx => ?_⟩
  · rw [List.nodup_append]
    exact ⟨h.1, List.pairwise_singleton _ _, fun a ha b hb e => by
      rw [List.mem_singleton] at hb
      rw [hb] at e
      rw [e] at ha
      exact hn ha⟩
  · rw [List.mem_append, List.mem_singleton] at hx
    rcases hx with h1 | h1
    · exact h.2 x h1
    · rw [h1]; exact hp
theorem s_add24 (hw : s_wf S) {l : List Nat} (h : s_ord S l) {p : Nat} (hp : p < s_pc S) (hn : p ∉ l) : l.length < 24 := by
  have := s_len24 hw (s_ord_add h hp hn)
  rw [List.length_append, List.length_singleton] at this
  omega
end TRIED
/-! (whole, 51.calls6) -/
/-! Undo, keep, type, wipe, fault, met. -/
theorem c_ply_pre {kd sz : Nat → Int32} {chg : Nat → cC} : ∀ {t u : List Nat} {R : cR}, (c_ply kd sz chg (t ++ u) R).1 = none → (c_ply kd sz chg t R).1 = none := by
  intro t
  induction t with
  | nil => intro u R _; rfl
  | cons a t ih =>
    intro u R h
    by_cases h0 : c_fd kd sz R (chg a) = 0
    · rw [List.cons_append, c_ply_ok h0] at h
      rw [c_ply_ok h0]; exact ih h
    · rw [List.cons_append, c_ply_bad h0] at h; cases h
theorem c_ply_app {kd sz : Nat → Int32} {chg : Nat → cC} : ∀ {t u : List Nat} {R : cR}, (c_ply kd sz chg t R).1 = none → c_ply kd sz chg (t ++ u) R = c_ply kd sz chg u (c_ply kd sz chg t R).2 := by
  intro t
  induction t with
  | nil => intro u R _; rfl
  | cons a t ih =>
    intro u R h
    by_cases h0 : c_fd kd sz R (chg a) = 0
    · rw [c_ply_ok h0] at h
      rw [List.cons_append, c_ply_ok h0, c_ply_ok h0]; exact ih h
    · rw [c_ply_bad h0] at h; cases h
section CALLS6
variable {σ : pd_H} {S : cS}
theorem s_play_pre {l m : List Nat} (h : (s_play S (l ++ m)).1 = none) : (s_play S l).1 = none := by
  unfold s_play c_play at h ⊢
  rw [c_line_app] at h
  exact c_ply_pre h
theorem s_play0 : (s_play S []).1 = none := rfl
/-- what lies beside -/
def s_ot (S : cS) (un : List Nat) (vr : List (List Nat)) (tp : List Nat) (fl : Int32 × Int32 × Int32) (mt : Nat → Int32) : cS := (s_kd S, s_sz S, s_bt S, s_bn S, s_ch S, s_ln S, s_pc S, s_or S, un, vr, tp, fl, mt)
theorem s_ot_wf (hw : s_wf S) {un : List Nat} {vr : List (List Nat)} {tp : List Nat} {fl : Int32 × Int32 × Int32} {mt : Nat → Int32} (hu : s_ord S un) (hd : ∀ p ∈ un, p ∉ s_or S) (h6 : vr.length ≤ 6) (hv : ∀ l ∈ vr, s_ord S l) (h80 : tp.length ≤ 80) (hb : ∀ b ∈ tp, b < 256) : s_wf (s_ot S un vr tp fl mt) := ⟨hw.1, hw.2.1, ⟨hw.2.2.1.1, hu, hd, h6, hv⟩, hw.2.2.2.1, h80, hb⟩
theorem RX_ot {τ : pd_H} (h : RX σ S) (hf : pu_fr (fun k => k = 0 ∨ k = 10 ∨ k = 11 ∨ (16 ≤ k ∧ k < 32)) σ τ) {un : List Nat} {vr : List (List Nat)} {tp : List Nat} {fl : Int32 × Int32 × Int32} {mt : Nat → Int32} (ho : x_ot τ (s_ot S un vr tp fl mt)) : RX τ (s_ot S un vr tp fl mt) := by
  obtain ⟨⟨a1, a2, a3, a4⟩, ⟨b1, b2, b3⟩, hrt, ⟨c1, c2, c3⟩, -⟩ := h
  have hr : σ.2.2 0 = 32 ∨ σ.2.2 0 = 48 := by rcases hrt with q | q <;> omega
  have e1 : ∀ k, ¬ (k = 0 ∨ k = 10 ∨ k = 11 ∨ (16 ≤ k ∧ k < 32)) → τ.1 k = σ.1 k := hf.1
  have e2 : ∀ k, ¬ (k = 0 ∨ k = 10 ∨ k = 11 ∨ (16 ≤ k ∧ k < 32)) → τ.2.1 k = σ.2.1 k := hf.2.1
  refine ⟨⟨?_, ?_, ?_, ?_⟩, ⟨?_, ?_, ?_⟩, ?_, ⟨?_, ?_, ?_⟩, ho⟩
  · rw [e1 2 (by omega)]; exact a1
  · rw [e1 3 (by omega)]; exact a2
  · rw [e1 5 (by omega)]; exact a3
  · rw [e2 6 (by omega)]; exact a4
  · intro p k hp hk
    have hx : x_chg τ (6 * p + k) = x_chg σ (6 * p + k) := by unfold x_chg; rw [e1 _ (by omega)]
    rw [hx]; exact b1 p k hp hk
  · intro p hp; rw [e1 9 (by omega)]; exact b2 p hp
  · rw [e1 7 (by omega)]; exact b3
  · rw [hf.2.2]; exact hrt
  · rw [hf.2.2]; exact c1.of (by rw [e1 _ (by omega)]) (e1 _ (by omega))
  · rw [hf.2.2]
    have : x_rw S τ (σ.2.2 0) = x_rw S σ (σ.2.2 0) := by
      unfold x_rw
      rw [e1 _ (by omega : ¬ (σ.2.2 0 + 4 = 0 ∨ σ.2.2 0 + 4 = 10 ∨ σ.2.2 0 + 4 = 11 ∨ (16 ≤ σ.2.2 0 + 4 ∧ σ.2.2 0 + 4 < 32))), e2 _ (by omega : ¬ (σ.2.2 0 + 5 = 0 ∨ σ.2.2 0 + 5 = 10 ∨ σ.2.2 0 + 5 = 11 ∨ (16 ≤ σ.2.2 0 + 5 ∧ σ.2.2 0 + 5 < 32))), e1 _ (by omega : ¬ (σ.2.2 0 + 6 = 0 ∨ σ.2.2 0 + 6 = 10 ∨ σ.2.2 0 + 6 = 11 ∨ (16 ≤ σ.2.2 0 + 6 ∧ σ.2.2 0 + 6 < 32))), e1 _ (by omega : ¬ (σ.2.2 0 + 9 = 0 ∨ σ.2.2 0 + 9 = 10 ∨ σ.2.2 0 + 9 = 11 ∨ (16 ≤ σ.2.2 0 + 9 ∧ σ.2.2 0 + 9 < 32))), e2 _ (by omega : ¬ (σ.2.2 0 + 10 = 0 ∨ σ.2.2 0 + 10 = 10 ∨ σ.2.2 0 + 10 = 11 ∨ (16 ≤ σ.2.2 0 + 10 ∧ σ.2.2 0 + 10 < 32))), e1 _ (by omega : ¬ (σ.2.2 0 + 12 = 0 ∨ σ.2.2 0 + 12 = 10 ∨ σ.2.2 0 + 12 = 11 ∨ (16 ≤ σ.2.2 0 + 12 ∧ σ.2.2 0 + 12 < 32))), e2 _ (by omega : ¬ (σ.2.2 0 + 13 = 0 ∨ σ.2.2 0 + 13 = 10 ∨ σ.2.2 0 + 13 = 11 ∨ (16 ≤ σ.2.2 0 + 13 ∧ σ.2.2 0 + 13 < 32))), e1 _ (by omega : ¬ (σ.2.2 0 + 14 = 0 ∨ σ.2.2 0 + 14 = 10 ∨ σ.2.2 0 + 14 = 11 ∨ (16 ≤ σ.2.2 0 + 14 ∧ σ.2.2 0 + 14 < 32)))]
    show c_agr _ _ (x_rw S τ (σ.2.2 0)) _
    rw [this]; exact c2
  · rw [hf.2.2, e1 _ (by omega)]; exact c3
end CALLS6
/-! (whole, 52.undo) -/
section UNDO
variable {σ : pd_H} {S : cS}
/-- another order in the now run itself -/
theorem RX_now {τ : pd_H} (hw : s_wf S) (h : RX σ S) (hf : pu_fr (fun k => σ.2.2 0 ≤ k ∧ k < σ.2.2 0 + 16) σ τ) {l : List Nat} (h1 : x_rn τ (s_to S l (s_un S)) (σ.2.2 0)) : RX τ (s_to S l (s_un S)) := by
  obtain ⟨⟨a1, a2, a3, a4⟩, ⟨b1, b2, b3⟩, hrt, -, ⟨d1, d2, d3⟩, d4, d5, d6⟩ := h
  have hr : σ.2.2 0 = 32 ∨ σ.2.2 0 = 48 := by rcases hrt with q | q <;> omega
  have e1 : ∀ k, ¬ (σ.2.2 0 ≤ k ∧ k < σ.2.2 0 + 16) → τ.1 k = σ.1 k := hf.1
  have e2 : ∀ k, ¬ (σ.2.2 0 ≤ k ∧ k < σ.2.2 0 + 16) → τ.2.1 k = σ.2.1 k := hf.2.1
  have hseq : ∀ o l, o + 1 < 32 → pu_seq σ o l → pu_seq τ o l := fun o l h1 q => q.of (by rw [e1 o (by omega)]) (e1 (o + 1) (by omega))
  refine ⟨⟨?_, ?_, ?_, ?_⟩, ⟨?_, ?_, ?_⟩, ?_, ?_, ⟨hseq 17 _ (by omega) d1, ?_, ?_⟩, ?_, ?_, ?_⟩
  · rw [e1 2 (by omega)]; exact a1
  · rw [e1 3 (by omega)]; exact a2
  · rw [e1 5 (by omega)]; exact a3
  · rw [e2 6 (by omega)]; exact a4
  · intro p k hp hk
    have hx : x_chg τ (6 * p + k) = x_chg σ (6 * p + k) := by unfold x_chg; rw [e1 _ (by omega)]
    rw [hx]; exact b1 p k hp hk
  · intro p hp; rw [e1 9 (by omega)]; exact b2 p hp
  · rw [e1 7 (by omega)]; exact b3
  · rw [hf.2.2]; exact hrt
  · rw [hf.2.2]; exact h1
  · rw [e1 0 (by omega)]; exact d2
  · intro v l hv
    have hv1 : v < (s_vr S).length := (List.getElem?_eq_some_iff.mp hv).1
    have hv6 := hw.2.2.1.2.2.2.1
    exact hseq _ _ (by omega) (d3 v l hv)
  · rw [e1 10 (by omega), e1 11 (by omega)]; exact d4
  · rw [e1 0 (by omega)]; exact d5
  · rw [e1 16 (by omega)]; exact d6
end UNDO
/-! (whole, 53.keep) -/
section KEEP
variable {σ : pd_H} {S : cS}
theorem s_or24 (hw : s_wf S) : (s_or S).length ≤ 24 := s_len24 hw hw.2.2.1.1
end KEEP
