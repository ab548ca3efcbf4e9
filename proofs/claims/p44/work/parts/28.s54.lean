/-! (whole, 54.src) -/
/-! Sets of patches; where what is written came from. -/
theorem c_bv1 (v : BitVec 32) : (v &&& 1#32 = 0#32) ↔ v.getLsbD 0 = false := by
  rw [BitVec.and_one_eq_setWidth_ofBool_getLsbD]
  cases v.getLsbD 0 <;> decide
theorem c_and0 (v : Int32) : (v &&& 1 = 0) ↔ v.toBitVec.getLsbD 0 = false := by
  rw [← Int32.toBitVec_inj, Int32.toBitVec_and]
  exact c_bv1 _
theorem c_shr {m : Int32} {x : Nat} (hx : x < 25) : (m >>> (nI x &&& 31)).toBitVec = m.toBitVec.sshiftRight x := by
  rw [Int32.toBitVec_shiftRight]
  have h : ∀ x, x < 25 → ((nI x &&& 31).toBitVec.smod 32#32).toNat = x := by decide +kernel
  show m.toBitVec.sshiftRight ((nI x &&& 31).toBitVec.smod 32#32).toNat = _
  rw [h x hx]
theorem c_has_bit {m : Int32} {x : Nat} (hx : x < 25) : c_has m (nI x) = m.toBitVec.getLsbD x := by
  have h : ((m >>> (nI x &&& 31)).toBitVec.getLsbD 0) = m.toBitVec.getLsbD x := by
    rw [c_shr hx, BitVec.getLsbD_sshiftRight]
    simp [show x < 32 by omega]
  unfold c_has
  cases h1 : m.toBitVec.getLsbD x with
  | false => rw [h1] at h; rw [decide_eq_true ((c_and0 _).mpr h)]; rfl
  | true => rw [h1] at h; rw [decide_eq_false (fun q => by rw [(c_and0 _).mp q] at h; cases h)]; rfl
theorem c_has_0 {x : Nat} (hx : x < 25) : c_has 0 (nI x) = false := by
  rw [c_has_bit hx]
  exact BitVec.getLsbD_zero
theorem c_has_or {s : Int32} {p x : Nat} (hp : p < 25) (hx : x < 25) : c_has (s ||| c_one1 p) (nI x) = (c_has s (nI x) || Nat.beq x p) := by
  rw [c_has_bit hx, c_has_bit hx, Int32.toBitVec_or, BitVec.getLsbD_or]
  have h : ∀ p, p < 25 → ∀ x, x < 25 → (c_one1 p).toBitVec.getLsbD x = Nat.beq x p := by decide +kernel
  rw [h p hp x hx]
/-! rows -/
abbrev c_srow (R : cR) : Nat → Int32 := R.2.2.2.2.2.2.2
theorem c_src_keep {kd sz : Nat → Int32} {chg : Nat → cC} {b : Nat} : ∀ {t : List Nat} {R : cR}, b ∉ t → c_srow (c_ply kd sz chg t R).2 b = c_srow R b := by
  intro t
  induction t with
  | nil => intro R _; rfl
  | cons a t ih =>
    intro R h
    by_cases h0 : c_fd kd sz R (chg a) = 0
    · rw [c_ply_ok h0, ih (fun q => h (List.mem_cons_of_mem _ q))]
      show upd (c_srow R) a _ b = _
      rw [pk_un (fun e => h (by rw [e]; exact List.mem_cons_self))]
    · rw [c_ply_bad h0]
theorem c_src_at {kd sz : Nat → Int32} {chg : Nat → cC} {b : Nat} {u v : List Nat} {R : cR} (h : (c_ply kd sz chg (u ++ b :: v) R).1 = none) (hv : b ∉ v) : c_srow (c_ply kd sz chg (u ++ b :: v) R).2 b = c_sr (c_ply kd sz chg u R).2 (chg b) := by
  have hu := c_ply_pre h
  rw [c_ply_app hu] at h ⊢
  by_cases h0 : c_fd kd sz (c_ply kd sz chg u R).2 (chg b) = 0
  · rw [c_ply_ok h0, c_src_keep hv]
    show upd _ b _ b = _
    rw [pk_us]
  · rw [c_ply_bad h0] at h; cases h
theorem c_wr_in {kd sz : Nat → Int32} {chg : Nat → cC} : ∀ {t : List Nat} {R : cR} {D : Nat → Prop}, (∀ c, R.2.2.1 c = -1 ∨ ∃ b, D b ∧ R.2.2.1 c = nI (b / 6)) → (c_ply kd sz chg t R).1 = none → ∀ c, (c_ply kd sz chg t R).2.2.2.1 c = -1 ∨ ∃ b, (D b ∨ b ∈ t) ∧ (c_ply kd sz chg t R).2.2.2.1 c = nI (b / 6) := by
  intro t
  induction t with
  | nil =>
    intro R D hR _ c
    rcases hR c with h | ⟨b, h1, h2⟩
    · exact Or.inl h
    · exact Or.inr ⟨b, Or.inl h1, h2⟩
  | cons a t ih =>
    intro R D hR hn c
    by_cases h0 : c_fd kd sz R (chg a) = 0
    · rw [c_ply_ok h0] at hn ⊢
      rcases ih (D := fun b => D b ∨ b = a) (R := c_one kd (nI (a / 6)) a (chg a) R) (fun c => by
        show upd R.2.2.1 (c_tc (chg a)) (nI (a / 6)) c = -1 ∨ ∃ b, (D b ∨ b = a) ∧ upd R.2.2.1 (c_tc (chg a)) (nI (a / 6)) c = nI (b / 6)
        by_cases e : c = c_tc (chg a)
        · rw [e, pk_us]; exact Or.inr ⟨a, Or.inr rfl, rfl⟩
        · rw [pk_un e]
          rcases hR c with h | ⟨b, h1, h2⟩
          · exact Or.inl h
          · exact Or.inr ⟨b, Or.inl h1, h2⟩) hn c with h | ⟨b, h1, h2⟩
      · exact Or.inl h
      · refine Or.inr ⟨b, ?_, h2⟩
        rcases h1 with (q | q) | q
        · exact Or.inl q
        · exact Or.inr (by rw [q]; exact List.mem_cons_self)
        · exact Or.inr (List.mem_cons_of_mem _ q)
    · rw [c_ply_bad h0] at hn; cases hn
theorem c_blk_at {q : Nat} : ∀ {d k j : Nat}, j < d → c_blk q k d = c_blk q k j ++ (6 * q + (k + j)) :: c_blk q (k + j + 1) (d - j - 1) := by
  intro d
  induction d with
  | zero => intro k j h; exact absurd h (Nat.not_lt_zero j)
  | succ d ih =>
    intro k j h
    cases j with
    | zero => rfl
    | succ j =>
      show (6 * q + k) :: c_blk q (k + 1) d = ((6 * q + k) :: c_blk q (k + 1) j) ++ _
      rw [ih (k := k + 1) (j := j) (by omega), List.cons_append, show k + 1 + j = k + (j + 1) by omega, show d - j - 1 = d + 1 - (j + 1) - 1 by omega]
section SRC
variable {S : cS}
/-- where what a change copies was written -/
theorem s_src (hw : s_wf S) {l l1 l2 : List Nat} {q j : Nat} (ho : s_ord S l) (hp : (s_play S l).1 = none) (hl : l = l1 ++ q :: l2) (hj : j < s_ln S q) :
    ((s_ch S (6 * q + j)).1 = -1 → c_srow (s_play S l).2 (6 * q + j) = -1) ∧ (c_srow (s_play S l).2 (6 * q + j) = -1 ∨ ∃ x, (x ∈ l1 ∨ x = q) ∧ c_srow (s_play S l).2 (6 * q + j) = nI x) := by
  subst hl
  have hpc := hw.2.1.1
  have hql : q ∈ l1 ++ q :: l2 := List.mem_append_right _ List.mem_cons_self
  have hq24 := ho.2 q hql
  have hlq := hw.2.1.2.1 q (by omega)
  have eL : c_line (s_ln S) (l1 ++ q :: l2) = (c_line (s_ln S) l1 ++ c_blk q 0 j) ++ (6 * q + j) :: (c_blk q (j + 1) (s_ln S q - j - 1) ++ c_line (s_ln S) l2) := by
    rw [c_line_app]
    show c_line (s_ln S) l1 ++ (c_blk q 0 (s_ln S q) ++ c_line (s_ln S) l2) = _
    rw [c_blk_at hj, Nat.zero_add]
    simp only [List.append_assoc, List.cons_append]
  have hnd : (q :: l2).Nodup := (List.nodup_append.mp ho.1).2.1
  have hq2 : q ∉ l2 := (List.nodup_cons.mp hnd).1
  have hv : 6 * q + j ∉ c_blk q (j + 1) (s_ln S q - j - 1) ++ c_line (s_ln S) l2 := fun h => by
    rw [List.mem_append] at h
    rcases h with h | h
    · obtain ⟨i, h1, h2, h3⟩ := c_blk_mem h
      omega
    · obtain ⟨p, h1, k, h2, h3⟩ := c_line_mem h
      have hp24 := ho.2 p (List.mem_append_right _ (List.mem_cons_of_mem _ h1))
      have := hw.2.1.2.1 p (by omega)
      have : p = q := by omega
      exact hq2 (this ▸ h1)
  unfold s_play c_play at hp ⊢
  rw [eL] at hp ⊢
  have e := c_src_at hp hv
  have hW := c_wr_in (D := fun _ => False) (R := c_r0 (s_bt S) (s_bn S)) (fun c => Or.inl rfl) (c_ply_pre hp)
  rw [e]
  unfold c_sr
  refine ⟨fun h => by rw [decide_eq_true h]; rfl, ?_⟩
  by_cases h : (s_ch S (6 * q + j)).1 = -1
  · rw [decide_eq_true h]; exact Or.inl rfl
  · rw [decide_eq_false h, cond_false]
    rcases hW (c_fc (s_ch S (6 * q + j))) with g | ⟨b, g1, g2⟩
    · exact Or.inl g
    · refine Or.inr ⟨b / 6, ?_, g2⟩
      rcases g1 with g1 | g1
      · exact g1.elim
      · rw [List.mem_append] at g1
        rcases g1 with g1 | g1
        · obtain ⟨p, h1, k, h2, h3⟩ := c_line_mem g1
          have hp24 := ho.2 p (List.mem_append_left _ h1)
          have := hw.2.1.2.1 p (by omega)
          have : b / 6 = p := by omega
          rw [this]; exact Or.inl h1
        · obtain ⟨i, h1, h2, h3⟩ := c_blk_mem g1
          have : b / 6 = q := by omega
          exact Or.inr this
end SRC
/-! (whole, 55.hangs) -/
section HANGS
variable {σ : pd_H} {S : cS}
theorem c_beq_f {a b : Nat} (h : a ≠ b) : Nat.beq a b = false := by
  cases hb : Nat.beq a b with
  | false => rfl
  | true => exact absurd (Nat.eq_of_beq_eq_true hb) h
theorem c_beq_d {a b : Nat} (ha : a < 2 ^ 31) (hb : b < 2 ^ 31) : decide (nI a = nI b) = Nat.beq a b := by
  by_cases e : a = b
  · rw [e, Nat.beq_refl, decide_eq_true rfl]
  · rw [c_beq_f e, decide_eq_false]
    rw [nI_eq ha hb]; exact e
theorem c_ix_split {l : List Nat} {a : Nat} (h : a ∈ l) : l = l.take (c_ix l a) ++ a :: l.drop (c_ix l a + 1) := by
  have hi := c_ix_mem.mpr h
  have key : ∀ (l : List Nat), a ∈ l → l[c_ix l a]? = some a := by
    intro l
    induction l with
    | nil => intro h; cases h
    | cons y m ih =>
      intro h
      by_cases e : y = a
      · subst e
        simp only [c_ix, Nat.beq_refl, cond_true]; rfl
      · have hm : a ∈ m := by
          rcases List.mem_cons.mp h with q | q
          · exact absurd q.symm e
          · exact q
        simp only [c_ix, c_beq_f e, cond_false]
        exact ih hm
  have e1 : l.drop (c_ix l a) = l[c_ix l a]'hi :: l.drop (c_ix l a + 1) := List.drop_eq_getElem_cons hi
  have e2 : l[c_ix l a]'hi = a := by
    have := key l h
    rw [List.getElem?_eq_getElem hi] at this
    exact Option.some.inj this
  rw [e2] at e1
  conv => lhs; rw [← List.take_append_drop (c_ix l a) l, e1]
theorem c_rdf_congr {src src' : Nat → Int32} {m : Int32} : ∀ {t : List Nat}, (∀ b ∈ t, src b = src' b) → c_rdf src m t = c_rdf src' m t := by
  intro t
  induction t with
  | nil => intro _; rfl
  | cons b t ih =>
    intro h
    unfold c_rdf
    rw [h b List.mem_cons_self, ih (fun c hc => h c (List.mem_cons_of_mem _ hc))]
theorem c_dep_congr {src src' : Nat → Int32} {len : Nat → Nat} {a : Nat} : ∀ {t : List Nat} {s : Int32}, (∀ q ∈ t, ∀ b ∈ c_blk q 0 (len q), src b = src' b) → c_dep src len a t s = c_dep src' len a t s := by
  intro t
  induction t with
  | nil => intro s _; rfl
  | cons q t ih =>
    intro s h
    unfold c_dep
    rw [c_rdf_congr (h q List.mem_cons_self)]
    exact ih (fun x hx => h x (List.mem_cons_of_mem _ hx))
/-- what hangs on a patch -/
def s_hg (S : cS) (a : Nat) : Int32 := c_dep (c_srow (s_play S (s_or S)).2) (s_ln S) a ((s_or S).drop (c_ix (s_or S) a + 1)) 0
theorem X_dep_s (hw : s_wf S) (h : RX σ S) {a : Nat} (ha : a ∈ s_or S) : Run_dependents (σ.2.2 0) (nI a) σ = some (σ, some (pd_i (s_hg S a))) := by
  rw [Run_dependents_s (x_run3 h) h.2.1.2.1 h.2.2.2.1.1 (s_or25 hw) ha]
  unfold s_hg
  rw [c_dep_congr (src := σ.1 (σ.2.2 0 + 14)) (src' := c_srow (s_play S (s_or S)).2) (fun q hq b hb => (h.2.2.2.1.2.1.2 b (c_blk_line (List.mem_of_mem_drop hq) hb)).2.2.2.2)]
end HANGS
