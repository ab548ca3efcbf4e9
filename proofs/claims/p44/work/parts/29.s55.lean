/-! (whole, 55b.stays) -/
/-! What stays when a set of patches leaves that nothing of the rest reads: no finding, and the values of the rest. -/
theorem c_line_nodup {len : Nat → Nat} : ∀ {l : List Nat}, l.Nodup → (∀ p ∈ l, len p ≤ 6) → (c_line len l).Nodup := by
  have hb : ∀ (q d k : Nat), (c_blk q k d).Nodup := by
    intro q d
    induction d with
    | zero => intro k; exact List.nodup_nil
    | succ d ih =>
      intro k
      refine List.nodup_cons.mpr ⟨fun h => ?_, ih (k + 1)⟩
      obtain ⟨j, h1, h2, h3⟩ := c_blk_mem h
      omega
  intro l
  induction l with
  | nil => intro _ _; exact List.nodup_nil
  | cons p l ih =>
    intro hnd h
    obtain ⟨h1, h2⟩ := List.nodup_cons.mp hnd
    show (c_blk p 0 (len p) ++ c_line len l).Nodup
    rw [List.nodup_append]
    refine ⟨hb _ _ _, ih h2 (fun q hq => h q (List.mem_cons_of_mem _ hq)), fun a ha b hb e => ?_⟩
    obtain ⟨j, j1, j2, j3⟩ := c_blk_mem ha
    obtain ⟨q, q1, k, q2, q3⟩ := c_line_mem hb
    have := h p List.mem_cons_self
    have := h q (List.mem_cons_of_mem _ q1)
    have : p = q := by omega
    exact h1 (this ▸ q1)
def c_wo (m : Int32) (l : List Nat) : List Nat := l.filter (fun x => !c_has m (nI x))
theorem c_wo_c {m : Int32} {x : Nat} {l : List Nat} : c_wo m (x :: l) = cond (c_has m (nI x)) (c_wo m l) (x :: c_wo m l) := by
  unfold c_wo
  cases h : c_has m (nI x) with
  | true => rw [List.filter_cons_of_neg (by rw [h]; decide)]; rfl
  | false => rw [List.filter_cons_of_pos (by rw [h]; rfl)]; rfl
/-- a last change that isn't of a set -/
def c_kp (M w : Int32) : Prop := w = -1 ∨ c_has M w = false
/-- two runs agree in what isn't of a set -/
def c_sub (M : Int32) (D : Nat → Prop) (R T : cR) : Prop := (∀ c, c_kp M (R.2.2.1 c) → R.1 c = T.1 c ∧ R.2.1 c = T.2.1 c ∧ R.2.2.1 c = T.2.2.1 c) ∧ ∀ a, D a → R.2.2.2.2.2.1 a = T.2.2.2.2.2.1 a ∧ R.2.2.2.2.2.2.1 a = T.2.2.2.2.2.2.1 a ∧ c_srow R a = c_srow T a
theorem c_sub.mono {M : Int32} {D F : Nat → Prop} {R T : cR} (h : c_sub M D R T) (g : ∀ a, F a → D a) : c_sub M F R T := ⟨h.1, fun a ha => h.2 a (g a ha)⟩
theorem c_sub_rd {R T : cR} {c : cC} (h : c.1 ≠ -1 → R.1 (c_fc c) = T.1 (c_fc c) ∧ R.2.1 (c_fc c) = T.2.1 (c_fc c) ∧ R.2.2.1 (c_fc c) = T.2.2.1 (c_fc c)) : c_ww R c = c_ww T c ∧ c_ht R c = c_ht T c ∧ c_hn R c = c_hn T c ∧ c_sr R c = c_sr T c := by
  unfold c_ww c_ht c_hn c_sr
  by_cases e : c.1 = -1
  · rw [decide_eq_true e]; exact ⟨rfl, rfl, rfl, rfl⟩
  · obtain ⟨h1, h2, h3⟩ := h e
    rw [h1, h2, h3]
    exact ⟨rfl, rfl, rfl, rfl⟩
theorem c_ni_ne {q : Nat} (h : q < 150) : ¬ nI q = -1 := fun e => by
  have h1 := nI_toInt (show q < 2 ^ 31 by omega)
  rw [e] at h1
  have h2 : (-1 : Int32).toInt = -1 := by decide
  omega
theorem c_ply_sub {kd sz : Nat → Int32} {chg : Nat → cC} {M : Int32} : ∀ {t : List Nat} {D : Nat → Prop} {R T : cR}, c_sub M D R T → (∀ a ∈ t, ¬ D a) → (c_ply kd sz chg t R).1 = none → t.Nodup → (∀ a ∈ t, a < 150) → (∀ a ∈ t, c_has M (nI (a / 6)) = false → c_kp M (c_srow (c_ply kd sz chg t R).2 a)) → (c_ply kd sz chg (t.filter (fun a => !c_has M (nI (a / 6)))) T).1 = none ∧ c_sub M (fun a => D a ∨ (a ∈ t ∧ c_has M (nI (a / 6)) = false)) (c_ply kd sz chg t R).2 (c_ply kd sz chg (t.filter (fun a => !c_has M (nI (a / 6)))) T).2 := by
  intro t
  induction t with
  | nil => intro D R T h _ _ _ _ _; exact ⟨rfl, h.mono (fun a ha => ha.elim id (fun q => by cases q.1))⟩
  | cons a t ih =>
    intro D R T h hD hn hnd h150 hk
    obtain ⟨hat, hnt⟩ := List.nodup_cons.mp hnd
    have ha150 := h150 a List.mem_cons_self
    by_cases h0 : c_fd kd sz R (chg a) = 0
    · have esr : c_srow (c_ply kd sz chg (a :: t) R).2 a = c_sr R (chg a) := by
        rw [c_ply_ok h0, c_src_keep hat]
        show upd _ a _ a = _
        rw [pk_us]
      have hk2 : ∀ b ∈ t, c_has M (nI (b / 6)) = false → c_kp M (c_srow (c_ply kd sz chg t (c_one kd (nI (a / 6)) a (chg a) R)).2 b) := fun b hb hm => by
        have := hk b (List.mem_cons_of_mem _ hb) hm
        rw [c_ply_ok h0] at this
        exact this
      rw [c_ply_ok h0] at hn ⊢
      cases hm : c_has M (nI (a / 6)) with
      | true =>
        rw [List.filter_cons_of_neg (by rw [hm]; decide)]
        have hs : c_sub M D (c_one kd (nI (a / 6)) a (chg a) R) T := by
          refine ⟨fun c hc => ?_, fun b hb => ?_⟩
          · have hc : c_kp M (upd R.2.2.1 (c_tc (chg a)) (nI (a / 6)) c) := hc
            show upd R.1 (c_tc (chg a)) _ c = _ ∧ vp_updL R.2.1 (c_tc (chg a)) _ c = _ ∧ upd R.2.2.1 (c_tc (chg a)) _ c = _
            by_cases e : c = c_tc (chg a)
            · rw [e, pk_us] at hc
              rcases hc with q | q
              · exact absurd q (c_ni_ne (by omega))
              · rw [hm] at q; cases q
            · rw [pk_un e] at hc
              rw [pk_un e, pk_uLn e, pk_un e]
              exact h.1 c hc
          · have e : b ≠ a := fun e => hD a List.mem_cons_self (e ▸ hb)
            show upd R.2.2.2.2.2.1 a _ b = _ ∧ vp_updL R.2.2.2.2.2.2.1 a _ b = _ ∧ upd R.2.2.2.2.2.2.2 a _ b = _
            rw [pk_un e, pk_uLn e, pk_un e]
            exact h.2 b hb
        obtain ⟨g1, g2⟩ := ih hs (fun b hb => hD b (List.mem_cons_of_mem _ hb)) hn hnt (fun b hb => h150 b (List.mem_cons_of_mem _ hb)) hk2
        refine ⟨g1, g2.mono (fun b hb => ?_)⟩
        rcases hb with q | ⟨q1, q2⟩
        · exact Or.inl q
        · rcases List.mem_cons.mp q1 with e | q1
          · rw [e, hm] at q2; cases q2
          · exact Or.inr ⟨q1, q2⟩
      | false =>
        have hka := hk a List.mem_cons_self hm
        rw [esr] at hka
        have hrd : (chg a).1 ≠ -1 → R.1 (c_fc (chg a)) = T.1 (c_fc (chg a)) ∧ R.2.1 (c_fc (chg a)) = T.2.1 (c_fc (chg a)) ∧ R.2.2.1 (c_fc (chg a)) = T.2.2.1 (c_fc (chg a)) := fun e => by
          refine h.1 _ ?_
          unfold c_sr at hka
          rw [decide_eq_false e, cond_false] at hka
          exact hka
        obtain ⟨e1, e2, e3, e4⟩ := c_sub_rd hrd
        have f0 : c_fd kd sz T (chg a) = 0 := by
          unfold c_fd c_f2 at h0 ⊢
          rw [← e1]; exact h0
        have e5 : c_nt kd R (chg a) = c_nt kd T (chg a) := by unfold c_nt; rw [e2]
        have e6 : c_nn kd R (chg a) = c_nn kd T (chg a) := by unfold c_nn; rw [e2, e3]
        rw [List.filter_cons_of_pos (by rw [hm]; rfl), c_ply_ok f0]
        have hs : c_sub M (fun b => D b ∨ b = a) (c_one kd (nI (a / 6)) a (chg a) R) (c_one kd (nI (a / 6)) a (chg a) T) := by
          refine ⟨fun c hc => ?_, fun b hb => ?_⟩
          · have hc : c_kp M (upd R.2.2.1 (c_tc (chg a)) (nI (a / 6)) c) := hc
            show upd R.1 (c_tc (chg a)) _ c = upd T.1 (c_tc (chg a)) _ c ∧ vp_updL R.2.1 (c_tc (chg a)) _ c = vp_updL T.2.1 (c_tc (chg a)) _ c ∧ upd R.2.2.1 (c_tc (chg a)) _ c = upd T.2.2.1 (c_tc (chg a)) _ c
            rw [e5, e6]
            by_cases e : c = c_tc (chg a)
            · rw [e, pk_us, pk_us, pk_uLs, pk_uLs, pk_us, pk_us]; exact ⟨rfl, rfl, rfl⟩
            · rw [pk_un e] at hc
              rw [pk_un e, pk_un e, pk_uLn e, pk_uLn e, pk_un e, pk_un e]
              exact h.1 c hc
          · show upd R.2.2.2.2.2.1 a _ b = upd T.2.2.2.2.2.1 a _ b ∧ vp_updL R.2.2.2.2.2.2.1 a _ b = vp_updL T.2.2.2.2.2.2.1 a _ b ∧ upd R.2.2.2.2.2.2.2 a _ b = upd T.2.2.2.2.2.2.2 a _ b
            rw [e4, e5, e6]
            by_cases e : b = a
            · rw [e, pk_us, pk_us, pk_uLs, pk_uLs, pk_us, pk_us]; exact ⟨rfl, rfl, rfl⟩
            · rw [pk_un e, pk_un e, pk_uLn e, pk_uLn e, pk_un e, pk_un e]
              exact h.2 b (hb.resolve_right e)
        obtain ⟨g1, g2⟩ := ih hs (fun b hb q => q.elim (hD b (List.mem_cons_of_mem _ hb)) (fun e => hat (e ▸ hb))) hn hnt (fun b hb => h150 b (List.mem_cons_of_mem _ hb)) hk2
        refine ⟨g1, g2.mono (fun b hb => ?_)⟩
        rcases hb with q | ⟨q1, q2⟩
        · exact Or.inl (Or.inl q)
        · rcases List.mem_cons.mp q1 with e | q1
          · exact Or.inl (Or.inr e)
          · exact Or.inr ⟨q1, q2⟩
    · rw [c_ply_bad h0] at hn; cases hn
theorem c_line_wo {len : Nat → Nat} {M : Int32} : ∀ {l : List Nat}, (∀ p ∈ l, len p ≤ 6) → (c_line len l).filter (fun a => !c_has M (nI (a / 6))) = c_line len (c_wo M l) := by
  intro l
  induction l with
  | nil => intro _; rfl
  | cons p l ih =>
    intro h
    have h6 := h p List.mem_cons_self
    have hb : ∀ a ∈ c_blk p 0 (len p), a / 6 = p := fun a ha => by
      obtain ⟨j, j1, j2, rfl⟩ := c_blk_mem ha
      omega
    show (c_blk p 0 (len p) ++ c_line len l).filter _ = _
    rw [List.filter_append, ih (fun q hq => h q (List.mem_cons_of_mem _ hq)), c_wo_c]
    cases hm : c_has M (nI p) with
    | true =>
      rw [cond_true, List.filter_eq_nil_iff.mpr (fun a ha => by rw [hb a ha, hm]; decide)]; rfl
    | false =>
      rw [cond_false, List.filter_eq_self.mpr (fun a ha => by rw [hb a ha, hm]; rfl)]; rfl
section STAYS
variable {S : cS}
/-- a set that nothing of the rest reads is taken out -/
theorem s_stays (hw : s_wf S) {l : List Nat} (ho : s_ord S l) (hp : (s_play S l).1 = none) {M : Int32} (hM : ∀ q ∈ l, c_has M (nI q) = false → ∀ j, j < s_ln S q → c_kp M (c_srow (s_play S l).2 (6 * q + j))) : (s_play S (c_wo M l)).1 = none ∧ c_sub M (fun a => a ∈ c_line (s_ln S) l ∧ c_has M (nI (a / 6)) = false) (s_play S l).2 (s_play S (c_wo M l)).2 := by
  have h6 : ∀ p ∈ l, s_ln S p ≤ 6 := fun p hp => hw.2.1.2.1 p (s_ord25 hw ho p hp)
  have h0 : c_sub M (fun _ => False) (c_r0 (s_bt S) (s_bn S)) (c_r0 (s_bt S) (s_bn S)) := ⟨fun c _ => ⟨rfl, rfl, rfl⟩, fun a ha => ha.elim⟩
  have h := c_ply_sub (kd := s_kd S) (sz := s_sz S) (chg := s_ch S) (t := c_line (s_ln S) l) h0 (fun _ _ q => q) hp (c_line_nodup ho.1 h6) (fun a ha => by
    obtain ⟨p, h1, k, h2, rfl⟩ := c_line_mem ha
    have := s_ord25 hw ho p h1
    have := h6 p h1
    omega) (fun a ha hm => by
    obtain ⟨p, h1, k, h2, rfl⟩ := c_line_mem ha
    have := h6 p h1
    rw [show (6 * p + k) / 6 = p by omega] at hm
    exact hM p h1 hm k h2)
  rw [c_line_wo h6] at h
  exact ⟨h.1, h.2.mono (fun a ha => Or.inr ha)⟩
end STAYS
section CLOSED
variable {src : Nat → Int32} {len : Nat → Nat} {p : Nat}
theorem c_dep_app : ∀ {u v : List Nat} {s : Int32}, c_dep src len p (u ++ v) s = c_dep src len p v (c_dep src len p u s) := by
  intro u
  induction u with
  | nil => intro v s; rfl
  | cons q u ih => intro v s; exact ih
theorem c_dep_in : ∀ {m : List Nat} {s : Int32} {x : Nat}, x < 25 → (∀ q ∈ m, q < 25) → c_has (c_dep src len p m s) (nI x) = true → c_has s (nI x) = true ∨ x ∈ m := by
  intro m
  induction m with
  | nil => intro s x _ _ h; exact Or.inl h
  | cons q m ih =>
    intro s x hx hm h
    rcases ih hx (fun y hy => hm y (List.mem_cons_of_mem _ hy)) h with g | g
    · cases hr : c_rdf src (s ||| c_one1 p) (c_blk q 0 (len q)) with
      | false => rw [hr, cond_false] at g; exact Or.inl g
      | true =>
        rw [hr, cond_true, c_has_or (hm q List.mem_cons_self) hx, Bool.or_eq_true] at g
        rcases g with g | g
        · exact Or.inl g
        · exact Or.inr (by rw [Nat.eq_of_beq_eq_true g]; exact List.mem_cons_self)
    · exact Or.inr (List.mem_cons_of_mem _ g)
theorem c_dep_up : ∀ {m : List Nat} {s : Int32} {x : Nat}, x < 25 → (∀ q ∈ m, q < 25) → c_has s (nI x) = true → c_has (c_dep src len p m s) (nI x) = true := by
  intro m
  induction m with
  | nil => intro s x _ _ h; exact h
  | cons q m ih =>
    intro s x hx hm h
    refine ih hx (fun y hy => hm y (List.mem_cons_of_mem _ hy)) ?_
    cases c_rdf src (s ||| c_one1 p) (c_blk q 0 (len q)) with
    | false => exact h
    | true => rw [cond_true, c_has_or (hm q List.mem_cons_self) hx, h]; rfl
theorem c_rdf_in {m : Int32} {b : Nat} : ∀ {t : List Nat}, b ∈ t → src b ≠ -1 → c_has m (src b) = true → c_rdf src m t = true := by
  intro t
  induction t with
  | nil => intro h; cases h
  | cons a t ih =>
    intro h h1 h2
    show cond (decide (src a = (-1 : Int32))) (c_rdf src m t) (cond (c_has m (src a)) true (c_rdf src m t)) = true
    rcases List.mem_cons.mp h with e | h
    · rw [← e, decide_eq_false h1, h2]; rfl
    · rw [ih h h1 h2]
      cases decide (src a = (-1 : Int32)) <;> cases c_has m (src a) <;> rfl
end CLOSED
section CLOSED2
variable {S : cS}
theorem s_hg_closed (hw : s_wf S) {p : Nat} (hm : p ∈ s_or S) {q : Nat} (hq : q ∈ s_or S) (hn : c_has (s_hg S p ||| c_one1 p) (nI q) = false) {j : Nat} (hj : j < s_ln S q) : c_kp (s_hg S p ||| c_one1 p) (c_srow (s_play S (s_or S)).2 (6 * q + j)) := by
  have ho := hw.2.2.1.1
  have hp := hw.2.2.2.1
  have h25 := s_or25 hw
  have hp25 := h25 p hm
  have hq25 := h25 q hq
  obtain ⟨a1, a2, hl, hd⟩ : ∃ a1 a2, s_or S = a1 ++ p :: a2 ∧ s_hg S p = c_dep (c_srow (s_play S (s_or S)).2) (s_ln S) p a2 0 := ⟨_, _, c_ix_split hm, rfl⟩
  have hnd : (a1 ++ p :: a2).Nodup := hl ▸ ho.1
  obtain ⟨n1, n2, n3⟩ := List.nodup_append.mp hnd
  obtain ⟨n4, n5⟩ := List.nodup_cons.mp n2
  have h25' : ∀ x ∈ a2, x < 25 := fun x hx => h25 x (by rw [hl]; exact List.mem_append_right _ (List.mem_cons_of_mem _ hx))
  -- a patch below p, but for p, isn't in the set
  have low : ∀ x ∈ a1, c_has (s_hg S p ||| c_one1 p) (nI x) = false := fun x hx => by
    have hx25 := h25 x (by rw [hl]; exact List.mem_append_left _ hx)
    have hxp : x ≠ p := fun e => n3 x hx p List.mem_cons_self e
    rw [c_has_or hp25 hx25, c_beq_f hxp, Bool.or_false]
    cases hc : c_has (s_hg S p) (nI x) with
    | false => rfl
    | true =>
      rw [hd] at hc
      rcases c_dep_in hx25 h25' hc with g | g
      · rw [c_has_0 hx25] at g; cases g
      · exact absurd rfl (n3 x hx x (List.mem_cons_of_mem _ g))
  have hqm : q ∈ a1 ++ p :: a2 := hl ▸ hq
  rcases List.mem_append.mp hqm with h1 | h1
  · -- q stands below p
    obtain ⟨u, v, hu⟩ := List.append_of_mem h1
    rcases (s_src hw ho hp (l1 := u) (l2 := v ++ p :: a2) (q := q) (by rw [hl, hu, List.append_assoc]; rfl) hj).2 with e | ⟨x, hx, e⟩
    · exact Or.inl e
    · rw [e]
      refine Or.inr ?_
      rcases hx with hx | hx
      · exact low x (by rw [hu]; exact List.mem_append_left _ hx)
      · rw [hx]; exact hn
  · rcases List.mem_cons.mp h1 with e | h2
    · rw [e, c_has_or hp25 hp25, Nat.beq_refl, Bool.or_true] at hn; cases hn
    · obtain ⟨u, v, hu⟩ := List.append_of_mem h2
      have hsp : s_or S = (a1 ++ p :: u) ++ q :: v := by rw [hl, hu, List.append_assoc]; rfl
      rcases (s_src hw ho hp hsp hj).2 with e | ⟨x, hx, e⟩
      · exact Or.inl e
      · refine Or.inr ?_
        rw [e]
        cases hc : c_has (s_hg S p ||| c_one1 p) (nI x) with
        | false => rfl
        | true =>
          exfalso
          have hxl : x ∈ s_or S := by
            rw [hsp]
            rcases hx with g | g
            · exact List.mem_append_left _ g
            · rw [g]; exact List.mem_append_right _ List.mem_cons_self
          have hx25 := h25 x hxl
          rcases hx with hx | hx
          · have hin : c_has (c_dep (c_srow (s_play S (s_or S)).2) (s_ln S) p u 0 ||| c_one1 p) (nI x) = true := by
              rw [c_has_or hp25 hx25]
              rcases List.mem_append.mp hx with g | g
              · rw [low x g] at hc; cases hc
              · rcases List.mem_cons.mp g with g | g
                · rw [g, Nat.beq_refl, Bool.or_true]
                · have hxp : x ≠ p := fun e => n4 (by rw [hu, ← e]; exact List.mem_append_left _ g)
                  rw [c_has_or hp25 hx25, c_beq_f hxp, Bool.or_false, hd, hu, c_dep_app] at hc
                  rcases c_dep_in hx25 (fun y hy => h25' y (by rw [hu]; exact List.mem_append_right _ hy)) hc with k | k
                  · rw [k]; rfl
                  · have := (List.nodup_append.mp (hu ▸ n5)).2.2 x g x k
                    exact absurd rfl this
            have hr : c_rdf (c_srow (s_play S (s_or S)).2) (c_dep (c_srow (s_play S (s_or S)).2) (s_ln S) p u 0 ||| c_one1 p) (c_blk q 0 (s_ln S q)) = true := c_rdf_in (b := 6 * q + j) (c_blk_in (Nat.zero_le _) (by omega)) (by rw [e]; exact c_ni_ne (by omega)) (by rw [e]; exact hin)
            have hqs : c_has (s_hg S p) (nI q) = true := by
              rw [hd, hu, c_dep_app]
              show c_has (c_dep _ _ p v (cond (c_rdf _ _ (c_blk q 0 (s_ln S q))) _ _)) _ = true
              rw [hr, cond_true]
              refine c_dep_up hq25 (fun y hy => h25' y (by rw [hu]; exact List.mem_append_right _ (List.mem_cons_of_mem _ hy))) ?_
              rw [c_has_or hq25 hq25, Nat.beq_refl, Bool.or_true]
            rw [c_has_or hp25 hq25, hqs] at hn
            cases hn
          · rw [hx] at hc; rw [hc] at hn; cases hn
/-- with a patch all that hangs on it: what stays has no finding -/
theorem s_with_ok (hw : s_wf S) {p : Nat} (hm : p ∈ s_or S) : (s_play S (c_wo (s_hg S p ||| c_one1 p) (s_or S))).1 = none := (s_stays hw hw.2.2.1.1 hw.2.2.2.1 (fun _ hq hn _ hj => s_hg_closed hw hm hq hn hj)).1
end CLOSED2
/-! (whole, 56.with) -/
section WITH
variable {σ : pd_H} {S : cS}
theorem s_ord_wo {l : List Nat} (h : s_ord S l) (m : Int32) : s_ord S (c_wo m l) := ⟨h.1.filter _, fun x hx => h.2 x (List.mem_filter.mp hx).1⟩
theorem c_nothas (m s : Int32) : decide (((m >>> (s &&& 31)) &&& 1) = 0) = !c_has m s := by unfold c_has; rw [Bool.not_not]
theorem X_with_loop (hw : s_wf S) {M : Int32} (d1 d2 : Option pd_V) : ∀ (m : List Nat) (i : Nat) (acc : List Nat) (τ : pd_H) (d6 : Option pd_V), i + m.length = (s_or S).length → acc.length ≤ i → x_td τ acc → RX τ S → (∀ t x, m[t]? = some x → (s_or S)[i + t]? = some x) → ∃ τ' d6', X_with_L51 d1 d2 (nI (s_or S).length) M (nI i) d6 τ = X_with_L51 d1 d2 (nI (s_or S).length) M (nI (s_or S).length) d6' τ' ∧ x_td τ' (acc ++ c_wo M m) ∧ RX τ' S ∧ XF τ τ' := by
  intro m
  induction m with
  | nil =>
    intro i acc τ d6 hi ha ht hX _
    have hi : i = (s_or S).length := hi
    exact ⟨τ, d6, by rw [hi], by show x_td τ (acc ++ []); rw [List.append_nil]; exact ht, hX, XF.rf⟩
  | cons y m ih =>
    intro i acc τ d6 hi ha ht hX hm
    have hi : i + (m.length + 1) = (s_or S).length := hi
    have h24 := s_or24 hw
    have hy : (s_or S)[i]? = some y := by have := hm 0 y rfl; rwa [Nat.add_zero] at this
    have hmt : ∀ t x, m[t]? = some x → (s_or S)[i + 1 + t]? = some x := fun t x h => by
      rw [show i + 1 + t = i + (t + 1) by omega]; exact hm (t + 1) x h
    have ey : τ.1 (τ.2.2 0 + 1 + 1) i = nI y := hX.2.2.2.1.1.2.2 i y hy
    have e0 : ∀ B : Option pd_R, cond (decide (nI (s_or S).length ≤ nI i)) B (cond (pd_ob (nI i) (pd_len (τ.2.2 0 + 1 + 1))) none
        (cond (decide (((M >>> ((τ.1 (τ.2.2 0 + 1 + 1) (Int32.toNatClampNeg (nI i))) &&& 31)) &&& 1) = 0))
        (pd_bV (Seq_append (τ.2.2 1 + 1) (τ.1 (τ.2.2 0 + 1 + 1) (Int32.toNatClampNeg (nI i))) τ) fun s3 =>
         X_with_L51 d1 d2 (nI (s_or S).length) M (nI i + 1) (some (pd_i (τ.1 (τ.2.2 0 + 1 + 1) (Int32.toNatClampNeg (nI i))))) s3)
        (X_with_L51 d1 d2 (nI (s_or S).length) M (nI i + 1) (some (pd_i (τ.1 (τ.2.2 0 + 1 + 1) (Int32.toNatClampNeg (nI i))))) τ))) =
        cond (c_has M (nI y)) (X_with_L51 d1 d2 (nI (s_or S).length) M (nI (i + 1)) (some (pd_i (nI y))) τ) (pd_bV (Seq_append (τ.2.2 1 + 1) (nI y) τ) fun s3 => X_with_L51 d1 d2 (nI (s_or S).length) M (nI (i + 1)) (some (pd_i (nI y))) s3) := fun B => by
      rw [decide_eq_false (nI_ge (show i < (s_or S).length by omega) (by omega)), cond_false, (x_trl hX).2.1, pu_obN (show i < 24 by omega) (by decide), cond_false, nI_clamp (by omega), ey, c_nothas, nI_1]
      cases c_has M (nI y) <;> rfl
    rw [c_wo_c, X_with_L51_eq, e0]
    cases c_has M (nI y) with
    | true =>
      rw [cond_true, cond_true]
      exact ih (i + 1) acc τ _ (by omega) (by omega) ht hX hmt
    | false =>
      obtain ⟨τ1, t1, t2, t3, t4, -⟩ := X_tr_add hw hX ht (show acc.length < 24 by omega) y
      rw [cond_false, cond_false, t1, pd_bV_of]
      obtain ⟨τ2, d6', u1, u2, u3, u4⟩ := ih (i + 1) (acc ++ [y]) τ1 (some (pd_i (nI y))) (by omega) (by rw [List.length_append, List.length_singleton]; omega) t2 t3 hmt
      rw [List.append_assoc] at u2
      exact ⟨τ2, d6', u1, u2, u3, t4.tr u4⟩
end WITH
/-! (whole, 57.lives) -/
section LIVES
variable {σ : pd_H} {S : cS}
theorem s_cld (hw : s_wf S) : ∀ x ∈ c_line (s_ln S) (s_or S), c_cld (s_ch S x) := c_ply_cld hw.1.2.1.sz (s_ok hw hw.2.2.1.1) hw.2.2.2.1
end LIVES
