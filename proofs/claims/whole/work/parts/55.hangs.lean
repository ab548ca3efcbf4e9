/-! What hangs on a patch. -/
/-- a change asks for a, or for one of a set -/
def c_ask1 (src : Nat → Int32) (q a : Nat) (m : Int32) (b : Nat) : Bool := !decide (src b = -1) && (!decide (src b = nI q) && (decide (src b = nI a) || c_has m (src b)))
def c_ask (src : Nat → Int32) (q a : Nat) (m : Int32) : List Nat → Bool
  | [] => false
  | b :: t => c_ask1 src q a m b || c_ask src q a m t
def c_hm (src : Nat → Int32) (len : Nat → Nat) (a : Nat) : List Nat → Int32 → Int32
  | [], s => s
  | q :: m, s => c_hm src len a m (cond (Nat.beq q a) s (cond (c_ask src q a s (c_blk q 0 (len q))) (s ||| c_one1 q) s))
section HANGS
variable {σ : pd_H} {S : cS}
theorem M_asksOf_s {len : Nat → Nat} {src : Nat → Int32} (hlen : m_lens σ len) {q a : Nat} (hq : q < 25) (m : Int32) (hsrc : ∀ b ∈ c_blk q 0 (len q), σ.1 249 b = src b ∧ (σ.1 238 b = 0 → src b = -1)) : M_asksOf (nI q) (nI a) m σ = some (σ, some (pd_i (cond (c_ask src q a m (c_blk q 0 (len q))) 1 0))) := by
  obtain ⟨hlq, hl6⟩ := hlen q hq
  have loop : ∀ (d k : Nat) (acc : Bool) (d6 d7 : Option pd_V), k + d = len q → M_asksOf_L6 (nI q) (nI a) m (cond acc 1 0) (nI k) d6 d7 σ = some (σ, some (pd_i (cond (acc || c_ask src q a m (c_blk q k d)) 1 0))) := by
    intro d
    induction d with
    | zero =>
      intro k acc d6 d7 hk
      have hk : k = len q := hk
      rw [M_asksOf_L6_eq]
      simp only [show pd_len 244 = 25 from rfl, pu_obN hq (show 25 < 2 ^ 31 by decide), nI_clamp (show q < 2 ^ 31 by omega), hlq, hk, nI_leI (show len q < 2 ^ 31 by omega) (show len q < 2 ^ 31 by omega), Nat.le_refl, decide_true, cond_true, cond_false]
      show cond _ _ _ = some (σ, some (pd_i (cond (acc || false) 1 0)))
      rw [Bool.or_false]
      cases acc <;> rfl
    | succ d ih =>
      intro k acc d6 d7 hk
      have ix : (6 : Int32) * nI q + nI k = nI (6 * q + k) := by rw [Int32.mul_comm]; exact c_step_nI q k
      obtain ⟨s1, s2⟩ := hsrc (6 * q + k) (c_blk_in (Nat.zero_le _) (by omega))
      have ih1 : ∀ d6 d7, M_asksOf_L6 (nI q) (nI a) m 1 (nI (k + 1)) d6 d7 σ = some (σ, some (pd_i 1)) := fun d6 d7 => ih (k + 1) true d6 d7 (by omega)
      have ih0 : ∀ d6 d7, M_asksOf_L6 (nI q) (nI a) m 0 (nI (k + 1)) d6 d7 σ = some (σ, some (pd_i (cond (c_ask src q a m (c_blk q (k + 1) d)) 1 0))) := fun d6 d7 => ih (k + 1) false d6 d7 (by omega)
      have h63_1 : ∀ d7, M_asksOf_L63 (nI q) (nI a) m (cond acc 1 0) (nI k) (src (6 * q + k)) d7 1 σ = some (σ, some (pd_i (cond (acc || ((decide (src (6 * q + k) = nI a) || c_has m (src (6 * q + k))) || c_ask src q a m (c_blk q (k + 1) d))) 1 0))) := fun d7 => by
        rw [M_asksOf_L63_eq, c_has_1]
        cases acc with
        | true =>
          rw [cond_true, decide_eq_false (by decide : ¬ (1 : Int32) = 0), cond_false, nI_1, ih1]; rfl
        | false =>
          rw [cond_false, decide_eq_true (rfl : (0 : Int32) = 0), cond_true, decide_eq_false (by decide : ¬ (1 : Int32) = 0), cond_false, nI_1, ih1, ih0]
          cases decide (src (6 * q + k) = nI a) <;> cases c_has m (src (6 * q + k)) <;> rfl
      have h63_0 : ∀ d7, M_asksOf_L63 (nI q) (nI a) m (cond acc 1 0) (nI k) (src (6 * q + k)) d7 0 σ = some (σ, some (pd_i (cond (acc || c_ask src q a m (c_blk q (k + 1) d)) 1 0))) := fun d7 => by
        rw [M_asksOf_L63_eq, nI_1]
        cases acc with
        | true =>
          rw [cond_true, decide_eq_false (by decide : ¬ (1 : Int32) = 0), cond_false, ih1]; rfl
        | false =>
          rw [cond_false, decide_eq_true (rfl : (0 : Int32) = 0), cond_true, cond_true, ih0]; rfl
      rw [M_asksOf_L6_eq]
      simp only [show pd_len 244 = 25 from rfl, pu_obN hq (show 25 < 2 ^ 31 by decide), nI_clamp (show q < 2 ^ 31 by omega), hlq, nI_leI (show len q < 2 ^ 31 by omega) (show k < 2 ^ 31 by omega), show ¬ len q ≤ k by omega, decide_false, cond_false, ix, show pd_len 249 = 150 from rfl, show pd_len 238 = 150 from rfl, pu_obN (show 6 * q + k < 150 by omega) (show 150 < 2 ^ 31 by decide), nI_clamp (show 6 * q + k < 2 ^ 31 by omega), s1, h63_0, h63_1]
      show _ = some (σ, some (pd_i (cond (acc || (c_ask1 src q a m (6 * q + k) || c_ask src q a m (c_blk q (k + 1) d))) 1 0)))
      unfold c_ask1
      by_cases e0 : σ.1 238 (6 * q + k) = 0
      · rw [decide_eq_true e0, decide_eq_true (s2 e0)]; rfl
      · rw [decide_eq_false e0, cond_false]
        cases decide (src (6 * q + k) = -1) <;> cases decide (src (6 * q + k) = nI q) <;> rfl
  rw [M_asksOf_eq]
  exact loop (len q) 0 false none none (Nat.zero_add _)
theorem M_hangsNow_s {len : Nat → Nat} {src : Nat → Int32} {l : List Nat} (hlen : m_lens σ len) (h1 : σ.1 230 21 = nI l.length) (h2 : m_ls (σ.1 250) l) (h24 : l.length ≤ 24) (h25 : ∀ x ∈ l, x < 25) {a : Nat} (ha : a < 25) (hsrc : ∀ q ∈ l, ∀ b ∈ c_blk q 0 (len q), σ.1 249 b = src b ∧ (σ.1 238 b = 0 → src b = -1)) : M_hangsNow (nI a) σ = some (σ, some (pd_i (c_hm src len a l 0))) := by
  have loop : ∀ (m : List Nat) (i : Nat) (s : Int32) (d4 : Option pd_V), i + m.length = l.length → (∀ t x, m[t]? = some x → l[i + t]? = some x) → M_hangsNow_L4 (nI a) s (nI i) d4 σ = some (σ, some (pd_i (c_hm src len a m s))) := by
    intro m
    induction m with
    | nil =>
      intro i s d4 hi _
      have hi : i = l.length := hi
      rw [M_hangsNow_L4_eq, h1, hi]
      simp only [nI_leI (show l.length < 2 ^ 31 by omega) (show l.length < 2 ^ 31 by omega), Nat.le_refl, decide_true, cond_true]
      rfl
    | cons q m ih =>
      intro i s d4 hi hm
      have hi : i + (m.length + 1) = l.length := hi
      have hy : l[i]? = some q := by have := hm 0 q rfl; rwa [Nat.add_zero] at this
      have hql := List.mem_of_getElem? hy
      have hq := h25 q hql
      have hmt : ∀ t x, m[t]? = some x → l[i + 1 + t]? = some x := fun t x h => by
        rw [show i + 1 + t = i + (t + 1) by omega]; exact hm (t + 1) x h
      have e250 : σ.1 250 i = nI q := h2 i q hy
      have hs0 : s ||| 0 = s := Int32.or_zero
      rw [M_hangsNow_L4_eq, h1]
      simp only [nI_leI (show l.length < 2 ^ 31 by omega) (show i < 2 ^ 31 by omega), show ¬ l.length ≤ i by omega, decide_false, cond_false, show pd_len 250 = 24 from rfl, pu_obN (show i < 24 by omega) (show 24 < 2 ^ 31 by decide), nI_clamp (show i < 2 ^ 31 by omega), e250, nI_1, hs0, M_asksOf_s hlen hq s (hsrc q hql), pd_bI_of]
      show _ = some (σ, some (pd_i (c_hm src len a m (cond (Nat.beq q a) s (cond (c_ask src q a s (c_blk q 0 (len q))) (s ||| c_one1 q) s)))))
      by_cases e : q = a
      · rw [decide_eq_true (by rw [e]), cond_true, e, Nat.beq_refl, cond_true]
        exact ih (i + 1) s _ (by omega) hmt
      · have hb : Nat.beq q a = false := by
          cases hb : Nat.beq q a with
          | false => rfl
          | true => exact absurd (Nat.eq_of_beq_eq_true hb) e
        have hne : ¬ nI q = nI a := by rw [nI_eq (by omega) (by omega)]; exact e
        rw [decide_eq_false hne, cond_false, hb, cond_false]
        cases c_ask src q a s (c_blk q 0 (len q)) with
        | true =>
          rw [cond_true, cond_true, decide_eq_false (by decide : ¬ (1 : Int32) = 0), cond_false]
          exact ih (i + 1) _ _ (by omega) hmt
        | false =>
          rw [cond_false, cond_false, decide_eq_true (rfl : (0 : Int32) = 0), cond_true]
          exact ih (i + 1) _ _ (by omega) hmt
  rw [M_hangsNow_eq]
  exact loop l 0 0 none (Nat.zero_add _) (fun t x hx => by rw [Nat.zero_add]; exact hx)
/-! both tell the same -/
theorem c_ask_none {src : Nat → Int32} {q a : Nat} {m : Int32} : ∀ {t : List Nat}, (∀ b ∈ t, c_ask1 src q a m b = false) → c_ask src q a m t = false := by
  intro t
  induction t with
  | nil => intro _; rfl
  | cons b t ih =>
    intro h
    show (c_ask1 src q a m b || c_ask src q a m t) = false
    rw [h b List.mem_cons_self, ih (fun c hc => h c (List.mem_cons_of_mem _ hc))]; rfl
theorem c_ask_rdf {src : Nat → Int32} {q a : Nat} {m : Int32} : ∀ {t : List Nat}, (∀ b ∈ t, c_ask1 src q a m b = (!decide (src b = -1) && c_has (m ||| c_one1 a) (src b))) → c_ask src q a m t = c_rdf src (m ||| c_one1 a) t := by
  intro t
  induction t with
  | nil => intro _; rfl
  | cons b t ih =>
    intro h
    show (c_ask1 src q a m b || c_ask src q a m t) = cond (decide (src b = (-1 : Int32))) (c_rdf src (m ||| c_one1 a) t) (cond (c_has (m ||| c_one1 a) (src b)) true (c_rdf src (m ||| c_one1 a) t))
    rw [h b List.mem_cons_self, ih (fun c hc => h c (List.mem_cons_of_mem _ hc))]
    cases decide (src b = -1) <;> cases c_has (m ||| c_one1 a) (src b) <;> rfl
theorem c_beq_f {a b : Nat} (h : a ≠ b) : Nat.beq a b = false := by
  cases hb : Nat.beq a b with
  | false => rfl
  | true => exact absurd (Nat.eq_of_beq_eq_true hb) h
theorem c_beq_d {a b : Nat} (ha : a < 2 ^ 31) (hb : b < 2 ^ 31) : decide (nI a = nI b) = Nat.beq a b := by
  by_cases e : a = b
  · rw [e, Nat.beq_refl, decide_eq_true rfl]
  · rw [c_beq_f e, decide_eq_false]
    rw [nI_eq ha hb]; exact e
theorem s_hangs (hw : s_wf S) {l l1 l2 : List Nat} {a : Nat} (ho : s_ord S l) (hp : (s_play S l).1 = none) (hl : l = l1 ++ a :: l2) : c_hm (c_srow (s_play S l).2) (s_ln S) a l 0 = c_dep (c_srow (s_play S l).2) (s_ln S) a l2 0 := by
  have h25 : ∀ x ∈ l, x < 25 := s_ord25 hw ho
  have ha25 := h25 a (by rw [hl]; exact List.mem_append_right _ List.mem_cons_self)
  have hnd : (l1 ++ a :: l2).Nodup := hl ▸ ho.1
  have hn2 : (a :: l2).Nodup := (List.nodup_append.mp hnd).2.1
  have ha2 : a ∉ l2 := (List.nodup_cons.mp hn2).1
  have ha1 : a ∉ l1 := fun q => (List.nodup_append.mp hnd).2.2 a q a List.mem_cons_self rfl
  have part1 : ∀ (m u : List Nat), l1 = u ++ m → c_hm (c_srow (s_play S l).2) (s_ln S) a (m ++ a :: l2) 0 = c_hm (c_srow (s_play S l).2) (s_ln S) a (a :: l2) 0 := by
    intro m
    induction m with
    | nil => intro u _; rfl
    | cons q m ih =>
      intro u hu
      have hql1 : q ∈ l1 := by rw [hu]; exact List.mem_append_right _ List.mem_cons_self
      have hqa : q ≠ a := fun e => ha1 (e ▸ hql1)
      have hsplit : l = u ++ q :: (m ++ a :: l2) := by rw [hl, hu, List.append_assoc]; rfl
      have e : c_ask (c_srow (s_play S l).2) q a 0 (c_blk q 0 (s_ln S q)) = false := c_ask_none (fun b hb => by
        obtain ⟨j, j1, j2, rfl⟩ := c_blk_mem hb
        obtain ⟨-, hs⟩ := s_src hw ho hp hsplit (j := j) (by omega)
        unfold c_ask1
        rcases hs with hs | ⟨x, hx, hs⟩
        · rw [hs, decide_eq_true rfl]; rfl
        · have hxl : x ∈ l := by
            rw [hsplit]
            rcases hx with q1 | q1
            · exact List.mem_append_left _ q1
            · rw [q1]; exact List.mem_append_right _ List.mem_cons_self
          have hxa : x ≠ a := fun e => by
            rcases hx with q1 | q1
            · exact ha1 (by rw [hu, ← e]; exact List.mem_append_left _ q1)
            · exact hqa (q1.symm.trans e)
          have hx25 := h25 x hxl
          rw [hs, c_has_0 hx25, c_beq_d (by omega) (show a < 2 ^ 31 by omega), c_beq_f hxa]
          cases !decide (nI x = -1) <;> cases !decide (nI x = nI q) <;> rfl)
      show c_hm (c_srow (s_play S l).2) (s_ln S) a (m ++ a :: l2) (cond (Nat.beq q a) 0 (cond (c_ask (c_srow (s_play S l).2) q a 0 (c_blk q 0 (s_ln S q))) (0 ||| c_one1 q) 0)) = _
      rw [e, c_beq_f hqa]
      exact ih (u ++ [q]) (by rw [hu, List.append_assoc]; rfl)
  have part2 : ∀ (m u : List Nat) (s : Int32), l2 = u ++ m → (∀ x, x < 25 → c_has s (nI x) = true → x ∈ u) → c_hm (c_srow (s_play S l).2) (s_ln S) a m s = c_dep (c_srow (s_play S l).2) (s_ln S) a m s := by
    intro m
    induction m with
    | nil => intro u s _ _; rfl
    | cons q m ih =>
      intro u s hu hs
      have hql2 : q ∈ l2 := by rw [hu]; exact List.mem_append_right _ List.mem_cons_self
      have hql : q ∈ l := by rw [hl]; exact List.mem_append_right _ (List.mem_cons_of_mem _ hql2)
      have hqa : q ≠ a := fun e => ha2 (e ▸ hql2)
      have hnd2 : (u ++ q :: m).Nodup := hu ▸ (List.nodup_cons.mp hn2).2
      have hqu : q ∉ u := fun h => (List.nodup_append.mp hnd2).2.2 q h q List.mem_cons_self rfl
      have hq25 := h25 q hql
      have hsplit : l = (l1 ++ a :: u) ++ q :: m := by rw [hl, hu, List.append_assoc]; rfl
      have e : c_ask (c_srow (s_play S l).2) q a s (c_blk q 0 (s_ln S q)) = c_rdf (c_srow (s_play S l).2) (s ||| c_one1 a) (c_blk q 0 (s_ln S q)) := c_ask_rdf (fun b hb => by
        obtain ⟨j, j1, j2, rfl⟩ := c_blk_mem hb
        obtain ⟨-, hsr⟩ := s_src hw ho hp hsplit (j := j) (by omega)
        unfold c_ask1
        rcases hsr with hsr | ⟨x, hx, hsr⟩
        · rw [hsr, decide_eq_true rfl]; rfl
        · have hxl : x ∈ l := by
            rw [hsplit]
            rcases hx with q1 | q1
            · exact List.mem_append_left _ q1
            · rw [q1]; exact List.mem_append_right _ List.mem_cons_self
          have hx25 := h25 x hxl
          rw [hsr, c_has_or ha25 hx25, c_beq_d (by omega) (show q < 2 ^ 31 by omega), c_beq_d (by omega) (show a < 2 ^ 31 by omega)]
          by_cases exq : x = q
          · have hf : c_has s (nI x) = false := by
              cases hc : c_has s (nI x) with
              | false => rfl
              | true => exact absurd (exq ▸ hs x hx25 hc) hqu
            rw [hf, exq, c_beq_f hqa, Nat.beq_refl]
            cases !decide (nI q = -1) <;> rfl
          · rw [c_beq_f exq]
            cases !decide (nI x = -1) <;> cases Nat.beq x a <;> cases c_has s (nI x) <;> rfl)
      show c_hm (c_srow (s_play S l).2) (s_ln S) a m (cond (Nat.beq q a) s (cond (c_ask (c_srow (s_play S l).2) q a s (c_blk q 0 (s_ln S q))) (s ||| c_one1 q) s)) = c_dep (c_srow (s_play S l).2) (s_ln S) a m (cond (c_rdf (c_srow (s_play S l).2) (s ||| c_one1 a) (c_blk q 0 (s_ln S q))) (s ||| c_one1 q) s)
      rw [e, c_beq_f hqa, cond_false]
      refine ih (u ++ [q]) _ (by rw [hu, List.append_assoc]; rfl) (fun x hx hc => ?_)
      rw [List.mem_append, List.mem_singleton]
      cases hr : c_rdf (c_srow (s_play S l).2) (s ||| c_one1 a) (c_blk q 0 (s_ln S q)) with
      | false => rw [hr, cond_false] at hc; exact Or.inl (hs x hx hc)
      | true =>
        rw [hr, cond_true, c_has_or hq25 hx, Bool.or_eq_true] at hc
        rcases hc with hc | hc
        · exact Or.inl (hs x hx hc)
        · exact Or.inr (Nat.eq_of_beq_eq_true hc)
  have e1 : c_hm (c_srow (s_play S l).2) (s_ln S) a l 0 = c_hm (c_srow (s_play S l).2) (s_ln S) a (l1 ++ a :: l2) 0 := congrArg (fun t => c_hm (c_srow (s_play S l).2) (s_ln S) a t 0) hl
  rw [e1, part1 l1 [] rfl]
  show c_hm (c_srow (s_play S l).2) (s_ln S) a l2 (cond (Nat.beq a a) 0 _) = _
  rw [Nat.beq_refl, cond_true]
  exact part2 l2 [] 0 rfl (fun x hx hc => by rw [c_has_0 hx] at hc; cases hc)
theorem c_ix_split {l : List Nat} {a : Nat} (h : a ∈ l) : l = l.take (c_ix l a) ++ a :: l.drop (c_ix l a + 1) := by
  have hi := c_ix_mem.mpr h
  have key : ∀ (l : List Nat), a ∈ l → l[c_ix l a]? = some a := by
    intro l
    induction l with
    | nil => intro h; cases h
    | cons y m ih =>
      intro h
      by_cases e : y = a
      · subst e
        simp only [c_ix, Nat.beq_refl, cond_true]; rfl
      · have hm : a ∈ m := by
          rcases List.mem_cons.mp h with q | q
          · exact absurd q.symm e
          · exact q
        simp only [c_ix, c_beq_f e, cond_false]
        exact ih hm
  have e1 : l.drop (c_ix l a) = l[c_ix l a]'hi :: l.drop (c_ix l a + 1) := List.drop_eq_getElem_cons hi
  have e2 : l[c_ix l a]'hi = a := by
    have := key l h
    rw [List.getElem?_eq_getElem hi] at this
    exact Option.some.inj this
  rw [e2] at e1
  conv => lhs; rw [← List.take_append_drop (c_ix l a) l, e1]
theorem c_rdf_congr {src src' : Nat → Int32} {m : Int32} : ∀ {t : List Nat}, (∀ b ∈ t, src b = src' b) → c_rdf src m t = c_rdf src' m t := by
  intro t
  induction t with
  | nil => intro _; rfl
  | cons b t ih =>
    intro h
    unfold c_rdf
    rw [h b List.mem_cons_self, ih (fun c hc => h c (List.mem_cons_of_mem _ hc))]
theorem c_dep_congr {src src' : Nat → Int32} {len : Nat → Nat} {a : Nat} : ∀ {t : List Nat} {s : Int32}, (∀ q ∈ t, ∀ b ∈ c_blk q 0 (len q), src b = src' b) → c_dep src len a t s = c_dep src' len a t s := by
  intro t
  induction t with
  | nil => intro s _; rfl
  | cons q t ih =>
    intro s h
    unfold c_dep
    rw [c_rdf_congr (h q List.mem_cons_self)]
    exact ih (fun x hx => h x (List.mem_cons_of_mem _ hx))
/-- what hangs on a patch -/
def s_hg (S : cS) (a : Nat) : Int32 := c_dep (c_srow (s_play S (s_or S)).2) (s_ln S) a ((s_or S).drop (c_ix (s_or S) a + 1)) 0
theorem X_dep_s (hw : s_wf S) (h : RX σ S) {a : Nat} (ha : a ∈ s_or S) : Run_dependents (σ.2.2 0) (nI a) σ = some (σ, some (pd_i (s_hg S a))) := by
  rw [Run_dependents_s (x_run3 h) h.2.1.2.1 h.2.2.2.1.1 (s_or25 hw) ha]
  unfold s_hg
  rw [c_dep_congr (src := σ.1 (σ.2.2 0 + 14)) (src' := c_srow (s_play S (s_or S)).2) (fun q hq b hb => (h.2.2.2.1.2.1.2 b (c_blk_line (List.mem_of_mem_drop hq) hb)).2.2.2.2)]
theorem M_dep_s (hw : s_wf S) (h : RM σ S) {a : Nat} (ha : a ∈ s_or S) : M_hangsNow (nI a) σ = some (σ, some (pd_i (s_hg S a))) := by
  have ho := hw.2.2.1.1
  have hp := hw.2.2.2.1
  rw [M_hangsNow_s (src := c_srow (s_play S (s_or S)).2) h.2.1.2.1 h.2.2.1.1.1 h.2.2.1.1.2.1 (s_or24 hw) (s_or25 hw) (s_or25 hw a ha) (fun q hq b hb => ?_), s_hangs hw ho hp (c_ix_split ha)]
  · rfl
  · refine ⟨(h.2.2.1.2.2 b (c_blk_line hq hb)).2.2.2.2, fun e0 => ?_⟩
    obtain ⟨j, j1, j2, rfl⟩ := c_blk_mem hb
    have hj : j < s_ln S q := by omega
    refine (s_src hw ho hp (c_ix_split hq) hj).1 ?_
    rcases h.2.1.1 q j (Or.inl (ho.2 q hq)) hj with g | g
    · exact g.1
    · exfalso
      have := g.2.1
      rw [e0] at this
      exact absurd this (by decide)
theorem J_hangs (h : JR σ S) (a : Int32) : JI (X_hangs a) (M_hangs a) σ := by
  have hw := h.1
  rcases c_three hw a with ha | ⟨p, hp, hm, rfl⟩ | ⟨p, hm, rfl⟩
  · exact JI.same (v := -2) h (by rw [X_hangs_eq, X_apErr_out h.2.1 ha]; rfl) (fun g => by rw [M_hangs_eq, M_patch_0 hw g ha]; rfl)
  · exact JI.same (v := -3) h (by rw [X_hangs_eq, X_apErr_no hw h.2.1 hp hm]; rfl) (fun g => by rw [M_hangs_eq, M_patch_1 hw g hp, pd_bI_of, M_laid_s hw g hp, c_isn_0 hm]; rfl)
  · have hp := hw.2.2.1.1.2 p hm
    refine JI.same (v := s_hg S p) h ?_ (fun g => ?_)
    · rw [X_hangs_eq, X_apErr_ok hw h.2.1 hm, pd_bI_of, decide_eq_true (rfl : (0 : Int32) = 0), cond_true, X_dep_s hw h.2.1 hm]; rfl
    · rw [M_hangs_eq, M_patch_1 hw g hp, pd_bI_of, M_laid_s hw g hp, c_isn_1 hm, decide_eq_false (by decide : ¬ (1 : Int32) = 0), cond_false, pd_bI_of, decide_eq_false (by decide : ¬ (1 : Int32) = 0), cond_false, M_dep_s hw g hm]; rfl
end HANGS
