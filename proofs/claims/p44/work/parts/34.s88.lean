/-! (whole, 88.live) -/
section LIVE
variable {kd sz : Nat → Int32} {chg chg' : Nat → cC}
/-- some changes have no finding, one after the other -/
def c_sq (kd sz : Nat → Int32) : List cC → (Nat → Int32) → (Nat → Int64) → Prop
  | [], _, _ => True
  | c :: s, t, n => c_fd kd sz (c_r0 t n) c = 0 ∧ c_sq kd sz s (c_one kd 0 0 c (c_r0 t n)).1 (c_one kd 0 0 c (c_r0 t n)).2.1
theorem c_ply_sq : ∀ {t : List Nat} {R : cR}, (c_ply kd sz chg t R).1 = none ↔ c_sq kd sz (t.map chg) R.1 R.2.1 := by
  intro t
  induction t with
  | nil => intro R; exact ⟨fun _ => trivial, fun _ => rfl⟩
  | cons a t ih =>
    intro R
    show _ ↔ (c_fd kd sz (c_r0 R.1 R.2.1) (chg a) = 0 ∧ c_sq kd sz (t.map chg) (c_one kd 0 0 (chg a) (c_r0 R.1 R.2.1)).1 (c_one kd 0 0 (chg a) (c_r0 R.1 R.2.1)).2.1)
    by_cases h0 : c_fd kd sz R (chg a) = 0
    · rw [c_ply_ok h0, ih]
      exact ⟨fun h => ⟨h0, h⟩, fun h => h.2⟩
    · rw [c_ply_bad h0]
      exact ⟨(fun h => by cases h), fun h => absurd h.1 h0⟩
/-- the live ones -/
def c_flt (chg : Nat → cC) : List Nat → List Nat
  | [] => []
  | a :: t => cond (decide (c_need chg t (c_tc (chg a)) = 0)) (c_flt chg t) (a :: c_flt chg t)
theorem c_flt_dn : ∀ {t : List Nat}, (c_flt chg t).length + c_dn chg t = t.length := by
  intro t
  induction t with
  | nil => rfl
  | cons a t ih =>
    show (cond (decide (c_need chg t (c_tc (chg a)) = 0)) (c_flt chg t) (a :: c_flt chg t)).length + (c_dd chg a t + c_dn chg t) = t.length + 1
    unfold c_dd
    cases decide (c_need chg t (c_tc (chg a)) = 0) with
    | true => rw [cond_true, cond_true]; omega
    | false => rw [cond_false, cond_false, List.length_cons]; omega
theorem c_nst_at {c : cC} {N : Nat → Int32} {x : Nat} (h : x ≠ c_tc c) (hN : N x ≠ 0) : c_nst c N x ≠ 0 := by
  unfold c_nst
  by_cases q : N (c_tc c) = 0
  · rw [decide_eq_true q, cond_true, pk_un h]; exact hN
  · rw [decide_eq_false q, cond_false]
    by_cases q2 : c.1 = -1
    · rw [decide_eq_true q2, cond_true, pk_un h]; exact hN
    · rw [decide_eq_false q2, cond_false]
      by_cases q3 : x = c_fc c
      · rw [q3, pk_us]; decide
      · rw [pk_un q3, pk_un h]; exact hN
theorem c_nst_src {c : cC} {N : Nat → Int32} (h : N (c_tc c) ≠ 0) (h1 : c.1 ≠ -1) : c_nst c N (c_fc c) ≠ 0 := by
  unfold c_nst
  rw [decide_eq_false h, cond_false, decide_eq_false h1, cond_false, pk_us]
  decide
/-- two rows of values agree where it matters -/
def c_nag (N : Nat → Int32) (t u : Nat → Int32) (n v : Nat → Int64) : Prop := ∀ x, N x ≠ 0 → t x = u x ∧ n x = v x
theorem c_ww_nag {N : Nat → Int32} {t u : Nat → Int32} {n v : Nat → Int64} {c : cC} (h : c.1 ≠ -1 → t (c_fc c) = u (c_fc c) ∧ n (c_fc c) = v (c_fc c)) : c_ww (c_r0 t n) c = c_ww (c_r0 u v) c ∧ c_ht (c_r0 t n) c = c_ht (c_r0 u v) c ∧ c_hn (c_r0 t n) c = c_hn (c_r0 u v) c := by
  unfold c_ww c_ht c_hn
  by_cases q : c.1 = -1
  · rw [decide_eq_true q]; exact ⟨rfl, rfl, rfl⟩
  · rw [decide_eq_false q]
    obtain ⟨h1, h2⟩ := h q
    have e1 : (c_r0 t n).1 (c_fc c) = (c_r0 u v).1 (c_fc c) := h1
    have e2 : (c_r0 t n).2.1 (c_fc c) = (c_r0 u v).2.1 (c_fc c) := h2
    rw [e1, e2]
    exact ⟨rfl, rfl, rfl⟩
theorem c_flt_sq : ∀ {l : List Nat} {t u : Nat → Int32} {n v : Nat → Int64}, c_sq kd sz (l.map chg) t n → c_nag (c_need chg l) t u n v → c_sq kd sz ((c_flt chg l).map chg) u v := by
  intro l
  induction l with
  | nil => intro t u n v _ _; exact trivial
  | cons a l ih =>
    intro t u n v h hA
    obtain ⟨h1, h2⟩ : c_fd kd sz (c_r0 t n) (chg a) = 0 ∧ c_sq kd sz (l.map chg) (c_one kd 0 0 (chg a) (c_r0 t n)).1 (c_one kd 0 0 (chg a) (c_r0 t n)).2.1 := h
    have hA : ∀ x, c_nst (chg a) (c_need chg l) x ≠ 0 → t x = u x ∧ n x = v x := hA
    show c_sq kd sz ((cond (decide (c_need chg l (c_tc (chg a)) = 0)) (c_flt chg l) (a :: c_flt chg l)).map chg) u v
    by_cases q : c_need chg l (c_tc (chg a)) = 0
    · rw [decide_eq_true q, cond_true]
      refine ih h2 (fun x hx => ?_)
      have hne : x ≠ c_tc (chg a) := fun e => hx (by rw [e]; exact q)
      have := hA x (c_nst_at hne hx)
      show upd t (c_tc (chg a)) _ x = u x ∧ vp_updL n (c_tc (chg a)) _ x = v x
      rw [pk_un hne, pk_uLn hne]
      exact this
    · rw [decide_eq_false q, cond_false]
      obtain ⟨w1, w2, w3⟩ := c_ww_nag (N := c_need chg l) (t := t) (u := u) (n := n) (v := v) (c := chg a) (fun h => hA _ (c_nst_src q h))
      refine ⟨?_, ih h2 (fun x hx => ?_)⟩
      · unfold c_fd c_f2 at h1 ⊢
        rw [← w1]; exact h1
      · have e1 : c_nt kd (c_r0 t n) (chg a) = c_nt kd (c_r0 u v) (chg a) := by unfold c_nt; rw [w2]
        have e2 : c_nn kd (c_r0 t n) (chg a) = c_nn kd (c_r0 u v) (chg a) := by unfold c_nn; rw [w2, w3]
        show upd t (c_tc (chg a)) (c_nt kd (c_r0 t n) (chg a)) x = upd u (c_tc (chg a)) (c_nt kd (c_r0 u v) (chg a)) x ∧ vp_updL n (c_tc (chg a)) (c_nn kd (c_r0 t n) (chg a)) x = vp_updL v (c_tc (chg a)) (c_nn kd (c_r0 u v) (chg a)) x
        rw [e1, e2]
        by_cases hne : x = c_tc (chg a)
        · rw [hne, pk_us, pk_us, pk_uLs, pk_uLs]; exact ⟨rfl, rfl⟩
        · rw [pk_un hne, pk_un hne, pk_uLn hne, pk_uLn hne]
          exact hA x (c_nst_at hne hx)
/-- is a change dead? -/
def c_dead (chg : Nat → cC) : List Nat → Nat → Bool
  | [], _ => false
  | x :: t, a => (Nat.beq x a && decide (c_need chg t (c_tc (chg x)) = 0)) || c_dead chg t a
theorem c_dead_out : ∀ {t : List Nat} {a : Nat}, a ∉ t → c_dead chg t a = false := by
  intro t
  induction t with
  | nil => intro a _; rfl
  | cons x t ih =>
    intro a h
    have hx : Nat.beq x a = false := by rw [← Bool.not_eq_true]; exact fun q => h (by rw [Nat.eq_of_beq_eq_true q]; exact List.mem_cons_self)
    show ((Nat.beq x a && _) || c_dead chg t a) = false
    rw [hx, ih (fun q => h (List.mem_cons_of_mem _ q))]; rfl
theorem c_dead_at {u t : List Nat} {x : Nat} (h : (u ++ x :: t).Nodup) : c_dead chg (u ++ x :: t) x = decide (c_need chg t (c_tc (chg x)) = 0) := by
  induction u with
  | nil =>
    show ((Nat.beq x x && decide (c_need chg t (c_tc (chg x)) = 0)) || c_dead chg t x) = _
    rw [c_dead_out (List.nodup_cons.mp h).1, Nat.beq_refl]
    cases decide (c_need chg t (c_tc (chg x)) = 0) <;> rfl
  | cons y u ih =>
    have h2 := List.nodup_cons.mp h
    have hy : Nat.beq y x = false := by rw [← Bool.not_eq_true]; exact fun q => h2.1 (by rw [Nat.eq_of_beq_eq_true q]; exact List.mem_append_right _ List.mem_cons_self)
    show ((Nat.beq y x && _) || c_dead chg (u ++ x :: t) x) = _
    rw [hy, ih h2.2]; rfl
theorem c_flt_filter : ∀ {u t : List Nat}, (u ++ t).Nodup → c_flt chg t = t.filter (fun a => !c_dead chg (u ++ t) a) := by
  intro u t
  induction t generalizing u with
  | nil => intro _; rfl
  | cons x t ih =>
    intro h
    have hd := c_dead_at (chg := chg) h
    have g := ih (u := u ++ [x]) (by rw [List.append_assoc]; exact h)
    rw [List.append_assoc] at g
    have g : c_flt chg t = t.filter (fun a => !c_dead chg (u ++ x :: t) a) := g
    show cond (decide (c_need chg t (c_tc (chg x)) = 0)) (c_flt chg t) (x :: c_flt chg t) = _
    rw [List.filter_cons, hd, g]
    cases decide (c_need chg t (c_tc (chg x)) = 0) <;> rfl
theorem c_mask_dead {p k : Nat} (hk : k < 6) : ∀ {t : List Nat}, c_has (c_mask chg t p) (nI k) = c_dead chg t (6 * p + k) := by
  intro t
  induction t with
  | nil => exact c_has_0 (by omega)
  | cons x t ih =>
    show c_has (cond (decide (c_need chg t (c_tc (chg x)) = 0) && Nat.beq (x / 6) p) (c_mask chg t p ||| c_bit x) (c_mask chg t p)) (nI k) = ((Nat.beq x (6 * p + k) && decide (c_need chg t (c_tc (chg x)) = 0)) || c_dead chg t (6 * p + k))
    rw [← ih]
    cases h0 : decide (c_need chg t (c_tc (chg x)) = 0) with
    | false => rw [Bool.and_false]; rfl
    | true =>
      rw [Bool.and_true, Bool.true_and]
      cases hp : Nat.beq (x / 6) p with
      | false =>
        have : Nat.beq x (6 * p + k) = false := by
          rw [← Bool.not_eq_true]
          intro q
          have := Nat.eq_of_beq_eq_true q
          have h2 : x / 6 = p := by omega
          rw [h2, Nat.beq_refl] at hp
          cases hp
        rw [this]; rfl
      | true =>
        have e := Nat.eq_of_beq_eq_true hp
        rw [cond_true]
        show c_has (c_mask chg t p ||| c_one1 (x % 6)) (nI k) = _
        rw [c_has_or (by omega) (by omega), Bool.or_comm]
        congr 1
        by_cases q : x = 6 * p + k
        · rw [q, Nat.beq_refl, show (6 * p + k) % 6 = k by omega, Nat.beq_refl]
        · have h1 : Nat.beq x (6 * p + k) = false := by rw [← Bool.not_eq_true]; exact fun q2 => q (Nat.eq_of_beq_eq_true q2)
          have h2 : Nat.beq k (x % 6) = false := by
            rw [← Bool.not_eq_true]
            intro q2
            have := Nat.eq_of_beq_eq_true q2
            omega
          rw [h1, h2]
theorem c_blk_range {p : Nat} : ∀ {d k : Nat}, c_blk p k d = (List.range' k d).map (fun i => 6 * p + i) := by
  intro d
  induction d with
  | zero => intro k; rfl
  | succ d ih =>
    intro k
    show (6 * p + k) :: c_blk p (k + 1) d = (List.range' k (d + 1)).map _
    rw [ih, List.range'_succ]; rfl
/-- the live ones of a patch, below a place -/
def c_lk (dead : Nat → Bool) (p k : Nat) : List Nat := (List.range k).filter (fun i => !dead (6 * p + i))
theorem c_lk_succ {dead : Nat → Bool} {p k : Nat} : c_lk dead p (k + 1) = c_lk dead p k ++ cond (dead (6 * p + k)) [] [k] := by
  unfold c_lk
  rw [List.range_succ, List.filter_append]
  congr 1
  cases h : dead (6 * p + k) with
  | true => rw [List.filter_cons_of_neg (by rw [h]; decide)]; rfl
  | false => rw [List.filter_cons_of_pos (by rw [h]; decide)]; rfl
theorem c_lk_len {dead : Nat → Bool} {p k : Nat} : (c_lk dead p k).length ≤ k := by
  have := List.length_filter_le (fun i => !dead (6 * p + i)) (List.range k)
  rw [List.length_range] at this
  exact this
theorem c_lk_mem {dead : Nat → Bool} {p k i x : Nat} (h : (c_lk dead p k)[i]? = some x) : x < k := by
  have := List.mem_of_getElem? h
  exact List.mem_range.mp (List.mem_filter.mp this).1
theorem c_lk_all {dead : Nat → Bool} {p k : Nat} (h : ∀ i, i < k → dead (6 * p + i) = false) : c_lk dead p k = List.range k := by
  unfold c_lk
  rw [List.filter_eq_self]
  intro i hi
  rw [h i (List.mem_range.mp hi)]; rfl
theorem c_blk_flt {dead : Nat → Bool} {p n : Nat} : (c_blk p 0 n).filter (fun a => !dead a) = (c_lk dead p n).map (fun i => 6 * p + i) := by
  unfold c_lk
  rw [c_blk_range, ← List.range_eq_range', List.filter_map]
  rfl
theorem c_map_at {f g : Nat → cC} {p : Nat} {l : List Nat} (h : ∀ i x, l[i]? = some x → f (6 * p + i) = g (6 * p + x)) : (c_blk p 0 l.length).map f = (l.map (fun i => 6 * p + i)).map g := by
  rw [c_blk_range, List.map_map, List.map_map, ← List.range_eq_range']
  apply List.ext_getElem?
  intro i
  rw [List.getElem?_map, List.getElem?_map]
  by_cases hi : i < l.length
  · rw [List.getElem?_range hi, List.getElem?_eq_getElem hi]
    show some (f (6 * p + i)) = some (g (6 * p + l[i]))
    rw [h i _ (List.getElem?_eq_getElem hi)]
  · rw [List.getElem?_eq_none (by rw [List.length_range]; omega), List.getElem?_eq_none (by omega)]
    rfl
end LIVE
