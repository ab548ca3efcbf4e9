/-! What the machine holds when the abstract machine holds σ. -/
def pd_cv (ad : Nat → Nat) : pd_V → Value
  | .inl (.inl x) => .int x
  | .inl (.inr x) => .long x
  | .inr (.inl (.inl x)) => .float x
  | .inr (.inl (.inr x)) => .double x
  | .inr (.inr (_, k)) => .ref (ad k)
theorem pd_cv_cat (ad : Nat → Nat) (v : pd_V) : (pd_cv ad v).category = cond (pd_two v) 2 1 := by
  rcases v with (x | x) | ((x | x) | ⟨t, k⟩) <;> rfl
theorem pd_cv_cat1 (ad : Nat → Nat) {v : pd_V} (h : pd_two v = false) : (pd_cv ad v).category = 1 := by rw [pd_cv_cat, h]; rfl
theorem pd_cv_cat2 (ad : Nat → Nat) {v : pd_V} (h : pd_two v = true) : (pd_cv ad v).category = 2 := by rw [pd_cv_cat, h]; rfl
def pd_ps (ad : Nat → Nat) : Nat → pd_L → List (Nat × Value)
  | _, [] => []
  | i, none :: t => pd_ps ad (i + 1) t
  | i, some v :: t => (i, pd_cv ad v) :: pd_ps ad (i + 1) t
theorem pd_ps_nth {ad : Nat → Nat} {L : pd_L} {k : Nat} {v : pd_V} (h : pd_nth L k = some v) : ∀ i, (i + k, pd_cv ad v) ∈ pd_ps ad i L := by
  induction L generalizing k with
  | nil => simp [pd_nth] at h
  | cons a t ih =>
    intro i
    cases k with
    | zero =>
      have : a = some v := h
      subst this
      exact List.mem_cons_self
    | succ k =>
      have h1 := ih (k := k) h (i + 1)
      rw [show i + 1 + k = i + (k + 1) by omega] at h1
      cases a with
      | none => exact h1
      | some w => exact List.mem_cons_of_mem _ h1
theorem pd_ps_of {ad : Nat → Nat} {L : pd_L} {q : Nat × Value} : ∀ {i : Nat}, q ∈ pd_ps ad i L → ∃ (k : Nat) (v : pd_V), pd_nth L k = some v ∧ q = (i + k, pd_cv ad v) := by
  induction L with
  | nil => intro i h; cases h
  | cons a t ih =>
    intro i h
    cases a with
    | none =>
      obtain ⟨k, v, h1, h2⟩ := ih h
      exact ⟨k + 1, v, h1, by rw [h2]; simp; omega⟩
    | some w =>
      rcases List.mem_cons.mp h with rfl | h
      · exact ⟨0, w, rfl, by simp⟩
      · obtain ⟨k, v, h1, h2⟩ := ih h
        exact ⟨k + 1, v, h1, by rw [h2]; simp; omega⟩
theorem pd_nth_set1 {v w : pd_V} {L : pd_L} {i j : Nat} (h : pd_nth (pd_set1 L i v) j = some w) : (j = i ∧ w = v) ∨ (j ≠ i ∧ pd_nth L j = some w ∧ ¬ (j + 1 = i ∧ pd_two w = true)) := by
  induction L generalizing i j with
  | nil => cases i <;> simp [pd_set1, pd_nth] at h
  | cons a t ih =>
    match i, j, h with
    | 0, 0, h => exact Or.inl ⟨rfl, (Option.some.inj h).symm⟩
    | 0, j + 1, h => exact Or.inr ⟨by omega, h, fun q => by omega⟩
    | 1, 0, h =>
      have h : cond (pd_is2 a) none a = some w := h
      cases hq : pd_is2 a with
      | true => rw [hq] at h; cases h
      | false =>
        rw [hq] at h
        have h : a = some w := h
        subst h
        exact Or.inr ⟨by omega, rfl, fun q => by rw [show pd_two w = false from hq] at q; cases q.2⟩
    | 1, j + 1, h =>
      rcases ih (i := 0) (j := j) h with ⟨e, hw⟩ | ⟨e, hw, _⟩
      · exact Or.inl ⟨by omega, hw⟩
      · exact Or.inr ⟨by omega, hw, fun q => by omega⟩
    | i + 2, 0, h => exact Or.inr ⟨by omega, h, fun q => by omega⟩
    | i + 2, j + 1, h =>
      rcases ih (i := i + 1) (j := j) h with ⟨e, hw⟩ | ⟨e, hw, hn⟩
      · exact Or.inl ⟨by omega, hw⟩
      · exact Or.inr ⟨by omega, hw, fun q => hn ⟨by omega, q.2⟩⟩
theorem pd_nth_clr {L : pd_L} {j : Nat} {w : pd_V} (h : pd_nth (pd_clr L) j = some w) : j ≠ 0 ∧ pd_nth L j = some w := by
  match L, j, h with
  | [], _, h => simp [pd_clr, pd_nth] at h
  | _ :: _, 0, h => cases h
  | _ :: _, j + 1, h => exact ⟨by omega, h⟩
theorem pd_nth_set2 {v w : pd_V} {L : pd_L} {i j : Nat} (h : pd_nth (pd_set2 L i v) j = some w) : (j = i ∧ w = v) ∨ (j ≠ i ∧ j ≠ i + 1 ∧ pd_nth L j = some w ∧ ¬ (j + 1 = i ∧ pd_two w = true)) := by
  induction L generalizing i j with
  | nil => cases i <;> simp [pd_set2, pd_nth] at h
  | cons a t ih =>
    match i, j, h with
    | 0, 0, h => exact Or.inl ⟨rfl, (Option.some.inj h).symm⟩
    | 0, j + 1, h =>
      obtain ⟨q1, q2⟩ := pd_nth_clr (L := t) h
      exact Or.inr ⟨by omega, by omega, q2, fun q => by omega⟩
    | 1, 0, h =>
      have h : cond (pd_is2 a) none a = some w := h
      cases hq : pd_is2 a with
      | true => rw [hq] at h; cases h
      | false =>
        rw [hq] at h
        have h : a = some w := h
        subst h
        exact Or.inr ⟨by omega, by omega, rfl, fun q => by rw [show pd_two w = false from hq] at q; cases q.2⟩
    | 1, j + 1, h =>
      rcases ih (i := 0) (j := j) h with ⟨e, hw⟩ | ⟨e, e2, hw, _⟩
      · exact Or.inl ⟨by omega, hw⟩
      · exact Or.inr ⟨by omega, by omega, hw, fun q => by omega⟩
    | i + 2, 0, h => exact Or.inr ⟨by omega, by omega, h, fun q => by omega⟩
    | i + 2, j + 1, h =>
      rcases ih (i := i + 1) (j := j) h with ⟨e, hw⟩ | ⟨e, e2, hw, hn⟩
      · exact Or.inl ⟨by omega, hw⟩
      · exact Or.inr ⟨by omega, by omega, hw, fun q => hn ⟨by omega, q.2⟩⟩
/-- the locals -/
def pd_lok (ad : Nat → Nat) (ls : Array Slot) (n : Nat) (L : pd_L) : Prop := lv_has ls n (pd_ps ad 0 L)
theorem pd_lok.at {ad : Nat → Nat} {ls : Array Slot} {n : Nat} {L : pd_L} (h : pd_lok ad ls n L) {k : Nat} {v : pd_V} (hv : pd_nth L k = some v) : ls[k]? = some (.val (pd_cv ad v)) := by
  have h1 := h.2.2 _ (pd_ps_nth (ad := ad) hv 0)
  simpa using h1
theorem pd_lok.place {ad : Nat → Nat} {L : pd_L} {k : Nat} {v : pd_V} (hv : pd_nth L k = some v) : ∃ j : Nat, (pd_ps ad 0 L)[j]? = some (k, pd_cv ad v) := by
  have h1 := pd_ps_nth (ad := ad) hv 0
  rw [Nat.zero_add] at h1
  exact List.getElem?_of_mem h1
theorem pd_lok.set1 {ad : Nat → Nat} {ls' : Array Slot} {n : Nat} {L : pd_L} {i : Nat} {v : pd_V} (h : lv_has ls' n ((i, pd_cv ad v) :: (pd_ps ad 0 L).filter (fun q => !(q.1 == i) && !(q.1 + 1 == i && q.2.category == 2)))) : pd_lok ad ls' n (pd_set1 L i v) := by
  refine ⟨h.1, h.2.1, fun q hq => h.2.2 q ?_⟩
  obtain ⟨k, w, h1, rfl⟩ := pd_ps_of hq
  rcases pd_nth_set1 h1 with ⟨e, hw⟩ | ⟨e, hw, hn⟩
  · subst e; subst hw
    rw [Nat.zero_add]
    exact List.mem_cons_self
  · refine List.mem_cons_of_mem _ (List.mem_filter.mpr ⟨pd_ps_nth hw 0, ?_⟩)
    simp only [Nat.zero_add, Bool.and_eq_true, Bool.not_eq_true', beq_eq_false_iff_ne, ne_eq]
    refine ⟨e, ?_⟩
    rw [pd_cv_cat]
    cases h2 : pd_two w with
    | false => simp
    | true =>
      have : ¬ k + 1 = i := fun q => hn ⟨q, h2⟩
      simp [this]
theorem pd_lok.set2 {ad : Nat → Nat} {ls' : Array Slot} {n : Nat} {L : pd_L} {i : Nat} {v : pd_V} (h : lv_has ls' n ((i, pd_cv ad v) :: (pd_ps ad 0 L).filter (fun q => !(q.1 == i) && (!(q.1 == i + 1) && !(q.1 + 1 == i && q.2.category == 2))))) : pd_lok ad ls' n (pd_set2 L i v) := by
  refine ⟨h.1, h.2.1, fun q hq => h.2.2 q ?_⟩
  obtain ⟨k, w, h1, rfl⟩ := pd_ps_of hq
  rcases pd_nth_set2 h1 with ⟨e, hw⟩ | ⟨e, e2, hw, hn⟩
  · subst e; subst hw
    rw [Nat.zero_add]
    exact List.mem_cons_self
  · refine List.mem_cons_of_mem _ (List.mem_filter.mpr ⟨pd_ps_nth hw 0, ?_⟩)
    simp only [Nat.zero_add, Bool.and_eq_true, Bool.not_eq_true', beq_eq_false_iff_ne, ne_eq]
    refine ⟨e, e2, ?_⟩
    rw [pd_cv_cat]
    cases h2 : pd_two w with
    | false => simp
    | true =>
      have : ¬ k + 1 = i := fun q => hn ⟨q, h2⟩
      simp [this]
/-- a method's entry -/
theorem pd_ps_none (ad : Nat → Nat) (n : Nat) : ∀ i, pd_ps ad i (pd_none n) = [] := by
  induction n with
  | zero => exact fun _ => rfl
  | succ n ih => exact fun i => ih (i + 1)
theorem pd_ps_en (ad : Nat → Nat) (av : List pd_V) : ∀ (n i : Nat), pd_ps ad i (pd_en av n) = lv_args i (av.map (pd_cv ad)) := by
  induction av with
  | nil => exact fun n i => pd_ps_none ad n i
  | cons v r ih =>
    intro n i
    show pd_ps ad i (cond (pd_two v) _ _) = (i, pd_cv ad v) :: lv_args (if (pd_cv ad v).category = 2 then i + 2 else i + 1) (r.map (pd_cv ad))
    rw [pd_cv_cat]
    cases pd_two v with
    | true => exact congrArg _ (ih (n - 2) (i + 2))
    | false => exact congrArg _ (ih (n - 1) (i + 1))
theorem pd_sl_len (ad : Nat → Nat) (av : List pd_V) : (lg_sl (av.map (pd_cv ad))).length = pd_cats av := by
  induction av with
  | nil => rfl
  | cons v r ih =>
    have e : lg_sl ((v :: r).map (pd_cv ad)) = (if (pd_cv ad v).category = 2 then [.val (pd_cv ad v), .second] else [.val (pd_cv ad v)]) ++ lg_sl (r.map (pd_cv ad)) := by
      simp [lg_sl]
    rw [e, List.length_append, ih, pd_cv_cat]
    cases h : pd_two v <;> simp [pd_cats, h]
theorem pd_cat_sum (ad : Nat → Nat) (st : List pd_V) : ((st.map (pd_cv ad)).map fun v => v.category).sum = pd_cats st := by
  induction st with
  | nil => rfl
  | cons v r ih =>
    simp only [List.map_cons, List.sum_cons, pd_cats]
    rw [ih, pd_cv_cat]
/-- a reference is one of the things, and of its tag -/
def pd_okv (v : pd_V) : Prop := match v with
  | .inr (.inr (t, k)) => pd_tag k = t ∧ t < 40
  | _ => True
theorem pd_tag_big {k : Nat} (h : 265 ≤ k) : 30 ≤ pd_tag k := by
  have e1 : Nat.ble k 79 = false := by
    rw [Bool.eq_false_iff]; intro q; have := Nat.le_of_ble_eq_true q; omega
  have e2 : Nat.ble k 229 = false := by
    rw [Bool.eq_false_iff]; intro q; have := Nat.le_of_ble_eq_true q; omega
  unfold pd_tag pd_tl
  rw [e1, e2]
  rw [cond_false, cond_false]
  rcases Nat.lt_or_ge (k - 230) 36 with h1 | h1
  · have : k - 230 = 35 := by omega
    rw [this]
    exact Nat.le_of_ble_eq_true rfl
  · rw [List.getD_eq_getElem?_getD, List.getElem?_eq_none (by exact h1)]
    exact Nat.le_of_ble_eq_true rfl
theorem pd_tag_lt {k : Nat} (h : pd_tag k < 30) : k < 265 := by
  rcases Nat.lt_or_ge k 265 with q | q
  · exact q
  · have := pd_tag_big q; omega
theorem pd_tag_30 {k : Nat} (h : pd_tag k = 30) : k = 265 := by
  rcases Nat.lt_or_ge k 265 with q | q
  · have : ∀ k, k < 265 → pd_tag k ≠ 30 := by decide +kernel
    exact absurd h (this k q)
  · rcases Nat.lt_or_ge k 266 with q2 | q2
    · omega
    · exfalso
      have e1 : Nat.ble k 79 = false := by
        rw [Bool.eq_false_iff]; intro q; have := Nat.le_of_ble_eq_true q; omega
      have e2 : Nat.ble k 229 = false := by
        rw [Bool.eq_false_iff]; intro q; have := Nat.le_of_ble_eq_true q; omega
      unfold pd_tag pd_tl at h
      rw [e1, e2] at h
      rw [cond_false, cond_false] at h
      rw [List.getD_eq_getElem?_getD, List.getElem?_eq_none (by show 36 ≤ k - 230; omega)] at h
      cases h
def pd_nf (t : Nat) : Nat := (vwCl.getD t (RL, TX0, 0)).2.2
def pd_fval (ad : Nat → Nat) (σ : pd_H) (o : Nat) (e : Nat × Nat × Nat) : Value := match e with
  | (0, y, _) => .int (σ.1 o y)
  | (1, y, _) => .long (σ.2.1 o y)
  | (2, y, _) => .ref (ad (o + y))
  | (3, y, _) => .ref (ad y)
  | (_, y, _) => .ref (ad (σ.2.2 y))
def pd_fds (ad : Nat → Nat) (σ : pd_H) (o t : Nat) : List Value := (List.range (pd_nf t)).map fun s => pd_fval ad σ o (pd_fkd t s)
def pd_el (ad : Nat → Nat) (cA : Nat → ClassId) (σ : pd_H) (o t : Nat) : va_E := match t with
  | 20 => .inl (cA 0, pd_len o, .inl (σ.1 o))
  | 21 => .inl (cA 1, pd_len o, .inr (.inl (σ.2.1 o)))
  | 22 => .inl (cA 2, pd_len o, .inl (σ.1 o))
  | 23 => .inl (cA 3, pd_len o, .inr (.inr (.inr (.inr (fun i => some (ad (80 + i)))))))
  | 24 => .inl (cA 4, pd_len o, .inr (.inr (.inr (.inr (fun i => some (ad (20 + 2 * i)))))))
  | t => .inr (t, pd_fds ad σ o t)
def pd_ws (ad : Nat → Nat) (cA : Nat → ClassId) (σ : pd_H) : va_W := (List.range 265).map fun k => (ad k, pd_el ad cA σ k (pd_tag k))
theorem pd_ws_at (ad : Nat → Nat) (cA : Nat → ClassId) (σ : pd_H) {k : Nat} (h : k < 265) : (pd_ws ad cA σ)[k]? = some (ad k, pd_el ad cA σ k (pd_tag k)) := by
  simp [pd_ws, h]
theorem pd_ws_len (ad : Nat → Nat) (cA : Nat → ClassId) (σ : pd_H) : (pd_ws ad cA σ).length = 265 := by simp [pd_ws]
theorem pd_ws_of {ad : Nat → Nat} {cA : Nat → ClassId} {σ : pd_H} {k : Nat} {q : Nat × va_E} (h : (pd_ws ad cA σ)[k]? = some q) : k < 265 ∧ q = (ad k, pd_el ad cA σ k (pd_tag k)) := by
  have hk : k < 265 := by
    have := (List.getElem?_eq_some_iff.mp h).1
    rwa [pd_ws_len] at this
  rw [pd_ws_at ad cA σ hk] at h
  exact ⟨hk, (Option.some.inj h).symm⟩
theorem pd_ws_set {ad : Nat → Nat} {cA : Nat → ClassId} {σ σ' : pd_H} {k : Nat} {e : va_E} (h : k < 265) (he : e = pd_el ad cA σ' k (pd_tag k)) (ho : ∀ j, j < 265 → j ≠ k → pd_el ad cA σ' j (pd_tag j) = pd_el ad cA σ j (pd_tag j)) : (pd_ws ad cA σ).set k (ad k, e) = pd_ws ad cA σ' := by
  subst he
  apply List.ext_getElem?
  intro j
  rw [List.getElem?_set]
  by_cases hj : k = j
  · subst hj
    rw [if_pos rfl, if_pos (by rw [pd_ws_len]; exact h), pd_ws_at ad cA σ' h]
  · rw [if_neg hj]
    rcases Nat.lt_or_ge j 265 with q | q
    · rw [pd_ws_at ad cA σ q, pd_ws_at ad cA σ' q, ho j q (fun z => hj z.symm)]
    · rw [List.getElem?_eq_none (by rw [pd_ws_len]; exact q), List.getElem?_eq_none (by rw [pd_ws_len]; exact q)]
/-- facts of the layout -/
theorem pd_fk_own : ∀ t, t < 11 → ∀ s, s < pd_nf t → (pd_fkd t s).1 ≤ 1 → (pd_fkd t s).2.1 = s := by decide +kernel
theorem pd_fk_dyn : ∀ t, t < 11 → ∀ s, s < pd_nf t → (pd_fkd t s).1 ≤ 3 ∨ t = 9 := by decide +kernel
theorem pd_fk_dyn9 : ∀ s, s < pd_nf 9 → (pd_fkd 9 s).1 = 4 → ∀ s', s' < pd_nf 9 → (pd_fkd 9 s').1 = 4 → (pd_fkd 9 s').2.1 = (pd_fkd 9 s).2.1 → s' = s := by decide +kernel
theorem pd_tag9 : ∀ k, k < 265 → pd_tag k = 9 → k = 0 := by decide +kernel
theorem pd_fk_max : ∀ t, t < 11 → ∀ s, s < pd_nf t → (pd_fkd t s).1 ≤ 4 ∧ ((pd_fkd t s).1 = 4 → (pd_fkd t s).2.1 < 2 ∧ (pd_fkd t s).2.2 = 2) := by decide +kernel
theorem pd_fk_rel : ∀ k, k < 265 → ∀ s, s < pd_nf (pd_tag k) → pd_tag k < 11 → ((pd_fkd (pd_tag k) s).1 = 2 → pd_tag (k + (pd_fkd (pd_tag k) s).2.1) = (pd_fkd (pd_tag k) s).2.2 ∧ (pd_fkd (pd_tag k) s).2.2 < 25) := by decide +kernel
theorem pd_fk_abs : ∀ t, t < 11 → ∀ s, s < pd_nf t → (pd_fkd t s).1 = 3 → pd_tag (pd_fkd t s).2.1 = (pd_fkd t s).2.2 ∧ (pd_fkd t s).2.2 < 25 := by decide +kernel
theorem pd_tags : ∀ k, k < 265 → pd_tag k < 11 ∨ (20 ≤ pd_tag k ∧ pd_tag k < 25) := by decide +kernel
theorem pd_tag23 : ∀ k, k < 265 → pd_tag k = 23 → pd_len k = 150 := by decide +kernel
theorem pd_tag24 : ∀ k, k < 265 → pd_tag k = 24 → pd_len k = 6 := by decide +kernel
theorem pd_tag_chg : ∀ i, i < 150 → pd_tag (80 + i) = 1 := by decide +kernel
theorem pd_tag_seq : ∀ i, i < 6 → pd_tag (20 + 2 * i) = 4 := by decide +kernel
theorem pd_el_obj (ad : Nat → Nat) (cA : Nat → ClassId) (σ : pd_H) (o : Nat) {t : Nat} (h : t < 11) : pd_el ad cA σ o t = .inr (t, pd_fds ad σ o t) := by
  unfold pd_el
  split <;> first | omega | rfl
/-- a change of one thing's ints is seen there alone -/
theorem pd_el_upI (ad : Nat → Nat) (cA : Nat → ClassId) (σ : pd_H) {k i : Nat} {x : Int32} {j : Nat} (t : Nat) (h : j ≠ k) : pd_el ad cA (pd_upI σ k i x) j t = pd_el ad cA σ j t := by
  have e : (pd_upI σ k i x).1 j = σ.1 j := if_neg h
  have f : ∀ q, pd_fval ad (pd_upI σ k i x) j q = pd_fval ad σ j q := by
    intro q
    unfold pd_fval
    split <;> first | rfl | rw [e]
  unfold pd_el pd_fds
  split <;> first | rfl | rw [e] | simp only [f]
theorem pd_el_upJ (ad : Nat → Nat) (cA : Nat → ClassId) (σ : pd_H) {k i : Nat} {x : Int64} {j : Nat} (t : Nat) (h : j ≠ k) : pd_el ad cA (pd_upJ σ k i x) j t = pd_el ad cA σ j t := by
  have e : (pd_upJ σ k i x).2.1 j = σ.2.1 j := if_neg h
  have f : ∀ q, pd_fval ad (pd_upJ σ k i x) j q = pd_fval ad σ j q := by
    intro q
    unfold pd_fval
    split <;> first | rfl | rw [e]
  unfold pd_el pd_fds
  split <;> first | rfl | rw [e] | simp only [f]
theorem pd_fds_len (ad : Nat → Nat) (σ : pd_H) (o t : Nat) : (pd_fds ad σ o t).length = pd_nf t := by simp [pd_fds]
theorem pd_fds_at (ad : Nat → Nat) (σ : pd_H) (o : Nat) {t s : Nat} (h : s < pd_nf t) : (pd_fds ad σ o t)[s]? = some (pd_fval ad σ o (pd_fkd t s)) := by simp [pd_fds, h]
theorem pd_fds_set {ad : Nat → Nat} {σ σ' : pd_H} {o t s : Nat} {v : Value} (h : s < pd_nf t) (hv : v = pd_fval ad σ' o (pd_fkd t s)) (ho : ∀ s', s' < pd_nf t → s' ≠ s → pd_fval ad σ' o (pd_fkd t s') = pd_fval ad σ o (pd_fkd t s')) : (pd_fds ad σ o t).set s v = pd_fds ad σ' o t := by
  subst hv
  apply List.ext_getElem?
  intro j
  rw [List.getElem?_set]
  by_cases hj : s = j
  · subst hj
    rw [if_pos rfl, if_pos (by rw [pd_fds_len]; exact h), pd_fds_at ad σ' o h]
  · rw [if_neg hj]
    rcases Nat.lt_or_ge j (pd_nf t) with q | q
    · rw [pd_fds_at ad σ o q, pd_fds_at ad σ' o q, ho j q (fun z => hj z.symm)]
    · rw [List.getElem?_eq_none (by rw [pd_fds_len]; exact q), List.getElem?_eq_none (by rw [pd_fds_len]; exact q)]
def pd_tys (cA : Nat → ClassId) : List (ClassId × FieldType) := [(cA 0, .int), (cA 1, .long), (cA 2, .boolean), (cA 3, .object RX1), (cA 4, .object RX4)]
/-- the world -/
def pd_Wd (ad : Nat → Nat) (D : va_G) (cA : Nat → ClassId) (xs : Nat → Int32) (L : Nat) (σ : pd_H) (U : State) (H : Heap) : Prop :=
  va_P D vwCl (pd_ws ad cA σ) H ∧ va_K D vwCl (pd_tys cA) U ∧ (pd_tag (σ.2.2 0) = 2 ∧ pd_tag (σ.2.2 1) = 2) ∧ σ.1 265 = xs ∧ σ.1 266 0 = Int32.ofNat L
/-- the things' addresses -/
def pd_E (ad : Nat → Nat) (A : Nat → Prop) (b L : Nat) : Prop := (∀ i, i < 265 → ∀ j, j < 265 → ad i = ad j → i = j) ∧ (∀ i, i < 265 → A (ad i)) ∧ ad 265 = b ∧ ¬ A b ∧ L < 2 ^ 31
theorem pd_E.D {ad : Nat → Nat} {A : Nat → Prop} {b L : Nat} (h : pd_E ad A b L) (cA : Nat → ClassId) (σ : pd_H) : va_D A (pd_ws ad cA σ) := by
  refine ⟨fun i j p q hp hq e => ?_, fun k q hq => ?_⟩
  · obtain ⟨h1, rfl⟩ := pd_ws_of hp
    obtain ⟨h2, rfl⟩ := pd_ws_of hq
    exact h.1 i h1 j h2 e
  · obtain ⟨h1, rfl⟩ := pd_ws_of hq
    exact h.2.1 k h1
