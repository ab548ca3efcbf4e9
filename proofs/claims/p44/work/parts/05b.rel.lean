/-! What the machine holds when the abstract machine holds σ. -/
def pd_cv (ad : Nat → Nat) : pd_V → Value
  | .inl (.inl x) => .int x
  | .inl (.inr x) => .long x
  | .inr (.inl (.inl x)) => .float x
  | .inr (.inl (.inr x)) => .double x
  | .inr (.inr (_, k)) => .ref (ad k)
theorem pd_cv_cat (ad : Nat → Nat) (v : pd_V) : (pd_cv ad v).category = cond (pd_two v) 2 1 := by
  rcases v with (x | x) | ((x | x) | ⟨t, k⟩) <;> rfl
theorem pd_cv_cat1 (ad : Nat → Nat) {v : pd_V} (h : pd_two v = false) : (pd_cv ad v).category = 1 := by rw [pd_cv_cat, h]; rfl
theorem pd_cv_cat2 (ad : Nat → Nat) {v : pd_V} (h : pd_two v = true) : (pd_cv ad v).category = 2 := by rw [pd_cv_cat, h]; rfl
def pd_ps (ad : Nat → Nat) : Nat → pd_L → List (Nat × Value)
  | _, [] => []
  | i, none :: t => pd_ps ad (i + 1) t
  | i, some v :: t => (i, pd_cv ad v) :: pd_ps ad (i + 1) t
theorem pd_ps_nth {ad : Nat → Nat} {L : pd_L} {k : Nat} {v : pd_V} (h : pd_nth L k = some v) : ∀ i, (i + k, pd_cv ad v) ∈ pd_ps ad i L := by
  induction L generalizing k with
  | nil => simp [pd_nth] at h
  | cons a t ih =>
    intro i
    cases k with
    | zero =>
      have : a = some v := h
      subst this
      exact List.mem_cons_self
    | succ k =>
      have h1 := ih (k := k) h (i + 1)
      rw [show i + 1 + k = i + (k + 1) by omega] at h1
      cases a with
      | none => exact h1
      | some w => exact List.mem_cons_of_mem _ h1
theorem pd_ps_of {ad : Nat → Nat} {L : pd_L} {q : Nat × Value} : ∀ {i : Nat}, q ∈ pd_ps ad i L → ∃ (k : Nat) (v : pd_V), pd_nth L k = some v ∧ q = (i + k, pd_cv ad v) := by
  induction L with
  | nil => intro i h; cases h
  | cons a t ih =>
    intro i h
    cases a with
    | none =>
      obtain ⟨k, v, h1, h2⟩ := ih h
      exact ⟨k + 1, v, h1, by rw [h2]; simp; omega⟩
    | some w =>
      rcases List.mem_cons.mp h with rfl | h
      · exact ⟨0, w, rfl, by simp⟩
      · obtain ⟨k, v, h1, h2⟩ := ih h
        exact ⟨k + 1, v, h1, by rw [h2]; simp; omega⟩
theorem pd_nth_set1 {v w : pd_V} {L : pd_L} {i j : Nat} (h : pd_nth (pd_set1 L i v) j = some w) : (j = i ∧ w = v) ∨ (j ≠ i ∧ pd_nth L j = some w ∧ ¬ (j + 1 = i ∧ pd_two w = true)) := by
  induction L generalizing i j with
  | nil => cases i <;> simp [pd_set1, pd_nth] at h
  | cons a t ih =>
    match i, j, h with
    | 0, 0, h => exact Or.inl ⟨rfl, (Option.some.inj h).symm⟩
    | 0, j + 1, h => exact Or.inr ⟨by omega, h, fun q => by omega⟩
    | 1, 0, h =>
      have h : cond (pd_is2 a) none a = some w := h
      cases hq : pd_is2 a with
      | true => rw [hq] at h; cases h
      | false =>
        rw [hq] at h
        have h : a = some w := h
        subst h
        exact Or.inr ⟨by omega, rfl, fun q => by rw [show pd_two w = false from hq] at q; cases q.2⟩
    | 1, j + 1, h =>
      rcases ih (i := 0) (j := j) h with ⟨e, hw⟩ | ⟨e, hw, _⟩
      · exact Or.inl ⟨by omega, hw⟩
      · exact Or.inr ⟨by omega, hw, fun q => by omega⟩
    | i + 2, 0, h => exact Or.inr ⟨by omega, h, fun q => by omega⟩
    | i + 2, j + 1, h =>
      rcases ih (i := i + 1) (j := j) h with ⟨e, hw⟩ | ⟨e, hw, hn⟩
      · exact Or.inl ⟨by omega, hw⟩
      · exact Or.inr ⟨by omega, hw, fun q => hn ⟨by omega, q.2⟩⟩
theorem pd_nth_clr {L : pd_L} {j : Nat} {w : pd_V} (h : pd_nth (pd_clr L) j = some w) : j ≠ 0 ∧ pd_nth L j = some w := by
  match L, j, h with
  | [], _, h => simp [pd_clr, pd_nth] at h
  | _ :: _, 0, h => cases h
  | _ :: _, j + 1, h => exact ⟨by omega, h⟩
theorem pd_nth_set2 {v w : pd_V} {L : pd_L} {i j : Nat} (h : pd_nth (pd_set2 L i v) j = some w) : (j = i ∧ w = v) ∨ (j ≠ i ∧ j ≠ i + 1 ∧ pd_nth L j = some w ∧ ¬ (j + 1 = i ∧ pd_two w = true)) := by
  induction L generalizing i j with
  | nil => cases i <;> simp [pd_set2, pd_nth] at h
  | cons a t ih =>
    match i, j, h with
    | 0, 0, h => exact Or.inl ⟨rfl, (Option.some.inj h).symm⟩
    | 0, j + 1, h =>
      obtain ⟨q1, q2⟩ := pd_nth_clr (L := t) h
      exact Or.inr ⟨by omega, by omega, q2, fun q => by omega⟩
    | 1, 0, h =>
      have h : cond (pd_is2 a) none a = some w := h
      cases hq : pd_is2 a with
      | true => rw [hq] at h; cases h
      | false =>
        rw [hq] at h
        have h : a = some w := h
        subst h
        exact Or.inr ⟨by omega, by omega, rfl, fun q => by rw [show pd_two w = false from hq] at q; cases q.2⟩
    | 1, j + 1, h =>
      rcases ih (i := 0) (j := j) h with ⟨e, hw⟩ | ⟨e, e2, hw, _⟩
      · exact Or.inl ⟨by omega, hw⟩
      · exact Or.inr ⟨by omega, by omega, hw, fun q => by omega⟩
    | i + 2, 0, h => exact Or.inr ⟨by omega, by omega, h, fun q => by omega⟩
    | i + 2, j + 1, h =>
      rcases ih (i := i + 1) (j := j) h with ⟨e, hw⟩ | ⟨e, e2, hw, hn⟩
      · exact Or.inl ⟨by omega, hw⟩
      · exact Or.inr ⟨by omega, by omega, hw, fun q => hn ⟨by omega, q.2⟩⟩
/-- the locals -/
def pd_lok (ad : Nat → Nat) (ls : Array Slot) (n : Nat) (L : pd_L) : Prop := lv_has ls n (pd_ps ad 0 L)
theorem pd_lok.at {ad : Nat → Nat} {ls : Array Slot} {n : Nat} {L : pd_L} (h : pd_lok ad ls n L) {k : Nat} {v : pd_V} (hv : pd_nth L k = some v) : ls[k]? = some (.val (pd_cv ad v)) := by
  have h1 := h.2.2 _ (pd_ps_nth (ad := ad) hv 0)
  simpa using h1
theorem pd_lok.place {ad : Nat → Nat} {L : pd_L} {k : Nat} {v : pd_V} (hv : pd_nth L k = some v) : ∃ j : Nat, (pd_ps ad 0 L)[j]? = some (k, pd_cv ad v) := by
  have h1 := pd_ps_nth (ad := ad) hv 0
  rw [Nat.zero_add] at h1
  exact List.getElem?_of_mem h1
theorem pd_lok.set1 {ad : Nat → Nat} {ls' : Array Slot} {n : Nat} {L : pd_L} {i : Nat} {v : pd_V} (h : lv_has ls' n ((i, pd_cv ad v) :: (pd_ps ad 0 L).filter (fun q => !(q.1 == i) && !(q.1 + 1 == i && q.2.category == 2)))) : pd_lok ad ls' n (pd_set1 L i v) := by
  refine ⟨h.1, h.2.1, fun q hq => h.2.2 q ?_⟩
  obtain ⟨k, w, h1, rfl⟩ := pd_ps_of hq
  rcases pd_nth_set1 h1 with ⟨e, hw⟩ | ⟨e, hw, hn⟩
  · subst e; subst hw
    rw [Nat.zero_add]
    exact List.mem_cons_self
  · refine List.mem_cons_of_mem _ (List.mem_filter.mpr ⟨pd_ps_nth hw 0, ?_⟩)
    simp only [Nat.zero_add, Bool.and_eq_true, Bool.not_eq_true', beq_eq_false_iff_ne, ne_eq]
    refine ⟨e, ?_⟩
    rw [pd_cv_cat]
    cases h2 : pd_two w with
    | false => simp
    | true =>
      have : ¬ k + 1 = i := fun q => hn ⟨q, h2⟩
      simp [this]
theorem pd_lok.set2 {ad : Nat → Nat} {ls' : Array Slot} {n : Nat} {L : pd_L} {i : Nat} {v : pd_V} (h : lv_has ls' n ((i, pd_cv ad v) :: (pd_ps ad 0 L).filter (fun q => !(q.1 == i) && (!(q.1 == i + 1) && !(q.1 + 1 == i && q.2.category == 2))))) : pd_lok ad ls' n (pd_set2 L i v) := by
  refine ⟨h.1, h.2.1, fun q hq => h.2.2 q ?_⟩
  obtain ⟨k, w, h1, rfl⟩ := pd_ps_of hq
  rcases pd_nth_set2 h1 with ⟨e, hw⟩ | ⟨e, e2, hw, hn⟩
  · subst e; subst hw
    rw [Nat.zero_add]
    exact List.mem_cons_self
  · refine List.mem_cons_of_mem _ (List.mem_filter.mpr ⟨pd_ps_nth hw 0, ?_⟩)
    simp only [Nat.zero_add, Bool.and_eq_true, Bool.not_eq_true', beq_eq_false_iff_ne, ne_eq]
    refine ⟨e, e2, ?_⟩
    rw [pd_cv_cat]
    cases h2 : pd_two w with
    | false => simp
    | true =>
      have : ¬ k + 1 = i := fun q => hn ⟨q, h2⟩
      simp [this]
/-- a method's entry -/
theorem pd_ps_none (ad : Nat → Nat) (n : Nat) : ∀ i, pd_ps ad i (pd_none n) = [] := by
  induction n with
  | zero => exact fun _ => rfl
  | succ n ih => exact fun i => ih (i + 1)
theorem pd_ps_en (ad : Nat → Nat) (av : List pd_V) : ∀ (n i : Nat), pd_ps ad i (pd_en av n) = lv_args i (av.map (pd_cv ad)) := by
  induction av with
  | nil => exact fun n i => pd_ps_none ad n i
  | cons v r ih =>
    intro n i
    show pd_ps ad i (cond (pd_two v) _ _) = (i, pd_cv ad v) :: lv_args (if (pd_cv ad v).category = 2 then i + 2 else i + 1) (r.map (pd_cv ad))
    rw [pd_cv_cat]
    cases pd_two v with
    | true => exact congrArg _ (ih (n - 2) (i + 2))
    | false => exact congrArg _ (ih (n - 1) (i + 1))
theorem pd_sl_len (ad : Nat → Nat) (av : List pd_V) : (lg_sl (av.map (pd_cv ad))).length = pd_cats av := by
  induction av with
  | nil => rfl
  | cons v r ih =>
    have e : lg_sl ((v :: r).map (pd_cv ad)) = (if (pd_cv ad v).category = 2 then [.val (pd_cv ad v), .second] else [.val (pd_cv ad v)]) ++ lg_sl (r.map (pd_cv ad)) := by
      simp [lg_sl]
    rw [e, List.length_append, ih, pd_cv_cat]
    cases h : pd_two v <;> simp [pd_cats, h]
theorem pd_cat_sum (ad : Nat → Nat) (st : List pd_V) : ((st.map (pd_cv ad)).map fun v => v.category).sum = pd_cats st := by
  induction st with
  | nil => rfl
  | cons v r ih =>
    simp only [List.map_cons, List.sum_cons, pd_cats]
    rw [ih, pd_cv_cat]
/-- a reference is one of the things, and of its tag -/
def pd_okv (v : pd_V) : Prop := match v with
  | .inr (.inr (t, k)) => p4_tag k = t ∧ t < 40
  | _ => True
theorem p4_low {k : Nat} (h : k < 920) : p4_tl k = pd_tl (k % 230) := by
  have e : Nat.ble k 919 = true := Nat.ble_eq.mpr (by omega)
  unfold p4_tl
  rw [e, cond_true]
theorem p4_tagL {k : Nat} (h : k < 920) : p4_tag k = pd_tag (k % 230) := congrArg Prod.fst (p4_low h)
theorem p4_lenL {k : Nat} (h : k < 920) : p4_len k = pd_len (k % 230) := congrArg Prod.snd (p4_low h)
theorem p4_hi {k : Nat} (h : 920 ≤ k) : (k = 920 ∧ p4_tag k = 20) ∨ (k = 921 ∧ p4_tag k = 21) ∨ (k = 922 ∧ p4_tag k = 30) ∨ (923 ≤ k ∧ p4_tag k = 99) := by
  rcases Nat.lt_or_ge k 923 with q | q
  · rcases (by omega : k = 920 ∨ k = 921 ∨ k = 922) with e | e | e
    · subst e; exact Or.inl ⟨rfl, rfl⟩
    · subst e; exact Or.inr (Or.inl ⟨rfl, rfl⟩)
    · subst e; exact Or.inr (Or.inr (Or.inl ⟨rfl, rfl⟩))
  · refine Or.inr (Or.inr (Or.inr ⟨q, ?_⟩))
    have e1 : Nat.ble k 919 = false := by
      rw [Bool.eq_false_iff]; intro w; have := Nat.le_of_ble_eq_true w; omega
    have e2 : Nat.beq k 920 = false := by
      rw [Bool.eq_false_iff]; intro w; have := Nat.eq_of_beq_eq_true w; omega
    have e3 : Nat.beq k 921 = false := by
      rw [Bool.eq_false_iff]; intro w; have := Nat.eq_of_beq_eq_true w; omega
    have e4 : Nat.beq k 922 = false := by
      rw [Bool.eq_false_iff]; intro w; have := Nat.eq_of_beq_eq_true w; omega
    unfold p4_tag p4_tl
    rw [e1, e2, e3, e4]
    rfl
theorem pd_tag_big {k : Nat} (h : 922 ≤ k) : 30 ≤ p4_tag k := by
  rcases p4_hi (k := k) (by omega) with ⟨q, _⟩ | ⟨q, _⟩ | ⟨_, q⟩ | ⟨_, q⟩ <;> omega
theorem pd_tag_lt {k : Nat} (h : p4_tag k < 30) : k < 922 := by
  rcases Nat.lt_or_ge k 922 with q | q
  · exact q
  · have := pd_tag_big q; omega
theorem p4_tag_20 {k : Nat} (h : p4_tag k < 20) : k < 920 := by
  rcases Nat.lt_or_ge k 920 with q | q
  · exact q
  · rcases p4_hi q with ⟨_, w⟩ | ⟨_, w⟩ | ⟨_, w⟩ | ⟨_, w⟩ <;> omega
theorem p4_tag_22 {k : Nat} (h1 : 22 ≤ p4_tag k) (h2 : p4_tag k < 30) : k < 920 := by
  rcases Nat.lt_or_ge k 920 with q | q
  · exact q
  · rcases p4_hi q with ⟨_, w⟩ | ⟨_, w⟩ | ⟨_, w⟩ | ⟨_, w⟩ <;> omega
theorem pd_tag_30 {k : Nat} (h : p4_tag k = 30) : k = 922 := by
  rcases Nat.lt_or_ge k 920 with q | q
  · rw [p4_tagL q] at h
    have f : ∀ j, j < 230 → pd_tag j ≠ 30 := by decide +kernel
    exact absurd h (f _ (Nat.mod_lt _ (by decide)))
  · rcases p4_hi q with ⟨_, w⟩ | ⟨_, w⟩ | ⟨e, w⟩ | ⟨_, w⟩
    · omega
    · omega
    · exact e
    · omega
def pd_nf (t : Nat) : Nat := (vwCl.getD t (RL, TX0, 0)).2.2
def pd_fval (ad : Nat → Nat) (σ : pd_H) (o : Nat) (e : Nat × Nat × Nat) : Value := match e with
  | (0, y, _) => .int (σ.1 o y)
  | (1, y, _) => .long (σ.2.1 o y)
  | (2, y, _) => .ref (ad (o + y))
  | (3, y, _) => .ref (ad (p4_bs o + y))
  | (_, y, _) => .ref (ad (σ.2.2 (p4_bs o + y)))
def pd_fds (ad : Nat → Nat) (σ : pd_H) (o t : Nat) : List Value := (List.range (pd_nf t)).map fun s => pd_fval ad σ o (pd_fkd t s)
def pd_el (ad : Nat → Nat) (cA : Nat → ClassId) (σ : pd_H) (o t : Nat) : va_E := match t with
  | 20 => .inl (cA 0, p4_len o, .inl (σ.1 o))
  | 21 => .inl (cA 1, p4_len o, .inr (.inl (σ.2.1 o)))
  | 22 => .inl (cA 2, p4_len o, .inl (σ.1 o))
  | 23 => .inl (cA 3, p4_len o, .inr (.inr (.inr (.inr (fun i => some (ad (p4_bs o + 80 + i)))))))
  | 24 => .inl (cA 4, p4_len o, .inr (.inr (.inr (.inr (fun i => some (ad (p4_bs o + 20 + 2 * i)))))))
  | t => .inr (t, pd_fds ad σ o t)
def pd_ws (ad : Nat → Nat) (cA : Nat → ClassId) (σ : pd_H) : va_W := (List.range 922).map fun k => (ad k, pd_el ad cA σ k (p4_tag k))
theorem pd_ws_at (ad : Nat → Nat) (cA : Nat → ClassId) (σ : pd_H) {k : Nat} (h : k < 922) : (pd_ws ad cA σ)[k]? = some (ad k, pd_el ad cA σ k (p4_tag k)) := by
  simp [pd_ws, h]
theorem pd_ws_len (ad : Nat → Nat) (cA : Nat → ClassId) (σ : pd_H) : (pd_ws ad cA σ).length = 922 := by simp [pd_ws]
theorem pd_ws_of {ad : Nat → Nat} {cA : Nat → ClassId} {σ : pd_H} {k : Nat} {q : Nat × va_E} (h : (pd_ws ad cA σ)[k]? = some q) : k < 922 ∧ q = (ad k, pd_el ad cA σ k (p4_tag k)) := by
  have hk : k < 922 := by
    have := (List.getElem?_eq_some_iff.mp h).1
    rwa [pd_ws_len] at this
  rw [pd_ws_at ad cA σ hk] at h
  exact ⟨hk, (Option.some.inj h).symm⟩
theorem pd_ws_set {ad : Nat → Nat} {cA : Nat → ClassId} {σ σ' : pd_H} {k : Nat} {e : va_E} (h : k < 922) (he : e = pd_el ad cA σ' k (p4_tag k)) (ho : ∀ j, j < 922 → j ≠ k → pd_el ad cA σ' j (p4_tag j) = pd_el ad cA σ j (p4_tag j)) : (pd_ws ad cA σ).set k (ad k, e) = pd_ws ad cA σ' := by
  subst he
  apply List.ext_getElem?
  intro j
  rw [List.getElem?_set]
  by_cases hj : k = j
  · subst hj
    rw [if_pos rfl, if_pos (by rw [pd_ws_len]; exact h), pd_ws_at ad cA σ' h]
  · rw [if_neg hj]
    rcases Nat.lt_or_ge j 922 with q | q
    · rw [pd_ws_at ad cA σ q, pd_ws_at ad cA σ' q, ho j q (fun z => hj z.symm)]
    · rw [List.getElem?_eq_none (by rw [pd_ws_len]; exact q), List.getElem?_eq_none (by rw [pd_ws_len]; exact q)]
/-- facts of the layout -/
theorem pd_fk_own : ∀ t, t < 10 → ∀ s, s < pd_nf t → (pd_fkd t s).1 ≤ 1 → (pd_fkd t s).2.1 = s := by decide +kernel
theorem pd_fk_dyn : ∀ t, t < 10 → ∀ s, s < pd_nf t → (pd_fkd t s).1 ≤ 3 ∨ t = 9 := by decide +kernel
theorem pd_fk_dyn9 : ∀ s, s < pd_nf 9 → (pd_fkd 9 s).1 = 4 → ∀ s', s' < pd_nf 9 → (pd_fkd 9 s').1 = 4 → (pd_fkd 9 s').2.1 = (pd_fkd 9 s).2.1 → s' = s := by decide +kernel
theorem pd_tag9 : ∀ k, k < 922 → p4_tag k = 9 → k < 920 ∧ p4_bs k = k := by
  intro k _ h
  have q : k < 920 := p4_tag_20 (by omega)
  rw [p4_tagL q] at h
  have f : ∀ j, j < 230 → pd_tag j = 9 → j = 0 := by decide +kernel
  have := f _ (Nat.mod_lt _ (by decide)) h
  refine ⟨q, ?_⟩
  unfold p4_bs; omega
theorem pd_fk_max : ∀ t, t < 10 → ∀ s, s < pd_nf t → (pd_fkd t s).1 ≤ 4 ∧ ((pd_fkd t s).1 = 4 → (pd_fkd t s).2.1 < 2 ∧ (pd_fkd t s).2.2 = 2) := by decide +kernel
theorem pd_fk_rel1 : ∀ k, k < 230 → ∀ s, s < pd_nf (pd_tag k) → pd_tag k < 10 → ((pd_fkd (pd_tag k) s).1 = 2 → (k + (pd_fkd (pd_tag k) s).2.1 < 230 ∧ pd_tag (k + (pd_fkd (pd_tag k) s).2.1) = (pd_fkd (pd_tag k) s).2.2) ∧ (pd_fkd (pd_tag k) s).2.2 < 25) := by decide +kernel
theorem pd_fk_rel : ∀ k, k < 922 → ∀ s, s < pd_nf (p4_tag k) → p4_tag k < 10 → ((pd_fkd (p4_tag k) s).1 = 2 → p4_tag (k + (pd_fkd (p4_tag k) s).2.1) = (pd_fkd (p4_tag k) s).2.2 ∧ (pd_fkd (p4_tag k) s).2.2 < 25) := by
  intro k _ s hs ht h2
  have q : k < 920 := p4_tag_20 (by omega)
  rw [p4_tagL q] at hs ht h2 ⊢
  obtain ⟨⟨f1, f2⟩, f3⟩ := pd_fk_rel1 _ (Nat.mod_lt _ (by decide)) s hs ht h2
  refine ⟨?_, f3⟩
  rw [p4_tagL (by omega), ← f2]
  congr 1
  omega
theorem pd_fk_abs1 : ∀ t, t < 10 → ∀ s, s < pd_nf t → (pd_fkd t s).1 = 3 → ((pd_fkd t s).2.1 < 230 ∧ pd_tag (pd_fkd t s).2.1 = (pd_fkd t s).2.2) ∧ (pd_fkd t s).2.2 < 25 := by decide +kernel
theorem p4_at {k y : Nat} (q : k < 920) (h : y < 230) : p4_bs k + y < 920 ∧ (p4_bs k + y) % 230 = y := by
  unfold p4_bs; omega
theorem pd_fk_abs {k : Nat} (q : k < 920) : ∀ t, t < 10 → ∀ s, s < pd_nf t → (pd_fkd t s).1 = 3 → p4_tag (p4_bs k + (pd_fkd t s).2.1) = (pd_fkd t s).2.2 ∧ (pd_fkd t s).2.2 < 25 := by
  intro t ht s hs h3
  obtain ⟨⟨f1, f2⟩, f3⟩ := pd_fk_abs1 t ht s hs h3
  obtain ⟨g1, g2⟩ := p4_at q f1
  refine ⟨?_, f3⟩
  rw [p4_tagL g1, g2, f2]
theorem pd_tags : ∀ k, k < 922 → p4_tag k < 10 ∨ (20 ≤ p4_tag k ∧ p4_tag k < 25) := by
  intro k hk
  rcases Nat.lt_or_ge k 920 with q | q
  · rw [p4_tagL q]
    have f : ∀ j, j < 230 → pd_tag j < 10 ∨ (20 ≤ pd_tag j ∧ pd_tag j < 25) := by decide +kernel
    exact f _ (Nat.mod_lt _ (by decide))
  · rcases p4_hi q with ⟨_, w⟩ | ⟨_, w⟩ | ⟨_, w⟩ | ⟨_, w⟩ <;> omega
theorem pd_tag23 : ∀ k, k < 922 → p4_tag k = 23 → p4_len k = 150 := by
  intro k _ h
  have q : k < 920 := p4_tag_22 (by omega) (by omega)
  rw [p4_tagL q] at h
  rw [p4_lenL q]
  have f : ∀ j, j < 230 → pd_tag j = 23 → pd_len j = 150 := by decide +kernel
  exact f _ (Nat.mod_lt _ (by decide)) h
theorem pd_tag24 : ∀ k, k < 922 → p4_tag k = 24 → p4_len k = 6 := by
  intro k _ h
  have q : k < 920 := p4_tag_22 (by omega) (by omega)
  rw [p4_tagL q] at h
  rw [p4_lenL q]
  have f : ∀ j, j < 230 → pd_tag j = 24 → pd_len j = 6 := by decide +kernel
  exact f _ (Nat.mod_lt _ (by decide)) h
theorem pd_tag_chg {k : Nat} (q : k < 920) : ∀ i, i < 150 → p4_tag (p4_bs k + 80 + i) = 1 := by
  intro i hi
  obtain ⟨g1, g2⟩ := p4_at (y := 80 + i) q (by omega)
  rw [← Nat.add_assoc] at g1 g2
  rw [p4_tagL g1, g2]
  have f : ∀ i, i < 150 → pd_tag (80 + i) = 1 := by decide +kernel
  exact f i hi
theorem pd_tag_seq {k : Nat} (q : k < 920) : ∀ i, i < 6 → p4_tag (p4_bs k + 20 + 2 * i) = 4 := by
  intro i hi
  obtain ⟨g1, g2⟩ := p4_at (y := 20 + 2 * i) q (by omega)
  rw [← Nat.add_assoc] at g1 g2
  rw [p4_tagL g1, g2]
  have f : ∀ i, i < 6 → pd_tag (20 + 2 * i) = 4 := by decide +kernel
  exact f i hi
theorem pd_el_obj (ad : Nat → Nat) (cA : Nat → ClassId) (σ : pd_H) (o : Nat) {t : Nat} (h : t < 10) : pd_el ad cA σ o t = .inr (t, pd_fds ad σ o t) := by
  unfold pd_el
  split <;> first | omega | rfl
/-- a change of one thing's ints is seen there alone -/
theorem pd_el_upI (ad : Nat → Nat) (cA : Nat → ClassId) (σ : pd_H) {k i : Nat} {x : Int32} {j : Nat} (t : Nat) (h : j ≠ k) : pd_el ad cA (pd_upI σ k i x) j t = pd_el ad cA σ j t := by
  have e : (pd_upI σ k i x).1 j = σ.1 j := if_neg h
  have f : ∀ q, pd_fval ad (pd_upI σ k i x) j q = pd_fval ad σ j q := by
    intro q
    unfold pd_fval
    split <;> first | rfl | rw [e]
  unfold pd_el pd_fds
  split <;> first | rfl | rw [e] | simp only [f]
theorem pd_el_upJ (ad : Nat → Nat) (cA : Nat → ClassId) (σ : pd_H) {k i : Nat} {x : Int64} {j : Nat} (t : Nat) (h : j ≠ k) : pd_el ad cA (pd_upJ σ k i x) j t = pd_el ad cA σ j t := by
  have e : (pd_upJ σ k i x).2.1 j = σ.2.1 j := if_neg h
  have f : ∀ q, pd_fval ad (pd_upJ σ k i x) j q = pd_fval ad σ j q := by
    intro q
    unfold pd_fval
    split <;> first | rfl | rw [e]
  unfold pd_el pd_fds
  split <;> first | rfl | rw [e] | simp only [f]
theorem pd_fds_len (ad : Nat → Nat) (σ : pd_H) (o t : Nat) : (pd_fds ad σ o t).length = pd_nf t := by simp [pd_fds]
theorem pd_fds_at (ad : Nat → Nat) (σ : pd_H) (o : Nat) {t s : Nat} (h : s < pd_nf t) : (pd_fds ad σ o t)[s]? = some (pd_fval ad σ o (pd_fkd t s)) := by simp [pd_fds, h]
theorem pd_fds_set {ad : Nat → Nat} {σ σ' : pd_H} {o t s : Nat} {v : Value} (h : s < pd_nf t) (hv : v = pd_fval ad σ' o (pd_fkd t s)) (ho : ∀ s', s' < pd_nf t → s' ≠ s → pd_fval ad σ' o (pd_fkd t s') = pd_fval ad σ o (pd_fkd t s')) : (pd_fds ad σ o t).set s v = pd_fds ad σ' o t := by
  subst hv
  apply List.ext_getElem?
  intro j
  rw [List.getElem?_set]
  by_cases hj : s = j
  · subst hj
    rw [if_pos rfl, if_pos (by rw [pd_fds_len]; exact h), pd_fds_at ad σ' o h]
  · rw [if_neg hj]
    rcases Nat.lt_or_ge j (pd_nf t) with q | q
    · rw [pd_fds_at ad σ o q, pd_fds_at ad σ' o q, ho j q (fun z => hj z.symm)]
    · rw [List.getElem?_eq_none (by rw [pd_fds_len]; exact q), List.getElem?_eq_none (by rw [pd_fds_len]; exact q)]
def pd_tys (cA : Nat → ClassId) : List (ClassId × FieldType) := [(cA 0, .int), (cA 1, .long), (cA 2, .boolean), (cA 3, .object RX1), (cA 4, .object RX4)]
/-- the references that move -/
def p4_dy (σ : pd_H) : Prop := ∀ k, k < 920 → ∀ y, y < 2 → p4_tag (σ.2.2 (p4_bs k + y)) = 2
/-- the world -/
def pd_Wd (ad : Nat → Nat) (D : va_G) (cA : Nat → ClassId) (xs : Nat → Int32) (L : Nat) (σ : pd_H) (U : State) (H : Heap) : Prop :=
  va_P D vwCl (pd_ws ad cA σ) H ∧ va_K D vwCl (pd_tys cA) U ∧ p4_dy σ ∧ σ.1 922 = xs ∧ σ.1 923 0 = Int32.ofNat L
/-- the things' addresses -/
def pd_E (ad : Nat → Nat) (A : Nat → Prop) (b L : Nat) : Prop := (∀ i, i < 922 → ∀ j, j < 922 → ad i = ad j → i = j) ∧ (∀ i, i < 922 → A (ad i)) ∧ ad 922 = b ∧ ¬ A b ∧ L < 2 ^ 31
theorem pd_E.D {ad : Nat → Nat} {A : Nat → Prop} {b L : Nat} (h : pd_E ad A b L) (cA : Nat → ClassId) (σ : pd_H) : va_D A (pd_ws ad cA σ) := by
  refine ⟨fun i j p q hp hq e => ?_, fun k q hq => ?_⟩
  · obtain ⟨h1, rfl⟩ := pd_ws_of hp
    obtain ⟨h2, rfl⟩ := pd_ws_of hq
    exact h.1 i h1 j h2 e
  · obtain ⟨h1, rfl⟩ := pd_ws_of hq
    exact h.2.1 k h1
