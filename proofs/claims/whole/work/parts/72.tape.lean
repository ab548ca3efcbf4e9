/-! The tape: what a text says. -/
/-- a byte of a range -/
def c_pb (lo hi : Nat) : List Nat → Option (Nat × List Nat)
  | b :: t => bif (Nat.ble lo b && Nat.ble b hi) then some (b, t) else none
  | [] => none
/-- digits, as long as the number fits -/
def c_dig (most : Nat) : List Nat → Nat → Nat × List Nat
  | b :: t, nm => bif (Nat.ble 48 b && Nat.ble b 57 && Nat.ble (10 * nm + (b - 48)) most) then c_dig most t (10 * nm + (b - 48)) else (nm, b :: t)
  | [], nm => (nm, [])
/-- the most of a number -/
def c_most (bl : Bool) : Nat := bif bl then 2147483648 else 2147483647
def c_sg (bl : Bool) (nm : Nat) : Int32 := Int64.toInt32 (bif bl then -(jN nm) else jN nm)
/-- a number's first digit from 1 on, and the rest -/
def c_nr1 (bl : Bool) (l : List Nat) : Option Int32 × List Nat :=
  match c_pb 49 57 l with
  | some (b, t) => (some (c_sg bl (c_dig (c_most bl) t (b - 48)).1), (c_dig (c_most bl) t (b - 48)).2)
  | none => (none, l)
/-- a number -/
def c_nr (l : List Nat) : Option Int32 × List Nat :=
  match c_pb 45 45 l with
  | some (_, t) => c_nr1 true t
  | none => match c_pb 48 48 l with
    | some (_, t) => (some 0, t)
    | none => c_nr1 false l
def c_tw (s : Nat) (l : List Nat) : Option cC × List Nat :=
  match c_pb 97 118 l with
  | none => (none, l)
  | some (w, l1) => match c_nr l1 with
    | (none, l2) => (none, l2)
    | (some i, l2) => match c_pb 61 61 l2 with
      | none => (none, l2)
      | some (_, l3) => match c_nr l3 with
        | (none, l4) => (none, l4)
        | (some v, l4) => (some (-1, 0, nI (w - 97), nI (s - 48), i, v), l4)
def c_tcp (s : Nat) (l : List Nat) : Option cC × List Nat :=
  match c_nr l with
  | (none, l1) => (none, l1)
  | (some i, l1) => match c_pb 97 105 l1 with
    | none => (none, l1)
    | some (w, l2) => match c_pb 48 53 l2 with
      | none => (none, l2)
      | some (g, l3) => match c_pb 46 46 l3 with
        | none => (none, l3)
        | some (_, l4) => match c_nr l4 with
          | (none, l5) => (none, l5)
          | (some j, l5) => (some (nI (s - 48), i, nI (w - 97), nI (g - 48), j, 0), l5)
/-- a change -/
def c_tcg (l : List Nat) : Option cC × List Nat :=
  match c_pb 48 53 l with
  | none => (none, l)
  | some (s, l1) => match c_pb 46 46 l1 with
    | none => c_tw s l1
    | some (_, l2) => c_tcp s l2
/-- changes: whether all is one text, the changes, what is left -/
def c_prs : Nat → List Nat → Bool × List cC × List Nat
  | 0, l => (false, [], l)
  | f + 1, l => match c_tcg l with
    | (none, r) => (false, [], r)
    | (some c, []) => (true, [c], [])
    | (some c, b :: r) => bif Nat.beq b 59 then (let q := c_prs f r; (q.1, c :: q.2.1, q.2.2)) else (false, [c], b :: r)
theorem c_pb_c {lo hi b : Nat} {t : List Nat} : c_pb lo hi (b :: t) = (bif (Nat.ble lo b && Nat.ble b hi) then some (b, t) else none) := rfl
theorem c_pb_some {lo hi b : Nat} {l t : List Nat} (h : c_pb lo hi l = some (b, t)) : l = b :: t ∧ lo ≤ b ∧ b ≤ hi := by
  cases l with
  | nil => cases h
  | cons x u =>
    rw [c_pb_c] at h
    by_cases q : (Nat.ble lo x && Nat.ble x hi) = true
    · rw [q] at h
      cases h
      rw [Bool.and_eq_true] at q
      exact ⟨rfl, Nat.le_of_ble_eq_true q.1, Nat.le_of_ble_eq_true q.2⟩
    · rw [Bool.not_eq_true] at q
      rw [q] at h; cases h
theorem c_pb_none {lo hi b : Nat} {t : List Nat} (h : c_pb lo hi (b :: t) = none) : ¬ (lo ≤ b ∧ b ≤ hi) := by
  intro q
  rw [c_pb_c] at h
  rw [Nat.ble_eq_true_of_le q.1, Nat.ble_eq_true_of_le q.2] at h
  cases h
theorem c_pb_ok {lo hi b : Nat} {t : List Nat} (h1 : lo ≤ b) (h2 : b ≤ hi) : c_pb lo hi (b :: t) = some (b, t) := by
  rw [c_pb_c]
  rw [Nat.ble_eq_true_of_le h1, Nat.ble_eq_true_of_le h2]; rfl
theorem c_pb_no {lo hi b : Nat} {t : List Nat} (h : ¬ (lo ≤ b ∧ b ≤ hi)) : c_pb lo hi (b :: t) = none := by
  rw [c_pb_c]
  have : (Nat.ble lo b && Nat.ble b hi) = false := by
    rw [← Bool.not_eq_true, Bool.and_eq_true]
    exact fun q => h ⟨Nat.le_of_ble_eq_true q.1, Nat.le_of_ble_eq_true q.2⟩
  rw [this]; rfl
theorem c_dig_ok {most b nm : Nat} {t : List Nat} (h1 : 48 ≤ b) (h2 : b ≤ 57) (h3 : 10 * nm + (b - 48) ≤ most) : c_dig most (b :: t) nm = c_dig most t (10 * nm + (b - 48)) := by
  show (bif (Nat.ble 48 b && Nat.ble b 57 && Nat.ble (10 * nm + (b - 48)) most) then _ else _) = _
  rw [Nat.ble_eq_true_of_le h1, Nat.ble_eq_true_of_le h2, Nat.ble_eq_true_of_le h3]; rfl
theorem c_dig_no {most b nm : Nat} {t : List Nat} (h : ¬ (48 ≤ b ∧ b ≤ 57 ∧ 10 * nm + (b - 48) ≤ most)) : c_dig most (b :: t) nm = (nm, b :: t) := by
  have : (Nat.ble 48 b && Nat.ble b 57 && Nat.ble (10 * nm + (b - 48)) most) = false := by
    rw [← Bool.not_eq_true, Bool.and_eq_true, Bool.and_eq_true]
    exact fun q => h ⟨Nat.le_of_ble_eq_true q.1.1, Nat.le_of_ble_eq_true q.1.2, Nat.le_of_ble_eq_true q.2⟩
  show (bif (Nat.ble 48 b && Nat.ble b 57 && Nat.ble (10 * nm + (b - 48)) most) then _ else _) = _
  rw [this]; rfl
theorem jN_mul (a b : Nat) : jN a * jN b = jN (a * b) := (Int64.ofNat_mul a b).symm
theorem jN_byte {b : Nat} (h : b < 256) : (nI b).toInt64 = jN b := by
  have : ∀ b, b < 256 → (nI b).toInt64 = jN b := by decide +kernel
  exact this b h
theorem jN_digit {nm b : Nat} (h1 : 48 ≤ b) (h2 : b < 256) : (10 : Int64) * jN nm + (nI b).toInt64 - 48 = jN (10 * nm + (b - 48)) := by
  rw [jN_byte h2, show (10 : Int64) = jN 10 from rfl, jN_mul, jN_add, show (48 : Int64) = jN 48 from rfl, jN_sub (by omega)]
  congr 1; omega
section TAPE
variable {σ₀ σ : pd_H} {L l : List Nat} {x : Int32}
def tT (σ₀ : pd_H) (L : List Nat) : Prop := L.length ≤ 80 ∧ (∀ b ∈ L, b < 256) ∧ ∀ (i b : Nat), L[i]? = some b → σ₀.1 11 i = nI b
/-- the tape stands at what is left -/
def tS (σ₀ : pd_H) (L : List Nat) (x : Int32) (l : List Nat) (σ : pd_H) : Prop := (∃ u, L = u ++ l ∧ σ.1 10 3 = nI u.length) ∧ σ.1 10 2 = nI L.length ∧ σ.1 10 6 = x ∧ pu_fr (fun k => k = 10 ∨ k = 12) σ₀ σ
theorem tS.at0 (hT : tT σ₀ L) (h : tS σ₀ L x [] σ) : decide (σ.1 10 2 ≤ σ.1 10 3) = true := by
  obtain ⟨⟨u, h1, h2⟩, h3, -, -⟩ := h
  rw [h2, h3, h1, List.append_nil]
  exact decide_eq_true (nI_le (Nat.le_refl _) (by have := hT.1; rw [h1, List.append_nil] at this; omega))
theorem tS.at1 (hT : tT σ₀ L) {b : Nat} {t : List Nat} (h : tS σ₀ L x (b :: t) σ) : ∃ i, i < 80 ∧ b < 256 ∧ decide (σ.1 10 2 ≤ σ.1 10 3) = false ∧ σ.1 10 3 = nI i ∧ σ.1 11 i = nI b ∧ ∀ σ', σ'.1 10 3 = nI i + 1 → σ'.1 10 2 = σ.1 10 2 → pu_fr (fun k => k = 10 ∨ k = 12) σ σ' → tS σ₀ L (σ'.1 10 6) t σ' := by
  obtain ⟨⟨u, h1, h2⟩, h3, h4, h5⟩ := h
  have hl : L.length = u.length + (t.length + 1) := by rw [h1, List.length_append]; rfl
  have h80 := hT.1
  refine ⟨u.length, by omega, hT.2.1 b (by rw [h1]; exact List.mem_append_right _ List.mem_cons_self), ?_, h2, ?_, fun σ' g1 g2 g3 => ⟨⟨u ++ [b], by rw [h1, List.append_assoc]; rfl, ?_⟩, g2.trans h3, rfl, h5.tr g3⟩⟩
  · rw [h2, h3]
    exact decide_eq_false (nI_ge (by omega) (by omega))
  · rw [h5.1 11 (by decide)]
    refine hT.2.2 _ _ ?_
    rw [h1, List.getElem?_append_right (Nat.le_refl _), Nat.sub_self]; rfl
  · rw [g1, List.length_append, ← nI_succ]; rfl
theorem Tape_pb (hT : tT σ₀ L) (h : tS σ₀ L x l σ) {lo hi : Nat} (hlo : lo < 256) (hhi : hi < 256) : (c_pb lo hi l = none ∧ Tape_passByte (nI lo) (nI hi) σ = some (σ, some (pd_i 0))) ∨ ∃ b t σ', c_pb lo hi l = some (b, t) ∧ Tape_passByte (nI lo) (nI hi) σ = some (σ', some (pd_i 1)) ∧ tS σ₀ L x t σ' ∧ σ'.1 10 4 = nI b ∧ σ'.1 10 5 = σ.1 10 5 ∧ σ'.1 12 = σ.1 12 := by
  rw [Tape_passByte_eq]
  cases l with
  | nil => exact Or.inl ⟨rfl, by rw [h.at0 hT]; rfl⟩
  | cons b t =>
    obtain ⟨i, hi80, hb, e1, e2, e3, e4⟩ := h.at1 hT
    rw [e1, cond_false, e2, show pd_len 11 = 80 from rfl, pu_obN hi80 (by decide), cond_false, cond_false, cond_false, nI_clamp (by omega), e3]
    by_cases q1 : lo ≤ b
    · rw [decide_eq_false (nI_nlt q1 (by omega)), cond_false]
      by_cases q2 : b ≤ hi
      · refine Or.inr ⟨b, t, pd_upI (pd_upI σ 10 4 (nI b)) 10 3 ((pd_upI σ 10 4 (nI b)).1 10 3 + 1), c_pb_ok q1 q2, by rw [decide_eq_true (nI_le q2 (by omega))]; rfl, ?_, ?_, ?_, ?_⟩
        · have g := e4 (pd_upI (pd_upI σ 10 4 (nI b)) 10 3 ((pd_upI σ 10 4 (nI b)).1 10 3 + 1)) (by rw [pu_u1s, pk_us, pu_u1s, pk_un (by decide), e2]) (by rw [pu_u1s, pk_un (by decide), pu_u1s, pk_un (by decide)]) ((pu_fr.upI (Or.inl rfl)).tr (pu_fr.upI (Or.inl rfl)))
          rw [pu_u1s, pk_un (by decide), pu_u1s, pk_un (by decide), h.2.2.1] at g
          exact g
        · rw [pu_u1s, pk_un (by decide), pu_u1s, pk_us]
        · rw [pu_u1s, pk_un (by decide), pu_u1s, pk_un (by decide)]
        · rw [pu_u1n (by decide), pu_u1n (by decide)]
      · exact Or.inl ⟨c_pb_no (fun q => q2 q.2), by rw [decide_eq_false (nI_ge (by omega) (by omega))]; rfl⟩
    · exact Or.inl ⟨c_pb_no (fun q => q1 q.1), by rw [decide_eq_true (nI_lt (by omega) (by omega))]; rfl⟩
theorem Tape_dig (hT : tT σ₀ L) {l1 : Int32} {bl : Bool} : ∀ (l : List Nat) (nm k : Nat) (σ : pd_H), nm ≤ c_most bl → k + l.length < 80 → tS σ₀ L x l σ → ∃ σ' d6, Tape_passNumber_L71 l1 (jN (c_most bl)) (jN nm) (nI k) σ = Tape_passNumber_L127 l1 (some (pd_j (jN (c_most bl)))) none (jN (c_dig (c_most bl) l nm).1) d6 σ' ∧ tS σ₀ L x (c_dig (c_most bl) l nm).2 σ' := by
  have hm : c_most bl ≤ 2147483648 := by cases bl <;> decide
  intro l
  induction l with
  | nil =>
    intro nm k σ hn hk h
    refine ⟨σ, some (pd_i (nI k)), ?_, h⟩
    rw [Tape_passNumber_L71_eq, show (80 : Int32) = nI 80 from rfl, decide_eq_false (nI_ge (by simpa using hk) (by decide)), cond_false, Tape_digitFits_eq, h.at0 hT, cond_true, pd_bI_of, decide_eq_true (rfl : (0 : Int32) = 0), cond_true]
    rfl
  | cons b t ih =>
    intro nm k σ hn hk h
    have hk : k + (t.length + 1) < 80 := hk
    obtain ⟨i, hi80, hb, e1, e2, e3, e4⟩ := h.at1 hT
    rw [Tape_passNumber_L71_eq, show (80 : Int32) = nI 80 from rfl, decide_eq_false (nI_ge (by omega) (by decide)), cond_false, Tape_digitFits_eq, e1, cond_false, e2, show pd_len 11 = 80 from rfl, pu_obN hi80 (by decide), cond_false, cond_false, cond_false, nI_clamp (by omega), e3]
    by_cases q1 : 48 ≤ b
    · rw [show (48 : Int32) = nI 48 from rfl, decide_eq_false (nI_nlt q1 (by omega)), cond_false]
      by_cases q2 : b ≤ 57
      · rw [show (57 : Int32) = nI 57 from rfl, decide_eq_true (nI_le q2 (by omega)), cond_true, jN_digit q1 hb, j_cmp_gt, jN_toInt (by omega), jN_toInt (by omega)]
        by_cases q3 : 10 * nm + (b - 48) ≤ c_most bl
        · rw [decide_eq_false (show ¬ ((c_most bl : Nat) : Int) < ((10 * nm + (b - 48) : Nat) : Int) by omega), cond_false, pd_bI_of, decide_eq_false (by decide : ¬ (1 : Int32) = 0), cond_false, e2, pu_obN hi80 (by decide), cond_false, nI_clamp (by omega), e3, jN_digit q1 hb, ← nI_succ, c_dig_ok q1 q2 q3]
          refine ih _ _ _ q3 (by omega) ?_
          have g := e4 (pd_upI σ 10 3 (nI (i + 1))) (by rw [pu_u1s, pk_us, nI_succ]) (by rw [pu_u1s, pk_un (by decide)]) (pu_fr.upI (Or.inl rfl))
          rw [pu_u1s, pk_un (by decide), h.2.2.1] at g
          rw [← nI_succ]
          exact g
        · rw [decide_eq_true (show ((c_most bl : Nat) : Int) < ((10 * nm + (b - 48) : Nat) : Int) by omega), cond_true, pd_bI_of, decide_eq_true (rfl : (0 : Int32) = 0), cond_true, c_dig_no (fun q => q3 q.2.2)]
          exact ⟨σ, _, rfl, h⟩
      · rw [show (57 : Int32) = nI 57 from rfl, decide_eq_false (nI_ge (by omega) (by omega)), cond_false, pd_bI_of, decide_eq_true (rfl : (0 : Int32) = 0), cond_true, c_dig_no (fun q => q2 q.2.1)]
        exact ⟨σ, _, rfl, h⟩
    · rw [show (48 : Int32) = nI 48 from rfl, decide_eq_true (nI_lt (by omega) (by omega)), cond_true, pd_bI_of, decide_eq_true (rfl : (0 : Int32) = 0), cond_true, c_dig_no (fun q => q1 q.1)]
      exact ⟨σ, _, rfl, h⟩
theorem Tape_L127 {l1 : Int32} {bl : Bool} (hb : decide (l1 = 0) = !bl) {d2 d3 d6 : Option pd_V} {nm : Nat} (h : tS σ₀ L x l σ) : ∃ σ', Tape_passNumber_L127 l1 d2 d3 (jN nm) d6 σ = some (σ', some (pd_i 1)) ∧ tS σ₀ L x l σ' ∧ σ'.1 10 5 = c_sg bl nm := by
  have key : ∀ v, tS σ₀ L x l (pd_upI σ 10 5 v) ∧ (pd_upI σ 10 5 v).1 10 5 = v := fun v => by
    obtain ⟨⟨u, h1, h2⟩, h3, h4, h5⟩ := h
    exact ⟨⟨⟨u, h1, by rw [pu_u1s, pk_un (by decide)]; exact h2⟩, by rw [pu_u1s, pk_un (by decide)]; exact h3, by rw [pu_u1s, pk_un (by decide)]; exact h4, h5.tr (pu_fr.upI (Or.inl rfl))⟩, by rw [pu_u1s, pk_us]⟩
  rw [Tape_passNumber_L127_eq, hb]
  cases bl with
  | true => exact ⟨_, rfl, key _⟩
  | false => exact ⟨_, rfl, key _⟩
theorem Tape_nr1 (hT : tT σ₀ L) (h : tS σ₀ L x l σ) {l1 : Int32} {bl : Bool} (hb : decide (l1 = 0) = !bl) {d2 d3 d4 d5 d6 : Option pd_V} : ∃ σ', Tape_passNumber_L31 l1 d2 d3 d4 d5 d6 σ = some (σ', some (pd_i (cond (c_nr1 bl l).1.isSome 1 0))) ∧ tS σ₀ L x (c_nr1 bl l).2 σ' ∧ ∀ v, (c_nr1 bl l).1 = some v → σ'.1 10 5 = v := by
  rw [Tape_passNumber_L31_eq]
  unfold c_nr1
  rcases Tape_pb hT h (show 49 < 256 by decide) (show 57 < 256 by decide) with ⟨e1, e2⟩ | ⟨b, t, σ', e1, e2, e3, e4, -, -⟩
  · rw [show (49 : Int32) = nI 49 from rfl, show (57 : Int32) = nI 57 from rfl, e2, e1]
    exact ⟨σ, rfl, h, fun v q => by cases q⟩
  · rw [show (49 : Int32) = nI 49 from rfl, show (57 : Int32) = nI 57 from rfl, e2, e1, pd_bI_of, decide_eq_false (by decide : ¬ (1 : Int32) = 0), cond_false, hb, Tape_passNumber_L57_eq, Tape_passNumber_L57_eq, e4]
    obtain ⟨p1, p2, p3⟩ := c_pb_some e1
    have d1 : (nI b - 48).toInt64 = jN (b - 48) := by
      have : ∀ b, b < 58 → 49 ≤ b → (nI b - 48).toInt64 = jN (b - 48) := by decide +kernel
      exact this b (by omega) p2
    have hlen : 0 + t.length < 80 := by
      obtain ⟨⟨u, h1, -⟩, -⟩ := h
      have := hT.1
      rw [h1, p1, List.length_append, List.length_cons] at this
      omega
    obtain ⟨σ2, d6, g1, g2⟩ := Tape_dig hT (l1 := l1) (bl := bl) t (b - 48) 0 σ' (by cases bl <;> (unfold c_most; simp; omega)) hlen e3
    obtain ⟨σ3, g3, g4, g5⟩ := Tape_L127 (l1 := l1) hb (d2 := some (pd_j (jN (c_most bl)))) (d3 := none) (d6 := d6) (nm := (c_dig (c_most bl) t (b - 48)).1) g2
    rw [d1]
    refine ⟨σ3, ?_, g4, fun v q => by cases q; exact g5⟩
    rw [show (0 : Int32) = nI 0 from rfl]
    cases bl with
    | true => exact g1.trans g3
    | false => exact g1.trans g3
theorem Tape_nr (hT : tT σ₀ L) (h : tS σ₀ L x l σ) : ∃ σ', Tape_passNumber σ = some (σ', some (pd_i (cond (c_nr l).1.isSome 1 0))) ∧ tS σ₀ L x (c_nr l).2 σ' ∧ ∀ v, (c_nr l).1 = some v → σ'.1 10 5 = v := by
  rw [Tape_passNumber_eq, show (45 : Int32) = nI 45 from rfl, show (48 : Int32) = nI 48 from rfl]
  unfold c_nr
  rcases Tape_pb hT h (show 45 < 256 by decide) (show 45 < 256 by decide) with ⟨e1, e2⟩ | ⟨b, t, σ', e1, e2, e3, e4, -, -⟩
  · rw [e2, e1, pd_bI_of, decide_eq_true (rfl : (0 : Int32) = 0), cond_true]
    rcases Tape_pb hT h (show 48 < 256 by decide) (show 48 < 256 by decide) with ⟨e3, e4⟩ | ⟨b, t, σ', e3, e4, e5, e6, -, -⟩
    · rw [e4, e3, pd_bI_of, decide_eq_true (rfl : (0 : Int32) = 0), cond_true]
      exact Tape_nr1 (bl := false) hT h rfl
    · rw [e4, e3, pd_bI_of, decide_eq_false (by decide : ¬ (1 : Int32) = 0), cond_false]
      obtain ⟨⟨u, h1, h2⟩, h3, h4, h5⟩ := e5
      refine ⟨pd_upI σ' 10 5 0, rfl, ⟨⟨u, h1, by rw [pu_u1s, pk_un (by decide)]; exact h2⟩, by rw [pu_u1s, pk_un (by decide)]; exact h3, by rw [pu_u1s, pk_un (by decide)]; exact h4, h5.tr (pu_fr.upI (Or.inl rfl))⟩, fun v q => ?_⟩
      cases q
      rw [pu_u1s, pk_us]
  · rw [e2, e1, pd_bI_of, decide_eq_false (by decide : ¬ (1 : Int32) = 0), cond_false]
    exact Tape_nr1 (bl := true) hT e3 (by decide)
theorem tS.keep (h : tS σ₀ L x l σ) : σ.1 10 6 = x := h.2.2.1
/-- the change that the tape holds -/
def x_par (σ : pd_H) : cC := (σ.1 12 0, σ.1 12 1, σ.1 12 2, σ.1 12 3, σ.1 12 4, σ.1 12 5)
theorem Tape_become (h : tS σ₀ L x l σ) (a b c d e f : Int32) : ∃ σ', Change_become 12 a b c d e f σ = some (σ', none) ∧ tS σ₀ L x l σ' ∧ x_par σ' = (a, b, c, d, e, f) := by
  rw [Change_become_eq]
  refine ⟨_, rfl, ?_, ?_⟩
  · obtain ⟨⟨u, h1, h2⟩, h3, h4, h5⟩ := h
    have e1 : ∀ k, k ≠ 12 → (pd_upI (pd_upI (pd_upI (pd_upI (pd_upI (pd_upI σ 12 0 a) 12 1 b) 12 2 c) 12 3 d) 12 4 e) 12 5 f).1 k = σ.1 k := fun k hk => by
      rw [pu_u1n hk, pu_u1n hk, pu_u1n hk, pu_u1n hk, pu_u1n hk, pu_u1n hk]
    have q : ∀ (τ : pd_H) i v, pu_fr (fun k => k = 10 ∨ k = 12) τ (pd_upI τ 12 i v) := fun τ i v => pu_fr.upI (Or.inr rfl)
    refine ⟨⟨u, h1, by rw [e1 10 (by decide)]; exact h2⟩, by rw [e1 10 (by decide)]; exact h3, by rw [e1 10 (by decide)]; exact h4, ((((((h5.tr (q _ _ _)).tr (q _ _ _)).tr (q _ _ _)).tr (q _ _ _)).tr (q _ _ _)).tr (q _ _ _))⟩
  · unfold x_par
    simp only [pu_u1s]
    rfl
theorem nI_subN {a b : Nat} (h : b ≤ a) : nI a - nI b = nI (a - b) := (Int32.ofNat_sub a b h).symm
def tG (σ₀ : pd_H) (L : List Nat) (x : Int32) (r : Option cC × List Nat) (p : Option pd_R) : Prop := ∃ σ', p = some (σ', some (pd_i (cond r.1.isSome 1 0))) ∧ tS σ₀ L x r.2 σ' ∧ ∀ c, r.1 = some c → x_par σ' = c
theorem tG.no (h : tS σ₀ L x l σ) : tG σ₀ L x (none, l) (some (σ, some (pd_i 0))) := ⟨σ, rfl, h, fun v q => by cases q⟩
theorem Tape_tw (hT : tT σ₀ L) (h : tS σ₀ L x l σ) {s : Nat} : tG σ₀ L x (c_tw s l) (Tape_passWrite (nI (s - 48)) σ) := by
  rw [Tape_passWrite_eq, show (97 : Int32) = nI 97 from rfl, show (118 : Int32) = nI 118 from rfl, show (61 : Int32) = nI 61 from rfl]
  unfold c_tw
  rcases Tape_pb hT h (show 97 < 256 by decide) (show 118 < 256 by decide) with ⟨e1, e2⟩ | ⟨w, l1, σ1, e1, e2, e3, e4, -, -⟩
  · rw [e2, e1]
    exact tG.no h
  obtain ⟨p1, p2, p3⟩ := c_pb_some e1
  rw [e2, e1, pd_bI_of, decide_eq_false (by decide : ¬ (1 : Int32) = 0), cond_false]
  obtain ⟨σ2, g1, g2, g3⟩ := Tape_nr hT e3
  rw [g1, pd_bI_of]
  dsimp only
  rcases hr : c_nr l1 with ⟨_ | v, l2⟩
  · rw [hr] at g2
    exact tG.no g2
  rw [hr] at g2 g3
  have g3 := g3 v rfl
  dsimp only
  rw [show decide ((cond (some v).isSome (1 : Int32) 0) = 0) = false from rfl, cond_false]
  rcases Tape_pb hT g2 (show 61 < 256 by decide) (show 61 < 256 by decide) with ⟨e5, e6⟩ | ⟨b, l3, σ3, e5, e6, e7, -, e8, -⟩
  · rw [e6, e5]
    exact tG.no g2
  rw [e6, e5, pd_bI_of, decide_eq_false (by decide : ¬ (1 : Int32) = 0), cond_false]
  obtain ⟨σ4, f1, f2, f3⟩ := Tape_nr hT e7
  rw [f1, pd_bI_of]
  dsimp only
  rcases hr2 : c_nr l3 with ⟨_ | u, l4⟩
  · rw [hr2] at f2
    exact tG.no f2
  rw [hr2] at f2 f3
  have f3 := f3 u rfl
  dsimp only
  rw [show decide ((cond (some u).isSome (1 : Int32) 0) = 0) = false from rfl, cond_false]
  obtain ⟨σ5, k1, k2, k3⟩ := Tape_become f2 (-1) 0 (σ1.1 10 4 - nI 97) (nI (s - 48)) (σ2.1 10 5) (σ4.1 10 5)
  rw [k1, pd_bV_of]
  refine ⟨σ5, rfl, k2, fun c q => ?_⟩
  rw [k3]
  cases q
  rw [e4, nI_subN p2, g3, f3]
theorem Tape_tcp (hT : tT σ₀ L) (h : tS σ₀ L x l σ) {s : Nat} : tG σ₀ L x (c_tcp s l) (Tape_passCopy (nI (s - 48)) σ) := by
  rw [Tape_passCopy_eq, show (97 : Int32) = nI 97 from rfl, show (105 : Int32) = nI 105 from rfl, show (48 : Int32) = nI 48 from rfl, show (53 : Int32) = nI 53 from rfl, show (46 : Int32) = nI 46 from rfl]
  unfold c_tcp
  obtain ⟨σ1, a1, a2, a3⟩ := Tape_nr hT h
  rw [a1, pd_bI_of]
  rcases hr : c_nr l with ⟨_ | i, l1⟩
  · rw [hr] at a2
    exact tG.no a2
  rw [hr] at a2 a3
  have a3 := a3 i rfl
  dsimp only
  rw [show decide ((cond (some i).isSome (1 : Int32) 0) = 0) = false from rfl, cond_false]
  rcases Tape_pb hT a2 (show 97 < 256 by decide) (show 105 < 256 by decide) with ⟨e1, e2⟩ | ⟨w, l2, σ2, e1, e2, e3, e4, -, -⟩
  · rw [e2, e1]
    exact tG.no a2
  obtain ⟨-, p2, -⟩ := c_pb_some e1
  rw [e2, e1, pd_bI_of, decide_eq_false (by decide : ¬ (1 : Int32) = 0), cond_false]
  dsimp only
  rcases Tape_pb hT e3 (show 48 < 256 by decide) (show 53 < 256 by decide) with ⟨f1, f2⟩ | ⟨g, l3, σ3, f1, f2, f3, f4, -, -⟩
  · rw [f2, f1]
    exact tG.no e3
  obtain ⟨-, p3, -⟩ := c_pb_some f1
  rw [f2, f1, pd_bI_of, decide_eq_false (by decide : ¬ (1 : Int32) = 0), cond_false]
  dsimp only
  rcases Tape_pb hT f3 (show 46 < 256 by decide) (show 46 < 256 by decide) with ⟨k1, k2⟩ | ⟨b, l4, σ4, k1, k2, k3, -, -, -⟩
  · rw [k2, k1]
    exact tG.no f3
  rw [k2, k1, pd_bI_of, decide_eq_false (by decide : ¬ (1 : Int32) = 0), cond_false]
  obtain ⟨σ5, b1, b2, b3⟩ := Tape_nr hT k3
  rw [b1, pd_bI_of]
  dsimp only
  rcases hr2 : c_nr l4 with ⟨_ | j, l5⟩
  · rw [hr2] at b2
    exact tG.no b2
  rw [hr2] at b2 b3
  have b3 := b3 j rfl
  dsimp only
  rw [show decide ((cond (some j).isSome (1 : Int32) 0) = 0) = false from rfl, cond_false]
  obtain ⟨σ6, c1, c2, c3⟩ := Tape_become b2 (nI (s - 48)) (σ1.1 10 5) (σ2.1 10 4 - nI 97) (σ3.1 10 4 - nI 48) (σ5.1 10 5) 0
  rw [c1, pd_bV_of]
  refine ⟨σ6, rfl, c2, fun c q => ?_⟩
  rw [c3]
  cases q
  rw [e4, f4, nI_subN p2, nI_subN p3, a3, b3]
theorem Tape_tcg (hT : tT σ₀ L) (h : tS σ₀ L x l σ) : tG σ₀ L x (c_tcg l) (Tape_passChange σ) := by
  rw [Tape_passChange_eq, show (48 : Int32) = nI 48 from rfl, show (53 : Int32) = nI 53 from rfl, show (46 : Int32) = nI 46 from rfl]
  unfold c_tcg
  rcases Tape_pb hT h (show 48 < 256 by decide) (show 53 < 256 by decide) with ⟨f1, f2⟩ | ⟨s, l1, σ1, f1, f2, f3, f4, -, -⟩
  · rw [f2, f1]
    exact tG.no h
  obtain ⟨-, p3, -⟩ := c_pb_some f1
  rw [f2, f1, pd_bI_of, decide_eq_false (by decide : ¬ (1 : Int32) = 0), cond_false, f4, nI_subN p3]
  have hz : ∀ b : Bool, decide ((cond b (1 : Int32) 0) = 0 ∨ (cond b (1 : Int32) 0) = 1) = true := by decide
  dsimp only
  rcases Tape_pb hT f3 (show 46 < 256 by decide) (show 46 < 256 by decide) with ⟨k1, k2⟩ | ⟨b, l2, σ2, k1, k2, k3, -, -, -⟩
  · rw [k2, k1, pd_bI_of, decide_eq_true (rfl : (0 : Int32) = 0), cond_true]
    obtain ⟨σ3, g1, g2, g3⟩ := Tape_tw hT f3 (s := s)
    rw [g1, pd_bI_of, hz, cond_true]
    exact ⟨σ3, rfl, g2, g3⟩
  · rw [k2, k1, pd_bI_of, decide_eq_false (by decide : ¬ (1 : Int32) = 0), cond_false]
    obtain ⟨σ3, g1, g2, g3⟩ := Tape_tcp hT k3 (s := s)
    rw [g1, pd_bI_of, hz, cond_true]
    exact ⟨σ3, rfl, g2, g3⟩
end TAPE
