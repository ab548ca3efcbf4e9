/-! The tape: how the model goes over it. -/
/-- may a byte go on with a number -/
def c_nb (fg : Nat) (bl : Bool) (nm b : Nat) : Bool :=
  bif Nat.beq b 45 then (Nat.beq fg 0 && !bl)
  else (Nat.ble 48 b && Nat.ble b 57 && !(Nat.beq fg 1 && Nat.beq nm 0) && !(Nat.beq fg 0 && bl && Nat.beq b 48) && Nat.ble (10 * nm + (b - 48)) (c_most bl))
/-- where a byte that is none of a number's leads -/
def c_nxw (w : Bool) (st b : Nat) : Option Nat :=
  match st with
  | 0 => bif (Nat.ble 48 b && Nat.ble b 53) then some 1 else none
  | 1 => bif Nat.beq b 46 then some 4 else bif (Nat.ble 97 b && Nat.ble b 118) then some 2 else none
  | 2 => bif (w && Nat.beq b 61) then some 3 else none
  | 3 => bif (w && Nat.beq b 59) then some 0 else none
  | 4 => bif (w && (Nat.ble 97 b && Nat.ble b 105)) then some 5 else none
  | 5 => bif (Nat.ble 48 b && Nat.ble b 53) then some 6 else none
  | 6 => bif Nat.beq b 46 then some 7 else none
  | _ => bif (w && Nat.beq b 59) then some 0 else none
def c_nx (st fg b : Nat) : Option Nat := c_nxw (Nat.ble 1 fg) st b
/-- where it leads, as a word -/
def c_nxi (o : Option Nat) : Int32 := match o with
  | some s => nI s
  | none => -1
/-- a suffix behind bytes that are no semicolon -/
def c_sf (l r : List Nat) : Prop := ∃ u, l = u ++ r ∧ 59 ∉ u
theorem c_sf.rf {l : List Nat} : c_sf l l := ⟨[], rfl, List.not_mem_nil⟩
theorem c_sf.tr {l r s : List Nat} (h : c_sf l r) (g : c_sf r s) : c_sf l s := by
  obtain ⟨u, h1, h2⟩ := h
  obtain ⟨v, g1, g2⟩ := g
  exact ⟨u ++ v, by rw [h1, g1, List.append_assoc], fun q => (List.mem_append.mp q).elim h2 g2⟩
theorem c_sf.con {b : Nat} {t : List Nat} (h : b ≠ 59) : c_sf (b :: t) t := ⟨[b], rfl, fun q => h (List.mem_singleton.mp q).symm⟩
theorem c_sf.len {l r : List Nat} (h : c_sf l r) : r.length ≤ l.length := by
  obtain ⟨u, h1, -⟩ := h
  rw [h1, List.length_append]; omega
theorem c_pb_sf {lo hi b : Nat} {l t : List Nat} (h : c_pb lo hi l = some (b, t)) (h9 : hi < 59 ∨ 59 < lo) : c_sf l t := by
  obtain ⟨h1, h2, h3⟩ := c_pb_some h
  rw [h1]
  exact c_sf.con (by omega)
theorem c_dig_sf {m : Nat} : ∀ {l : List Nat} {nm : Nat}, c_sf l (c_dig m l nm).2 := by
  intro l
  induction l with
  | nil => intro nm; exact c_sf.rf
  | cons b t ih =>
    intro nm
    by_cases h : 48 ≤ b ∧ b ≤ 57 ∧ 10 * nm + (b - 48) ≤ m
    · rw [c_dig_ok h.1 h.2.1 h.2.2]
      exact (c_sf.con (by omega)).tr ih
    · rw [c_dig_no h]
      exact c_sf.rf
theorem c_nr1_sf {bl : Bool} {l : List Nat} : c_sf l (c_nr1 bl l).2 := by
  unfold c_nr1
  split
  · rename_i h
    exact (c_pb_sf h (by decide)).tr c_dig_sf
  · exact c_sf.rf
theorem c_nr_sf {l : List Nat} : c_sf l (c_nr l).2 := by
  unfold c_nr
  split
  · rename_i h
    exact (c_pb_sf h (by decide)).tr c_nr1_sf
  · split
    · rename_i h
      exact c_pb_sf h (by decide)
    · exact c_nr1_sf
theorem c_nr_sf2 {l r : List Nat} {v : Option Int32} (h : c_nr l = (v, r)) : c_sf l r := by
  have := c_nr_sf (l := l)
  rw [h] at this
  exact this
theorem c_tw_sf {s : Nat} {l : List Nat} : c_sf l (c_tw s l).2 := by
  unfold c_tw
  split
  · exact c_sf.rf
  · rename_i h
    refine (c_pb_sf h (by decide)).tr ?_
    split
    · rename_i h; exact c_nr_sf2 h
    · rename_i h
      refine (c_nr_sf2 h).tr ?_
      split
      · exact c_sf.rf
      · rename_i h
        refine (c_pb_sf h (by decide)).tr ?_
        split
        · rename_i h; exact c_nr_sf2 h
        · rename_i h; exact c_nr_sf2 h
theorem c_tcp_sf {s : Nat} {l : List Nat} : c_sf l (c_tcp s l).2 := by
  unfold c_tcp
  split
  · rename_i h; exact c_nr_sf2 h
  · rename_i h
    refine (c_nr_sf2 h).tr ?_
    split
    · exact c_sf.rf
    · rename_i h
      refine (c_pb_sf h (by decide)).tr ?_
      split
      · exact c_sf.rf
      · rename_i h
        refine (c_pb_sf h (by decide)).tr ?_
        split
        · exact c_sf.rf
        · rename_i h
          refine (c_pb_sf h (by decide)).tr ?_
          split
          · rename_i h; exact c_nr_sf2 h
          · rename_i h; exact c_nr_sf2 h
theorem c_tcg_sf {l : List Nat} : c_sf l (c_tcg l).2 := by
  unfold c_tcg
  split
  · exact c_sf.rf
  · rename_i h
    refine (c_pb_sf h (by decide)).tr ?_
    split
    · exact c_tw_sf
    · rename_i h
      exact (c_pb_sf h (by decide)).tr c_tcp_sf
theorem c_tcg_lt {l r : List Nat} {c : cC} (h : c_tcg l = (some c, r)) : r.length < l.length := by
  unfold c_tcg at h
  split at h
  · cases h
  · rename_i s l1 hp
    obtain ⟨h1, -, -⟩ := c_pb_some hp
    rw [h1, List.length_cons]
    split at h
    · have := (c_tw_sf (s := s) (l := l1)).len
      rw [h] at this
      exact Nat.lt_succ_of_le this
    · rename_i x l2 hq
      have g := ((c_pb_sf hq (by decide)).tr (c_tcp_sf (s := s) (l := l2))).len
      rw [h] at g
      exact Nat.lt_succ_of_le g
theorem c_prs_tail {f : Nat} {r : List Nat} : c_prs (f + 1) r = (match c_tcg r with
    | (none, r) => (false, [], r)
    | (some c, []) => (true, [c], [])
    | (some c, b :: r) => bif Nat.beq b 59 then (let q := c_prs f r; (q.1, c :: q.2.1, q.2.2)) else (false, [c], b :: r)) := rfl
section TAPE
variable {σ₀ σ : pd_H} {L l : List Nat} {x : Int32}
theorem tS.pos (h : tS σ₀ L x l σ) : σ.1 10 3 = nI (L.length - l.length) := by
  obtain ⟨⟨u, h1, h2⟩, -⟩ := h
  rw [h2, h1, List.length_append]; congr 1; omega
theorem tS.up6 (h : tS σ₀ L x l σ) (y : Int32) : tS σ₀ L y l (pd_upI σ 10 6 y) := by
  obtain ⟨⟨u, h1, h2⟩, h3, h4, h5⟩ := h
  exact ⟨⟨u, h1, by rw [pu_u1s, pk_un (by decide)]; exact h2⟩, by rw [pu_u1s, pk_un (by decide)]; exact h3, by rw [pu_u1s, pk_us], h5.tr (pu_fr.upI (Or.inl rfl))⟩
theorem tS.le (h : tS σ₀ L x l σ) : l.length ≤ L.length := by
  obtain ⟨⟨u, h1, -⟩, -⟩ := h
  rw [h1, List.length_append]; omega
theorem Tape_ff (hT : tT σ₀ L) : ∀ (f : Nat) (l : List Nat) (σ : pd_H) (n c0 : Nat), l.length < f → n + l.length ≤ 80 → tS σ₀ L (nI c0) l σ → ∃ σ' y, Tape_findFlaw_L12 (nI n) σ = some (σ', some (pd_i (cond (c_prs f l).1 (-1) (nI (L.length - (c_prs f l).2.2.length))))) ∧ tS σ₀ L y (c_prs f l).2.2 σ' ∧ ((c_prs f l).1 = true → y = nI (c0 + (c_prs f l).2.1.length)) := by
  have h80 := hT.1
  intro f
  induction f with
  | zero => intro l σ n c0 h; exact absurd h (Nat.not_lt_zero _)
  | succ f ih =>
    intro l σ n c0 hf hn h
    obtain ⟨σ1, a1, a2, a3⟩ := Tape_tcg hT h
    rw [Tape_findFlaw_L12_eq, show (80 : Int32) = nI 80 from rfl, decide_eq_false (nI_nlt (show n ≤ 80 by omega) (by decide)), cond_false, a1, pd_bI_of, c_prs_tail]
    have ele := h.le
    rcases hr : c_tcg l with ⟨_ | c, r⟩
    · rw [hr] at a2
      refine ⟨σ1, nI c0, ?_, a2, fun q => by cases q⟩
      show some (σ1, some (pd_i (σ1.1 10 3))) = some (σ1, some (pd_i (nI (L.length - r.length))))
      rw [a2.pos]
    · have hlt := c_tcg_lt hr
      rw [hr] at a2
      have a4 := a2.up6 (nI (c0 + 1))
      have e6 : σ1.1 10 6 + 1 = nI (c0 + 1) := by rw [a2.keep, ← nI_succ]
      show ∃ σ' y, cond (decide ((pd_upI σ1 10 6 (σ1.1 10 6 + 1)).1 10 3 = (pd_upI σ1 10 6 (σ1.1 10 6 + 1)).1 10 2)) (some (pd_upI σ1 10 6 (σ1.1 10 6 + 1), some (pd_i (-1)))) (pd_bI (Tape_passByte 59 59 (pd_upI σ1 10 6 (σ1.1 10 6 + 1))) fun s3 v4 => cond (decide (v4 = 0)) (some (s3, some (pd_i (s3.1 10 3)))) (Tape_findFlaw_L12 (nI n + 1) s3)) = _ ∧ _
      rw [e6, a4.pos, a4.2.1]
      have er := a4.le
      cases r with
      | nil =>
        rw [decide_eq_true (show nI (L.length - ([] : List Nat).length) = nI L.length from rfl), cond_true]
        exact ⟨_, _, rfl, a4, fun _ => rfl⟩
      | cons b r =>
        rw [decide_eq_false (show ¬ nI (L.length - (b :: r).length) = nI L.length by have er : r.length + 1 ≤ L.length := er; rw [nI_eq (by omega) (by omega), List.length_cons]; omega), cond_false, show (59 : Int32) = nI 59 from rfl]
        rcases Tape_pb hT a4 (show 59 < 256 by decide) (show 59 < 256 by decide) with ⟨e1, e2⟩ | ⟨b', r', σ3, e1, e2, e3, -, -, -⟩
        · have hb : ¬ b = 59 := fun q => c_pb_none e1 ⟨by omega, by omega⟩
          have hb2 : Nat.beq b 59 = false := by rw [← Bool.not_eq_true]; exact fun q => hb (Nat.eq_of_beq_eq_true q)
          rw [e2, pd_bI_of, decide_eq_true (rfl : (0 : Int32) = 0), cond_true, a4.pos]
          show ∃ σ' y, _ = some (σ', some (pd_i (cond (bif Nat.beq b 59 then (let q := c_prs f r; (q.1, c :: q.2.1, q.2.2)) else (false, [c], b :: r) : Bool × List cC × List Nat).1 (-1) (nI (L.length - (bif Nat.beq b 59 then (let q := c_prs f r; (q.1, c :: q.2.1, q.2.2)) else (false, [c], b :: r) : Bool × List cC × List Nat).2.2.length))))) ∧ tS σ₀ L y (bif Nat.beq b 59 then (let q := c_prs f r; (q.1, c :: q.2.1, q.2.2)) else (false, [c], b :: r) : Bool × List cC × List Nat).2.2 σ' ∧ ((bif Nat.beq b 59 then (let q := c_prs f r; (q.1, c :: q.2.1, q.2.2)) else (false, [c], b :: r) : Bool × List cC × List Nat).1 = true → y = nI (c0 + (bif Nat.beq b 59 then (let q := c_prs f r; (q.1, c :: q.2.1, q.2.2)) else (false, [c], b :: r) : Bool × List cC × List Nat).2.1.length))
          rw [hb2]
          exact ⟨_, _, rfl, a4, fun q => by cases q⟩
        · obtain ⟨p1, p2, p3⟩ := c_pb_some e1
          cases p1
          have hb2 : Nat.beq b 59 = true := by rw [show b = 59 by omega]; rfl
          rw [e2, pd_bI_of, decide_eq_false (by decide : ¬ (1 : Int32) = 0), cond_false, ← nI_succ]
          show ∃ σ' y, _ = some (σ', some (pd_i (cond (bif Nat.beq b 59 then (let q := c_prs f r; (q.1, c :: q.2.1, q.2.2)) else (false, [c], b :: r) : Bool × List cC × List Nat).1 (-1) (nI (L.length - (bif Nat.beq b 59 then (let q := c_prs f r; (q.1, c :: q.2.1, q.2.2)) else (false, [c], b :: r) : Bool × List cC × List Nat).2.2.length))))) ∧ tS σ₀ L y (bif Nat.beq b 59 then (let q := c_prs f r; (q.1, c :: q.2.1, q.2.2)) else (false, [c], b :: r) : Bool × List cC × List Nat).2.2 σ' ∧ ((bif Nat.beq b 59 then (let q := c_prs f r; (q.1, c :: q.2.1, q.2.2)) else (false, [c], b :: r) : Bool × List cC × List Nat).1 = true → y = nI (c0 + (bif Nat.beq b 59 then (let q := c_prs f r; (q.1, c :: q.2.1, q.2.2)) else (false, [c], b :: r) : Bool × List cC × List Nat).2.1.length))
          rw [hb2]
          rw [List.length_cons] at hlt er
          obtain ⟨σ4, y, g1, g2, g3⟩ := ih r σ3 (n + 1) (c0 + 1) (by omega) (by omega) e3
          exact ⟨σ4, y, g1, g2, fun q => by rw [g3 q, cond_true, List.length_cons]; congr 1; omega⟩
/-- the desk's finding of a flaw -/
def s_fw (S : cS) : Int32 := cond (c_prs 81 (s_tp S)).1 (-1) (nI ((s_tp S).length - (c_prs 81 (s_tp S)).2.2.length))
variable {S : cS}
theorem x_tT (hw : s_wf S) (h : RX σ S) : tT σ (s_tp S) := ⟨hw.2.2.2.2.1, hw.2.2.2.2.2, fun i b q => h.2.2.2.2.2.1.2 i b q⟩
theorem Tape_findFlaw_s (hw : s_wf S) (h : RX σ S) : ∃ σ' y, Tape_findFlaw σ = some (σ', some (pd_i (s_fw S))) ∧ tS σ (s_tp S) y (c_prs 81 (s_tp S)).2.2 σ' ∧ ((c_prs 81 (s_tp S)).1 = true → y = nI (c_prs 81 (s_tp S)).2.1.length) := by
  have hT := x_tT hw h
  rw [Tape_findFlaw_eq]
  have g : tS σ (s_tp S) (nI 0) (s_tp S) (pd_upI (pd_upI σ 10 3 0) 10 6 0) := ⟨⟨[], rfl, by rw [pu_u1s, pk_un (by decide), pu_u1s, pk_us]; rfl⟩, by rw [pu_u1s, pk_un (by decide), pu_u1s, pk_un (by decide)]; exact h.2.2.2.2.2.1.1, by rw [pu_u1s, pk_us]; rfl, (pu_fr.upI (Or.inl rfl)).tr (pu_fr.upI (Or.inl rfl))⟩
  obtain ⟨σ', y, g1, g2, g3⟩ := Tape_ff hT 81 (s_tp S) _ 0 0 (by have := hT.1; omega) (by have := hT.1; omega) g
  exact ⟨σ', y, g1, g2, fun q => by rw [g3 q, Nat.zero_add]⟩
/-- what the tape's own places say is nobody's -/
theorem RX_tS (hw : s_wf S) (h : RX σ S) {y : Int32} {l : List Nat} {τ : pd_H} (g : tS σ (s_tp S) y l τ) : RX τ S := by
  obtain ⟨-, g2, -, g4⟩ := g
  have e1 : ∀ k, ¬ (k = 10 ∨ k = 12) → τ.1 k = σ.1 k := g4.1
  have e2 : ∀ k, ¬ (k = 10 ∨ k = 12) → τ.2.1 k = σ.2.1 k := g4.2.1
  obtain ⟨⟨a1, a2, a3, a4⟩, ⟨b1, b2, b3⟩, hrt, ⟨c1, c2, c3⟩, ⟨d1, d2, d3⟩, d4, d5, d6⟩ := h
  have hr : σ.2.2 0 = 32 ∨ σ.2.2 0 = 48 := by rcases hrt with q | q <;> omega
  have hvl := hw.2.2.1.2.2.2.1
  have hseq : ∀ o l, 12 < o → pu_seq σ o l → pu_seq τ o l := fun o l ho q => q.of (by rw [e1 o (by omega)]) (e1 (o + 1) (by omega))
  refine ⟨⟨?_, ?_, ?_, ?_⟩, ⟨?_, ?_, ?_⟩, ?_, ⟨?_, ?_, ?_⟩, ⟨?_, ?_, ?_⟩, ⟨?_, ?_⟩, ?_, ?_⟩
  · rw [e1 2 (by omega)]; exact a1
  · rw [e1 3 (by omega)]; exact a2
  · rw [e1 5 (by omega)]; exact a3
  · rw [e2 6 (by omega)]; exact a4
  · intro p k hp hk
    have hx : x_chg τ (6 * p + k) = x_chg σ (6 * p + k) := by unfold x_chg; rw [e1 _ (by omega)]
    rw [hx]; exact b1 p k hp hk
  · intro p hp; rw [e1 9 (by omega)]; exact b2 p hp
  · rw [e1 7 (by omega)]; exact b3
  · rw [g4.2.2]; exact hrt
  · rw [g4.2.2]; exact hseq _ _ (by omega) c1
  · rw [g4.2.2]
    have : x_rw S τ (σ.2.2 0) = x_rw S σ (σ.2.2 0) := by
      unfold x_rw
      rw [e1 (σ.2.2 0 + 4) (by omega), e2 (σ.2.2 0 + 5) (by omega), e1 (σ.2.2 0 + 6) (by omega), e1 (σ.2.2 0 + 9) (by omega), e2 (σ.2.2 0 + 10) (by omega), e1 (σ.2.2 0 + 12) (by omega), e2 (σ.2.2 0 + 13) (by omega), e1 (σ.2.2 0 + 14) (by omega)]
    show c_agr _ _ (x_rw S τ (σ.2.2 0)) _
    rw [this]; exact c2
  · rw [g4.2.2, e1 _ (by omega)]; exact c3
  · exact hseq _ _ (by omega) d1
  · rw [e1 0 (by omega)]; exact d2
  · intro v l hv; exact hseq _ _ (by omega) (d3 v l hv)
  · exact g2
  · intro i b hb; rw [e1 11 (by omega)]; exact d4.2 i b hb
  · rw [e1 0 (by omega)]; exact d5
  · rw [e1 16 (by omega)]; exact d6
end TAPE
