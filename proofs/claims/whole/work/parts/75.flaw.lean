/-! Flaw. -/
section FLAW
variable {L : List Nat}
theorem M_numbers_any (b : Int32) (σ : pd_H) : ∃ τ, M_numbers b σ = some (τ, none) ∧ mF σ τ := by
  rw [M_numbers_eq]
  cases decide (b = 45) with
  | true => exact ⟨_, rfl, mF.up (by decide)⟩
  | false => exact ⟨_, rfl, mF.upJ.tr (mF.up (by decide))⟩
theorem mS.byte {st fg nm b : Nat} {bl : Bool} {σ : pd_H} {u t : List Nat} (h : mS L st fg bl nm σ) (e : L = u ++ b :: t) : b < 256 ∧ u.length < 80 ∧ decide (σ.1 230 39 ≤ nI u.length) = false ∧ σ.1 259 u.length = nI b := by
  obtain ⟨⟨h1, h2, h3, h4⟩, -⟩ := h
  obtain ⟨hb, hu⟩ := c_byte_at e ⟨h1, h2⟩
  refine ⟨hb, hu, ?_, ?_⟩
  · rw [h3]
    refine decide_eq_false (nI_ge ?_ (by omega))
    rw [e, List.length_append, List.length_cons]; omega
  · refine h4 _ _ ?_
    rw [e, List.getElem?_append_right (Nat.le_refl _), Nat.sub_self]; rfl
def c_FL (v : Int32) (i : Nat) (σ : pd_H) : Prop := ∀ d2 d3, ∃ τ, M_flaw_L7 (nI i) d2 d3 σ = some (τ, some (pd_i v)) ∧ mF σ τ
theorem c_ns {st : Nat} (h : st = 2 ∨ st = 3 ∨ st = 4 ∨ st = 7) : (Nat.beq st 2 || Nat.beq st 3 || Nat.beq st 4 || Nat.beq st 7) = true := by
  rcases h with rfl | rfl | rfl | rfl <;> rfl
theorem c_FL_loop {v : Int32} : c_loop L (c_FL v) := by
  intro u t b st fg nm bl σ e hst h hn k d2 d3
  obtain ⟨hb, hu, e1, e2⟩ := h.byte e
  obtain ⟨τ, g1, g2⟩ := M_numbers_any (nI b) σ
  obtain ⟨υ, k1, k2⟩ := k τ g1 (some (pd_i (nI b))) d3
  refine ⟨υ, ?_, g2.tr k2⟩
  rw [M_flaw_L7_eq, e1, cond_false, show pd_len 259 = 80 from rfl, pu_obN hu (by decide), cond_false, M_isNumberState_s h, c_ns hst, cond_true, pd_bI_of, decide_eq_false (by decide : ¬ (1 : Int32) = 0), cond_false, nI_clamp (by omega), e2, M_isNumberByte_s h hb, hn, cond_true, pd_bI_of, decide_eq_false (by decide : ¬ (1 : Int32) = 0), cond_false, g1, pd_bV_of, ← nI_succ]
  exact k1
theorem c_FL_to {st fg nm b : Nat} {bl : Bool} {σ : pd_H} {u t : List Nat} (e : L = u ++ b :: t) (h : mS L st fg bl nm σ) (hs : (st = 2 ∨ st = 3 ∨ st = 4 ∨ st = 7) → c_nb fg bl nm b = false) (d2 d3 : Option pd_V) : M_flaw_L7 (nI u.length) d2 d3 σ = M_flaw_L45 (nI u.length) (nI b) d3 σ := by
  obtain ⟨hb, hu, e1, e2⟩ := h.byte e
  rw [M_flaw_L7_eq, e1, cond_false, show pd_len 259 = 80 from rfl, pu_obN hu (by decide), cond_false, M_isNumberState_s h, nI_clamp (by omega), e2]
  by_cases q : st = 2 ∨ st = 3 ∨ st = 4 ∨ st = 7
  · rw [c_ns q, cond_true, pd_bI_of, decide_eq_false (by decide : ¬ (1 : Int32) = 0), cond_false, M_isNumberByte_s h hb, hs q, cond_false, pd_bI_of, decide_eq_true (rfl : (0 : Int32) = 0), cond_true]
  · have : (Nat.beq st 2 || Nat.beq st 3 || Nat.beq st 4 || Nat.beq st 7) = false := by
      rw [← Bool.not_eq_true]
      intro k
      simp only [Bool.or_eq_true] at k
      rcases k with ((k | k) | k) | k <;> have := Nat.eq_of_beq_eq_true k <;> omega
    rw [this, cond_false, pd_bI_of, decide_eq_true (rfl : (0 : Int32) = 0), cond_true]
theorem c_FL_no {st fg nm b : Nat} {bl : Bool} {σ : pd_H} {u t : List Nat} (e : L = u ++ b :: t) (h : mS L st fg bl nm σ) (hs : (st = 2 ∨ st = 3 ∨ st = 4 ∨ st = 7) → c_nb fg bl nm b = false) (hx : c_nx st fg b = none) : c_FL (nI (L.length - (t.length + 1))) u.length σ := by
  intro d2 d3
  obtain ⟨hb, hu, e1, e2⟩ := h.byte e
  refine ⟨σ, ?_, mF.rf⟩
  have ep : L.length - (t.length + 1) = u.length := by rw [e, List.length_append, List.length_cons]; omega
  rw [c_FL_to e h hs, M_flaw_L45_eq, M_nextBy_s h hb, hx, pd_bI_of, show decide (c_nxi none = -1) = true from rfl, cond_true, ep]
theorem c_FL_go {st fg nm b s' : Nat} {bl : Bool} {σ : pd_H} {u t : List Nat} {v : Int32} (e : L = u ++ b :: t) (h : mS L st fg bl nm σ) (hs : (st = 2 ∨ st = 3 ∨ st = 4 ∨ st = 7) → c_nb fg bl nm b = false) (hx : c_nx st fg b = some s') (h8 : s' < 8) (k : ∀ τ, mS L s' 0 false 0 τ → c_FL v (u ++ [b]).length τ) : c_FL v u.length σ := by
  intro d2 d3
  obtain ⟨hb, hu, e1, e2⟩ := h.byte e
  obtain ⟨τ, g1, g2, g3⟩ := M_goesTo_s h.1 h8
  obtain ⟨υ, k1, k2⟩ := k τ g2 (some (pd_i (nI b))) (some (pd_i (nI s')))
  have hne : ¬ nI s' = (-1 : Int32) := by
    have : ∀ s, s < 8 → ¬ nI s = (-1 : Int32) := by decide
    exact this s' h8
  refine ⟨υ, ?_, g3.tr k2⟩
  rw [c_FL_to e h hs, M_flaw_L45_eq, M_nextBy_s h hb, hx, pd_bI_of]
  show cond (decide (nI s' = (-1 : Int32))) _ _ = _
  rw [decide_eq_false hne, cond_false]
  show pd_bV (M_goesTo (nI s') σ) _ = _
  rw [g1, pd_bV_of, ← nI_succ]
  rw [List.length_append] at k1
  exact k1
theorem c_FL_end {st fg nm : Nat} {bl : Bool} {σ : pd_H} (h : mS L st fg bl nm σ) : c_FL (cond ((Nat.beq st 3 || Nat.beq st 7) && Nat.ble 1 fg) (-1) (nI L.length)) L.length σ := by
  intro d2 d3
  refine ⟨σ, ?_, mF.rf⟩
  obtain ⟨⟨t1, t2, t3, t4⟩, h1, h2, h3, h4, h5, h6, h7⟩ := h
  have e86 : ∀ d1, M_flaw_L86 d1 d2 d3 σ = some (σ, some (pd_i (cond (Nat.ble 1 fg) (-1) (nI L.length)))) := fun d1 => by
    rw [M_flaw_L86_eq, h2, t3]
    by_cases q : 1 ≤ fg
    · rw [show (0 : Int32) = nI 0 from rfl, decide_eq_false (nI_ge (by omega) (by omega)), Nat.ble_eq_true_of_le q]; rfl
    · rw [show fg = 0 by omega]; rfl
  rw [M_flaw_L7_eq, t3, decide_eq_true (nI_le (Nat.le_refl _) (by omega)), cond_true, e86, h1]
  match st, h5 with
  | 0, _ => rfl
  | 1, _ => rfl
  | 2, _ => rfl
  | 3, _ => rfl
  | 4, _ => rfl
  | 5, _ => rfl
  | 6, _ => rfl
  | 7, _ => rfl
def c_fa (L : List Nat) (r : Bool × List cC × List Nat) : Int32 := cond r.1 (-1) (nI (L.length - r.2.2.length))
/-- the answer behind a change -/
def c_fv (L : List Nat) (f : Nat) : Option cC × List Nat → Int32
  | (none, r) => nI (L.length - r.length)
  | (some _, []) => -1
  | (some _, b :: r) => bif Nat.beq b 59 then c_fa L (c_prs f r) else nI (L.length - (b :: r).length)
theorem c_fa_eq {f : Nat} {l : List Nat} : c_fa L (c_prs (f + 1) l) = c_fv L f (c_tcg l) := by
  rw [c_prs_tail]
  rcases c_tcg l with ⟨_ | c, _ | ⟨b, r⟩⟩
  · rfl
  · rfl
  · rfl
  · show c_fa L (bif Nat.beq b 59 then (let q := c_prs f r; (q.1, c :: q.2.1, q.2.2)) else (false, [c], b :: r)) = (bif Nat.beq b 59 then c_fa L (c_prs f r) else nI (L.length - (b :: r).length))
    cases Nat.beq b 59 <;> rfl
theorem c_FL_fail {st fg nm : Nat} {bl : Bool} {σ : pd_H} {u r : List Nat} (e : L = u ++ r) (h : mS L st fg bl nm σ) (hs : (st = 2 ∨ st = 3 ∨ st = 4 ∨ st = 7) → c_stop fg bl nm r) (hx : ∀ b t, r = b :: t → c_nx st fg b = none) (h0 : ((Nat.beq st 3 || Nat.beq st 7) && Nat.ble 1 fg) = false) : c_FL (nI (L.length - r.length)) u.length σ := by
  cases r with
  | nil =>
    have g := c_FL_end h
    rw [h0] at g
    rw [List.append_nil] at e
    subst e
    exact g
  | cons b t => exact c_FL_no e h (fun q => hs q b t rfl) (hx b t rfl)
theorem c_nx3 {st fg b : Nat} (h : st = 3 ∨ st = 7) : c_nx st fg b = bif (Nat.ble 1 fg && Nat.beq b 59) then some 0 else none := by
  rcases h with rfl | rfl <;> rfl
section
variable {f : Nat}
theorem c_fl3 (ih : ∀ (u l : List Nat) (σ : pd_H), l.length < f → L = u ++ l → mS L 0 0 false 0 σ → c_FL (c_fa L (c_prs f l)) u.length σ) {st : Nat} (hst : st = 3 ∨ st = 7) {g : Int32 → cC} {u l : List Nat} {σ : pd_H} (hl : l.length ≤ f) (e : L = u ++ l) (h : mS L st 0 false 0 σ) : c_FL (c_fv L f (match c_nr l with | (none, r) => (none, r) | (some v, r) => (some (g v), r))) u.length σ := by
  refine c_run_nr c_FL_loop (by omega) e h ?_
  intro τ fg bl nm v e2 h2 hf hs ho
  rcases hr : c_nr l with ⟨o, r⟩
  rw [hr] at e2 hs ho
  rcases ho with ⟨o1, o2⟩ | ⟨o1, o2⟩
  · have o1 : o = none := o1
    subst o1; subst o2
    refine c_FL_fail e2 h2 (fun _ => hs) (fun b t _ => ?_) (by rcases hst with rfl | rfl <;> rfl)
    rw [c_nx3 hst]; rfl
  · have o1 : o = some (c_sg bl nm) := o1
    subst o1
    have o2' := Nat.ble_eq_true_of_le o2
    cases r with
    | nil =>
      have g := c_FL_end h2
      have : ((Nat.beq st 3 || Nat.beq st 7) && Nat.ble 1 fg) = true := by rw [o2']; rcases hst with rfl | rfl <;> rfl
      rw [this] at g
      have e2 : L = v ++ [] := e2
      rw [List.append_nil] at e2
      rw [← e2]
      exact g
    | cons b t =>
      show c_FL (bif Nat.beq b 59 then c_fa L (c_prs f t) else nI (L.length - (b :: t).length)) v.length τ
      have e2 : L = v ++ b :: t := e2
      cases hb : Nat.beq b 59 with
      | true => exact c_FL_go e2 h2 (fun _ => hs b t rfl) (by rw [c_nx3 hst, o2', hb]; rfl) (by decide) (fun υ k => ih (v ++ [b]) t υ (by have := (c_nr_sf2 hr).len; rw [List.length_cons] at this; omega) (by rw [e2, List.append_assoc]; rfl) k)
      | false => exact c_FL_no e2 h2 (fun _ => hs b t rfl) (by rw [c_nx3 hst, o2', hb]; rfl)
theorem c_fl2 (ih : ∀ (u l : List Nat) (σ : pd_H), l.length < f → L = u ++ l → mS L 0 0 false 0 σ → c_FL (c_fa L (c_prs f l)) u.length σ) {g : Int32 → Int32 → cC} {u l : List Nat} {σ : pd_H} (hl : l.length ≤ f) (e : L = u ++ l) (h : mS L 2 0 false 0 σ) : c_FL (c_fv L f (match c_nr l with
    | (none, l2) => (none, l2)
    | (some i, l2) => match c_pb 61 61 l2 with
      | none => (none, l2)
      | some (_, l3) => match c_nr l3 with
        | (none, l4) => (none, l4)
        | (some v, l4) => (some (g i v), l4))) u.length σ := by
  refine c_run_nr c_FL_loop (by omega) e h ?_
  intro τ fg bl nm v e2 h2 hf hs ho
  rcases hr : c_nr l with ⟨o, r⟩
  rw [hr] at e2 hs ho
  rcases ho with ⟨o1, o2⟩ | ⟨o1, o2⟩
  · have o1 : o = none := o1
    subst o1; subst o2
    exact c_FL_fail e2 h2 (fun _ => hs) (fun b t _ => rfl) rfl
  · have o1 : o = some (c_sg bl nm) := o1
    subst o1
    have o2' := Nat.ble_eq_true_of_le o2
    show c_FL (c_fv L f (match c_pb 61 61 r with
      | none => (none, r)
      | some (_, l3) => match c_nr l3 with
        | (none, l4) => (none, l4)
        | (some v, l4) => (some (g (c_sg bl nm) v), l4))) v.length τ
    cases hp : c_pb 61 61 r with
    | none => exact c_FL_fail e2 h2 (fun _ => hs) (fun b t q => by
        subst q
        have hb : Nat.beq b 61 = false := by rw [← Bool.not_eq_true]; exact fun k => c_pb_none hp (by have := Nat.eq_of_beq_eq_true k; omega)
        show (bif (Nat.ble 1 fg && Nat.beq b 61) then some 3 else none) = none
        rw [hb, Bool.and_false]; rfl) rfl
    | some x =>
      obtain ⟨b, t⟩ := x
      obtain ⟨p1, p2, p3⟩ := c_pb_some hp
      have eb : b = 61 := by omega
      subst eb
      have e2 : L = v ++ r := e2
      rw [p1] at e2
      exact c_FL_go e2 h2 (fun _ => hs 61 t p1) (show (bif (Nat.ble 1 fg && Nat.beq 61 61) then some 3 else none) = some 3 by rw [o2']; rfl) (by decide) (fun υ k => c_fl3 ih (Or.inl rfl) (g := g (c_sg bl nm)) (u := v ++ [61]) (by have := (c_nr_sf2 hr).len; rw [p1, List.length_cons] at this; omega) (by rw [e2, List.append_assoc]; rfl) k)
theorem c_fl6 (ih : ∀ (u l : List Nat) (σ : pd_H), l.length < f → L = u ++ l → mS L 0 0 false 0 σ → c_FL (c_fa L (c_prs f l)) u.length σ) {g : Int32 → cC} {u l : List Nat} {σ : pd_H} (hl : l.length ≤ f) (e : L = u ++ l) (h : mS L 6 0 false 0 σ) : c_FL (c_fv L f (match c_pb 46 46 l with
    | none => (none, l)
    | some (_, l4) => match c_nr l4 with
      | (none, l5) => (none, l5)
      | (some j, l5) => (some (g j), l5))) u.length σ := by
  cases hp : c_pb 46 46 l with
  | none => exact c_FL_fail e h (by omega) (fun b t q => by
      subst q
      have hb : Nat.beq b 46 = false := by rw [← Bool.not_eq_true]; exact fun k => c_pb_none hp (by have := Nat.eq_of_beq_eq_true k; omega)
      show (bif Nat.beq b 46 then some 7 else none) = none
      rw [hb]; rfl) rfl
  | some x =>
    obtain ⟨b, t⟩ := x
    obtain ⟨p1, p2, p3⟩ := c_pb_some hp
    have eb : b = 46 := by omega
    subst eb
    rw [p1] at e
    exact c_FL_go e h (by omega) rfl (by decide) (fun υ k => c_fl3 ih (Or.inr rfl) (g := g) (u := u ++ [46]) (by rw [p1, List.length_cons] at hl; omega) (by rw [e, List.append_assoc]; rfl) k)
theorem c_ble2 {lo hi b : Nat} {t : List Nat} (h : c_pb lo hi (b :: t) = none) : (Nat.ble lo b && Nat.ble b hi) = false := by
  rw [← Bool.not_eq_true, Bool.and_eq_true]
  exact fun q => c_pb_none h ⟨Nat.le_of_ble_eq_true q.1, Nat.le_of_ble_eq_true q.2⟩
theorem c_fl5 (ih : ∀ (u l : List Nat) (σ : pd_H), l.length < f → L = u ++ l → mS L 0 0 false 0 σ → c_FL (c_fa L (c_prs f l)) u.length σ) {g : Nat → Int32 → cC} {u l : List Nat} {σ : pd_H} (hl : l.length ≤ f) (e : L = u ++ l) (h : mS L 5 0 false 0 σ) : c_FL (c_fv L f (match c_pb 48 53 l with
    | none => (none, l)
    | some (k, l3) => match c_pb 46 46 l3 with
      | none => (none, l3)
      | some (_, l4) => match c_nr l4 with
        | (none, l5) => (none, l5)
        | (some j, l5) => (some (g k j), l5))) u.length σ := by
  cases hp : c_pb 48 53 l with
  | none => exact c_FL_fail e h (by omega) (fun b t q => by
      subst q
      show (bif (Nat.ble 48 b && Nat.ble b 53) then some 6 else none) = none
      rw [c_ble2 hp]; rfl) rfl
  | some x =>
    obtain ⟨b, t⟩ := x
    obtain ⟨p1, p2, p3⟩ := c_pb_some hp
    rw [p1] at e
    exact c_FL_go e h (by omega) (show (bif (Nat.ble 48 b && Nat.ble b 53) then some 6 else none) = some 6 by rw [Nat.ble_eq_true_of_le p2, Nat.ble_eq_true_of_le p3]; rfl) (by decide) (fun υ k => c_fl6 ih (g := g b) (u := u ++ [b]) (by rw [p1, List.length_cons] at hl; omega) (by rw [e, List.append_assoc]; rfl) k)
theorem c_fl4 (ih : ∀ (u l : List Nat) (σ : pd_H), l.length < f → L = u ++ l → mS L 0 0 false 0 σ → c_FL (c_fa L (c_prs f l)) u.length σ) {s : Nat} {u l : List Nat} {σ : pd_H} (hl : l.length ≤ f) (e : L = u ++ l) (h : mS L 4 0 false 0 σ) : c_FL (c_fv L f (c_tcp s l)) u.length σ := by
  refine c_run_nr c_FL_loop (by omega) e h ?_
  intro τ fg bl nm v e2 h2 hf hs ho
  unfold c_tcp
  rcases hr : c_nr l with ⟨o, r⟩
  rw [hr] at e2 hs ho
  rcases ho with ⟨o1, o2⟩ | ⟨o1, o2⟩
  · have o1 : o = none := o1
    subst o1; subst o2
    exact c_FL_fail e2 h2 (fun _ => hs) (fun b t _ => rfl) rfl
  · have o1 : o = some (c_sg bl nm) := o1
    subst o1
    have o2' := Nat.ble_eq_true_of_le o2
    show c_FL (c_fv L f (match c_pb 97 105 r with
      | none => (none, r)
      | some (w, l2) => match c_pb 48 53 l2 with
        | none => (none, l2)
        | some (g, l3) => match c_pb 46 46 l3 with
          | none => (none, l3)
          | some (_, l4) => match c_nr l4 with
            | (none, l5) => (none, l5)
            | (some j, l5) => (some (nI (s - 48), c_sg bl nm, nI (w - 97), nI (g - 48), j, 0), l5))) v.length τ
    cases hp : c_pb 97 105 r with
    | none => exact c_FL_fail e2 h2 (fun _ => hs) (fun b t q => by
        subst q
        show (bif (Nat.ble 1 fg && (Nat.ble 97 b && Nat.ble b 105)) then some 5 else none) = none
        rw [c_ble2 hp, Bool.and_false]; rfl) rfl
    | some x =>
      obtain ⟨b, t⟩ := x
      obtain ⟨p1, p2, p3⟩ := c_pb_some hp
      have e2 : L = v ++ r := e2
      rw [p1] at e2
      exact c_FL_go e2 h2 (fun _ => hs b t p1) (show (bif (Nat.ble 1 fg && (Nat.ble 97 b && Nat.ble b 105)) then some 5 else none) = some 5 by rw [o2', Nat.ble_eq_true_of_le p2, Nat.ble_eq_true_of_le p3]; rfl) (by decide) (fun υ k => c_fl5 ih (g := fun g j => (nI (s - 48), c_sg bl nm, nI (b - 97), nI (g - 48), j, 0)) (u := v ++ [b]) (by have := (c_nr_sf2 hr).len; rw [p1, List.length_cons] at this; omega) (by rw [e2, List.append_assoc]; rfl) k)
theorem c_fl1 (ih : ∀ (u l : List Nat) (σ : pd_H), l.length < f → L = u ++ l → mS L 0 0 false 0 σ → c_FL (c_fa L (c_prs f l)) u.length σ) {s : Nat} {u l : List Nat} {σ : pd_H} (hl : l.length ≤ f) (e : L = u ++ l) (h : mS L 1 0 false 0 σ) : c_FL (c_fv L f (match c_pb 46 46 l with
    | none => c_tw s l
    | some (_, l2) => c_tcp s l2)) u.length σ := by
  cases hp : c_pb 46 46 l with
  | some x =>
    obtain ⟨b, t⟩ := x
    obtain ⟨p1, p2, p3⟩ := c_pb_some hp
    have eb : b = 46 := by omega
    subst eb
    rw [p1] at e
    exact c_FL_go e h (by omega) rfl (by decide) (fun υ k => c_fl4 ih (s := s) (u := u ++ [46]) (by rw [p1, List.length_cons] at hl; omega) (by rw [e, List.append_assoc]; rfl) k)
  | none =>
    have h46 : ∀ b t, l = b :: t → Nat.beq b 46 = false := fun b t q => by
      subst q
      rw [← Bool.not_eq_true]; exact fun k => c_pb_none hp (by have := Nat.eq_of_beq_eq_true k; omega)
    show c_FL (c_fv L f (c_tw s l)) u.length σ
    unfold c_tw
    cases hp2 : c_pb 97 118 l with
    | none => exact c_FL_fail e h (by omega) (fun b t q => by
        show (bif Nat.beq b 46 then some 4 else bif (Nat.ble 97 b && Nat.ble b 118) then some 2 else none) = none
        rw [h46 b t q]
        subst q
        rw [c_ble2 hp2]; rfl) rfl
    | some x =>
      obtain ⟨b, t⟩ := x
      obtain ⟨p1, p2, p3⟩ := c_pb_some hp2
      have e1 := e
      rw [p1] at e1
      exact c_FL_go e1 h (by omega) (show (bif Nat.beq b 46 then some 4 else bif (Nat.ble 97 b && Nat.ble b 118) then some 2 else none) = some 2 by rw [h46 b t p1, Nat.ble_eq_true_of_le p2, Nat.ble_eq_true_of_le p3]; rfl) (by decide) (fun υ k => c_fl2 ih (g := fun i v => (-1, 0, nI (b - 97), nI (s - 48), i, v)) (u := u ++ [b]) (by rw [p1, List.length_cons] at hl; omega) (by rw [e1, List.append_assoc]; rfl) k)
end
theorem c_fl0 : ∀ (f : Nat) (u l : List Nat) (σ : pd_H), l.length < f → L = u ++ l → mS L 0 0 false 0 σ → c_FL (c_fa L (c_prs f l)) u.length σ := by
  intro f
  induction f with
  | zero => intro u l σ h; exact absurd h (Nat.not_lt_zero _)
  | succ f ih =>
    intro u l σ hf e h
    rw [c_fa_eq]
    unfold c_tcg
    cases hp : c_pb 48 53 l with
    | none => exact c_FL_fail e h (by omega) (fun b t q => by
        subst q
        show (bif (Nat.ble 48 b && Nat.ble b 53) then some 1 else none) = none
        rw [c_ble2 hp]; rfl) rfl
    | some x =>
      obtain ⟨b, t⟩ := x
      obtain ⟨p1, p2, p3⟩ := c_pb_some hp
      rw [p1] at e hf
      exact c_FL_go e h (by omega) (show (bif (Nat.ble 48 b && Nat.ble b 53) then some 1 else none) = some 1 by rw [Nat.ble_eq_true_of_le p2, Nat.ble_eq_true_of_le p3]; rfl) (by decide) (fun υ k => c_fl1 ih (s := b) (u := u ++ [b]) (by rw [List.length_cons] at hf; omega) (by rw [e, List.append_assoc]; rfl) k)
variable {σ : pd_H} {S : cS}
theorem m_mT (hw : s_wf S) (h : RM σ S) : mT σ (s_tp S) := ⟨hw.2.2.2.2.1, hw.2.2.2.2.2, h.2.2.2.2.1.1, h.2.2.2.2.1.2⟩
theorem RM.mF {τ : pd_H} (h : RM σ S) (f : mF σ τ) : RM τ S := h.rest f.1 (fun j hj => f.2 j (by omega))
theorem M_flaw_s (hw : s_wf S) (h : RM σ S) : ∃ τ, M_flaw σ = some (τ, some (pd_i (s_fw S))) ∧ mF σ τ := by
  obtain ⟨τ, g1, g2, g3⟩ := M_goesTo_s (m_mT hw h) (show 0 < 8 by decide)
  obtain ⟨υ, k1, k2⟩ := c_fl0 81 [] (s_tp S) τ (by have := hw.2.2.2.2.1; omega) rfl g2 none none
  refine ⟨υ, ?_, g3.tr k2⟩
  rw [M_flaw_eq, show (0 : Int32) = nI 0 from rfl, g1, pd_bV_of]
  exact k1
theorem J_flaw (h : JR σ S) : JI X_flaw M_flaw σ := by
  obtain ⟨τ, y, g1, g2, -⟩ := Tape_findFlaw_s h.1 h.2.1
  refine JI.of (v := s_fw S) h h.1 ?_ (RX_tS h.1 h.2.1 g2) (XF.of g2.2.2.2 (fun k hk => by omega)) (fun g => ?_)
  · rw [X_flaw_eq, g1, pd_bI_of]
  · obtain ⟨υ, k1, k2⟩ := M_flaw_s h.1 g
    exact ⟨υ, k1, g.mF k2, MF.of k2.1 (fun k hk => by omega)⟩
end FLAW
