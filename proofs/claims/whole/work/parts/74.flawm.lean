/-! The model's way over the tape. -/
section TAPEM
variable {L : List Nat}
def mT (σ : pd_H) (L : List Nat) : Prop := L.length ≤ 80 ∧ (∀ b ∈ L, b < 256) ∧ σ.1 230 39 = nI L.length ∧ ∀ (i b : Nat), L[i]? = some b → σ.1 259 i = nI b
/-- the model stands in a state, behind so much of a number -/
def mS (L : List Nat) (st fg : Nat) (bl : Bool) (nm : Nat) (σ : pd_H) : Prop := mT σ L ∧ σ.1 230 40 = nI st ∧ σ.1 230 41 = nI fg ∧ σ.1 230 42 = cond bl 1 0 ∧ σ.2.1 230 43 = jN nm ∧ st < 8 ∧ fg ≤ 80 ∧ nm ≤ 2147483648
/-- its own places -/
def mF (σ τ : pd_H) : Prop := pu_fr (fun k => k = 230) σ τ ∧ ∀ j, j < 40 ∨ 43 < j → τ.1 230 j = σ.1 230 j
theorem mF.rf {σ : pd_H} : mF σ σ := ⟨pu_fr.rf, fun _ _ => rfl⟩
theorem mF.tr {σ τ υ : pd_H} (h : mF σ τ) (g : mF τ υ) : mF σ υ := ⟨h.1.tr g.1, fun j hj => (g.2 j hj).trans (h.2 j hj)⟩
theorem mT.fr {σ τ : pd_H} (h : mT σ L) (g : mF σ τ) : mT τ L := ⟨h.1, h.2.1, by rw [g.2 39 (by decide)]; exact h.2.2.1, by rw [g.1.1 259 (by decide)]; exact h.2.2.2⟩
theorem mF.up {σ : pd_H} {j : Nat} {v : Int32} (h : 40 ≤ j ∧ j ≤ 43) : mF σ (pd_upI σ 230 j v) := ⟨pu_fr.upI rfl, fun i hi => by rw [pu_u1s, pk_un (by omega)]⟩
theorem mF.upJ {σ : pd_H} {j : Nat} {v : Int64} : mF σ (pd_upJ σ 230 j v) := ⟨pu_fr.upJ rfl, fun i hi => rfl⟩
theorem M_goesTo_s {σ : pd_H} (h : mT σ L) {st : Nat} (hs : st < 8) : ∃ τ, M_goesTo (nI st) σ = some (τ, none) ∧ mS L st 0 false 0 τ ∧ mF σ τ := by
  rw [M_goesTo_eq]
  have f : mF σ (pd_upJ (pd_upI (pd_upI (pd_upI σ 230 40 (nI st)) 230 41 0) 230 42 0) 230 43 0) := (((mF.up (by decide)).tr (mF.up (by decide))).tr (mF.up (by decide))).tr mF.upJ
  refine ⟨_, rfl, ⟨h.fr f, ?_, ?_, ?_, ?_, hs, by decide, by decide⟩, f⟩
  · rw [pu_j1, pu_u1s, pk_un (by decide), pu_u1s, pk_un (by decide), pu_u1s, pk_us]
  · rw [pu_j1, pu_u1s, pk_un (by decide), pu_u1s, pk_us]; rfl
  · rw [pu_j1, pu_u1s, pk_us]; rfl
  · rw [pu_j2s]; exact if_pos rfl
theorem c_in_byte {b lo hi : Nat} (hb : b < 256) (hl : lo < 256) (hh : hi < 256) (σ : pd_H) : M_in (nI b) (nI lo) (nI hi) σ = some (σ, some (pd_i (cond (Nat.ble lo b && Nat.ble b hi) 1 0))) := by
  rw [M_in_s]
  unfold c_in
  by_cases q1 : lo ≤ b
  · rw [decide_eq_false (nI_nlt q1 (by omega)), cond_false, Nat.ble_eq_true_of_le q1]
    by_cases q2 : b ≤ hi
    · rw [decide_eq_false (nI_nlt q2 (by omega)), Nat.ble_eq_true_of_le q2]; rfl
    · have : Nat.ble b hi = false := by rw [← Bool.not_eq_true]; exact fun q => q2 (Nat.le_of_ble_eq_true q)
      rw [decide_eq_true (nI_lt (by omega) (by omega)), this]; rfl
  · have : Nat.ble lo b = false := by rw [← Bool.not_eq_true]; exact fun q => q1 (Nat.le_of_ble_eq_true q)
    rw [decide_eq_true (nI_lt (by omega) (by omega)), this]; rfl
theorem nI_beq {a b : Nat} (ha : a < 2 ^ 31) (hb : b < 2 ^ 31) : decide (nI a = nI b) = Nat.beq a b := by
  by_cases h : a = b
  · subst h; rw [decide_eq_true rfl, Nat.beq_refl]
  · rw [decide_eq_false (fun q => h ((nI_eq ha hb).mp q))]
    have : Nat.beq a b = false := by rw [← Bool.not_eq_true]; exact fun q => h (Nat.eq_of_beq_eq_true q)
    rw [this]
theorem M_isNumberByte_s {σ : pd_H} {st fg nm b : Nat} {bl : Bool} (h : mS L st fg bl nm σ) (hb : b < 256) : M_isNumberByte (nI b) σ = some (σ, some (pd_i (cond (c_nb fg bl nm b) 1 0))) := by
  obtain ⟨-, -, h2, h3, h4, -, h6, h7⟩ := h
  have ebl : decide ((cond bl (1 : Int32) 0) = 0) = !bl := by cases bl <;> rfl
  have z0 : decide (nI fg = 0) = Nat.beq fg 0 := nI_beq (b := 0) (by omega) (by decide)
  have z1 : decide (nI fg = 1) = Nat.beq fg 1 := nI_beq (b := 1) (by omega) (by decide)
  rw [M_isNumberByte_eq, h2, h3, show (45 : Int32) = nI 45 from rfl, nI_beq (by omega) (by decide), show (48 : Int32) = nI 48 from rfl, show (57 : Int32) = nI 57 from rfl, c_in_byte hb (by decide) (by decide), pd_bI_of, ebl, h2, z0, z1]
  unfold c_nb
  cases Nat.beq b 45 with
  | true => cases Nat.beq fg 0 <;> cases bl <;> rfl
  | false =>
    cases hd : (Nat.ble 48 b && Nat.ble b 57) with
    | false => rfl
    | true =>
      have hd2 : 48 ≤ b := by
        rw [Bool.and_eq_true] at hd
        exact Nat.le_of_ble_eq_true hd.1
      have e76 : M_isNumberByte_L76 (nI b) σ = some (σ, some (pd_i (cond (Nat.ble (10 * nm + (b - 48)) (c_most bl)) 1 0))) := by
        rw [M_isNumberByte_L76_eq, h3, ebl, h4, jN_digit hd2 hb, j_cmp_gt, j_cmp_gt, jN_toInt (by omega)]
        have key : ∀ m : Nat, cond (decide (((m : Nat) : Int) < ((10 * nm + (b - 48) : Nat) : Int))) (some (σ, some (pd_i 0))) (some (σ, some (pd_i 1))) = some (σ, some (pd_i (cond (Nat.ble (10 * nm + (b - 48)) m) 1 0))) := fun m => by
          by_cases q : 10 * nm + (b - 48) ≤ m
          · rw [decide_eq_false (by omega), Nat.ble_eq_true_of_le q]; rfl
          · have : Nat.ble (10 * nm + (b - 48)) m = false := by rw [← Bool.not_eq_true]; exact fun q2 => q (Nat.le_of_ble_eq_true q2)
            rw [decide_eq_true (by omega), this]; rfl
        cases bl with
        | true => exact key 2147483648
        | false => exact key 2147483647
      have e54 : M_isNumberByte_L54 (nI b) σ = some (σ, some (pd_i (cond (!(Nat.beq fg 0 && bl && Nat.beq b 48) && Nat.ble (10 * nm + (b - 48)) (c_most bl)) 1 0))) := by
        rw [M_isNumberByte_L54_eq, h2, h3, ebl, e76, z0, show (48 : Int32) = nI 48 from rfl, nI_beq (by omega) (by decide)]
        cases Nat.beq fg 0 <;> cases bl <;> cases Nat.beq b 48 <;> rfl
      rw [cond_true, decide_eq_false (show ¬ (1 : Int32) = 0 by decide), cond_false, e54, pu_cmp0, h4]
      have ez : decide (jN nm = 0) = Nat.beq nm 0 := by
        by_cases q : nm = 0
        · subst q; rfl
        · rw [decide_eq_false (jN_ne (by omega) q)]
          have : Nat.beq nm 0 = false := by rw [← Bool.not_eq_true]; exact fun q2 => q (Nat.eq_of_beq_eq_true q2)
          rw [this]
      rw [ez]
      cases Nat.beq fg 1 <;> cases Nat.beq nm 0 <;> rfl
theorem M_isNumberState_s {σ : pd_H} {st fg nm : Nat} {bl : Bool} (h : mS L st fg bl nm σ) : M_isNumberState σ = some (σ, some (pd_i (cond (Nat.beq st 2 || Nat.beq st 3 || Nat.beq st 4 || Nat.beq st 7) 1 0))) := by
  obtain ⟨-, h1, -, -, -, h5, -, -⟩ := h
  rw [M_isNumberState_eq, h1]
  match st, h5 with
  | 0, _ => rfl
  | 1, _ => rfl
  | 2, _ => rfl
  | 3, _ => rfl
  | 4, _ => rfl
  | 5, _ => rfl
  | 6, _ => rfl
  | 7, _ => rfl
theorem M_nextBy_L12_s {σ : pd_H} {st b : Nat} (h1 : σ.1 230 40 = nI st) (h5 : st < 8) (hb : b < 256) (w : Bool) : M_nextBy_L12 (nI b) none (cond w 1 0) σ = some (σ, some (pd_i (c_nxi (c_nxw w st b)))) := by
  rw [M_nextBy_L12_eq, show (48 : Int32) = nI 48 from rfl, show (53 : Int32) = nI 53 from rfl, show (97 : Int32) = nI 97 from rfl, show (118 : Int32) = nI 118 from rfl, show (105 : Int32) = nI 105 from rfl, c_in_byte hb (by decide) (by decide), c_in_byte hb (by decide) (by decide), c_in_byte hb (by decide) (by decide), pd_bI_of, pd_bI_of, pd_bI_of, show (46 : Int32) = nI 46 from rfl, show (61 : Int32) = nI 61 from rfl, show (59 : Int32) = nI 59 from rfl, nI_beq (a := b) (by omega) (by decide), nI_beq (a := b) (by omega) (by decide), nI_beq (a := b) (by omega) (by decide), h1]
  match st, h5 with
  | 0, _ => unfold c_nxw; cases (Nat.ble 48 b && Nat.ble b 53) <;> rfl
  | 1, _ => unfold c_nxw; cases Nat.beq b 46 <;> cases (Nat.ble 97 b && Nat.ble b 118) <;> rfl
  | 2, _ => unfold c_nxw; cases w <;> cases Nat.beq b 61 <;> rfl
  | 3, _ => unfold c_nxw; cases w <;> cases Nat.beq b 59 <;> rfl
  | 4, _ => unfold c_nxw; cases w <;> cases (Nat.ble 97 b && Nat.ble b 105) <;> rfl
  | 5, _ => unfold c_nxw; cases (Nat.ble 48 b && Nat.ble b 53) <;> rfl
  | 6, _ => unfold c_nxw; cases Nat.beq b 46 <;> rfl
  | 7, _ => unfold c_nxw; cases w <;> cases Nat.beq b 59 <;> rfl
theorem M_nextBy_s {σ : pd_H} {st fg nm b : Nat} {bl : Bool} (h : mS L st fg bl nm σ) (hb : b < 256) : M_nextBy (nI b) σ = some (σ, some (pd_i (c_nxi (c_nx st fg b)))) := by
  obtain ⟨-, h1, h2, -, -, h5, h6, -⟩ := h
  have e1 : decide (nI fg ≤ 0) = !Nat.ble 1 fg := by
    by_cases q : 1 ≤ fg
    · rw [Nat.ble_eq_true_of_le q, show (0 : Int32) = nI 0 from rfl, decide_eq_false (nI_ge (by omega) (by omega))]; rfl
    · rw [show fg = 0 by omega]; rfl
  have key := M_nextBy_L12_s h1 h5 hb (Nat.ble 1 fg)
  rw [M_nextBy_eq, h2, e1]
  unfold c_nx
  cases hw : Nat.ble 1 fg with
  | true => rw [hw] at key; exact key
  | false => rw [hw] at key; exact key
theorem M_numbers_s {σ : pd_H} {st fg nm b : Nat} {bl : Bool} (h : mS L st fg bl nm σ) (hb : b < 256) (hf : fg < 80) (hn : c_nb fg bl nm b = true) : ∃ τ, M_numbers (nI b) σ = some (τ, none) ∧ mF σ τ ∧ ((b = 45 ∧ mS L st fg true nm τ) ∨ (b ≠ 45 ∧ 48 ≤ b ∧ b ≤ 57 ∧ 10 * nm + (b - 48) ≤ c_most bl ∧ mS L st (fg + 1) bl (10 * nm + (b - 48)) τ)) := by
  obtain ⟨h0, h1, h2, h3, h4, h5, h6, h7⟩ := h
  rw [M_numbers_eq, show (45 : Int32) = nI 45 from rfl, nI_beq (by omega) (by decide)]
  unfold c_nb at hn
  cases q : Nat.beq b 45 with
  | true =>
    have f : mF σ (pd_upI σ 230 42 1) := mF.up (by decide)
    refine ⟨_, rfl, f, Or.inl ⟨Nat.eq_of_beq_eq_true q, h0.fr f, ?_, ?_, ?_, h4, h5, h6, h7⟩⟩
    · rw [pu_u1s, pk_un (by decide)]; exact h1
    · rw [pu_u1s, pk_un (by decide)]; exact h2
    · rw [pu_u1s, pk_us]; rfl
  | false =>
    rw [q] at hn
    simp only [cond_false, Bool.and_eq_true] at hn
    obtain ⟨⟨⟨⟨g1, g2⟩, -⟩, -⟩, g3⟩ := hn
    have g1 := Nat.le_of_ble_eq_true g1
    have g2 := Nat.le_of_ble_eq_true g2
    have g3 := Nat.le_of_ble_eq_true g3
    have g4 : c_most bl ≤ 2147483648 := by cases bl <;> decide
    have hne : b ≠ 45 := fun e => by subst e; omega
    rw [cond_false, h4, jN_digit g1 hb]
    generalize hτ : pd_upJ σ 230 43 (jN (10 * nm + (b - 48))) = τ
    have f1 : mF σ τ := by rw [← hτ]; exact mF.upJ
    have f : mF σ (pd_upI τ 230 41 (τ.1 230 41 + 1)) := f1.tr (mF.up (by decide))
    have t1 : τ.1 = σ.1 := by rw [← hτ]; rfl
    refine ⟨_, rfl, f, Or.inr ⟨hne, g1, g2, g3, h0.fr f, ?_, ?_, ?_, ?_, h5, by omega, by omega⟩⟩
    · rw [pu_u1s, pk_un (by decide), t1]; exact h1
    · rw [pu_u1s, pk_us, t1, h2, nI_succ]
    · rw [pu_u1s, pk_un (by decide), t1]; exact h3
    · rw [pu_u2, ← hτ, pu_j2s]; exact if_pos rfl
/-- a loop that goes on behind the bytes of numbers -/
def c_loop (L : List Nat) (F : Nat → pd_H → Prop) : Prop := ∀ (u t : List Nat) (b st fg nm : Nat) (bl : Bool) (σ : pd_H), L = u ++ b :: t → (st = 2 ∨ st = 3 ∨ st = 4 ∨ st = 7) → mS L st fg bl nm σ → c_nb fg bl nm b = true → (∀ τ, M_numbers (nI b) σ = some (τ, none) → F (u.length + 1) τ) → F u.length σ
def c_stop (fg : Nat) (bl : Bool) (nm : Nat) (r : List Nat) : Prop := ∀ b t, r = b :: t → c_nb fg bl nm b = false
theorem c_byte_at {u t : List Nat} {b : Nat} (e : L = u ++ b :: t) (hT : L.length ≤ 80 ∧ ∀ b ∈ L, b < 256) : b < 256 ∧ u.length < 80 := by
  refine ⟨hT.2 b (by rw [e]; exact List.mem_append_right _ List.mem_cons_self), ?_⟩
  have := hT.1
  rw [e, List.length_append, List.length_cons] at this; omega
theorem c_run_dig {F : Nat → pd_H → Prop} (hF : c_loop L F) {st : Nat} (hst : st = 2 ∨ st = 3 ∨ st = 4 ∨ st = 7) {bl : Bool} : ∀ (l u : List Nat) (fg nm : Nat) (σ : pd_H), L = u ++ l → 1 ≤ fg → fg ≤ u.length → 1 ≤ nm → mS L st fg bl nm σ → (∀ τ fg' v, L = v ++ (c_dig (c_most bl) l nm).2 → 1 ≤ fg' → mS L st fg' bl (c_dig (c_most bl) l nm).1 τ → mF σ τ → c_stop fg' bl (c_dig (c_most bl) l nm).1 (c_dig (c_most bl) l nm).2 → F v.length τ) → F u.length σ := by
  intro l
  induction l with
  | nil => intro u fg nm σ e h1 h2 h3 h4 h5; exact h5 σ fg u e h1 h4 mF.rf (fun b t q => by cases q)
  | cons b t ih =>
    intro u fg nm σ e h1 h2 h3 h4 h5
    obtain ⟨hb, hu⟩ := c_byte_at e ⟨h4.1.1, h4.1.2.1⟩
    have z1 : Nat.beq fg 0 = false := by rw [← Bool.not_eq_true]; exact fun q => by have := Nat.eq_of_beq_eq_true q; omega
    have z2 : Nat.beq nm 0 = false := by rw [← Bool.not_eq_true]; exact fun q => by have := Nat.eq_of_beq_eq_true q; omega
    by_cases q : 48 ≤ b ∧ b ≤ 57 ∧ 10 * nm + (b - 48) ≤ c_most bl
    · have hne : Nat.beq b 45 = false := by rw [← Bool.not_eq_true]; exact fun q2 => by have := Nat.eq_of_beq_eq_true q2; omega
      have hn : c_nb fg bl nm b = true := by
        unfold c_nb
        rw [hne, z1, z2, Nat.ble_eq_true_of_le q.1, Nat.ble_eq_true_of_le q.2.1, Nat.ble_eq_true_of_le q.2.2]
        cases Nat.beq fg 1 <;> rfl
      rw [c_dig_ok q.1 q.2.1 q.2.2] at h5
      refine hF u t b st fg nm bl σ e hst h4 hn (fun τ hτ => ?_)
      obtain ⟨τ', g1, g2, g3⟩ := M_numbers_s h4 hb (by omega) hn
      rw [g1] at hτ; cases hτ
      rcases g3 with ⟨g3, -⟩ | ⟨-, -, -, -, g3⟩
      · omega
      · have := ih (u ++ [b]) (fg + 1) (10 * nm + (b - 48)) τ (by rw [e, List.append_assoc]; rfl) (by omega) (by rw [List.length_append]; exact Nat.succ_le_succ h2) (by omega) g3 (fun τ2 fg' v k1 k2 k3 k4 k5 => h5 τ2 fg' v k1 k2 k3 (g2.tr k4) k5)
        rw [List.length_append] at this
        exact this
    · rw [c_dig_no q] at h5
      refine h5 σ fg u e h1 h4 mF.rf (fun b' t' k => ?_)
      cases k
      unfold c_nb
      cases hq : Nat.beq b 45 with
      | true => rw [z1]; rfl
      | false =>
        rw [cond_false, z1, z2]
        rw [← Bool.not_eq_true]
        intro k
        simp only [Bool.and_eq_true] at k
        exact q ⟨Nat.le_of_ble_eq_true k.1.1.1.1, Nat.le_of_ble_eq_true k.1.1.1.2, Nat.le_of_ble_eq_true k.2⟩
/-- what holds behind a number -/
def c_num_to (L : List Nat) (F : Nat → pd_H → Prop) (st : Nat) (o : Option Int32) (r : List Nat) (σ : pd_H) : Prop := ∀ τ fg bl nm v, L = v ++ r → mS L st fg bl nm τ → mF σ τ → c_stop fg bl nm r → ((o = none ∧ fg = 0) ∨ (o = some (c_sg bl nm) ∧ 1 ≤ fg)) → F v.length τ
theorem c_run_nr1 {F : Nat → pd_H → Prop} (hF : c_loop L F) {st : Nat} (hst : st = 2 ∨ st = 3 ∨ st = 4 ∨ st = 7) {bl : Bool} {l u : List Nat} {σ : pd_H} (e : L = u ++ l) (h : mS L st 0 bl 0 σ) (h45 : bl = false → ∀ b t, l = b :: t → b ≠ 45 ∧ b ≠ 48) (h5 : c_num_to L F st (c_nr1 bl l).1 (c_nr1 bl l).2 σ) : F u.length σ := by
  unfold c_nr1 at h5
  cases hp : c_pb 49 57 l with
  | none =>
    rw [hp] at h5
    refine h5 σ 0 bl 0 u e h mF.rf (fun b t q => ?_) (Or.inl ⟨rfl, rfl⟩)
    subst q
    have g := c_pb_none hp
    unfold c_nb
    cases hq : Nat.beq b 45 with
    | true =>
      cases bl with
      | true => rfl
      | false => exact absurd (Nat.eq_of_beq_eq_true hq) (h45 rfl b t rfl).1
    | false =>
      rw [cond_false, ← Bool.not_eq_true]
      intro k
      simp only [Bool.and_eq_true] at k
      have k1 := Nat.le_of_ble_eq_true k.1.1.1.1
      have k2 := Nat.le_of_ble_eq_true k.1.1.1.2
      have k3 : b = 48 := by omega
      cases bl with
      | true =>
        have := k.1.2
        rw [k3] at this
        cases this
      | false => exact (h45 rfl b t rfl).2 k3
  | some x =>
    obtain ⟨b, t⟩ := x
    rw [hp] at h5
    obtain ⟨p1, p2, p3⟩ := c_pb_some hp
    rw [p1] at e
    obtain ⟨hb, hu⟩ := c_byte_at e ⟨h.1.1, h.1.2.1⟩
    have hne : Nat.beq b 45 = false := by rw [← Bool.not_eq_true]; exact fun q2 => by have := Nat.eq_of_beq_eq_true q2; omega
    have h48 : Nat.beq b 48 = false := by rw [← Bool.not_eq_true]; exact fun q2 => by have := Nat.eq_of_beq_eq_true q2; omega
    have hm : 10 * 0 + (b - 48) ≤ c_most bl := by cases bl <;> (show _ ≤ (_ : Nat)) <;> (unfold c_most) <;> simp only [cond_true, cond_false] <;> omega
    have hn : c_nb 0 bl 0 b = true := by
      unfold c_nb
      rw [hne, h48, Nat.ble_eq_true_of_le (show 48 ≤ b by omega), Nat.ble_eq_true_of_le p3, Nat.ble_eq_true_of_le hm]
      cases bl <;> rfl
    refine hF u t b st 0 0 bl σ e hst h hn (fun τ hτ => ?_)
    obtain ⟨τ', g1, g2, g3⟩ := M_numbers_s h hb (by omega) hn
    rw [g1] at hτ; cases hτ
    rcases g3 with ⟨g3, -⟩ | ⟨-, -, -, -, g3⟩
    · omega
    · rw [show 10 * 0 + (b - 48) = b - 48 by omega] at g3
      have := c_run_dig hF hst t (u ++ [b]) 1 (b - 48) τ (by rw [e, List.append_assoc]; rfl) (Nat.le_refl _) (by rw [List.length_append]; exact Nat.le_add_left _ _) (by omega) g3 (fun τ2 fg' v k1 k2 k3 k4 k5 => h5 τ2 fg' bl _ v k1 k3 (g2.tr k4) k5 (Or.inr ⟨rfl, k2⟩))
      rw [List.length_append] at this
      exact this
theorem c_run_nr {F : Nat → pd_H → Prop} (hF : c_loop L F) {st : Nat} (hst : st = 2 ∨ st = 3 ∨ st = 4 ∨ st = 7) {l u : List Nat} {σ : pd_H} (e : L = u ++ l) (h : mS L st 0 false 0 σ) (h5 : c_num_to L F st (c_nr l).1 (c_nr l).2 σ) : F u.length σ := by
  unfold c_nr at h5
  cases hp : c_pb 45 45 l with
  | some x =>
    obtain ⟨b, t⟩ := x
    rw [hp] at h5
    obtain ⟨p1, p2, p3⟩ := c_pb_some hp
    have eb : b = 45 := by omega
    subst eb
    rw [p1] at e
    obtain ⟨hb, hu⟩ := c_byte_at e ⟨h.1.1, h.1.2.1⟩
    have hn : c_nb 0 false 0 45 = true := rfl
    refine hF u t 45 st 0 0 false σ e hst h hn (fun τ hτ => ?_)
    obtain ⟨τ', g1, g2, g3⟩ := M_numbers_s h hb (by omega) hn
    rw [g1] at hτ; cases hτ
    rcases g3 with ⟨-, g3⟩ | ⟨g3, -⟩
    · have := c_run_nr1 hF hst (bl := true) (l := t) (u := u ++ [45]) (σ := τ) (by rw [e, List.append_assoc]; rfl) g3 (fun q => by cases q) (fun τ2 fg bl nm v k1 k2 k3 k4 k5 => h5 τ2 fg bl nm v k1 k2 (g2.tr k3) k4 k5)
      rw [List.length_append] at this
      exact this
    · exact absurd rfl g3
  | none =>
    rw [hp] at h5
    cases hp2 : c_pb 48 48 l with
    | none =>
      rw [hp2] at h5
      exact c_run_nr1 hF hst e h (fun _ b t q => ⟨fun q2 => by subst q; exact c_pb_none hp ⟨by omega, by omega⟩, fun q2 => by subst q; exact c_pb_none hp2 ⟨by omega, by omega⟩⟩) h5
    | some x =>
      obtain ⟨b, t⟩ := x
      rw [hp2] at h5
      obtain ⟨p1, p2, p3⟩ := c_pb_some hp2
      have eb : b = 48 := by omega
      subst eb
      rw [p1] at e
      obtain ⟨hb, hu⟩ := c_byte_at e ⟨h.1.1, h.1.2.1⟩
      have hn : c_nb 0 false 0 48 = true := rfl
      refine hF u t 48 st 0 0 false σ e hst h hn (fun τ hτ => ?_)
      obtain ⟨τ', g1, g2, g3⟩ := M_numbers_s h hb (by omega) hn
      rw [g1] at hτ; cases hτ
      rcases g3 with ⟨g3, -⟩ | ⟨-, -, -, -, g3⟩
      · cases g3
      · have := h5 τ 1 false 0 (u ++ [48]) (by rw [e, List.append_assoc]; rfl) g3 g2 (fun b' t' q => by
          unfold c_nb
          cases Nat.beq b' 45 with
          | true => rfl
          | false => cases (Nat.ble 48 b' && Nat.ble b' 57) <;> rfl) (Or.inr ⟨rfl, Nat.le_refl _⟩)
        rw [List.length_append] at this
        exact this
end TAPEM
