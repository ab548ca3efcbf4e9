/-! Read: the model. -/
section READM
variable {L : List Nat} {σ₀ : pd_H} {base : Nat} {CS : List cC}
/-- what its reading changes -/
def rF (base : Nat) (σ τ : pd_H) : Prop := pu_fr (fun k => k = 230 ∨ (238 ≤ k ∧ k ≤ 243)) σ τ ∧ (∀ j, j < 40 ∨ 43 < j → τ.1 230 j = σ.1 230 j) ∧ ∀ k, 238 ≤ k → k ≤ 243 → ∀ a, a < base → τ.1 k a = σ.1 k a
theorem rF.rf {σ : pd_H} : rF base σ σ := ⟨pu_fr.rf, fun _ _ => rfl, fun _ _ _ _ _ => rfl⟩
theorem rF.tr {σ τ υ : pd_H} (h : rF base σ τ) (g : rF base τ υ) : rF base σ υ := ⟨h.1.tr g.1, fun j hj => (g.2.1 j hj).trans (h.2.1 j hj), fun k h1 h2 a ha => (g.2.2 k h1 h2 a ha).trans (h.2.2 k h1 h2 a ha)⟩
theorem mF.rF {σ τ : pd_H} (h : mF σ τ) : rF base σ τ := ⟨h.1.mono (fun k hk => Or.inl hk), h.2, fun k h1 h2 a ha => by rw [h.1.1 k (by omega)]⟩
theorem rF.up {σ : pd_H} {k c : Nat} {v : Int32} (hk : 238 ≤ k ∧ k ≤ 243) (hc : base ≤ c) : rF base σ (pd_upI σ k c v) := ⟨pu_fr.upI (Or.inr hk), fun j hj => by rw [pu_u1n (by omega)], fun q h1 h2 a ha => by
  by_cases e : q = k
  · subst e; rw [pu_u1s, pk_un (by omega)]
  · rw [pu_u1n e]⟩
/-- a place of a row of changes -/
def rP (σ : pd_H) (c : Nat) (mv sl pl wy gl : Int32) : Prop := σ.1 238 c = mv ∧ σ.1 239 c = sl ∧ σ.1 240 c = pl ∧ σ.1 241 c = wy ∧ σ.1 243 c = gl
theorem rP.fr {σ τ : pd_H} {c : Nat} {mv sl pl wy gl : Int32} (h : rP σ c mv sl pl wy gl) (f : mF σ τ) : rP τ c mv sl pl wy gl := by
  unfold rP
  rw [f.1.1 238 (by decide), f.1.1 239 (by decide), f.1.1 240 (by decide), f.1.1 241 (by decide), f.1.1 243 (by decide)]
  exact h
/-- the changes before n stand -/
def rI (σ₀ : pd_H) (base : Nat) (CS : List cC) (n : Nat) (σ : pd_H) : Prop := rF base σ₀ σ ∧ ∀ j, j < n → ∀ c, CS[j]? = some c → m_is σ (base + j) c
theorem m_is_fr2 {σ τ : pd_H} {a : Nat} {c : cC} (h : m_is σ a c) (e : ∀ k, 238 ≤ k → k ≤ 243 → τ.1 k a = σ.1 k a) : m_is τ a c := by
  unfold m_is m_wr m_co at h ⊢
  rw [e 238 (by decide) (by decide), e 239 (by decide) (by decide), e 240 (by decide) (by decide), e 241 (by decide) (by decide), e 242 (by decide) (by decide), e 243 (by decide) (by decide)]
  exact h
theorem rI.fr {σ τ : pd_H} {n : Nat} (h : rI σ₀ base CS n σ) (f : mF σ τ) : rI σ₀ base CS n τ := ⟨h.1.tr f.rF, fun j hj c hc => m_is_fr2 (h.2 j hj c hc) (fun k h1 h2 => by rw [f.1.1 k (by omega)])⟩
theorem rI.up {σ : pd_H} {n k : Nat} {v : Int32} (h : rI σ₀ base CS n σ) (hk : 238 ≤ k ∧ k ≤ 243) : rI σ₀ base CS n (pd_upI σ k (base + n) v) := ⟨h.1.tr (rF.up hk (by omega)), fun j hj c hc => m_is_fr2 (h.2 j hj c hc) (fun q h1 h2 => by
  by_cases e : q = k
  · subst e; rw [pu_u1s, pk_un (by omega)]
  · rw [pu_u1n e])⟩
theorem mS.up {σ : pd_H} {st fg nm k c : Nat} {bl : Bool} {v : Int32} (h : mS L st fg bl nm σ) (hk : 238 ≤ k ∧ k ≤ 243) : mS L st fg bl nm (pd_upI σ k c v) := by
  obtain ⟨⟨t1, t2, t3, t4⟩, h1, h2, h3, h4, h5⟩ := h
  have e : ∀ q, q = 230 ∨ q = 259 → (pd_upI σ k c v).1 q = σ.1 q := fun q hq => pu_u1n (by omega)
  exact ⟨⟨t1, t2, by rw [e 230 (Or.inl rfl)]; exact t3, by rw [e 259 (Or.inr rfl)]; exact t4⟩, by rw [e 230 (Or.inl rfl)]; exact h1, by rw [e 230 (Or.inl rfl)]; exact h2, by rw [e 230 (Or.inl rfl)]; exact h3, h4, h5⟩
/-- the end -/
def M_rd_fin (m : Nat) (τ : pd_H) : Option pd_R := some (pd_upI (pd_upI τ 244 24 (τ.1 244 24 + nI m)) 230 39 0, some (pd_i (τ.1 244 24 + nI m)))
def c_RD (σ₀ : pd_H) (base : Nat) (CS : List cC) (c i : Nat) (σ : pd_H) : Prop := ∀ d4, ∃ τ, M_read_L84 (nI CS.length) (nI c) (nI i) d4 σ = M_rd_fin CS.length τ ∧ rI σ₀ base CS CS.length τ
theorem c_RD_loop {c : Nat} : c_loop L (c_RD σ₀ base CS c) := by
  intro u t b st fg nm bl σ e hst h hn k d4
  obtain ⟨hb, hu, e1, e2⟩ := h.byte e
  obtain ⟨τ, g1, g2⟩ := M_numbers_any (nI b) σ
  obtain ⟨υ, k1, k2⟩ := k τ g1 (some (pd_i (nI b)))
  refine ⟨υ, ?_, k2⟩
  rw [M_read_L84_eq, e1, cond_false, show pd_len 259 = 80 from rfl, pu_obN hu (by decide), cond_false, M_isNumberState_s h, c_ns hst, cond_true, pd_bI_of, decide_eq_false (by decide : ¬ (1 : Int32) = 0), cond_false, nI_clamp (by omega), e2, M_isNumberByte_s h hb, hn, cond_true, pd_bI_of, decide_eq_false (by decide : ¬ (1 : Int32) = 0), cond_false, g1, pd_bV_of, ← nI_succ]
  exact k1
theorem c_RD_go {st fg nm b s' c : Nat} {bl : Bool} {σ σ1 : pd_H} {u t : List Nat} (e : L = u ++ b :: t) (h : mS L st fg bl nm σ) (hs : (st = 2 ∨ st = 3 ∨ st = 4 ∨ st = 7) → c_nb fg bl nm b = false) (hx : c_nx st fg b = some s') (h8 : s' < 8) (hr : M_reads (nI c) (nI b) σ = some (σ1, none)) (h1 : mS L st fg bl nm σ1) (k : ∀ τ, mS L s' 0 false 0 τ → mF σ1 τ → c_RD σ₀ base CS (c + cond (Nat.beq b 59) 1 0) (u ++ [b]).length τ) : c_RD σ₀ base CS c u.length σ := by
  intro d4
  obtain ⟨hb, hu, e1, e2⟩ := h.byte e
  obtain ⟨τ, g1, g2, g3⟩ := M_goesTo_s h1.1 h8
  obtain ⟨υ, k1, k2⟩ := k τ g2 g3 (some (pd_i (nI b)))
  refine ⟨υ, ?_, k2⟩
  have to : M_read_L84 (nI CS.length) (nI c) (nI u.length) d4 σ = M_read_L125 (nI CS.length) (nI c) (nI u.length) (nI b) σ := by
    rw [M_read_L84_eq, e1, cond_false, show pd_len 259 = 80 from rfl, pu_obN hu (by decide), cond_false, M_isNumberState_s h, nI_clamp (by omega), e2]
    by_cases q : st = 2 ∨ st = 3 ∨ st = 4 ∨ st = 7
    · rw [c_ns q, cond_true, pd_bI_of, decide_eq_false (by decide : ¬ (1 : Int32) = 0), cond_false, M_isNumberByte_s h hb, hs q, cond_false, pd_bI_of, decide_eq_true (rfl : (0 : Int32) = 0), cond_true]
    · have : (Nat.beq st 2 || Nat.beq st 3 || Nat.beq st 4 || Nat.beq st 7) = false := by
        rw [← Bool.not_eq_true]
        intro k
        simp only [Bool.or_eq_true] at k
        rcases k with ((k | k) | k) | k <;> have := Nat.eq_of_beq_eq_true k <;> omega
      rw [this, cond_false, pd_bI_of, decide_eq_true (rfl : (0 : Int32) = 0), cond_true]
  have l145 : ∀ d2 t0, M_read_L145 (nI CS.length) d2 (nI u.length) (nI b) (nI t0) (nI c) σ1 = M_read_L84 (nI CS.length) (nI (c + t0)) (nI (u.length + 1)) (some (pd_i (nI b))) τ := fun d2 t0 => by
    rw [M_read_L145_eq, M_nextBy_s h1 hb, hx, pd_bI_of]
    show pd_bV (M_goesTo (nI s') σ1) _ = _
    rw [g1, pd_bV_of, ← nI_succ, nI_add]
  rw [to, M_read_L125_eq, hr, pd_bV_of, show (59 : Int32) = nI 59 from rfl, nI_beq (by omega) (by decide), show (1 : Int32) = nI 1 from rfl, show (0 : Int32) = nI 0 from rfl, l145, l145]
  rw [List.length_append] at k1
  cases hq : Nat.beq b 59 with
  | true => rw [hq] at k1; exact k1
  | false => rw [hq] at k1; exact k1
theorem c_RD_end {st fg nm c : Nat} {bl : Bool} {σ σ1 : pd_H} (h : mS L st fg bl nm σ) (hr : M_reads (nI c) (nI 59) σ = some (σ1, none)) (hI : rI σ₀ base CS CS.length σ1) : c_RD σ₀ base CS c L.length σ := by
  intro d4
  obtain ⟨⟨t1, t2, t3, t4⟩, -⟩ := h
  refine ⟨σ1, ?_, hI⟩
  rw [M_read_L84_eq, t3, decide_eq_true (nI_le (Nat.le_refl _) (by omega)), cond_true, show (59 : Int32) = nI 59 from rfl, hr, pd_bV_of, pu_u1n (show 244 ≠ 230 by decide), pu_u1s, pk_us]
  rfl
section
variable {σ : pd_H} {fg nm c b : Nat} {bl : Bool}
theorem mS.st {st fg nm : Nat} {bl : Bool} {σ : pd_H} (h : mS L st fg bl nm σ) (k : Nat) (hk : k < 8) : decide (σ.1 230 40 = nI k) = Nat.beq st k := by
  obtain ⟨-, h1, -, -, -, h5, -⟩ := h
  rw [h1, nI_beq (by omega) (by omega)]
theorem M_numberNow_s {st : Nat} (h : mS L st fg bl nm σ) : M_numberNow σ = some (σ, some (pd_i (c_sg bl nm))) := by
  obtain ⟨-, -, -, h3, h4, -⟩ := h
  rw [M_numberNow_eq, h3, h4]
  unfold c_sg
  cases bl <;> rfl
theorem M_reads_0 (hc : c < 150) (h : mS L 0 fg bl nm σ) : M_reads (nI c) (nI b) σ = some (pd_upI (pd_upI (pd_upI (pd_upI (pd_upI σ 238 c 0) 239 c (nI b - 48)) 240 c 0) 241 c 0) 243 c 0, none) := by
  rw [M_reads_eq, h.2.1, show decide (nI 0 = (0 : Int32)) = true from rfl, cond_true, M_keeps_s hc, pd_bV_of, show pd_len 243 = 150 from rfl, pu_obN hc (by decide), cond_false, nI_clamp (by omega)]
  rfl
theorem M_reads_1w (hc : c < 150) (h : mS L 1 fg bl nm σ) (hb : b < 256) (h46 : Nat.beq b 46 = false) : M_reads (nI c) (nI b) σ = some (pd_upI (pd_upI σ 238 c 0) 241 c (nI b - 97), none) := by
  rw [M_reads_eq, h.2.1, show decide (nI 1 = (0 : Int32)) = false from rfl, cond_false, show decide (nI 1 = (1 : Int32)) = true from rfl, cond_true, show (46 : Int32) = nI 46 from rfl, nI_beq (by omega) (by decide), h46, cond_false, M_reads_L90_eq, show pd_len 238 = 150 from rfl, pu_obN hc (by decide), cond_false, show (46 : Int32) = nI 46 from rfl, nI_beq (by omega) (by decide), h46, cond_false, show pd_len 241 = 150 from rfl, pu_obN hc (by decide), cond_false, nI_clamp (by omega)]
  rfl
theorem M_reads_1c (hc : c < 150) (h : mS L 1 fg bl nm σ) : M_reads (nI c) (nI 46) σ = some (pd_upI (pd_upI σ 238 c 1) 241 c 0, none) := by
  rw [M_reads_eq, h.2.1, show decide (nI 1 = (0 : Int32)) = false from rfl, cond_false, show decide (nI 1 = (1 : Int32)) = true from rfl, cond_true, show decide (nI 46 = (46 : Int32)) = true from rfl, cond_true, M_reads_L90_eq, show pd_len 238 = 150 from rfl, pu_obN hc (by decide), cond_false, show decide (nI 46 = (46 : Int32)) = true from rfl, cond_true, show pd_len 241 = 150 from rfl, pu_obN hc (by decide), cond_false, nI_clamp (by omega)]
  rfl
theorem M_reads_2 (hc : c < 150) (h : mS L 2 fg bl nm σ) : M_reads (nI c) (nI b) σ = some (pd_upI σ 240 c (c_sg bl nm), none) := by
  rw [M_reads_eq, h.2.1, show decide (nI 2 = (0 : Int32)) = false from rfl, cond_false, show decide (nI 2 = (1 : Int32)) = false from rfl, cond_false, show decide (nI 2 = (2 : Int32)) = true from rfl, cond_true, M_numberNow_s h, pd_bI_of, show pd_len 240 = 150 from rfl, pu_obN hc (by decide), cond_false, nI_clamp (by omega)]
theorem M_reads_3 {st : Nat} (hc : c < 150) (hst : st = 3 ∨ st = 7) (h : mS L st fg bl nm σ) : M_reads (nI c) (nI b) σ = some (pd_upI σ 242 c (c_sg bl nm), none) := by
  rw [M_reads_eq, h.2.1, M_numberNow_s h, pd_bI_of, pd_bI_of, show pd_len 242 = 150 from rfl, pu_obN hc (by decide), nI_clamp (by omega)]
  rcases hst with rfl | rfl <;> rfl
theorem M_reads_4 (hc : c < 150) (h : mS L 4 fg bl nm σ) : M_reads (nI c) (nI b) σ = some (pd_upI (pd_upI σ 240 c (c_sg bl nm)) 241 c (nI b - 97), none) := by
  rw [M_reads_eq, h.2.1, M_numberNow_s h, pd_bI_of, pd_bI_of, pd_bI_of, show pd_len 240 = 150 from rfl, show pd_len 241 = 150 from rfl, pu_obN hc (by decide), nI_clamp (by omega)]
  rfl
theorem M_reads_5 (hc : c < 150) (h : mS L 5 fg bl nm σ) : M_reads (nI c) (nI b) σ = some (pd_upI σ 243 c (nI b - 48), none) := by
  rw [M_reads_eq, h.2.1, show pd_len 243 = 150 from rfl, pu_obN hc (by decide), nI_clamp (by omega)]
  rfl
theorem M_reads_6 (h : mS L 6 fg bl nm σ) : M_reads (nI c) (nI b) σ = some (σ, none) := by
  rw [M_reads_eq, h.2.1]
  rfl
end
section
variable {n : Nat} {σ : pd_H}
theorem rI.succ {c : cC} (h : rI σ₀ base CS n σ) (hc : CS[n]? = some c) (hm : m_is σ (base + n) c) : rI σ₀ base CS (n + 1) σ := ⟨h.1, fun j hj d hd => by
  by_cases e : j = n
  · subst e
    rw [hc] at hd; cases hd
    exact hm
  · exact h.2 j (by omega) d hd⟩
/-- what comes behind a change -/
def c_RK (L : List Nat) (σ₀ : pd_H) (base : Nat) (CS : List cC) (n : Nat) (r : List Nat) : Prop := (r = [] ∧ CS.length = n + 1) ∨ ∃ t, r = 59 :: t ∧ ∀ u τ, L = u ++ t → mS L 0 0 false 0 τ → rI σ₀ base CS (n + 1) τ → c_RD σ₀ base CS (base + n + 1) u.length τ
theorem c_rd3 (h150 : base + n < 150) {st : Nat} (hst : st = 3 ∨ st = 7) {g : Int32 → cC} {u l r : List Nat} {v : Int32} (hv : c_nr l = (some v, r)) (hcs : CS[n]? = some (g v)) (e : L = u ++ l) (h : mS L st 0 false 0 σ) (hI : rI σ₀ base CS n σ) {mv sl pl wy gl : Int32} (hp : rP σ (base + n) mv sl pl wy gl) (hg : ∀ τ, rP τ (base + n) mv sl pl wy gl → τ.1 242 (base + n) = v → m_is τ (base + n) (g v)) (hK : c_RK L σ₀ base CS n r) : c_RD σ₀ base CS (base + n) u.length σ := by
  refine c_run_nr c_RD_loop (by omega) e h ?_
  intro τ fg bl nm w e2 h2 hf hs ho
  rw [hv] at e2 hs ho
  rcases ho with ⟨o1, -⟩ | ⟨o1, o2⟩
  · cases o1
  have ev : v = c_sg bl nm := by cases o1; rfl
  have hI2 : rI σ₀ base CS n (pd_upI τ 242 (base + n) (c_sg bl nm)) := (hI.fr hf).up (by decide)
  have hp2 := hp.fr hf
  have hI3 : rI σ₀ base CS (n + 1) (pd_upI τ 242 (base + n) (c_sg bl nm)) := hI2.succ hcs (hg _ (by
    unfold rP
    rw [pu_u1n (by decide), pu_u1n (by decide), pu_u1n (by decide), pu_u1n (by decide), pu_u1n (by decide)]
    exact hp2) (by rw [pu_u1s, pk_us, ev]))
  have h3 := h2.up (k := 242) (c := base + n) (v := c_sg bl nm) (by decide)
  have o2' := Nat.ble_eq_true_of_le o2
  rcases hK with ⟨k1, k2⟩ | ⟨t, k1, k2⟩
  · have e2 : L = w ++ r := e2
    rw [k1, List.append_nil] at e2
    rw [← e2]
    exact c_RD_end h2 (M_reads_3 h150 hst h2) (by rw [k2]; exact hI3)
  · have e2 : L = w ++ r := e2
    have hs : c_stop fg bl nm r := hs
    rw [k1] at e2
    exact c_RD_go e2 h2 (fun _ => hs 59 t k1) (by rw [c_nx3 hst, o2']; rfl) (by decide) (M_reads_3 h150 hst h2) h3 (fun υ a1 a2 => k2 (w ++ [59]) υ (by rw [e2, List.append_assoc]; rfl) a1 (hI3.fr a2))
theorem c_rd2 (h150 : base + n < 150) {u l r : List Nat} {sl wy i v : Int32} {l2 l3 : List Nat} (hv : c_nr l = (some i, l2)) (hp : c_pb 61 61 l2 = some (61, l3)) (hv2 : c_nr l3 = (some v, r)) (hcs : CS[n]? = some (-1, 0, wy, sl, i, v)) (e : L = u ++ l) (h : mS L 2 0 false 0 σ) (hI : rI σ₀ base CS n σ) (hr : rP σ (base + n) 0 sl 0 wy 0) (hK : c_RK L σ₀ base CS n r) : c_RD σ₀ base CS (base + n) u.length σ := by
  refine c_run_nr c_RD_loop (by omega) e h ?_
  intro τ fg bl nm w e2 h2 hf hs ho
  rw [hv] at e2 hs ho
  rcases ho with ⟨o1, -⟩ | ⟨o1, o2⟩
  · cases o1
  have ev : i = c_sg bl nm := by cases o1; rfl
  have o2' := Nat.ble_eq_true_of_le o2
  obtain ⟨p1, -, -⟩ := c_pb_some hp
  have e2 : L = w ++ l2 := e2
  have hs : c_stop fg bl nm l2 := hs
  rw [p1] at e2
  have hp2 := hr.fr hf
  have h3 := h2.up (k := 240) (c := base + n) (v := c_sg bl nm) (by decide)
  have hI2 : rI σ₀ base CS n (pd_upI τ 240 (base + n) (c_sg bl nm)) := (hI.fr hf).up (by decide)
  have hP3 : rP (pd_upI τ 240 (base + n) (c_sg bl nm)) (base + n) 0 sl i wy 0 := by
    obtain ⟨a1, a2, a3, a4, a5⟩ := hp2
    exact ⟨by rw [pu_u1n (by decide)]; exact a1, by rw [pu_u1n (by decide)]; exact a2, by rw [pu_u1s, pk_us, ev], by rw [pu_u1n (by decide)]; exact a4, by rw [pu_u1n (by decide)]; exact a5⟩
  exact c_RD_go e2 h2 (fun _ => hs 61 l3 p1) (show (bif (Nat.ble 1 fg && Nat.beq 61 61) then some 3 else none) = some 3 by rw [o2']; rfl) (by decide) (M_reads_2 h150 h2) h3 (fun υ a1 a2 => c_rd3 h150 (Or.inl rfl) (g := fun v => (-1, 0, wy, sl, i, v)) (u := w ++ [61]) hv2 hcs (by rw [e2, List.append_assoc]; rfl) a1 (hI2.fr a2) (hP3.fr a2) (fun ρ b1 b2 => Or.inl ⟨rfl, b1.1, b1.2.2.2.1, b1.2.1, b1.2.2.1, b2, rfl⟩) hK)
theorem c_rd6 (h150 : base + n < 150) {u l r : List Nat} {sl wy i j gl : Int32} {l4 : List Nat} (hs : sl ≠ -1) (hp : c_pb 46 46 l = some (46, l4)) (hv2 : c_nr l4 = (some j, r)) (hcs : CS[n]? = some (sl, i, wy, gl, j, 0)) (e : L = u ++ l) (h : mS L 6 0 false 0 σ) (hI : rI σ₀ base CS n σ) (hr : rP σ (base + n) 1 sl i wy gl) (hK : c_RK L σ₀ base CS n r) : c_RD σ₀ base CS (base + n) u.length σ := by
  obtain ⟨p1, -, -⟩ := c_pb_some hp
  rw [p1] at e
  exact c_RD_go e h (by omega) rfl (by decide) (M_reads_6 h) h (fun υ a1 a2 => c_rd3 h150 (Or.inr rfl) (g := fun j => (sl, i, wy, gl, j, 0)) (u := u ++ [46]) hv2 hcs (by rw [e, List.append_assoc]; rfl) a1 (hI.fr a2) (hr.fr a2) (fun ρ b1 b2 => Or.inr ⟨hs, b1.1, b1.2.1, b1.2.2.1, b1.2.2.2.1, b1.2.2.2.2, b2, rfl⟩) hK)
theorem c_rd5 (h150 : base + n < 150) {u l r : List Nat} {sl wy i j gl : Int32} {g : Nat} {l3 l4 : List Nat} (hs : sl ≠ -1) (hq : c_pb 48 53 l = some (g, l3)) (hp : c_pb 46 46 l3 = some (46, l4)) (hv2 : c_nr l4 = (some j, r)) (hcs : CS[n]? = some (sl, i, wy, nI (g - 48), j, 0)) (e : L = u ++ l) (h : mS L 5 0 false 0 σ) (hI : rI σ₀ base CS n σ) (hr : rP σ (base + n) 1 sl i wy gl) (hK : c_RK L σ₀ base CS n r) : c_RD σ₀ base CS (base + n) u.length σ := by
  obtain ⟨p1, p2, p3⟩ := c_pb_some hq
  rw [p1] at e
  have h3 := h.up (k := 243) (c := base + n) (v := nI g - 48) (by decide)
  have hI2 : rI σ₀ base CS n (pd_upI σ 243 (base + n) (nI g - 48)) := hI.up (by decide)
  have hP3 : rP (pd_upI σ 243 (base + n) (nI g - 48)) (base + n) 1 sl i wy (nI (g - 48)) := by
    obtain ⟨a1, a2, a3, a4, a5⟩ := hr
    exact ⟨by rw [pu_u1n (by decide)]; exact a1, by rw [pu_u1n (by decide)]; exact a2, by rw [pu_u1n (by decide)]; exact a3, by rw [pu_u1n (by decide)]; exact a4, by rw [pu_u1s, pk_us, show (48 : Int32) = nI 48 from rfl, nI_subN p2]⟩
  have h59 : Nat.beq g 59 = false := by rw [← Bool.not_eq_true]; exact fun q2 => by have := Nat.eq_of_beq_eq_true q2; omega
  exact c_RD_go e h (by omega) (show (bif (Nat.ble 48 g && Nat.ble g 53) then some 6 else none) = some 6 by rw [Nat.ble_eq_true_of_le p2, Nat.ble_eq_true_of_le p3]; rfl) (by decide) (M_reads_5 h150 h) h3 (fun υ a1 a2 => by
    rw [h59]
    exact c_rd6 h150 (u := u ++ [g]) hs hp hv2 hcs (by rw [e, List.append_assoc]; rfl) a1 (hI2.fr a2) (hP3.fr a2) hK)
theorem c_rd4 (h150 : base + n < 150) {u l r : List Nat} {sl i j gl : Int32} {wy : Int32} {w g : Nat} {l1 l2 l3 l4 : List Nat} (hs : sl ≠ -1) (hv : c_nr l = (some i, l1)) (hw : c_pb 97 105 l1 = some (w, l2)) (hq : c_pb 48 53 l2 = some (g, l3)) (hp : c_pb 46 46 l3 = some (46, l4)) (hv2 : c_nr l4 = (some j, r)) (hcs : CS[n]? = some (sl, i, nI (w - 97), nI (g - 48), j, 0)) (e : L = u ++ l) (h : mS L 4 0 false 0 σ) (hI : rI σ₀ base CS n σ) (hr : rP σ (base + n) 1 sl 0 wy gl) (hK : c_RK L σ₀ base CS n r) : c_RD σ₀ base CS (base + n) u.length σ := by
  refine c_run_nr c_RD_loop (by omega) e h ?_
  intro τ fg bl nm z e2 h2 hf hst ho
  rw [hv] at e2 hst ho
  rcases ho with ⟨o1, -⟩ | ⟨o1, o2⟩
  · cases o1
  have ev : i = c_sg bl nm := by cases o1; rfl
  have o2' := Nat.ble_eq_true_of_le o2
  obtain ⟨p1, p2, p3⟩ := c_pb_some hw
  have e2 : L = z ++ l1 := e2
  have hst : c_stop fg bl nm l1 := hst
  rw [p1] at e2
  have hp2 := hr.fr hf
  have h3 := (h2.up (k := 240) (c := base + n) (v := c_sg bl nm) (by decide)).up (k := 241) (c := base + n) (v := nI w - 97) (by decide)
  have hI2 : rI σ₀ base CS n (pd_upI (pd_upI τ 240 (base + n) (c_sg bl nm)) 241 (base + n) (nI w - 97)) := ((hI.fr hf).up (by decide)).up (by decide)
  have hP3 : rP (pd_upI (pd_upI τ 240 (base + n) (c_sg bl nm)) 241 (base + n) (nI w - 97)) (base + n) 1 sl i (nI (w - 97)) gl := by
    obtain ⟨a1, a2, a3, a4, a5⟩ := hp2
    exact ⟨by rw [pu_u1n (by decide), pu_u1n (by decide)]; exact a1, by rw [pu_u1n (by decide), pu_u1n (by decide)]; exact a2, by rw [pu_u1n (by decide), pu_u1s, pk_us, ev], by rw [pu_u1s, pk_us, show (97 : Int32) = nI 97 from rfl, nI_subN p2], by rw [pu_u1n (by decide), pu_u1n (by decide)]; exact a5⟩
  have h59 : Nat.beq w 59 = false := by rw [← Bool.not_eq_true]; exact fun q2 => by have := Nat.eq_of_beq_eq_true q2; omega
  exact c_RD_go e2 h2 (fun _ => hst w l2 p1) (show (bif (Nat.ble 1 fg && (Nat.ble 97 w && Nat.ble w 105)) then some 5 else none) = some 5 by rw [o2', Nat.ble_eq_true_of_le p2, Nat.ble_eq_true_of_le p3]; rfl) (by decide) (M_reads_4 h150 h2) h3 (fun υ a1 a2 => by
    rw [h59]
    exact c_rd5 h150 (u := z ++ [w]) hs hq hp hv2 hcs (by rw [e2, List.append_assoc]; rfl) a1 (hI2.fr a2) (hP3.fr a2) hK)
theorem c_pb_one {x b : Nat} {l t : List Nat} (h : c_pb x x l = some (b, t)) : c_pb x x l = some (x, t) := by
  obtain ⟨-, h2, h3⟩ := c_pb_some h
  have : b = x := by omega
  rw [h, this]
theorem c_rdc (h150 : base + n < 150) {u l r : List Nat} {c : cC} (hc : c_tcg l = (some c, r)) (hcs : CS[n]? = some c) (e : L = u ++ l) (h : mS L 0 0 false 0 σ) (hI : rI σ₀ base CS n σ) (hK : c_RK L σ₀ base CS n r) : c_RD σ₀ base CS (base + n) u.length σ := by
  unfold c_tcg at hc
  split at hc
  · cases hc
  · rename_i s l1 hs
    obtain ⟨p1, p2, p3⟩ := c_pb_some hs
    rw [p1] at e
    have hsl : nI s - 48 = nI (s - 48) := nI_subN (b := 48) p2
    have hn1 : nI (s - 48) ≠ -1 := by
      have : ∀ k, k < 6 → nI k ≠ -1 := by decide
      exact this _ (by omega)
    have h59 : Nat.beq s 59 = false := by rw [← Bool.not_eq_true]; exact fun q2 => by have := Nat.eq_of_beq_eq_true q2; omega
    generalize hσ1 : pd_upI (pd_upI (pd_upI (pd_upI (pd_upI σ 238 (base + n) 0) 239 (base + n) (nI s - 48)) 240 (base + n) 0) 241 (base + n) 0) 243 (base + n) 0 = σ1
    have hr := M_reads_0 (b := s) h150 h
    rw [hσ1] at hr
    have h1 : mS L 0 0 false 0 σ1 := by rw [← hσ1]; exact ((((h.up (by decide)).up (by decide)).up (by decide)).up (by decide)).up (by decide)
    have hI1 : rI σ₀ base CS n σ1 := by rw [← hσ1]; exact ((((hI.up (by decide)).up (by decide)).up (by decide)).up (by decide)).up (by decide)
    have hP1 : rP σ1 (base + n) 0 (nI (s - 48)) 0 0 0 := by
      rw [← hσ1, hsl]
      unfold rP
      simp only [pu_u1s, pk_us, pu_u1n (show 238 ≠ 239 by decide), pu_u1n (show 238 ≠ 240 by decide), pu_u1n (show 238 ≠ 241 by decide), pu_u1n (show 238 ≠ 243 by decide), pu_u1n (show 239 ≠ 240 by decide), pu_u1n (show 239 ≠ 241 by decide), pu_u1n (show 239 ≠ 243 by decide), pu_u1n (show 240 ≠ 241 by decide), pu_u1n (show 240 ≠ 243 by decide), pu_u1n (show 241 ≠ 243 by decide), and_self]
    refine c_RD_go e h (by omega) (show (bif (Nat.ble 48 s && Nat.ble s 53) then some 1 else none) = some 1 by rw [Nat.ble_eq_true_of_le p2, Nat.ble_eq_true_of_le p3]; rfl) (by decide) hr h1 (fun υ a1 a2 => ?_)
    rw [h59]
    have e2 : L = (u ++ [s]) ++ l1 := by rw [e, List.append_assoc]; rfl
    have hI2 := hI1.fr a2
    have hP2 := hP1.fr a2
    split at hc
    · -- a write
      rename_i h46
      unfold c_tw at hc
      split at hc
      · cases hc
      · rename_i w l2 hw
        obtain ⟨w1, w2, w3⟩ := c_pb_some hw
        have hb46 : Nat.beq w 46 = false := by rw [← Bool.not_eq_true]; exact fun q2 => by have := Nat.eq_of_beq_eq_true q2; omega
        have w59 : Nat.beq w 59 = false := by rw [← Bool.not_eq_true]; exact fun q2 => by have := Nat.eq_of_beq_eq_true q2; omega
        split at hc
        · cases hc
        · rename_i i l3 hi
          split at hc
          · cases hc
          · rename_i b l4 hb
            split at hc
            · cases hc
            · rename_i v l5 hv
              have hc : (some ((-1 : Int32), (0 : Int32), nI (w - 97), nI (s - 48), i, v), l5) = (some c, r) := hc
              cases hc
              rw [w1] at e2
              have hwb := (c_byte_at e2 ⟨h.1.1, h.1.2.1⟩).1
              have h3 := (a1.up (k := 238) (c := base + n) (v := 0) (by decide)).up (k := 241) (c := base + n) (v := nI w - 97) (by decide)
              refine c_RD_go e2 a1 (by omega) (show (bif Nat.beq w 46 then some 4 else bif (Nat.ble 97 w && Nat.ble w 118) then some 2 else none) = some 2 by rw [hb46, Nat.ble_eq_true_of_le w2, Nat.ble_eq_true_of_le w3]; rfl) (by decide) (M_reads_1w h150 a1 hwb hb46) h3 (fun ρ b1 b2 => ?_)
              rw [w59]
              have hP3 : rP (pd_upI (pd_upI υ 238 (base + n) 0) 241 (base + n) (nI w - 97)) (base + n) 0 (nI (s - 48)) 0 (nI (w - 97)) 0 := by
                obtain ⟨q1, q2, q3, q4, q5⟩ := hP2
                exact ⟨by rw [pu_u1n (by decide), pu_u1s, pk_us], by rw [pu_u1n (by decide), pu_u1n (by decide)]; exact q2, by rw [pu_u1n (by decide), pu_u1n (by decide)]; exact q3, by rw [pu_u1s, pk_us, show (97 : Int32) = nI 97 from rfl, nI_subN w2], by rw [pu_u1n (by decide), pu_u1n (by decide)]; exact q5⟩
              exact c_rd2 h150 (u := u ++ [s] ++ [w]) hi (c_pb_one hb) hv hcs (by rw [e2, List.append_assoc (u ++ [s])]; rfl) b1 (((hI2.up (by decide)).up (by decide)).fr b2) (hP3.fr b2) hK
    · -- a copy
      rename_i x l2 h46
      obtain ⟨w1, w2, w3⟩ := c_pb_some (c_pb_one h46)
      unfold c_tcp at hc
      split at hc
      · cases hc
      · rename_i i l3 hi
        split at hc
        · cases hc
        · rename_i w l4 hw
          split at hc
          · cases hc
          · rename_i g l5 hg
            split at hc
            · cases hc
            · rename_i y l6 hy
              split at hc
              · cases hc
              · rename_i j l7 hj
                have hc : (some (nI (s - 48), i, nI (w - 97), nI (g - 48), j, (0 : Int32)), l7) = (some c, r) := hc
                cases hc
                rw [w1] at e2
                have h3 := (a1.up (k := 238) (c := base + n) (v := 1) (by decide)).up (k := 241) (c := base + n) (v := 0) (by decide)
                refine c_RD_go e2 a1 (by omega) rfl (by decide) (M_reads_1c h150 a1) h3 (fun ρ b1 b2 => ?_)
                have hP3 : rP (pd_upI (pd_upI υ 238 (base + n) 1) 241 (base + n) 0) (base + n) 1 (nI (s - 48)) 0 0 0 := by
                  obtain ⟨q1, q2, q3, q4, q5⟩ := hP2
                  exact ⟨by rw [pu_u1n (by decide), pu_u1s, pk_us], by rw [pu_u1n (by decide), pu_u1n (by decide)]; exact q2, by rw [pu_u1n (by decide), pu_u1n (by decide)]; exact q3, by rw [pu_u1s, pk_us], by rw [pu_u1n (by decide), pu_u1n (by decide)]; exact q5⟩
                exact c_rd4 h150 (u := u ++ [s] ++ [46]) hn1 hi hw hg (c_pb_one hy) hj hcs (by rw [e2, List.append_assoc (u ++ [s])]; rfl) b1 (((hI2.up (by decide)).up (by decide)).fr b2) (hP3.fr b2) hK
end
theorem c_rd0 : ∀ (f : Nat) (u l : List Nat) (σ : pd_H) (pre : List cC), L = u ++ l → mS L 0 0 false 0 σ → (c_prs f l).1 = true → CS = pre ++ (c_prs f l).2.1 → base + CS.length ≤ 150 → rI σ₀ base CS pre.length σ → c_RD σ₀ base CS (base + pre.length) u.length σ := by
  intro f
  induction f with
  | zero => intro u l σ pre _ _ h; cases h
  | succ f ih =>
    intro u l σ pre e h hp hCS h150 hI
    obtain ⟨c, ⟨g1, g2⟩ | ⟨r, g1, g2, g3⟩⟩ := c_prs_one hp
    · rw [g2] at hCS
      have hl : CS.length = pre.length + 1 := by rw [hCS, List.length_append]; rfl
      exact c_rdc (by omega) g1 (by rw [hCS, List.getElem?_append_right (Nat.le_refl _), Nat.sub_self]; rfl) e h hI (Or.inl ⟨rfl, hl⟩)
    · rw [g3] at hCS
      have hCS : CS = pre ++ c :: (c_prs f r).2.1 := hCS
      have hl : CS.length = pre.length + ((c_prs f r).2.1.length + 1) := by rw [hCS, List.length_append]; rfl
      refine c_rdc (by omega) g1 (by rw [hCS, List.getElem?_append_right (Nat.le_refl _), Nat.sub_self]; rfl) e h hI (Or.inr ⟨r, rfl, fun v τ e2 h2 hI2 => ?_⟩)
      have := ih v r τ (pre ++ [c]) e2 h2 g2 (by rw [hCS, List.append_assoc]; rfl) h150 (by rw [List.length_append]; exact hI2)
      rw [List.length_append] at this
      exact this
end READM
