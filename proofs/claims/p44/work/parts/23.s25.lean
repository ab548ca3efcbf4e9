/-! (whole, 25.play2) -/
/-! The desk's play, whole; dependents, what has moved. -/
def x_plK (r k : Nat) : Prop := x_stK r k ∨ x_ddK r k
theorem x_plK_in {r : Nat} : ∀ k, x_plK r k → r ≤ k ∧ k < r + 16 := fun k h => h.elim (x_stK_in k) (x_ddK_in k)
/-- the rows of a run as its play begins -/
def x_init (E : pd_H) (r : Nat) : cR := (pu_cp (E.1 5) (E.1 (r + 4)) 72, pu_cpL (E.2.1 6) (E.2.1 (r + 5)) 72, pu_cp (fun _ => -1) (E.1 (r + 6)) 72, E.1 (r + 9), E.2.1 (r + 10), E.1 (r + 12), E.2.1 (r + 13), E.1 (r + 14))
section PLAY2
variable {r : Nat} {E : pd_H} {len : Nat → Nat} {l : List Nat}
theorem Run_play_L16_s (hr : r = 32 ∨ r = 48 ∨ r = 64) {σ : pd_H} : ∀ d i, i + d = 72 → ∀ d2 d3, Run_play_L16 r (nI i) d2 d3 (pu_rwI σ (r + 6) (pu_cp (fun _ => -1) (σ.1 (r + 6)) i)) = Run_play_L42 r 0 d2 d3 (pd_upI (pu_rwI σ (r + 6) (pu_cp (fun _ => -1) (σ.1 (r + 6)) 72)) r 10 0) := by
  obtain ⟨L2, L4, L5, L6, L7, L9, L10, L12, L13, L14, L15⟩ := pu_len_run hr
  intro d
  induction d with
  | zero =>
    intro i hi d2 d3
    have hi : i = 72 := hi
    rw [Run_play_L16_eq, hi]
    rfl
  | succ d ih =>
    intro i hi d2 d3
    rw [Run_play_L16_eq, show (72 : Int32) = nI 72 from rfl]
    simp only [nI_leI (show 72 < 2 ^ 31 by decide) (show i < 2 ^ 31 by omega), show ¬ 72 ≤ i by omega, decide_false, pd_bI_of, pd_bJ_of, pd_bV_of, pd_bR_of, cond_true, cond_false, L6, pu_obN (show i < 72 by omega) (show 72 < 2 ^ 31 by decide), nI_clamp (show i < 2 ^ 31 by omega), nI_1]
    rw [← ih (i + 1) (by omega) d2 d3]
    congr 1
    refine pu_H_ext (fun k => ?_) (fun k => rfl) rfl
    by_cases hk : k = r + 6
    · subst hk; rw [pu_u1s, pu_w1s, pu_w1s]; exact pu_cp_up (f := fun _ => -1)
    · rw [pu_u1n hk, pu_w1n hk, pu_w1n hk]
/-- behind a play -/
def x_played (E τ : pd_H) (r : Nat) (len : Nat → Nat) (l : List Nat) : Prop :=
  pu_fr (x_plK r) E τ ∧ (∀ j, j < 10 → τ.1 r j = E.1 r j) ∧
    ((c_ply (E.1 2) (E.1 3) (x_chg E) (c_line len l) (x_init E r)).1 = none → x_rows τ r = (c_ply (E.1 2) (E.1 3) (x_chg E) (c_line len l) (x_init E r)).2 ∧ τ.1 r 10 = 0 ∧ ∀ p ∈ l, τ.1 (r + 15) p = c_mask (x_chg E) (c_line len l) p) ∧
    (∀ a f, (c_ply (E.1 2) (E.1 3) (x_chg E) (c_line len l) (x_init E r)).1 = some (a, f) → τ.1 r 10 = f ∧ τ.1 r 11 = nI (a / 6) ∧ τ.1 r 12 = nI (a % 6))
set_option maxHeartbeats 4000000 in
theorem Run_play_s (hr : r = 32 ∨ r = 48 ∨ r = 64) (hz : c_szok (E.1 3)) (hlen : x_lens E len) (hl : pu_seq E (r + 1) l) (hnd : l.Nodup) (hok : x_oks E len l) : ∃ τ, Run_play r E = some (τ, none) ∧ x_played E τ r len l := by
  obtain ⟨L2, L4, L5, L6, L7, L9, L10, L12, L13, L14, L15⟩ := pu_len_run hr
  have Kr : x_stK r r := Or.inl rfl
  have K3 : x_stK r (r + 4) := by unfold x_stK; omega
  have K4 : x_stK r (r + 5) := by unfold x_stK; omega
  have K5 : x_stK r (r + 6) := by unfold x_stK; omega
  have hb := Values_becomeLike_s (o := r + 3) (q := 4) (N := 72) L4 L5 (by rfl) (by rfl) (by decide) (by omega) E
  generalize hE1 : pu_rwJ (pu_rwI E (r + 3 + 1) (pu_cp (E.1 (4 + 1)) (E.1 (r + 3 + 1)) 72)) (r + 3 + 2) (pu_cpL (E.2.1 (4 + 2)) (E.2.1 (r + 3 + 2)) 72) = E1 at hb
  have f1 : pu_fr (x_stK r) E E1 := by rw [← hE1]; exact (pu_fr.rwI K3).tr (pu_fr.rwJ K4)
  have hw := Run_play_L16_s (σ := E1) hr 72 0 rfl none none
  rw [pu_cp0] at hw
  have e0 : pu_rwI E1 (r + 6) (E1.1 (r + 6)) = E1 := by
    refine pu_H_ext (fun k => ?_) (fun k => rfl) rfl
    by_cases hk : k = r + 6
    · subst hk; exact pu_w1s
    · exact pu_w1n hk
  rw [e0] at hw
  generalize hE2 : pd_upI (pu_rwI E1 (r + 6) (pu_cp (fun _ => -1) (E1.1 (r + 6)) 72)) r 10 0 = E2 at hw
  have f2 : pu_fr (x_stK r) E E2 := by rw [← hE2]; exact (f1.tr (pu_fr.rwI K5)).tr (pu_fr.upI Kr)
  have hR : x_rows E2 r = x_init E r := by
    have a1 : r + 4 ≠ r := by omega
    have a2 : r + 4 ≠ r + 6 := by omega
    have a3 : r + 6 ≠ r := by omega
    have a4 : r + 6 ≠ r + 3 + 1 := by omega
    have a5 : r + 9 ≠ r := by omega
    have a6 : r + 9 ≠ r + 6 := by omega
    have a7 : r + 9 ≠ r + 3 + 1 := by omega
    have a8 : r + 12 ≠ r := by omega
    have a9 : r + 12 ≠ r + 6 := by omega
    have a10 : r + 12 ≠ r + 3 + 1 := by omega
    have a11 : r + 14 ≠ r := by omega
    have a12 : r + 14 ≠ r + 6 := by omega
    have a13 : r + 14 ≠ r + 3 + 1 := by omega
    have a14 : r + 10 ≠ r + 3 + 2 := by omega
    have a15 : r + 13 ≠ r + 3 + 2 := by omega
    rw [← hE2, ← hE1]
    unfold x_rows x_init
    simp only [pu_u1n a1, pu_w1n a2, pu_x1, pu_u1n a3, pu_w1s, pu_w1n a4, pu_u1n a5, pu_w1n a6, pu_w1n a7, pu_u1n a8, pu_w1n a9, pu_w1n a10, pu_u1n a11, pu_w1n a12, pu_w1n a13, pu_u2, pu_w2, pu_x2n a14, pu_x2n a15]
    simp only [show r + 4 = r + 3 + 1 by omega, show r + 5 = r + 3 + 2 by omega, pu_w1s, pu_x2s]
  have h10 : ∀ j, j < 10 → E2.1 r j = E.1 r j := fun j hj => by
    rw [← hE2, pu_u1s, pk_un (by omega), pu_w1n (by omega), ← hE1, pu_x1, pu_w1n (by omega)]
  obtain ⟨υ, u1, u2, u3, u4⟩ := Run_play_L42_s hr hz hlen hl hok l 0 none none E2 (by omega) (fun t x h => by rw [Nat.zero_add]; exact h) f2 h10 (by rw [← hE2, pu_u1s, pk_us])
  rw [hR] at u3 u4
  have hrun : Run_play r E = Run_play_L42 r (nI 0) none none E2 := by
    rw [Run_play_eq, hb]
    simp only [pd_bI_of, pd_bJ_of, pd_bV_of, pd_bR_of, cond_true, cond_false]
    exact hw
  cases hres : (c_ply (E.1 2) (E.1 3) (x_chg E) (c_line len l) (x_init E r)).1 with
  | none =>
    obtain ⟨v1, v2, v3⟩ := u3 hres
    have hcl : ∀ a ∈ c_line len l, c_cld (x_chg υ a) := fun a ha => by
      rw [x_fr_chg x_stK_in hr u1]
      refine c_ply_cld hz (fun b hb => ?_) hres a ha
      obtain ⟨p, h1, k, h2, rfl⟩ := c_line_mem hb
      exact (hok p h1).2 k h2
    have hlen2 : x_lens υ len := fun p hp => by rw [u1.1 9 (by unfold x_stK; omega)]; exact hlen p hp
    have hl2 : pu_seq υ (r + 1) l := hl.of (by rw [u1.1 (r + 1) (by unfold x_stK; omega)]) (by rw [u1.1 (r + 1 + 1) (by unfold x_stK; omega)])
    obtain ⟨τ, t1, t2, t3⟩ := Run_markDead_s hr hlen2 hl2 hnd (fun p hp => (hok p hp).1) hcl
    have hrow : x_rows τ r = x_rows υ r := by
      unfold x_rows
      rw [t2.1 (r + 4) (by unfold x_ddK; omega), t2.1 (r + 6) (by unfold x_ddK; omega), t2.1 (r + 9) (by unfold x_ddK; omega), t2.1 (r + 12) (by unfold x_ddK; omega), t2.1 (r + 14) (by unfold x_ddK; omega), t2.2.1 (r + 5) (by unfold x_ddK; omega), t2.2.1 (r + 10) (by unfold x_ddK; omega), t2.2.1 (r + 13) (by unfold x_ddK; omega)]
    have hr0 : τ.1 r = υ.1 r := t2.1 r (by unfold x_ddK; omega)
    have hchg : x_chg υ = x_chg E := funext fun a => x_fr_chg x_stK_in hr u1 a
    refine ⟨τ, ?_, (u1.mono fun k h => Or.inl h).tr (t2.mono fun k h => Or.inr h), fun j hj => by rw [hr0]; exact u2 j hj, fun _ => ⟨hrow.trans v2, by rw [hr0]; exact v3, fun p hp => ?_⟩, fun a f h => by rw [hres] at h; cases h⟩
    · rw [hrun, v1, t1]; rfl
    · rw [t3 p hp, hchg]
  | some q =>
    obtain ⟨a, f⟩ := q
    obtain ⟨v1, v2, v3, v4⟩ := u4 a f hres
    refine ⟨υ, hrun.trans v1, u1.mono fun k h => Or.inl h, u2, fun h => (by rw [hres] at h; cases h), fun b g h => ?_⟩
    rw [hres] at h
    cases h
    exact ⟨v2, v3, v4⟩
theorem Run_standLike_s {q : Nat} (hr : r = 32 ∨ r = 48 ∨ r = 64) (hq : q = 32 ∨ q = 48 ∨ q = 64) (hrq : r ≠ q) (σ : pd_H) : Run_standLike r q σ = some (pu_rwJ (pu_rwI σ (r + 4) (pu_cp (σ.1 (q + 4)) (σ.1 (r + 4)) 72)) (r + 5) (pu_cpL (σ.2.1 (q + 5)) (σ.2.1 (r + 5)) 72), none) := by
  obtain ⟨L2, L4, L5, L6, L7, L9, L10, L12, L13, L14, L15⟩ := pu_len_run hr
  obtain ⟨M2, M4, M5, M6, M7, M9, M10, M12, M13, M14, M15⟩ := pu_len_run hq
  rw [Run_standLike_eq, Values_becomeLike_s (o := r + 3) (q := q + 3) (N := 72) L4 L5 M4 M5 (by decide) (by omega)]
  rfl
end PLAY2
/-! (whole, 26.desk3) -/
/-! What a run tells: dependents, what has moved, since when. -/
/-- a set has one -/
def c_has (m s : Int32) : Bool := !decide ((m >>> (s &&& 31)) &&& 1 = 0)
def c_rdf (src : Nat → Int32) (m : Int32) : List Nat → Bool
  | [] => false
  | a :: t => cond (decide (src a = (-1 : Int32))) (c_rdf src m t) (cond (c_has m (src a)) true (c_rdf src m t))
def c_one1 (p : Nat) : Int32 := (1 : Int32) <<< (nI p &&& 31)
def c_dep (src : Nat → Int32) (len : Nat → Nat) (p : Nat) : List Nat → Int32 → Int32
  | [], s => s
  | q :: m, s => c_dep src len p m (cond (c_rdf src (s ||| c_one1 p) (c_blk q 0 (len q))) (s ||| c_one1 q) s)
/-- how many of some places differ -/
def c_mvb (t t' : Nat → Int32) (n n' : Nat → Int64) : List Nat → Int32 → Int32
  | [], s => s
  | a :: r, s => c_mvb t t' n n' r (cond (decide (t a = t' a) && decide (n a = n' a)) s (s + 1))
def c_mv (t t' : Nat → Int32) (n n' : Nat → Int64) (len : Nat → Nat) (l' : List Nat) : List Nat → Int32 → Int32
  | [], s => s
  | q :: m, s => c_mv t t' n n' len l' m (cond (Nat.ble l'.length (c_ix l' q)) s (c_mvb t t' n n' (c_blk q 0 (len q)) s))
/-- the last change of a cell in a patch; 150 if none -/
def c_lst (chg : Nat → cC) (cell p : Nat) : Nat → Nat
  | 0 => 150
  | k + 1 => cond (decide ((chg (6 * p + k)).2.2.2.1 * 12 + (chg (6 * p + k)).2.2.2.2.1 = nI cell)) (6 * p + k) (c_lst chg cell p k)
def c_unc (chg : Nat → cC) (len : Nat → Nat) (R : cR) (cell : Nat) : List Nat → Nat → Int32 → Int64 → Int32 → Int32
  | [], _, _, _, s => s
  | p :: m, n, ty, nu, s =>
    cond (Nat.beq (c_lst chg cell p (len p)) 150)
      (c_unc chg len R cell m (n + 1) ty nu (cond (decide (R.1 cell = ty) && decide (R.2.1 cell = nu)) s (nI (n + 2))))
      (c_unc chg len R cell m (n + 1) (R.2.2.2.2.2.1 (c_lst chg cell p (len p))) (R.2.2.2.2.2.2.1 (c_lst chg cell p (len p))) (cond (decide (R.1 cell = R.2.2.2.2.2.1 (c_lst chg cell p (len p))) && decide (R.2.1 cell = R.2.2.2.2.2.2.1 (c_lst chg cell p (len p)))) s (nI (n + 2))))
theorem c_lst_lt {chg : Nat → cC} {cell p : Nat} : ∀ {k : Nat}, c_lst chg cell p k ≠ 150 → c_lst chg cell p k < 6 * p + k := by
  intro k
  induction k with
  | zero => intro h; exact absurd rfl h
  | succ k ih =>
    intro h
    unfold c_lst at h ⊢
    cases hb : decide ((chg (6 * p + k)).2.2.2.1 * 12 + (chg (6 * p + k)).2.2.2.2.1 = nI cell) with
    | true => rw [cond_true]; omega
    | false =>
      rw [hb, cond_false] at h
      rw [cond_false]
      have := ih h
      omega
theorem pu_and01 {a b : Bool} {x y : Int32} : cond a (cond b x y) y = cond (a && b) x y := by cases a <;> rfl
theorem pu_bz {b : Bool} {α : Type} {x y : α} : cond (decide ((cond b (1 : Int32) 0) = 0)) x y = cond b y x := by cases b <;> rfl
section DESK3
variable {r : Nat} {E : pd_H} {len : Nat → Nat} {l : List Nat}
theorem Run_readsFrom_L2_s (hr : r = 32 ∨ r = 48 ∨ r = 64) (hlen : x_lens E len) {q : Nat} (hq : q < 25) (m : Int32) : ∀ d k d4, k + d = len q → Run_readsFrom_L2 r (nI q) m (nI k) d4 E = some (E, some (pd_i (cond (c_rdf (E.1 (r + 14)) m (c_blk q k d)) 1 0))) := by
  obtain ⟨L2, L4, L5, L6, L7, L9, L10, L12, L13, L14, L15⟩ := pu_len_run hr
  obtain ⟨hlq, hl6⟩ := hlen q hq
  intro d
  induction d with
  | zero =>
    intro k d4 hk
    have hk : k = len q := hk
    rw [Run_readsFrom_L2_eq]
    simp only [show pd_len 9 = 25 from rfl, pu_obN hq (show 25 < 2 ^ 31 by decide), nI_clamp (show q < 2 ^ 31 by omega), hlq, hk, nI_leI (show len q < 2 ^ 31 by omega) (show len q < 2 ^ 31 by omega), Nat.le_refl, decide_true, pd_bI_of, pd_bJ_of, pd_bV_of, pd_bR_of, cond_true, cond_false]
    rfl
  | succ d ih =>
    intro k d4 hk
    rw [Run_readsFrom_L2_eq, X_stepOf_s, c_step_nI]
    simp only [show pd_len 9 = 25 from rfl, pu_obN hq (show 25 < 2 ^ 31 by decide), nI_clamp (show q < 2 ^ 31 by omega), hlq, nI_leI (show len q < 2 ^ 31 by omega) (show k < 2 ^ 31 by omega), show ¬ len q ≤ k by omega, decide_false, pd_bI_of, pd_bJ_of, pd_bV_of, pd_bR_of, cond_true, cond_false, L14, pu_obN (show 6 * q + k < 150 by omega) (show 150 < 2 ^ 31 by decide), nI_clamp (show 6 * q + k < 2 ^ 31 by omega), nI_1, ih (k + 1) _ (show k + 1 + d = len q by omega)]
    show _ = some (E, some (pd_i (cond (cond (decide (E.1 (r + 14) (6 * q + k) = (-1 : Int32))) (c_rdf (E.1 (r + 14)) m (c_blk q (k + 1) d)) (cond (!decide ((m >>> (E.1 (r + 14) (6 * q + k) &&& 31)) &&& 1 = 0)) true (c_rdf (E.1 (r + 14)) m (c_blk q (k + 1) d)))) 1 0)))
    cases decide (E.1 (r + 14) (6 * q + k) = (-1 : Int32)) with
    | true => rfl
    | false => cases decide ((m >>> (E.1 (r + 14) (6 * q + k) &&& 31)) &&& 1 = 0) <;> rfl
theorem Run_readsFrom_s (hr : r = 32 ∨ r = 48 ∨ r = 64) (hlen : x_lens E len) {q : Nat} (hq : q < 25) (m : Int32) : Run_readsFrom r (nI q) m E = some (E, some (pd_i (cond (c_rdf (E.1 (r + 14)) m (c_blk q 0 (len q))) 1 0))) := by
  rw [Run_readsFrom_eq]
  exact Run_readsFrom_L2_s hr hlen hq m (len q) 0 none (Nat.zero_add _)
theorem Run_dependents_L13_s (hr : r = 32 ∨ r = 48 ∨ r = 64) (hlen : x_lens E len) (hl : pu_seq E (r + 1) l) (h25 : ∀ p ∈ l, p < 25) (p : Nat) : ∀ (m : List Nat) (n : Nat) (s : Int32) (d4 : Option pd_V), n + m.length = l.length → (∀ t x, m[t]? = some x → l[n + t]? = some x) → Run_dependents_L13 r (nI p) s (nI n) d4 E = some (E, some (pd_i (c_dep (E.1 (r + 14)) len p m s))) := by
  obtain ⟨L2, L4, L5, L6, L7, L9, L10, L12, L13, L14, L15⟩ := pu_len_run hr
  have h24 := hl.2.1
  intro m
  induction m with
  | nil =>
    intro n s d4 hn _
    have hn : n = l.length := hn
    rw [Run_dependents_L13_eq, hl.1, hn]
    simp only [nI_leI (show l.length < 2 ^ 31 by omega) (show l.length < 2 ^ 31 by omega), Nat.le_refl, decide_true, pd_bI_of, pd_bJ_of, pd_bV_of, pd_bR_of, cond_true, cond_false]
    rfl
  | cons q m ih =>
    intro n s d4 hn hm
    have hn : n + (m.length + 1) = l.length := hn
    have hq : l[n]? = some q := by have := hm 0 q rfl; rwa [Nat.add_zero] at this
    have hmt : ∀ t x, m[t]? = some x → l[n + 1 + t]? = some x := fun t x h => by
      rw [show n + 1 + t = n + (t + 1) by omega]; exact hm (t + 1) x h
    rw [Run_dependents_L13_eq, hl.1]
    simp only [nI_leI (show l.length < 2 ^ 31 by omega) (show n < 2 ^ 31 by omega), show ¬ l.length ≤ n by omega, decide_false, pd_bI_of, pd_bJ_of, pd_bV_of, pd_bR_of, cond_true, cond_false, L2, pu_obN (show n < 24 by omega) (show 24 < 2 ^ 31 by decide), nI_clamp (show n < 2 ^ 31 by omega), hl.2.2 n q hq, Run_readsFrom_s hr hlen (h25 q (List.mem_of_getElem? hq)), nI_1, ih (n + 1) _ _ (show n + 1 + m.length = l.length by omega) hmt, pu_bz]
    show _ = some (E, some (pd_i (c_dep (E.1 (r + 14)) len p m (cond (c_rdf (E.1 (r + 14)) (s ||| c_one1 p) (c_blk q 0 (len q))) (s ||| c_one1 q) s))))
    cases hb : c_rdf (E.1 (r + 14)) (s ||| c_one1 p) (c_blk q 0 (len q)) with
    | true => rw [show c_rdf (E.1 (r + 14)) (s ||| (1 : Int32) <<< (nI p &&& 31)) (c_blk q 0 (len q)) = true from hb]; rfl
    | false => rw [show c_rdf (E.1 (r + 14)) (s ||| (1 : Int32) <<< (nI p &&& 31)) (c_blk q 0 (len q)) = false from hb]; rfl
theorem Run_dependents_s (hr : r = 32 ∨ r = 48 ∨ r = 64) (hlen : x_lens E len) (hl : pu_seq E (r + 1) l) (h25 : ∀ p ∈ l, p < 25) {p : Nat} (hp : p ∈ l) : Run_dependents r (nI p) E = some (E, some (pd_i (c_dep (E.1 (r + 14)) len p (l.drop (c_ix l p + 1)) 0))) := by
  obtain ⟨L2, L4, L5, L6, L7, L9, L10, L12, L13, L14, L15⟩ := pu_len_run hr
  have hix := c_ix_mem.mpr hp
  have h24 := hl.2.1
  have hp25 := h25 p hp
  rw [Run_dependents_eq, Seq_indexOf_s hl L2 (show p < 2 ^ 31 by omega) (fun x hx => by have := h25 x hx; omega)]
  have hb : Nat.ble l.length (c_ix l p) = false := by
    rw [Bool.eq_false_iff]; intro q; have := Nat.le_of_ble_eq_true q; omega
  simp only [pd_bI_of, pd_bJ_of, pd_bV_of, pd_bR_of, cond_true, cond_false, c_ixI, hb, nI_1]
  exact Run_dependents_L13_s hr hlen hl h25 p (l.drop (c_ix l p + 1)) (c_ix l p + 1) 0 none (by rw [List.length_drop]; omega) (fun t x h => by rw [List.getElem?_drop] at h; exact h)
theorem Run_movedFrom_s {q : Nat} {l' : List Nat} (hr : r = 32 ∨ r = 48 ∨ r = 64) (hq : q = 32 ∨ q = 48 ∨ q = 64) (hlen : x_lens E len) (hl : pu_seq E (r + 1) l) (hl' : pu_seq E (q + 1) l') (h25 : ∀ p ∈ l, p < 25) (h25' : ∀ p ∈ l', p < 25) : Run_movedFrom r q E = some (E, some (pd_i (c_mv (E.1 (r + 12)) (E.1 (q + 12)) (E.2.1 (r + 13)) (E.2.1 (q + 13)) len l' l 0))) := by
  obtain ⟨L2, L4, L5, L6, L7, L9, L10, L12, L13, L14, L15⟩ := pu_len_run hr
  obtain ⟨M2, M4, M5, M6, M7, M9, M10, M12, M13, M14, M15⟩ := pu_len_run hq
  have h24 := hl.2.1
  have outer : ∀ (m : List Nat) (n : Nat) (s : Int32) (d4 d5 d6 : Option pd_V), n + m.length = l.length → (∀ t x, m[t]? = some x → l[n + t]? = some x) → Run_movedFrom_L4 r q s (nI n) d4 d5 d6 E = some (E, some (pd_i (c_mv (E.1 (r + 12)) (E.1 (q + 12)) (E.2.1 (r + 13)) (E.2.1 (q + 13)) len l' m s))) := by
    intro m
    induction m with
    | nil =>
      intro n s d4 d5 d6 hn _
      have hn : n = l.length := hn
      rw [Run_movedFrom_L4_eq, hl.1, hn]
      simp only [nI_leI (show l.length < 2 ^ 31 by omega) (show l.length < 2 ^ 31 by omega), Nat.le_refl, decide_true, pd_bI_of, pd_bJ_of, pd_bV_of, pd_bR_of, cond_true, cond_false]
      rfl
    | cons p m ih =>
      intro n s d4 d5 d6 hn hm
      have hn : n + (m.length + 1) = l.length := hn
      have hp : l[n]? = some p := by have := hm 0 p rfl; rwa [Nat.add_zero] at this
      have hp25 := h25 p (List.mem_of_getElem? hp)
      obtain ⟨hlp, hl6⟩ := hlen p hp25
      have hmt : ∀ t x, m[t]? = some x → l[n + 1 + t]? = some x := fun t x h => by
        rw [show n + 1 + t = n + (t + 1) by omega]; exact hm (t + 1) x h
      have in0 : ∀ (k : Nat) (s : Int32), Run_movedFrom_L49 r q s (nI n) (nI p) 0 (nI k) E = some (E, some (pd_i (c_mv (E.1 (r + 12)) (E.1 (q + 12)) (E.2.1 (r + 13)) (E.2.1 (q + 13)) len l' m s))) := by
        intro k s
        rw [Run_movedFrom_L49_eq]
        simp only [show pd_len 9 = 25 from rfl, pu_obN hp25 (show 25 < 2 ^ 31 by decide), pd_bI_of, pd_bJ_of, pd_bV_of, pd_bR_of, cond_true, cond_false, decide_true, nI_1, ih (n + 1) _ _ _ _ (show n + 1 + m.length = l.length by omega) hmt, Bool.cond_self]
      have in1 : ∀ (d k : Nat) (s : Int32), k + d = len p → Run_movedFrom_L49 r q s (nI n) (nI p) 1 (nI k) E = some (E, some (pd_i (c_mv (E.1 (r + 12)) (E.1 (q + 12)) (E.2.1 (r + 13)) (E.2.1 (q + 13)) len l' m (c_mvb (E.1 (r + 12)) (E.1 (q + 12)) (E.2.1 (r + 13)) (E.2.1 (q + 13)) (c_blk p k d) s)))) := by
        intro d
        induction d with
        | zero =>
          intro k s hk
          have hk : k = len p := hk
          rw [Run_movedFrom_L49_eq]
          simp only [show pd_len 9 = 25 from rfl, pu_obN hp25 (show 25 < 2 ^ 31 by decide), nI_clamp (show p < 2 ^ 31 by omega), hlp, hk, nI_leI (show len p < 2 ^ 31 by omega) (show len p < 2 ^ 31 by omega), Nat.le_refl, decide_true, pd_bI_of, pd_bJ_of, pd_bV_of, pd_bR_of, cond_true, cond_false, nI_1, ih (n + 1) _ _ _ _ (show n + 1 + m.length = l.length by omega) hmt]
          rfl
        | succ d ih2 =>
          intro k s hk
          rw [Run_movedFrom_L49_eq, X_stepOf_s, c_step_nI]
          have hv := Values_equalAt_s (o := r + 11) (q := q + 11) (n := 6 * p + k) (N := 150) E L12 L13 M12 M13 (by omega) (by decide)
          simp only [show pd_len 9 = 25 from rfl, pu_obN hp25 (show 25 < 2 ^ 31 by decide), nI_clamp (show p < 2 ^ 31 by omega), hlp, nI_leI (show len p < 2 ^ 31 by omega) (show k < 2 ^ 31 by omega), show ¬ len p ≤ k by omega, decide_false, pd_bI_of, pd_bJ_of, pd_bV_of, pd_bR_of, cond_true, cond_false, show decide ((1 : Int32) = 0) = false from rfl, hv, pu_and01, pu_bz, nI_1, ih2 (k + 1) _ (show k + 1 + d = len p by omega)]
          show cond (decide (E.1 (r + 12) (6 * p + k) = E.1 (q + 12) (6 * p + k)) && decide (E.2.1 (r + 13) (6 * p + k) = E.2.1 (q + 13) (6 * p + k))) _ _ = some (E, some (pd_i (c_mv (E.1 (r + 12)) (E.1 (q + 12)) (E.2.1 (r + 13)) (E.2.1 (q + 13)) len l' m (c_mvb (E.1 (r + 12)) (E.1 (q + 12)) (E.2.1 (r + 13)) (E.2.1 (q + 13)) (c_blk p (k + 1) d) (cond (decide (E.1 (r + 12) (6 * p + k) = E.1 (q + 12) (6 * p + k)) && decide (E.2.1 (r + 13) (6 * p + k) = E.2.1 (q + 13) (6 * p + k))) s (s + 1))))))
          cases decide (E.1 (r + 12) (6 * p + k) = E.1 (q + 12) (6 * p + k)) && decide (E.2.1 (r + 13) (6 * p + k) = E.2.1 (q + 13) (6 * p + k)) <;> rfl
      rw [Run_movedFrom_L4_eq, hl.1]
      simp only [nI_leI (show l.length < 2 ^ 31 by omega) (show n < 2 ^ 31 by omega), show ¬ l.length ≤ n by omega, decide_false, pd_bI_of, pd_bJ_of, pd_bV_of, pd_bR_of, cond_true, cond_false, L2, pu_obN (show n < 24 by omega) (show 24 < 2 ^ 31 by decide), nI_clamp (show n < 2 ^ 31 by omega), hl.2.2 n p hp, Seq_indexOf_s hl' M2 (show p < 2 ^ 31 by omega) (fun x hx => by have := h25' x hx; omega)]
      rw [show (Run_movedFrom_L49 r q s (nI n) (nI p) 0 0 E) = _ from in0 0 s, show (Run_movedFrom_L49 r q s (nI n) (nI p) 1 0 E) = _ from in1 (len p) 0 s (Nat.zero_add _)]
      show _ = some (E, some (pd_i (c_mv _ _ _ _ len l' m (cond (Nat.ble l'.length (c_ix l' p)) s (c_mvb _ _ _ _ (c_blk p 0 (len p)) s)))))
      unfold c_ixI
      cases hb : Nat.ble l'.length (c_ix l' p) with
      | true => rfl
      | false =>
        have hix := c_ix_le l' p
        have h24' := hl'.2.1
        rw [cond_false, cond_false, decide_eq_false (fun e => ?_), cond_false]
        have := congrArg (· < 0) e
        simp only [nI_pos (show c_ix l' p < 2 ^ 31 by omega)] at this
        exact absurd this (by decide)
  rw [Run_movedFrom_eq]
  exact outer l 0 0 none none none (Nat.zero_add _) (fun t x h => by rw [Nat.zero_add]; exact h)
theorem Run_lastChangeOf_s (hlen : x_lens E len) {p : Nat} (hp : p < 25) {cell : Nat} : Run_lastChangeOf r (nI cell) (nI p) E = some (E, some (pd_i (cond (Nat.beq (c_lst (x_chg E) cell p (len p)) 150) (-1) (nI (c_lst (x_chg E) cell p (len p)))))) := by
  obtain ⟨hlp, hl6⟩ := hlen p hp
  have hL : ∀ (k : Nat) (d4 : Option pd_V), k ≤ 6 → Run_lastChangeOf_L12 r (nI cell) (nI p) (nI k - 1) d4 E = some (E, some (pd_i (cond (Nat.beq (c_lst (x_chg E) cell p k) 150) (-1) (nI (c_lst (x_chg E) cell p k))))) := by
    intro k
    induction k with
    | zero =>
      intro d4 _
      rw [Run_lastChangeOf_L12_eq, decide_eq_true pu_m0]; rfl
    | succ k ih =>
      intro d4 hk
      rw [Run_lastChangeOf_L12_eq, nI_pred, decide_eq_false (nI_pos (show k < 2 ^ 31 by omega)), cond_false, X_stepOf_s, c_step_nI]
      simp only [pd_bI_of, pd_bJ_of, pd_bV_of, pd_bR_of, cond_true, cond_false, show pd_len 8 = 150 from rfl, pu_obN (show 6 * p + k < 150 by omega) (show 150 < 2 ^ 31 by decide), nI_clamp (show 6 * p + k < 2 ^ 31 by omega), X_cellOf_s, pu_m1, ih _ (show k ≤ 6 by omega), X_stepOf_s, c_step_nI]
      have hc : c_lst (x_chg E) cell p (k + 1) = cond (decide (E.1 (80 + (6 * p + k)) 3 * 12 + E.1 (80 + (6 * p + k)) 4 = nI cell)) (6 * p + k) (c_lst (x_chg E) cell p k) := rfl
      rw [hc]
      cases decide (E.1 (80 + (6 * p + k)) 3 * 12 + E.1 (80 + (6 * p + k)) 4 = nI cell) with
      | true =>
        have hb : Nat.beq (6 * p + k) 150 = false := by
          cases hb : Nat.beq (6 * p + k) 150 with
          | false => rfl
          | true => have := Nat.eq_of_beq_eq_true hb; omega
        rw [cond_true, cond_true, hb]; rfl
      | false => rfl
  rw [Run_lastChangeOf_eq]
  simp only [show pd_len 9 = 25 from rfl, pu_obN hp (show 25 < 2 ^ 31 by decide), pd_bI_of, pd_bJ_of, pd_bV_of, pd_bR_of, cond_true, cond_false, nI_clamp (show p < 2 ^ 31 by omega), hlp]
  exact hL (len p) none hl6
set_option maxHeartbeats 4000000 in
theorem Run_unchangedAfter_s (hr : r = 32 ∨ r = 48 ∨ r = 64) (hlen : x_lens E len) (hl : pu_seq E (r + 1) l) (h25 : ∀ p ∈ l, p < 25) {cell : Nat} (hc : cell < 72) : Run_unchangedAfter r (nI cell) E = some (E, some (pd_i (c_unc (x_chg E) len (x_rows E r) cell l 0 (E.1 5 cell) (E.2.1 6 cell) (cond (decide (E.1 (r + 4) cell = E.1 5 cell) && decide (E.2.1 (r + 5) cell = E.2.1 6 cell)) 0 1)))) := by
  obtain ⟨L2, L4, L5, L6, L7, L9, L10, L12, L13, L14, L15⟩ := pu_len_run hr
  have h24 := hl.2.1
  have hv := fun (b : Int32) (c : Int64) => Values_isAt_s (o := r + 3) (n := cell) (N := 72) (b := b) (c := c) E L4 L5 hc (by decide)
  have loop : ∀ (m : List Nat) (n : Nat) (ty : Int32) (nu : Int64) (s : Int32) (d7 : Option pd_V), n + m.length = l.length → (∀ t x, m[t]? = some x → l[n + t]? = some x) → Run_unchangedAfter_L49 r (nI cell) ty nu s (nI n) d7 E = some (E, some (pd_i (c_unc (x_chg E) len (x_rows E r) cell m n ty nu s))) := by
    intro m
    induction m with
    | nil =>
      intro n ty nu s d7 hn _
      have hn : n = l.length := hn
      rw [Run_unchangedAfter_L49_eq, hl.1, hn]
      simp only [nI_leI (show l.length < 2 ^ 31 by omega) (show l.length < 2 ^ 31 by omega), Nat.le_refl, decide_true, pd_bI_of, pd_bJ_of, pd_bV_of, pd_bR_of, cond_true, cond_false]
      rfl
    | cons p m ih =>
      intro n ty nu s d7 hn hm
      have hn : n + (m.length + 1) = l.length := hn
      have hp : l[n]? = some p := by have := hm 0 p rfl; rwa [Nat.add_zero] at this
      have hp25 := h25 p (List.mem_of_getElem? hp)
      have hmt : ∀ t x, m[t]? = some x → l[n + 1 + t]? = some x := fun t x h => by
        rw [show n + 1 + t = n + (t + 1) by omega]; exact hm (t + 1) x h
      obtain ⟨hlp, hl6⟩ := hlen p hp25
      have h106 : ∀ (ty : Int32) (nu : Int64) (d7 : Option pd_V), Run_unchangedAfter_L106 r (nI cell) ty nu s (nI n) d7 E = some (E, some (pd_i (c_unc (x_chg E) len (x_rows E r) cell m (n + 1) ty nu (cond (decide (E.1 (r + 4) cell = ty) && decide (E.2.1 (r + 5) cell = nu)) s (nI (n + 2)))))) := by
        intro ty nu d7
        have e2 : nI n + 2 = nI (n + 2) := nI_add n 2
        rw [Run_unchangedAfter_L106_eq]
        simp only [hv, pd_bI_of, pd_bJ_of, pd_bV_of, pd_bR_of, cond_true, cond_false, pu_and01, pu_bz, e2, nI_1, ih (n + 1) _ _ _ _ (show n + 1 + m.length = l.length by omega) hmt]
        rw [show E.1 (r + 3 + 1) = E.1 (r + 4) from rfl, show E.2.1 (r + 3 + 2) = E.2.1 (r + 5) from rfl]
        cases decide (E.1 (r + 4) cell = ty) && decide (E.2.1 (r + 5) cell = nu) <;> rfl
      rw [Run_unchangedAfter_L49_eq, hl.1]
      simp only [nI_leI (show l.length < 2 ^ 31 by omega) (show n < 2 ^ 31 by omega), show ¬ l.length ≤ n by omega, decide_false, pd_bI_of, pd_bJ_of, pd_bV_of, pd_bR_of, cond_true, cond_false, L2, pu_obN (show n < 24 by omega) (show 24 < 2 ^ 31 by decide), nI_clamp (show n < 2 ^ 31 by omega), hl.2.2 n p hp, Run_lastChangeOf_s hlen hp25, h106, L12, L13]
      show _ = some (E, some (pd_i (cond (Nat.beq (c_lst (x_chg E) cell p (len p)) 150) (c_unc (x_chg E) len (x_rows E r) cell m (n + 1) ty nu (cond (decide (E.1 (r + 4) cell = ty) && decide (E.2.1 (r + 5) cell = nu)) s (nI (n + 2)))) (c_unc (x_chg E) len (x_rows E r) cell m (n + 1) (E.1 (r + 12) (c_lst (x_chg E) cell p (len p))) (E.2.1 (r + 13) (c_lst (x_chg E) cell p (len p))) (cond (decide (E.1 (r + 4) cell = E.1 (r + 12) (c_lst (x_chg E) cell p (len p))) && decide (E.2.1 (r + 5) cell = E.2.1 (r + 13) (c_lst (x_chg E) cell p (len p)))) s (nI (n + 2)))))))
      cases hb : Nat.beq (c_lst (x_chg E) cell p (len p)) 150 with
      | true => rfl
      | false =>
        have hne : c_lst (x_chg E) cell p (len p) ≠ 150 := fun e => by rw [e] at hb; cases hb
        have hlt : c_lst (x_chg E) cell p (len p) < 150 := by have := c_lst_lt hne; omega
        rw [cond_false, cond_false, decide_eq_false (fun e => ?_), cond_false, pu_obN hlt (by decide), cond_false, cond_false, nI_clamp (by omega)]
        have := congrArg (· < 0) e
        simp only [nI_pos (show c_lst (x_chg E) cell p (len p) < 2 ^ 31 by omega)] at this
        exact absurd this (by decide)
  rw [Run_unchangedAfter_eq]
  simp only [show pd_len 5 = 72 from rfl, show pd_len 6 = 72 from rfl, pu_obN hc (show 72 < 2 ^ 31 by decide), pd_bI_of, pd_bJ_of, pd_bV_of, pd_bR_of, cond_true, cond_false, nI_clamp (show cell < 2 ^ 31 by omega), hv, pu_and01, pu_bz]
  rw [show E.1 (r + 3 + 1) = E.1 (r + 4) from rfl, show E.2.1 (r + 3 + 2) = E.2.1 (r + 5) from rfl]
  rw [show (0 : Int32) = nI 0 from rfl, loop l 0 _ _ _ _ (Nat.zero_add _) (fun t x h => by rw [Nat.zero_add]; exact h), loop l 0 _ _ _ _ (Nat.zero_add _) (fun t x h => by rw [Nat.zero_add]; exact h)]
  cases decide (E.1 (r + 4) cell = E.1 5 cell) && decide (E.2.1 (r + 5) cell = E.2.1 6 cell) <;> rfl
end DESK3
/-! (whole, 26b.len) -/
/-- bits of a number -/
def c_len (n : Nat) : Nat := if n = 0 then 0 else n.log2 + 1
