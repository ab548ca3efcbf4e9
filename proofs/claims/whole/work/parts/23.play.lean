/-! Patches are done in an order: canonical, and by the desk. -/
def c_blk (p k : Nat) : Nat → List Nat
  | 0 => []
  | d + 1 => (6 * p + k) :: c_blk p (k + 1) d
/-- all changes of some patches, by number, in their order -/
def c_line (len : Nat → Nat) : List Nat → List Nat
  | [] => []
  | p :: m => c_blk p 0 (len p) ++ c_line len m
def c_ply (kd sz : Nat → Int32) (chg : Nat → cC) : List Nat → cR → Option (Nat × Int32) × cR
  | [], R => (none, R)
  | a :: t, R => cond (decide (c_fd kd sz R (chg a) = 0)) (c_ply kd sz chg t (c_one kd (nI (a / 6)) a (chg a) R)) (some (a, c_fd kd sz R (chg a)), R)
theorem c_ply_ok {kd sz : Nat → Int32} {chg : Nat → cC} {a : Nat} {t : List Nat} {R : cR} (h : c_fd kd sz R (chg a) = 0) : c_ply kd sz chg (a :: t) R = c_ply kd sz chg t (c_one kd (nI (a / 6)) a (chg a) R) := by
  show cond (decide (c_fd kd sz R (chg a) = 0)) _ _ = _
  rw [decide_eq_true h]; rfl
theorem c_ply_bad {kd sz : Nat → Int32} {chg : Nat → cC} {a : Nat} {t : List Nat} {R : cR} (h : c_fd kd sz R (chg a) ≠ 0) : c_ply kd sz chg (a :: t) R = (some (a, c_fd kd sz R (chg a)), R) := by
  show cond (decide (c_fd kd sz R (chg a) = 0)) _ _ = _
  rw [decide_eq_false h]; rfl
/-- lengths of the lists of changes -/
def x_lens (σ : pd_H) (len : Nat → Nat) : Prop := ∀ p, p < 25 → σ.1 9 p = nI (len p) ∧ len p ≤ 6
/-- the changes of some patches are of slots -/
def x_oks (σ : pd_H) (len : Nat → Nat) (l : List Nat) : Prop := ∀ p ∈ l, p < 25 ∧ ∀ k, k < len p → c_ok (x_chg σ (6 * p + k))
theorem x_fr_chg {σ τ : pd_H} {r : Nat} {K : Nat → Prop} (hK : ∀ k, K k → r ≤ k ∧ k < r + 16) (hr : r = 32 ∨ r = 48 ∨ r = 64) (h : pu_fr K σ τ) (a : Nat) : x_chg τ a = x_chg σ a := by
  have : τ.1 (80 + a) = σ.1 (80 + a) := h.1 _ (fun q => by have := hK _ q; omega)
  unfold x_chg
  rw [this]
theorem x_stK_in {r : Nat} : ∀ k, x_stK r k → r ≤ k ∧ k < r + 16 := fun k h => by unfold x_stK at h; omega
section PLAY
variable {r : Nat} {E : pd_H} {len : Nat → Nat} {l : List Nat}
/-- what the loop of the patches leaves -/
def x_plo (E τ : pd_H) (r : Nat) (cs : List Nat) (R : cR) (run fin : Option pd_R) : Prop :=
  pu_fr (x_stK r) E τ ∧ (∀ j, j < 10 → τ.1 r j = E.1 r j) ∧
    ((c_ply (E.1 2) (E.1 3) (x_chg E) cs R).1 = none → run = fin ∧ x_rows τ r = (c_ply (E.1 2) (E.1 3) (x_chg E) cs R).2 ∧ τ.1 r 10 = 0) ∧
    (∀ a f, (c_ply (E.1 2) (E.1 3) (x_chg E) cs R).1 = some (a, f) → run = some (τ, none) ∧ τ.1 r 10 = f ∧ τ.1 r 11 = nI (a / 6) ∧ τ.1 r 12 = nI (a % 6))
set_option maxHeartbeats 4000000 in
theorem Run_play_L42_s (hr : r = 32 ∨ r = 48 ∨ r = 64) (hz : c_szok (E.1 3)) (hlen : x_lens E len) (hl : pu_seq E (r + 1) l) (hok : x_oks E len l) : ∀ (m : List Nat) (n : Nat) (d2 d3 : Option pd_V) (σ : pd_H), n + m.length = l.length → (∀ t x, m[t]? = some x → l[n + t]? = some x) → pu_fr (x_stK r) E σ → (∀ j, j < 10 → σ.1 r j = E.1 r j) → σ.1 r 10 = 0 →
    ∃ τ, x_plo E τ r (c_line len m) (x_rows σ r) (Run_play_L42 r (nI n) d2 d3 σ) (pd_bV (Run_markDead r τ) fun s => some (s, none)) := by
  obtain ⟨L2, L4, L5, L6, L7, L9, L10, L12, L13, L14, L15⟩ := pu_len_run hr
  have h24 := hl.2.1
  have kr1 : ¬ x_stK r (r + 1) := by unfold x_stK; omega
  have kr2 : ¬ x_stK r (r + 2) := by unfold x_stK; omega
  have k2 : ¬ x_stK r 2 := by unfold x_stK; omega
  have k3 : ¬ x_stK r 3 := by unfold x_stK; omega
  have k9 : ¬ x_stK r 9 := by unfold x_stK; omega
  have Kr : x_stK r r := Or.inl rfl
  intro m
  induction m with
  | nil =>
    intro n d2 d3 σ hn _ hE h10 hf
    have hn : n = l.length := hn
    refine ⟨σ, hE, h10, fun _ => ⟨?_, rfl, hf⟩, fun a f h => by cases h⟩
    rw [Run_play_L42_eq, hE.1 _ kr1, hl.1, hn]
    simp only [nI_leI (show l.length < 2 ^ 31 by omega) (show l.length < 2 ^ 31 by omega), Nat.le_refl, decide_true, pd_bI_of, pd_bJ_of, pd_bV_of, pd_bR_of, cond_true, cond_false]
  | cons p m ih =>
    intro n d2 d3 σ hn hm hE h10 hf
    have hn : n + (m.length + 1) = l.length := hn
    have hp : l[n]? = some p := by have := hm 0 p rfl; rwa [Nat.add_zero] at this
    obtain ⟨hp25, hpk⟩ := hok p (List.mem_of_getElem? hp)
    have hmt : ∀ t x, m[t]? = some x → l[n + 1 + t]? = some x := fun t x h => by
      rw [show n + 1 + t = n + (t + 1) by omega]; exact hm (t + 1) x h
    obtain ⟨hlp, hl6⟩ := hlen p hp25
    -- the changes of p from k on
    have inner : ∀ (d k : Nat) (σ : pd_H), k + d = len p → pu_fr (x_stK r) E σ → (∀ j, j < 10 → σ.1 r j = E.1 r j) → σ.1 r 10 = 0 →
        ∃ τ, x_plo E τ r (c_blk p k d ++ c_line len m) (x_rows σ r) (Run_play_L65 r (nI n) (nI p) (nI k) σ) (pd_bV (Run_markDead r τ) fun s => some (s, none)) := by
      intro d
      induction d with
      | zero =>
        intro k σ hk hE h10 hf
        have hk : k = len p := hk
        rw [Run_play_L65_eq, hE.1 _ k9]
        simp only [show pd_len 9 = 25 from rfl, pu_obN hp25 (show 25 < 2 ^ 31 by decide), nI_clamp (show p < 2 ^ 31 by omega), hlp, hk, nI_leI (show len p < 2 ^ 31 by omega) (show len p < 2 ^ 31 by omega), Nat.le_refl, decide_true, pd_bI_of, pd_bJ_of, pd_bV_of, pd_bR_of, cond_true, cond_false, nI_1]
        exact ih (n + 1) _ _ σ (by omega) hmt hE h10 hf
      | succ d ih2 =>
        intro k σ hk hE h10 hf
        have hk6 : k < 6 := by omega
        obtain ⟨τ, t1, t2, t3, t4, t5, -⟩ := Run_step_s (σ := σ) hr hp25 hk6 (by rw [hE.1 _ k3]; exact hz) (by rw [x_fr_chg x_stK_in hr hE]; exact hpk k (by omega))
        rw [hE.1 _ k2, hE.1 _ k3, x_fr_chg x_stK_in hr hE] at t1 t2 t3
        have hdiv : (6 * p + k) / 6 = p := by omega
        have hmod : (6 * p + k) % 6 = k := by omega
        have hf2 : (pd_upI τ r 10 (c_fd (E.1 2) (E.1 3) (x_rows σ r) (x_chg E (6 * p + k)))).1 r 10 = c_fd (E.1 2) (E.1 3) (x_rows σ r) (x_chg E (6 * p + k)) := by rw [pu_u1s, pk_us]
        have hrun : Run_play_L65 r (nI n) (nI p) (nI k) σ = cond (decide (c_fd (E.1 2) (E.1 3) (x_rows σ r) (x_chg E (6 * p + k)) = 0)) (Run_play_L65 r (nI n) (nI p) (nI (k + 1)) (pd_upI τ r 10 (c_fd (E.1 2) (E.1 3) (x_rows σ r) (x_chg E (6 * p + k))))) (some (pd_upI (pd_upI (pd_upI τ r 10 (c_fd (E.1 2) (E.1 3) (x_rows σ r) (x_chg E (6 * p + k)))) r 11 (nI p)) r 12 (nI k), none)) := by
          rw [Run_play_L65_eq, hE.1 _ k9]
          simp only [show pd_len 9 = 25 from rfl, pu_obN hp25 (show 25 < 2 ^ 31 by decide), nI_clamp (show p < 2 ^ 31 by omega), hlp, nI_leI (show len p < 2 ^ 31 by omega) (show k < 2 ^ 31 by omega), show ¬ len p ≤ k by omega, decide_false, pd_bI_of, pd_bJ_of, pd_bV_of, pd_bR_of, cond_true, cond_false, t1, hf2, nI_1]
        generalize hff : c_fd (E.1 2) (E.1 3) (x_rows σ r) (x_chg E (6 * p + k)) = f at t1 t2 t3 hrun hf2
        have hEτ := (hE.tr t4).tr (pu_fr.upI (i := 10) (x := f) Kr)
        by_cases h0 : f = 0
        · rw [hrun, decide_eq_true h0, cond_true]
          obtain ⟨υ, u1, u2, u3, u4⟩ := ih2 (k + 1) (pd_upI τ r 10 f) (by omega) hEτ (fun j hj => by rw [pu_u1s, pk_un (by omega), t5 j (by omega)]; exact h10 j hj) (by rw [hf2]; exact h0)
          have hR : x_rows (pd_upI τ r 10 f) r = x_rows τ r := by
            simp only [x_rows, pu_u2, pu_u1n (show r + 4 ≠ r by omega), pu_u1n (show r + 6 ≠ r by omega), pu_u1n (show r + 9 ≠ r by omega), pu_u1n (show r + 12 ≠ r by omega), pu_u1n (show r + 14 ≠ r by omega)]
          have hc : c_ply (E.1 2) (E.1 3) (x_chg E) (c_blk p k (d + 1) ++ c_line len m) (x_rows σ r) = c_ply (E.1 2) (E.1 3) (x_chg E) (c_blk p (k + 1) d ++ c_line len m) (x_rows (pd_upI τ r 10 f) r) := by
            show c_ply (E.1 2) (E.1 3) (x_chg E) ((6 * p + k) :: (c_blk p (k + 1) d ++ c_line len m)) (x_rows σ r) = _
            rw [c_ply_ok (hff.trans h0), hR, t2 h0, hdiv]
          refine ⟨υ, u1, u2, ?_, ?_⟩
          · rw [hc]; exact u3
          · rw [hc]; exact u4
        · rw [hrun, decide_eq_false h0, cond_false]
          have hc : c_ply (E.1 2) (E.1 3) (x_chg E) (c_blk p k (d + 1) ++ c_line len m) (x_rows σ r) = (some (6 * p + k, f), x_rows σ r) := by
            show c_ply (E.1 2) (E.1 3) (x_chg E) ((6 * p + k) :: (c_blk p (k + 1) d ++ c_line len m)) (x_rows σ r) = _
            rw [c_ply_bad (by rw [hff]; exact h0), hff]
          refine ⟨pd_upI (pd_upI (pd_upI τ r 10 f) r 11 (nI p)) r 12 (nI k), (hEτ.tr (pu_fr.upI Kr)).tr (pu_fr.upI Kr), fun j hj => ?_, ?_, ?_⟩
          · rw [pu_u1s, pk_un (by omega), pu_u1s, pk_un (by omega), pu_u1s, pk_un (by omega), t5 j (by omega)]; exact h10 j hj
          · rw [hc]; intro h; cases h
          · rw [hc]; intro a g h
            cases h
            refine ⟨rfl, ?_, ?_, ?_⟩
            · rw [pu_u1s, pk_un (by decide), pu_u1s, pk_un (by decide), pu_u1s, pk_us]
            · rw [pu_u1s, pk_un (by decide), pu_u1s, pk_us, hdiv]
            · rw [pu_u1s, pk_us, hmod]
    obtain ⟨τ, h⟩ := inner (len p) 0 σ (Nat.zero_add _) hE h10 hf
    refine ⟨τ, ?_⟩
    have hrun : Run_play_L42 r (nI n) d2 d3 σ = Run_play_L65 r (nI n) (nI p) (nI 0) σ := by
      rw [Run_play_L42_eq, hE.1 _ kr1, hE.1 _ kr2, hl.1]
      simp only [nI_leI (show l.length < 2 ^ 31 by omega) (show n < 2 ^ 31 by omega), show ¬ l.length ≤ n by omega, decide_false, pd_bI_of, pd_bJ_of, pd_bV_of, pd_bR_of, cond_true, cond_false, L2, pu_obN (show n < 24 by omega) (show 24 < 2 ^ 31 by decide), nI_clamp (show n < 2 ^ 31 by omega), hl.2.2 n p hp]
      rfl
    rw [hrun]
    exact h
end PLAY
