/-! (whole, 23.play) -/
/-! Patches are done in an order: canonical, and by the desk. -/
def c_blk (p k : Nat) : Nat → List Nat
  | 0 => []
  | d + 1 => (6 * p + k) :: c_blk p (k + 1) d
/-- all changes of some patches, by number, in their order -/
def c_line (len : Nat → Nat) : List Nat → List Nat
  | [] => []
  | p :: m => c_blk p 0 (len p) ++ c_line len m
def c_ply (kd sz : Nat → Int32) (chg : Nat → cC) : List Nat → cR → Option (Nat × Int32) × cR
  | [], R => (none, R)
  | a :: t, R => cond (decide (c_fd kd sz R (chg a) = 0)) (c_ply kd sz chg t (c_one kd (nI (a / 6)) a (chg a) R)) (some (a, c_fd kd sz R (chg a)), R)
theorem c_ply_ok {kd sz : Nat → Int32} {chg : Nat → cC} {a : Nat} {t : List Nat} {R : cR} (h : c_fd kd sz R (chg a) = 0) : c_ply kd sz chg (a :: t) R = c_ply kd sz chg t (c_one kd (nI (a / 6)) a (chg a) R) := by
  show cond (decide (c_fd kd sz R (chg a) = 0)) _ _ = _
  rw [decide_eq_true h]; rfl
theorem c_ply_bad {kd sz : Nat → Int32} {chg : Nat → cC} {a : Nat} {t : List Nat} {R : cR} (h : c_fd kd sz R (chg a) ≠ 0) : c_ply kd sz chg (a :: t) R = (some (a, c_fd kd sz R (chg a)), R) := by
  show cond (decide (c_fd kd sz R (chg a) = 0)) _ _ = _
  rw [decide_eq_false h]; rfl
/-- lengths of the lists of changes -/
def x_lens (σ : pd_H) (len : Nat → Nat) : Prop := ∀ p, p < 25 → σ.1 9 p = nI (len p) ∧ len p ≤ 6
/-- the changes of some patches are of slots -/
def x_oks (σ : pd_H) (len : Nat → Nat) (l : List Nat) : Prop := ∀ p ∈ l, p < 25 ∧ ∀ k, k < len p → c_ok (x_chg σ (6 * p + k))
theorem x_fr_chg {σ τ : pd_H} {r : Nat} {K : Nat → Prop} (hK : ∀ k, K k → r ≤ k ∧ k < r + 16) (hr : r = 32 ∨ r = 48 ∨ r = 64) (h : pu_fr K σ τ) (a : Nat) : x_chg τ a = x_chg σ a := by
  have : τ.1 (80 + a) = σ.1 (80 + a) := h.1 _ (fun q => by have := hK _ q; omega)
  unfold x_chg
  rw [this]
theorem x_stK_in {r : Nat} : ∀ k, x_stK r k → r ≤ k ∧ k < r + 16 := fun k h => by unfold x_stK at h; omega
section PLAY
variable {r : Nat} {E : pd_H} {len : Nat → Nat} {l : List Nat}
/-- what the loop of the patches leaves -/
def x_plo (E τ : pd_H) (r : Nat) (cs : List Nat) (R : cR) (run fin : Option pd_R) : Prop :=
  pu_fr (x_stK r) E τ ∧ (∀ j, j < 10 → τ.1 r j = E.1 r j) ∧
    ((c_ply (E.1 2) (E.1 3) (x_chg E) cs R).1 = none → run = fin ∧ x_rows τ r = (c_ply (E.1 2) (E.1 3) (x_chg E) cs R).2 ∧ τ.1 r 10 = 0) ∧
    (∀ a f, (c_ply (E.1 2) (E.1 3) (x_chg E) cs R).1 = some (a, f) → run = some (τ, none) ∧ τ.1 r 10 = f ∧ τ.1 r 11 = nI (a / 6) ∧ τ.1 r 12 = nI (a % 6))
set_option maxHeartbeats 4000000 in
theorem Run_play_L42_s (hr : r = 32 ∨ r = 48 ∨ r = 64) (hz : c_szok (E.1 3)) (hlen : x_lens E len) (hl : pu_seq E (r + 1) l) (hok : x_oks E len l) : ∀ (m : List Nat) (n : Nat) (d2 d3 : Option pd_V) (σ : pd_H), n + m.length = l.length → (∀ t x, m[t]? = some x → l[n + t]? = some x) → pu_fr (x_stK r) E σ → (∀ j, j < 10 → σ.1 r j = E.1 r j) → σ.1 r 10 = 0 →
    ∃ τ, x_plo E τ r (c_line len m) (x_rows σ r) (Run_play_L42 r (nI n) d2 d3 σ) (pd_bV (Run_markDead r τ) fun s => some (s, none)) := by
  obtain ⟨L2, L4, L5, L6, L7, L9, L10, L12, L13, L14, L15⟩ := pu_len_run hr
  have h24 := hl.2.1
  have kr1 : ¬ x_stK r (r + 1) := by unfold x_stK; omega
  have kr2 : ¬ x_stK r (r + 2) := by unfold x_stK; omega
  have k2 : ¬ x_stK r 2 := by unfold x_stK; omega
  have k3 : ¬ x_stK r 3 := by unfold x_stK; omega
  have k9 : ¬ x_stK r 9 := by unfold x_stK; omega
  have Kr : x_stK r r := Or.inl rfl
  intro m
  induction m with
  | nil =>
    intro n d2 d3 σ hn _ hE h10 hf
    have hn : n = l.length := hn
    refine ⟨σ, hE, h10, fun _ => ⟨?_, rfl, hf⟩, fun a f h => by cases h⟩
    rw [Run_play_L42_eq, hE.1 _ kr1, hl.1, hn]
    simp only [nI_leI (show l.length < 2 ^ 31 by omega) (show l.length < 2 ^ 31 by omega), Nat.le_refl, decide_true, pd_bI_of, pd_bJ_of, pd_bV_of, pd_bR_of, cond_true, cond_false]
  | cons p m ih =>
    intro n d2 d3 σ hn hm hE h10 hf
    have hn : n + (m.length + 1) = l.length := hn
    have hp : l[n]? = some p := by have := hm 0 p rfl; rwa [Nat.add_zero] at this
    obtain ⟨hp25, hpk⟩ := hok p (List.mem_of_getElem? hp)
    have hmt : ∀ t x, m[t]? = some x → l[n + 1 + t]? = some x := fun t x h => by
      rw [show n + 1 + t = n + (t + 1) by omega]; exact hm (t + 1) x h
    obtain ⟨hlp, hl6⟩ := hlen p hp25
    -- the changes of p from k on
    have inner : ∀ (d k : Nat) (σ : pd_H), k + d = len p → pu_fr (x_stK r) E σ → (∀ j, j < 10 → σ.1 r j = E.1 r j) → σ.1 r 10 = 0 →
        ∃ τ, x_plo E τ r (c_blk p k d ++ c_line len m) (x_rows σ r) (Run_play_L65 r (nI n) (nI p) (nI k) σ) (pd_bV (Run_markDead r τ) fun s => some (s, none)) := by
      intro d
      induction d with
      | zero =>
        intro k σ hk hE h10 hf
        have hk : k = len p := hk
        rw [Run_play_L65_eq, hE.1 _ k9]
        simp only [show pd_len 9 = 25 from rfl, pu_obN hp25 (show 25 < 2 ^ 31 by decide), nI_clamp (show p < 2 ^ 31 by omega), hlp, hk, nI_leI (show len p < 2 ^ 31 by omega) (show len p < 2 ^ 31 by omega), Nat.le_refl, decide_true, pd_bI_of, pd_bJ_of, pd_bV_of, pd_bR_of, cond_true, cond_false, nI_1]
        exact ih (n + 1) _ _ σ (by omega) hmt hE h10 hf
      | succ d ih2 =>
        intro k σ hk hE h10 hf
        have hk6 : k < 6 := by omega
        obtain ⟨τ, t1, t2, t3, t4, t5, -⟩ := Run_step_s (σ := σ) hr hp25 hk6 (by rw [hE.1 _ k3]; exact hz) (by rw [x_fr_chg x_stK_in hr hE]; exact hpk k (by omega))
        rw [hE.1 _ k2, hE.1 _ k3, x_fr_chg x_stK_in hr hE] at t1 t2 t3
        have hdiv : (6 * p + k) / 6 = p := by omega
        have hmod : (6 * p + k) % 6 = k := by omega
        have hf2 : (pd_upI τ r 10 (c_fd (E.1 2) (E.1 3) (x_rows σ r) (x_chg E (6 * p + k)))).1 r 10 = c_fd (E.1 2) (E.1 3) (x_rows σ r) (x_chg E (6 * p + k)) := by rw [pu_u1s, pk_us]
        have hrun : Run_play_L65 r (nI n) (nI p) (nI k) σ = cond (decide (c_fd (E.1 2) (E.1 3) (x_rows σ r) (x_chg E (6 * p + k)) = 0)) (Run_play_L65 r (nI n) (nI p) (nI (k + 1)) (pd_upI τ r 10 (c_fd (E.1 2) (E.1 3) (x_rows σ r) (x_chg E (6 * p + k))))) (some (pd_upI (pd_upI (pd_upI τ r 10 (c_fd (E.1 2) (E.1 3) (x_rows σ r) (x_chg E (6 * p + k)))) r 11 (nI p)) r 12 (nI k), none)) := by
          rw [Run_play_L65_eq, hE.1 _ k9]
          simp only [show pd_len 9 = 25 from rfl, pu_obN hp25 (show 25 < 2 ^ 31 by decide), nI_clamp (show p < 2 ^ 31 by omega), hlp, nI_leI (show len p < 2 ^ 31 by omega) (show k < 2 ^ 31 by omega), show ¬ len p ≤ k by omega, decide_false, pd_bI_of, pd_bJ_of, pd_bV_of, pd_bR_of, cond_true, cond_false, t1, hf2, nI_1]
        generalize hff : c_fd (E.1 2) (E.1 3) (x_rows σ r) (x_chg E (6 * p + k)) = f at t1 t2 t3 hrun hf2
        have hEτ := (hE.tr t4).tr (pu_fr.upI (i := 10) (x := f) Kr)
        by_cases h0 : f = 0
        · rw [hrun, decide_eq_true h0, cond_true]
          obtain ⟨υ, u1, u2, u3, u4⟩ := ih2 (k + 1) (pd_upI τ r 10 f) (by omega) hEτ (fun j hj => by rw [pu_u1s, pk_un (by omega), t5 j (by omega)]; exact h10 j hj) (by rw [hf2]; exact h0)
          have hR : x_rows (pd_upI τ r 10 f) r = x_rows τ r := by
            simp only [x_rows, pu_u2, pu_u1n (show r + 4 ≠ r by omega), pu_u1n (show r + 6 ≠ r by omega), pu_u1n (show r + 9 ≠ r by omega), pu_u1n (show r + 12 ≠ r by omega), pu_u1n (show r + 14 ≠ r by omega)]
          have hc : c_ply (E.1 2) (E.1 3) (x_chg E) (c_blk p k (d + 1) ++ c_line len m) (x_rows σ r) = c_ply (E.1 2) (E.1 3) (x_chg E) (c_blk p (k + 1) d ++ c_line len m) (x_rows (pd_upI τ r 10 f) r) := by
            show c_ply (E.1 2) (E.1 3) (x_chg E) ((6 * p + k) :: (c_blk p (k + 1) d ++ c_line len m)) (x_rows σ r) = _
            rw [c_ply_ok (hff.trans h0), hR, t2 h0, hdiv]
          refine ⟨υ, u1, u2, ?_, ?_⟩
          · rw [hc]; exact u3
          · rw [hc]; exact u4
        · rw [hrun, decide_eq_false h0, cond_false]
          have hc : c_ply (E.1 2) (E.1 3) (x_chg E) (c_blk p k (d + 1) ++ c_line len m) (x_rows σ r) = (some (6 * p + k, f), x_rows σ r) := by
            show c_ply (E.1 2) (E.1 3) (x_chg E) ((6 * p + k) :: (c_blk p (k + 1) d ++ c_line len m)) (x_rows σ r) = _
            rw [c_ply_bad (by rw [hff]; exact h0), hff]
          refine ⟨pd_upI (pd_upI (pd_upI τ r 10 f) r 11 (nI p)) r 12 (nI k), (hEτ.tr (pu_fr.upI Kr)).tr (pu_fr.upI Kr), fun j hj => ?_, ?_, ?_⟩
          · rw [pu_u1s, pk_un (by omega), pu_u1s, pk_un (by omega), pu_u1s, pk_un (by omega), t5 j (by omega)]; exact h10 j hj
          · rw [hc]; intro h; cases h
          · rw [hc]; intro a g h
            cases h
            refine ⟨rfl, ?_, ?_, ?_⟩
            · rw [pu_u1s, pk_un (by decide), pu_u1s, pk_un (by decide), pu_u1s, pk_us]
            · rw [pu_u1s, pk_un (by decide), pu_u1s, pk_us, hdiv]
            · rw [pu_u1s, pk_us, hmod]
    obtain ⟨τ, h⟩ := inner (len p) 0 σ (Nat.zero_add _) hE h10 hf
    refine ⟨τ, ?_⟩
    have hrun : Run_play_L42 r (nI n) d2 d3 σ = Run_play_L65 r (nI n) (nI p) (nI 0) σ := by
      rw [Run_play_L42_eq, hE.1 _ kr1, hE.1 _ kr2, hl.1]
      simp only [nI_leI (show l.length < 2 ^ 31 by omega) (show n < 2 ^ 31 by omega), show ¬ l.length ≤ n by omega, decide_false, pd_bI_of, pd_bJ_of, pd_bV_of, pd_bR_of, cond_true, cond_false, L2, pu_obN (show n < 24 by omega) (show 24 < 2 ^ 31 by decide), nI_clamp (show n < 2 ^ 31 by omega), hl.2.2 n p hp]
      rfl
    rw [hrun]
    exact h
end PLAY
/-! (whole, 24.dead) -/
/-! Which changes are dead: canonical (from behind), and by the desk. -/
def c_nst (c : cC) (N : Nat → Int32) : Nat → Int32 := cond (decide (N (c_tc c) = 0)) (upd N (c_tc c) 0) (cond (decide (c.1 = (-1 : Int32))) (upd N (c_tc c) 0) (upd (upd N (c_tc c) 0) (c_fc c) 1))
def c_need (chg : Nat → cC) : List Nat → Nat → Int32
  | [] => fun _ => 1
  | a :: t => c_nst (chg a) (c_need chg t)
/-- the bit of a change in its patch -/
def c_bit (a : Nat) : Int32 := (1 : Int32) <<< (nI (a % 6) &&& 31)
def c_mask (chg : Nat → cC) : List Nat → Nat → Int32
  | [], _ => 0
  | a :: t, p => cond (decide (c_need chg t (c_tc (chg a)) = 0) && Nat.beq (a / 6) p) (c_mask chg t p ||| c_bit a) (c_mask chg t p)
/-- cells that there are -/
def c_cld (c : cC) : Prop := (c.2.2.2.1 * 12 + c.2.2.2.2.1 = nI (c_tc c) ∧ c_tc c < 72) ∧ (c.1 ≠ -1 → c.1 * 12 + c.2.1 = nI (c_fc c) ∧ c_fc c < 72)
theorem c_cld_of {kd sz : Nat → Int32} {R : cR} {c : cC} (hz : c_szok sz) (hc : c_ok c) (h : c_fd kd sz R c = 0) : c_cld c := by
  unfold c_fd at h
  by_cases h1 : c_f1 kd sz c = 0
  · rw [decide_eq_true h1, cond_true] at h
    refine ⟨c_cell_ok hz hc.2 (c_wrF_idx h), fun hn => ?_⟩
    unfold c_f1 at h1
    rw [decide_eq_false hn, cond_false] at h1
    exact c_cell_ok hz (hc.1.resolve_left hn) (c_rdF_idx h1)
  · rw [decide_eq_false h1, cond_false] at h
    exact absurd h h1
theorem c_ply_cld {kd sz : Nat → Int32} {chg : Nat → cC} (hz : c_szok sz) : ∀ {t : List Nat} {R : cR}, (∀ a ∈ t, c_ok (chg a)) → (c_ply kd sz chg t R).1 = none → ∀ a ∈ t, c_cld (chg a) := by
  intro t
  induction t with
  | nil => intro R _ _ a h; cases h
  | cons b t ih =>
    intro R hok h a ha
    by_cases h0 : c_fd kd sz R (chg b) = 0
    · rw [c_ply_ok h0] at h
      rcases List.mem_cons.mp ha with rfl | ha
      · exact c_cld_of hz (hok _ List.mem_cons_self) h0
      · exact ih (fun c hc => hok c (List.mem_cons_of_mem _ hc)) h a ha
    · rw [c_ply_bad h0] at h; cases h
theorem c_blk_mem {p : Nat} : ∀ {d k a : Nat}, a ∈ c_blk p k d → ∃ j, k ≤ j ∧ j < k + d ∧ a = 6 * p + j := by
  intro d
  induction d with
  | zero => intro k a h; cases h
  | succ d ih =>
    intro k a h
    rcases List.mem_cons.mp h with rfl | h
    · exact ⟨k, Nat.le_refl _, by omega, rfl⟩
    · obtain ⟨j, h1, h2, h3⟩ := ih h
      exact ⟨j, by omega, by omega, h3⟩
theorem c_blk_in {p : Nat} : ∀ {d k j : Nat}, k ≤ j → j < k + d → 6 * p + j ∈ c_blk p k d := by
  intro d
  induction d with
  | zero => intro k j h1 h2; omega
  | succ d ih =>
    intro k j h1 h2
    rcases Nat.eq_or_lt_of_le h1 with rfl | h
    · exact List.mem_cons_self
    · exact List.mem_cons_of_mem _ (ih h (by omega))
theorem c_line_mem {len : Nat → Nat} {l : List Nat} : ∀ {a : Nat}, a ∈ c_line len l → ∃ p ∈ l, ∃ k, k < len p ∧ a = 6 * p + k := by
  induction l with
  | nil => intro a h; cases h
  | cons p m ih =>
    intro a h
    rcases List.mem_append.mp h with h | h
    · obtain ⟨j, h1, h2, h3⟩ := c_blk_mem h
      exact ⟨p, List.mem_cons_self, j, by omega, h3⟩
    · obtain ⟨q, h1, h2⟩ := ih h
      exact ⟨q, List.mem_cons_of_mem _ h1, h2⟩
theorem c_line_in {len : Nat → Nat} {l : List Nat} {p k : Nat} (hp : p ∈ l) (hk : k < len p) : 6 * p + k ∈ c_line len l := by
  induction l with
  | nil => cases hp
  | cons q m ih =>
    rcases List.mem_cons.mp hp with rfl | hp
    · exact List.mem_append_left _ (c_blk_in (Nat.zero_le _) (by omega))
    · exact List.mem_append_right _ (ih hp)
theorem c_line_app {len : Nat → Nat} {l m : List Nat} : c_line len (l ++ m) = c_line len l ++ c_line len m := by
  induction l with
  | nil => rfl
  | cons p r ih => show c_blk p 0 (len p) ++ c_line len (r ++ m) = (c_blk p 0 (len p) ++ c_line len r) ++ c_line len m; rw [ih, List.append_assoc]
theorem c_mask_skip {chg : Nat → cC} {q : Nat} {s t : List Nat} (h : ∀ a ∈ s, a / 6 ≠ q) : c_mask chg (s ++ t) q = c_mask chg t q := by
  induction s with
  | nil => rfl
  | cons a s ih =>
    have hb : Nat.beq (a / 6) q = false := by
      cases hb : Nat.beq (a / 6) q with
      | false => rfl
      | true => exact absurd (Nat.eq_of_beq_eq_true hb) (h a List.mem_cons_self)
    show cond (_ && Nat.beq (a / 6) q) _ _ = _
    rw [hb, Bool.and_false, cond_false]
    exact ih (fun b hb => h b (List.mem_cons_of_mem _ hb))
theorem c_mask_none {chg : Nat → cC} {q : Nat} {t : List Nat} (h : ∀ a ∈ t, a / 6 ≠ q) : c_mask chg t q = 0 := by
  have := c_mask_skip (chg := chg) (t := []) h
  rw [List.append_nil] at this
  exact this
theorem c_nst_z {c : cC} {N : Nat → Int32} (h : ∀ i, pu_z (N i)) : ∀ i, pu_z (c_nst c N i) := by
  intro i
  have hu : ∀ (f : Nat → Int32) (j : Nat) (x : Int32), (∀ i, pu_z (f i)) → pu_z x → ∀ i, pu_z (upd f j x i) := fun f j x hf hx i => by
    by_cases e : i = j
    · rw [e, pk_us]; exact hx
    · rw [pk_un e]; exact hf i
  unfold c_nst
  cases decide (N (c_tc c) = 0) with
  | true => exact hu _ _ _ h pu_z0 i
  | false =>
    cases decide (c.1 = (-1 : Int32)) with
    | true => exact hu _ _ _ h pu_z0 i
    | false => exact hu _ _ _ (hu _ _ _ h pu_z0) pu_z1 i
theorem c_need_z {chg : Nat → cC} : ∀ (t : List Nat) (i : Nat), pu_z (c_need chg t i)
  | [], _ => pu_z1
  | _ :: t, i => c_nst_z (c_need_z t) i
theorem c_nst_agr {c : cC} {N M : Nat → Int32} (hc : c_tc c < 72) (h : ∀ i, i < 72 → N i = M i) : ∀ i, i < 72 → c_nst c N i = c_nst c M i := by
  intro i hi
  have hu : ∀ (f g : Nat → Int32) (j : Nat) (x : Int32), (∀ i, i < 72 → f i = g i) → ∀ i, i < 72 → upd f j x i = upd g j x i := fun f g j x hf i hi => by
    by_cases e : i = j
    · rw [e, pk_us, pk_us]
    · rw [pk_un e, pk_un e]; exact hf i hi
  unfold c_nst
  rw [h _ hc]
  cases decide (M (c_tc c) = 0) with
  | true => exact hu _ _ _ _ h i hi
  | false =>
    cases decide (c.1 = (-1 : Int32)) with
    | true => exact hu _ _ _ _ h i hi
    | false => exact hu _ _ _ _ (hu _ _ _ _ h) i hi
section DEAD
variable {r : Nat} {E : pd_H} {len : Nat → Nat} {l : List Nat}
theorem Run_isNeeded_s (hr : r = 32 ∨ r = 48 ∨ r = 64) {a : Nat} (ha : a < 150) {σ : pd_H} (hc : c_cld (x_chg σ a)) (hz : pu_z (σ.1 (r + 7) (c_tc (x_chg σ a)))) : Run_isNeeded r (80 + a) σ = some (pu_rwI σ (r + 7) (c_nst (x_chg σ a) (σ.1 (r + 7))), some (pd_i (σ.1 (r + 7) (c_tc (x_chg σ a))))) := by
  obtain ⟨L2, L4, L5, L6, L7, L9, L10, L12, L13, L14, L15⟩ := pu_len_run hr
  have n1 : 80 + a ≠ r + 7 := by omega
  obtain ⟨⟨e1, e2⟩, e3⟩ := hc
  have e1 : σ.1 (80 + a) 3 * 12 + σ.1 (80 + a) 4 = nI (c_tc (x_chg σ a)) := e1
  have e3 : σ.1 (80 + a) 0 ≠ -1 → σ.1 (80 + a) 0 * 12 + σ.1 (80 + a) 1 = nI (c_fc (x_chg σ a)) ∧ c_fc (x_chg σ a) < 72 := e3
  have hup : ∀ (σ : pd_H) (k i : Nat) (x : Int32), pd_upI σ k i x = pu_rwI σ k (upd (σ.1 k) i x) := fun σ k i x => rfl
  rw [Run_isNeeded_eq]
  simp only [X_cellOf_s, pd_bI_of, pd_bJ_of, pd_bV_of, pd_bR_of, cond_true, cond_false, e1, L7, pu_obN e2 (show 72 < 2 ^ 31 by decide), nI_clamp (show c_tc (x_chg σ a) < 2 ^ 31 by omega), pu_c01 hz, show vp_nar .boolean 0 = 0 from rfl, show vp_nar .boolean 1 = 1 from rfl, Change_isCopy_s, pu_u1n n1]
  have hn : c_nst (x_chg σ a) (σ.1 (r + 7)) = cond (decide (σ.1 (r + 7) (c_tc (x_chg σ a)) = 0)) (upd (σ.1 (r + 7)) (c_tc (x_chg σ a)) 0) (cond (decide (σ.1 (80 + a) 0 = (-1 : Int32))) (upd (σ.1 (r + 7)) (c_tc (x_chg σ a)) 0) (upd (upd (σ.1 (r + 7)) (c_tc (x_chg σ a)) 0) (c_fc (x_chg σ a)) 1)) := rfl
  rw [hn]
  by_cases h0 : σ.1 (r + 7) (c_tc (x_chg σ a)) = 0
  · simp only [decide_eq_true h0, pd_bI_of, pd_bJ_of, pd_bV_of, pd_bR_of, cond_true, cond_false]; rfl
  · by_cases h1 : σ.1 (80 + a) 0 = -1
    · simp only [decide_eq_false h0, decide_eq_true h1, pd_bI_of, pd_bJ_of, pd_bV_of, pd_bR_of, cond_true, cond_false, show decide ((0 : Int32) = 0) = true from rfl]; rfl
    · obtain ⟨e4, e5⟩ := e3 h1
      simp only [decide_eq_false h0, decide_eq_false h1, pd_bI_of, pd_bJ_of, pd_bV_of, pd_bR_of, cond_true, cond_false, show decide ((1 : Int32) = 0) = false from rfl, e4, pu_obN e5 (show 72 < 2 ^ 31 by decide), nI_clamp (show c_fc (x_chg σ a) < 2 ^ 31 by omega)]
      rw [hup, hup, pu_w1s]
      refine congrArg some (congrArg (·, _) (pu_H_ext (fun k => ?_) (fun k => rfl) rfl))
      by_cases hk : k = r + 7
      · subst hk; rw [pu_w1s, pu_w1s]
      · rw [pu_w1n hk, pu_w1n hk, pu_w1n hk]
def x_ddK (r k : Nat) : Prop := k = r + 7 ∨ k = r + 15
theorem x_ddK_in : ∀ k, x_ddK r k → r ≤ k ∧ k < r + 16 := fun k h => by unfold x_ddK at h; omega
theorem Run_markDead_L2_s (hr : r = 32 ∨ r = 48 ∨ r = 64) : ∀ d i (σ : pd_H), i + d = 72 → (∀ j, j < i → σ.1 (r + 7) j = 1) → ∃ τ, (∀ d2 d3, Run_markDead_L2 r (nI i) d2 d3 σ = Run_markDead_L31 r (σ.1 (r + 1) 1 - 1) d2 d3 τ) ∧ pu_fr (x_ddK r) σ τ ∧ (∀ j, j < 72 → τ.1 (r + 7) j = 1) := by
  obtain ⟨L2, L4, L5, L6, L7, L9, L10, L12, L13, L14, L15⟩ := pu_len_run hr
  intro d
  induction d with
  | zero =>
    intro i σ hi h
    have hi : i = 72 := hi
    refine ⟨σ, fun d2 d3 => ?_, pu_fr.rf, by rw [← hi]; exact h⟩
    rw [Run_markDead_L2_eq, hi]
    rfl
  | succ d ih =>
    intro i σ hi h
    obtain ⟨τ, t1, t2, t3⟩ := ih (i + 1) (pd_upI σ (r + 7) i 1) (by omega) (fun j hj => by
      rw [pu_u1s]
      by_cases e : j = i
      · rw [e, pk_us]
      · rw [pk_un e]; exact h j (by omega))
    refine ⟨τ, fun d2 d3 => ?_, (pu_fr.upI (Or.inl rfl)).tr t2, t3⟩
    rw [Run_markDead_L2_eq, show (72 : Int32) = nI 72 from rfl]
    simp only [nI_leI (show 72 < 2 ^ 31 by decide) (show i < 2 ^ 31 by omega), show ¬ 72 ≤ i by omega, decide_false, pd_bI_of, pd_bJ_of, pd_bV_of, pd_bR_of, cond_true, cond_false, L7, pu_obN (show i < 72 by omega) (show 72 < 2 ^ 31 by decide), nI_clamp (show i < 2 ^ 31 by omega), show vp_nar .boolean 1 = 1 from rfl, nI_1]
    rw [t1, pu_u1n (show r + 1 ≠ r + 7 by omega)]
theorem pu_m1 (n : Nat) : nI n + (-1) = nI n - 1 := (Int32.sub_eq_add_neg _ _).symm
theorem pu_m0 : nI 0 - 1 < 0 := by decide
set_option maxHeartbeats 4000000 in
theorem Run_markDead_L31_s (hr : r = 32 ∨ r = 48 ∨ r = 64) (hlen : x_lens E len) (hl : pu_seq E (r + 1) l) (hnd : l.Nodup) (h25 : ∀ p ∈ l, p < 25) (hcl : ∀ a ∈ c_line len l, c_cld (x_chg E a)) : ∀ (n : Nat) (d2 d3 : Option pd_V) (σ : pd_H), n ≤ l.length → pu_fr (x_ddK r) E σ → (∀ i, i < 72 → σ.1 (r + 7) i = c_need (x_chg E) (c_line len (l.drop n)) i) → (∀ p ∈ l.drop n, σ.1 (r + 15) p = c_mask (x_chg E) (c_line len (l.drop n)) p) →
    ∃ τ, Run_markDead_L31 r (nI n - 1) d2 d3 σ = some (τ, none) ∧ pu_fr (x_ddK r) E τ ∧ (∀ p ∈ l, τ.1 (r + 15) p = c_mask (x_chg E) (c_line len l) p) := by
  obtain ⟨L2, L4, L5, L6, L7, L9, L10, L12, L13, L14, L15⟩ := pu_len_run hr
  have h24 := hl.2.1
  have kr2 : ¬ x_ddK r (r + 2) := by unfold x_ddK; omega
  have k9 : ¬ x_ddK r 9 := by unfold x_ddK; omega
  have K7 : x_ddK r (r + 7) := Or.inl rfl
  have K15 : x_ddK r (r + 15) := Or.inr rfl
  intro n
  induction n with
  | zero =>
    intro d2 d3 σ _ hE _ hD
    refine ⟨σ, ?_, hE, hD⟩
    rw [Run_markDead_L31_eq, decide_eq_true pu_m0]; rfl
  | succ n ih =>
    intro d2 d3 σ hn hE hN hD
    have hlt : n < l.length := hn
    obtain ⟨p, hp⟩ : ∃ p, l[n]? = some p := ⟨_, List.getElem?_eq_getElem hlt⟩
    have hpl : p ∈ l := List.mem_of_getElem? hp
    have hp25 := h25 p hpl
    have hdrop : l.drop n = p :: l.drop (n + 1) := by
      rw [List.drop_eq_getElem_cons hlt]
      have : l[n] = p := Option.some.inj ((List.getElem?_eq_getElem hlt).symm.trans hp)
      rw [this]
    have hnp : p ∉ l.drop (n + 1) := by
      have : (l.drop n).Nodup := List.Nodup.sublist (List.drop_sublist n l) hnd
      rw [hdrop] at this
      exact (List.nodup_cons.mp this).1
    obtain ⟨hlp, hl6⟩ := hlen p hp25
    generalize hT : l.drop (n + 1) = T at hN hD hnp hdrop
    have hTl : ∀ q ∈ T, q ∈ l := fun q hq => by rw [← hT] at hq; exact List.mem_of_mem_drop hq
    have hdiv : ∀ a ∈ c_line len T, a / 6 ≠ p := fun a ha => by
      obtain ⟨q, h1, k, h2, rfl⟩ := c_line_mem ha
      have := (hlen q (h25 q (hTl q h1))).2
      intro e
      exact hnp (by rw [show p = q by omega]; exact h1)
    -- the changes of p, from k on downwards
    have inner : ∀ (k d : Nat) (σ : pd_H), k + d = len p → pu_fr (x_ddK r) E σ → (∀ i, i < 72 → σ.1 (r + 7) i = c_need (x_chg E) (c_blk p k d ++ c_line len T) i) → (∀ q ∈ p :: T, σ.1 (r + 15) q = c_mask (x_chg E) (c_blk p k d ++ c_line len T) q) →
        ∃ τ, Run_markDead_L64 r (nI n) (nI p) (nI k - 1) σ = some (τ, none) ∧ pu_fr (x_ddK r) E τ ∧ (∀ q ∈ l, τ.1 (r + 15) q = c_mask (x_chg E) (c_line len l) q) := by
      intro k
      induction k with
      | zero =>
        intro d σ hk hE hN hD
        have hk : d = len p := by omega
        rw [Run_markDead_L64_eq, decide_eq_true pu_m0, cond_true, pu_m1]
        have hb : c_blk p 0 d ++ c_line len T = c_line len (l.drop n) := by rw [hdrop, hk]; rfl
        exact ih _ _ σ (Nat.le_of_lt hlt) hE (by rw [← hb]; exact hN) (by rw [← hb, hdrop]; exact hD)
      | succ k ih2 =>
        intro d σ hk hE hN hD
        have hk6 : k < 6 := by omega
        have ha : 6 * p + k < 150 := by omega
        have hcg := x_fr_chg x_ddK_in hr hE (6 * p + k)
        have hcl1 : c_cld (x_chg σ (6 * p + k)) := by rw [hcg]; exact hcl _ (c_line_in hpl (by omega))
        have hz : pu_z (σ.1 (r + 7) (c_tc (x_chg σ (6 * p + k)))) := by rw [hN _ hcl1.1.2]; exact c_need_z _ _
        have hnl : σ.1 (r + 7) (c_tc (x_chg σ (6 * p + k))) = c_need (x_chg E) (c_blk p (k + 1) d ++ c_line len T) (c_tc (x_chg E (6 * p + k))) := by rw [hN _ hcl1.1.2, hcg]
        have hblk : c_blk p k (d + 1) ++ c_line len T = (6 * p + k) :: (c_blk p (k + 1) d ++ c_line len T) := rfl
        have hNN : ∀ i, i < 72 → c_nst (x_chg σ (6 * p + k)) (σ.1 (r + 7)) i = c_need (x_chg E) (c_blk p k (d + 1) ++ c_line len T) i := fun i hi => by
          rw [hblk, hcg]
          exact c_nst_agr (by rw [← hcg]; exact hcl1.1.2) hN i hi
        rw [Run_markDead_L64_eq, nI_pred, decide_eq_false (nI_pos (show k < 2 ^ 31 by omega)), cond_false, X_stepOf_s, c_step_nI]
        simp only [pd_bI_of, pd_bJ_of, pd_bV_of, pd_bR_of, cond_true, cond_false, show pd_len 8 = 150 from rfl, pu_obN ha (show 150 < 2 ^ 31 by decide), nI_clamp (show 6 * p + k < 2 ^ 31 by omega), Run_isNeeded_s hr ha hcl1 hz, L15, pu_obN hp25 (show 25 < 2 ^ 31 by decide), nI_clamp (show p < 2 ^ 31 by omega), pu_m1]
        have hmk : ∀ q, c_mask (x_chg E) (c_blk p k (d + 1) ++ c_line len T) q = cond (decide (σ.1 (r + 7) (c_tc (x_chg σ (6 * p + k))) = 0) && Nat.beq p q) (c_mask (x_chg E) (c_blk p (k + 1) d ++ c_line len T) q ||| c_bit (6 * p + k)) (c_mask (x_chg E) (c_blk p (k + 1) d ++ c_line len T) q) := fun q => by
          rw [hblk, hnl]
          show cond (_ && Nat.beq ((6 * p + k) / 6) q) _ _ = _
          rw [show (6 * p + k) / 6 = p by omega]
        have hbt : c_bit (6 * p + k) = (1 : Int32) <<< (nI k &&& 31) := by unfold c_bit; rw [show (6 * p + k) % 6 = k by omega]
        by_cases h0 : σ.1 (r + 7) (c_tc (x_chg σ (6 * p + k))) = 0
        · simp only [decide_eq_true h0, pd_bI_of, pd_bJ_of, pd_bV_of, pd_bR_of, cond_true, cond_false]
          refine ih2 (d + 1) _ (by omega) ((hE.tr (pu_fr.rwI K7)).tr (pu_fr.upI K15)) ?_ ?_
          · intro i hi
            rw [pu_u1n (show r + 7 ≠ r + 15 by omega), pu_w1s]
            exact hNN i hi
          · intro q hq
            rw [pu_u1s, hmk q, decide_eq_true h0, Bool.true_and]
            by_cases e : q = p
            · subst e
              rw [pk_us, Nat.beq_refl, cond_true, pu_w1n (show r + 15 ≠ r + 7 by omega), hD _ hq, hbt]
            · rw [pk_un e, pu_w1n (show r + 15 ≠ r + 7 by omega), hD q hq]
              have : Nat.beq p q = false := by
                cases hb : Nat.beq p q with
                | false => rfl
                | true => exact absurd (Nat.eq_of_beq_eq_true hb).symm e
              rw [this]; rfl
        · simp only [decide_eq_false h0, pd_bI_of, pd_bJ_of, pd_bV_of, pd_bR_of, cond_true, cond_false]
          refine ih2 (d + 1) _ (by omega) (hE.tr (pu_fr.rwI K7)) ?_ ?_
          · intro i hi
            rw [pu_w1s]
            exact hNN i hi
          · intro q hq
            rw [pu_w1n (show r + 15 ≠ r + 7 by omega), hmk q, decide_eq_false h0, hD q hq]
            rfl
    have hrun : Run_markDead_L31 r (nI (n + 1) - 1) d2 d3 σ = Run_markDead_L64 r (nI n) (nI p) (nI (len p) - 1) (pd_upI σ (r + 15) p 0) := by
      rw [Run_markDead_L31_eq, nI_pred, decide_eq_false (nI_pos (show n < 2 ^ 31 by omega)), cond_false, L2, L15]
      simp only [pu_obN (show n < 24 by omega) (show 24 < 2 ^ 31 by decide), pd_bI_of, pd_bJ_of, pd_bV_of, pd_bR_of, cond_true, cond_false, nI_clamp (show n < 2 ^ 31 by omega), hE.1 _ kr2, hl.2.2 n p hp, pu_obN hp25 (show 25 < 2 ^ 31 by decide), show pd_len 9 = 25 from rfl, nI_clamp (show p < 2 ^ 31 by omega), pu_u1n (show 9 ≠ r + 15 by omega), hE.1 _ k9, hlp]
    rw [hrun]
    refine inner (len p) 0 _ (Nat.add_zero _) (hE.tr (pu_fr.upI K15)) ?_ ?_
    · intro i hi
      rw [pu_u1n (show r + 7 ≠ r + 15 by omega)]
      exact hN i hi
    · intro q hq
      show (pd_upI σ (r + 15) p 0).1 (r + 15) q = c_mask (x_chg E) (c_line len T) q
      rw [pu_u1s]
      by_cases e : q = p
      · rw [e, pk_us, c_mask_none hdiv]
      · rw [pk_un e]
        exact hD q ((List.mem_cons.mp hq).resolve_left e)
theorem Run_markDead_s (hr : r = 32 ∨ r = 48 ∨ r = 64) (hlen : x_lens E len) (hl : pu_seq E (r + 1) l) (hnd : l.Nodup) (h25 : ∀ p ∈ l, p < 25) (hcl : ∀ a ∈ c_line len l, c_cld (x_chg E a)) : ∃ τ, Run_markDead r E = some (τ, none) ∧ pu_fr (x_ddK r) E τ ∧ (∀ p ∈ l, τ.1 (r + 15) p = c_mask (x_chg E) (c_line len l) p) := by
  obtain ⟨σ, s1, s2, s3⟩ := Run_markDead_L2_s hr 72 0 E rfl (fun j hj => absurd hj (Nat.not_lt_zero j))
  obtain ⟨τ, t1, t2, t3⟩ := Run_markDead_L31_s hr hlen hl hnd h25 hcl l.length none none σ (Nat.le_refl _) s2 (fun i hi => by rw [List.drop_length]; exact s3 i hi) (fun p hp => by rw [List.drop_length] at hp; cases hp)
  refine ⟨τ, ?_, t2, t3⟩
  rw [Run_markDead_eq]
  show Run_markDead_L2 r (nI 0) none none E = _
  rw [s1, hl.1]
  exact t1
end DEAD
