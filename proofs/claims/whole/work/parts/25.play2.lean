/-! The desk's play, whole; dependents, what has moved. -/
def x_plK (r k : Nat) : Prop := x_stK r k ∨ x_ddK r k
theorem x_plK_in {r : Nat} : ∀ k, x_plK r k → r ≤ k ∧ k < r + 16 := fun k h => h.elim (x_stK_in k) (x_ddK_in k)
/-- the rows of a run as its play begins -/
def x_init (E : pd_H) (r : Nat) : cR := (pu_cp (E.1 5) (E.1 (r + 4)) 72, pu_cpL (E.2.1 6) (E.2.1 (r + 5)) 72, pu_cp (fun _ => -1) (E.1 (r + 6)) 72, E.1 (r + 9), E.2.1 (r + 10), E.1 (r + 12), E.2.1 (r + 13), E.1 (r + 14))
section PLAY2
variable {r : Nat} {E : pd_H} {len : Nat → Nat} {l : List Nat}
theorem Run_play_L16_s (hr : r = 32 ∨ r = 48 ∨ r = 64) {σ : pd_H} : ∀ d i, i + d = 72 → ∀ d2 d3, Run_play_L16 r (nI i) d2 d3 (pu_rwI σ (r + 6) (pu_cp (fun _ => -1) (σ.1 (r + 6)) i)) = Run_play_L42 r 0 d2 d3 (pd_upI (pu_rwI σ (r + 6) (pu_cp (fun _ => -1) (σ.1 (r + 6)) 72)) r 10 0) := by
  obtain ⟨L2, L4, L5, L6, L7, L9, L10, L12, L13, L14, L15⟩ := pu_len_run hr
  intro d
  induction d with
  | zero =>
    intro i hi d2 d3
    have hi : i = 72 := hi
    rw [Run_play_L16_eq, hi]
    rfl
  | succ d ih =>
    intro i hi d2 d3
    rw [Run_play_L16_eq, show (72 : Int32) = nI 72 from rfl]
    simp only [nI_leI (show 72 < 2 ^ 31 by decide) (show i < 2 ^ 31 by omega), show ¬ 72 ≤ i by omega, decide_false, pd_bI_of, pd_bJ_of, pd_bV_of, pd_bR_of, cond_true, cond_false, L6, pu_obN (show i < 72 by omega) (show 72 < 2 ^ 31 by decide), nI_clamp (show i < 2 ^ 31 by omega), nI_1]
    rw [← ih (i + 1) (by omega) d2 d3]
    congr 1
    refine pu_H_ext (fun k => ?_) (fun k => rfl) rfl
    by_cases hk : k = r + 6
    · subst hk; rw [pu_u1s, pu_w1s, pu_w1s]; exact pu_cp_up (f := fun _ => -1)
    · rw [pu_u1n hk, pu_w1n hk, pu_w1n hk]
/-- behind a play -/
def x_played (E τ : pd_H) (r : Nat) (len : Nat → Nat) (l : List Nat) : Prop :=
  pu_fr (x_plK r) E τ ∧ (∀ j, j < 10 → τ.1 r j = E.1 r j) ∧
    ((c_ply (E.1 2) (E.1 3) (x_chg E) (c_line len l) (x_init E r)).1 = none → x_rows τ r = (c_ply (E.1 2) (E.1 3) (x_chg E) (c_line len l) (x_init E r)).2 ∧ τ.1 r 10 = 0 ∧ ∀ p ∈ l, τ.1 (r + 15) p = c_mask (x_chg E) (c_line len l) p) ∧
    (∀ a f, (c_ply (E.1 2) (E.1 3) (x_chg E) (c_line len l) (x_init E r)).1 = some (a, f) → τ.1 r 10 = f ∧ τ.1 r 11 = nI (a / 6) ∧ τ.1 r 12 = nI (a % 6))
set_option maxHeartbeats 4000000 in
theorem Run_play_s (hr : r = 32 ∨ r = 48 ∨ r = 64) (hz : c_szok (E.1 3)) (hlen : x_lens E len) (hl : pu_seq E (r + 1) l) (hnd : l.Nodup) (hok : x_oks E len l) : ∃ τ, Run_play r E = some (τ, none) ∧ x_played E τ r len l := by
  obtain ⟨L2, L4, L5, L6, L7, L9, L10, L12, L13, L14, L15⟩ := pu_len_run hr
  have Kr : x_stK r r := Or.inl rfl
  have K3 : x_stK r (r + 4) := by unfold x_stK; omega
  have K4 : x_stK r (r + 5) := by unfold x_stK; omega
  have K5 : x_stK r (r + 6) := by unfold x_stK; omega
  have hb := Values_becomeLike_s (o := r + 3) (q := 4) (N := 72) L4 L5 (by rfl) (by rfl) (by decide) (by omega) E
  generalize hE1 : pu_rwJ (pu_rwI E (r + 3 + 1) (pu_cp (E.1 (4 + 1)) (E.1 (r + 3 + 1)) 72)) (r + 3 + 2) (pu_cpL (E.2.1 (4 + 2)) (E.2.1 (r + 3 + 2)) 72) = E1 at hb
  have f1 : pu_fr (x_stK r) E E1 := by rw [← hE1]; exact (pu_fr.rwI K3).tr (pu_fr.rwJ K4)
  have hw := Run_play_L16_s (σ := E1) hr 72 0 rfl none none
  rw [pu_cp0] at hw
  have e0 : pu_rwI E1 (r + 6) (E1.1 (r + 6)) = E1 := by
    refine pu_H_ext (fun k => ?_) (fun k => rfl) rfl
    by_cases hk : k = r + 6
    · subst hk; exact pu_w1s
    · exact pu_w1n hk
  rw [e0] at hw
  generalize hE2 : pd_upI (pu_rwI E1 (r + 6) (pu_cp (fun _ => -1) (E1.1 (r + 6)) 72)) r 10 0 = E2 at hw
  have f2 : pu_fr (x_stK r) E E2 := by rw [← hE2]; exact (f1.tr (pu_fr.rwI K5)).tr (pu_fr.upI Kr)
  have hR : x_rows E2 r = x_init E r := by
    have a1 : r + 4 ≠ r := by omega
    have a2 : r + 4 ≠ r + 6 := by omega
    have a3 : r + 6 ≠ r := by omega
    have a4 : r + 6 ≠ r + 3 + 1 := by omega
    have a5 : r + 9 ≠ r := by omega
    have a6 : r + 9 ≠ r + 6 := by omega
    have a7 : r + 9 ≠ r + 3 + 1 := by omega
    have a8 : r + 12 ≠ r := by omega
    have a9 : r + 12 ≠ r + 6 := by omega
    have a10 : r + 12 ≠ r + 3 + 1 := by omega
    have a11 : r + 14 ≠ r := by omega
    have a12 : r + 14 ≠ r + 6 := by omega
    have a13 : r + 14 ≠ r + 3 + 1 := by omega
    have a14 : r + 10 ≠ r + 3 + 2 := by omega
    have a15 : r + 13 ≠ r + 3 + 2 := by omega
    rw [← hE2, ← hE1]
    unfold x_rows x_init
    simp only [pu_u1n a1, pu_w1n a2, pu_x1, pu_u1n a3, pu_w1s, pu_w1n a4, pu_u1n a5, pu_w1n a6, pu_w1n a7, pu_u1n a8, pu_w1n a9, pu_w1n a10, pu_u1n a11, pu_w1n a12, pu_w1n a13, pu_u2, pu_w2, pu_x2n a14, pu_x2n a15]
    simp only [show r + 4 = r + 3 + 1 by omega, show r + 5 = r + 3 + 2 by omega, pu_w1s, pu_x2s]
  have h10 : ∀ j, j < 10 → E2.1 r j = E.1 r j := fun j hj => by
    rw [← hE2, pu_u1s, pk_un (by omega), pu_w1n (by omega), ← hE1, pu_x1, pu_w1n (by omega)]
  obtain ⟨υ, u1, u2, u3, u4⟩ := Run_play_L42_s hr hz hlen hl hok l 0 none none E2 (by omega) (fun t x h => by rw [Nat.zero_add]; exact h) f2 h10 (by rw [← hE2, pu_u1s, pk_us])
  rw [hR] at u3 u4
  have hrun : Run_play r E = Run_play_L42 r (nI 0) none none E2 := by
    rw [Run_play_eq, hb]
    simp only [pd_bI_of, pd_bJ_of, pd_bV_of, pd_bR_of, cond_true, cond_false]
    exact hw
  cases hres : (c_ply (E.1 2) (E.1 3) (x_chg E) (c_line len l) (x_init E r)).1 with
  | none =>
    obtain ⟨v1, v2, v3⟩ := u3 hres
    have hcl : ∀ a ∈ c_line len l, c_cld (x_chg υ a) := fun a ha => by
      rw [x_fr_chg x_stK_in hr u1]
      refine c_ply_cld hz (fun b hb => ?_) hres a ha
      obtain ⟨p, h1, k, h2, rfl⟩ := c_line_mem hb
      exact (hok p h1).2 k h2
    have hlen2 : x_lens υ len := fun p hp => by rw [u1.1 9 (by unfold x_stK; omega)]; exact hlen p hp
    have hl2 : pu_seq υ (r + 1) l := hl.of (by rw [u1.1 (r + 1) (by unfold x_stK; omega)]) (by rw [u1.1 (r + 1 + 1) (by unfold x_stK; omega)])
    obtain ⟨τ, t1, t2, t3⟩ := Run_markDead_s hr hlen2 hl2 hnd (fun p hp => (hok p hp).1) hcl
    have hrow : x_rows τ r = x_rows υ r := by
      unfold x_rows
      rw [t2.1 (r + 4) (by unfold x_ddK; omega), t2.1 (r + 6) (by unfold x_ddK; omega), t2.1 (r + 9) (by unfold x_ddK; omega), t2.1 (r + 12) (by unfold x_ddK; omega), t2.1 (r + 14) (by unfold x_ddK; omega), t2.2.1 (r + 5) (by unfold x_ddK; omega), t2.2.1 (r + 10) (by unfold x_ddK; omega), t2.2.1 (r + 13) (by unfold x_ddK; omega)]
    have hr0 : τ.1 r = υ.1 r := t2.1 r (by unfold x_ddK; omega)
    have hchg : x_chg υ = x_chg E := funext fun a => x_fr_chg x_stK_in hr u1 a
    refine ⟨τ, ?_, (u1.mono fun k h => Or.inl h).tr (t2.mono fun k h => Or.inr h), fun j hj => by rw [hr0]; exact u2 j hj, fun _ => ⟨hrow.trans v2, by rw [hr0]; exact v3, fun p hp => ?_⟩, fun a f h => by rw [hres] at h; cases h⟩
    · rw [hrun, v1, t1]; rfl
    · rw [t3 p hp, hchg]
  | some q =>
    obtain ⟨a, f⟩ := q
    obtain ⟨v1, v2, v3, v4⟩ := u4 a f hres
    refine ⟨υ, hrun.trans v1, u1.mono fun k h => Or.inl h, u2, fun h => (by rw [hres] at h; cases h), fun b g h => ?_⟩
    rw [hres] at h
    cases h
    exact ⟨v2, v3, v4⟩
theorem Run_standLike_s {q : Nat} (hr : r = 32 ∨ r = 48 ∨ r = 64) (hq : q = 32 ∨ q = 48 ∨ q = 64) (hrq : r ≠ q) (σ : pd_H) : Run_standLike r q σ = some (pu_rwJ (pu_rwI σ (r + 4) (pu_cp (σ.1 (q + 4)) (σ.1 (r + 4)) 72)) (r + 5) (pu_cpL (σ.2.1 (q + 5)) (σ.2.1 (r + 5)) 72), none) := by
  obtain ⟨L2, L4, L5, L6, L7, L9, L10, L12, L13, L14, L15⟩ := pu_len_run hr
  obtain ⟨M2, M4, M5, M6, M7, M9, M10, M12, M13, M14, M15⟩ := pu_len_run hq
  rw [Run_standLike_eq, Values_becomeLike_s (o := r + 3) (q := q + 3) (N := 72) L4 L5 M4 M5 (by decide) (by omega)]
  rfl
end PLAY2
