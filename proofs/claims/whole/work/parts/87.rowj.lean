/-! Row, lose. -/
section ROWJ
variable {σ τ : pd_H} {S : cS}
def c_ty8 (k : Nat) : Int32 := cond (decide ((7 : Int32) < nI k)) 11 (nI k)
theorem c_ty8_s {k : Nat} (hk : k < 15) : c_ty8 k = cond (decide ((8 : Int32) ≤ nI k)) 11 (nI k) ∧ (k < 8 → c_ty8 k = nI k) ∧ (8 ≤ k → c_ty8 k = 11) := by
  have : ∀ k, k < 15 → c_ty8 k = cond (decide ((8 : Int32) ≤ nI k)) 11 (nI k) ∧ (k < 8 → c_ty8 k = nI k) ∧ (8 ≤ k → c_ty8 k = 11) := by decide +kernel
  exact this k hk
theorem c_kt_k {k m : Nat} (hk : k < 15) (hm : m ≤ 12) : c_kt (nI k) m (c_ty8 k) := ⟨hm, Or.inr ⟨k, hk, rfl, (c_ty8_s hk).2.1, (c_ty8_s hk).2.2⟩⟩
theorem M_row_loop {j k : Nat} (hj : j < 6) (hk : k < 15) : ∀ (d i : Nat) (ρ : pd_H) (d3 : Option pd_V), i + d = 12 → ∃ υ, M_row_L86 (nI j) (nI k) d3 (nI i) ρ = some (υ, some (pd_i (ρ.1 232 j))) ∧ pu_fr (fun q => 233 ≤ q ∧ q ≤ 236) ρ υ ∧ (∀ c, ¬ (12 * j + i ≤ c ∧ c < 12 * j + 12) → υ.1 233 c = ρ.1 233 c ∧ υ.2.1 234 c = ρ.2.1 234 c ∧ υ.1 235 c = ρ.1 235 c ∧ υ.2.1 236 c = ρ.2.1 236 c) ∧ ∀ x, i ≤ x → x < 12 → υ.1 233 (12 * j + x) = c_ty8 k ∧ υ.2.1 234 (12 * j + x) = 0 ∧ υ.1 235 (12 * j + x) = c_ty8 k ∧ υ.2.1 236 (12 * j + x) = 0 := by
  have o6 : pd_ob (nI j) 6 = false := pu_obN hj (by decide)
  intro d
  induction d with
  | zero =>
    intro i ρ d3 hi
    refine ⟨ρ, ?_, pu_fr.rf, fun _ _ => ⟨rfl, rfl, rfl, rfl⟩, fun x h1 h2 => by omega⟩
    rw [M_row_L86_eq, show (12 : Int32) = nI 12 from rfl, decide_eq_true (nI_le (show 12 ≤ i by omega) (by omega)), cond_true, show pd_len 232 = 6 from rfl, o6, cond_false, nI_clamp (by omega)]
  | succ d ih =>
    intro i ρ d3 hi
    have e12 : (12 : Int32) * nI j + nI i = nI (12 * j + i) := by rw [show (12 : Int32) = nI 12 from rfl, pk_mul, nI_add]
    have o72 : pd_ob (nI (12 * j + i)) 72 = false := pu_obN (by omega) (by decide)
    generalize hρ : pd_upJ (pd_upI (pd_upJ (pd_upI ρ 233 (12 * j + i) (c_ty8 k)) 234 (12 * j + i) 0) 235 (12 * j + i) (c_ty8 k)) 236 (12 * j + i) 0 = ρ'
    have f : pu_fr (fun q => 233 ≤ q ∧ q ≤ 236) ρ ρ' := by
      rw [← hρ]
      exact (((pu_fr.upI (by omega)).tr (pu_fr.upJ (by omega))).tr (pu_fr.upI (by omega))).tr (pu_fr.upJ (by omega))
    have q233 : ρ'.1 233 = upd (ρ.1 233) (12 * j + i) (c_ty8 k) := by rw [← hρ, pu_j1, pu_u1n (by decide), pu_j1, pu_u1s]
    have q235 : ρ'.1 235 = upd (ρ.1 235) (12 * j + i) (c_ty8 k) := by rw [← hρ, pu_j1, pu_u1s, pu_j1, pu_u1n (by decide)]
    have q234 : ρ'.2.1 234 = vp_updL (ρ.2.1 234) (12 * j + i) 0 := by rw [← hρ, pu_j2n (by decide), pu_u2, pu_j2s, pu_u2]
    have q236 : ρ'.2.1 236 = vp_updL (ρ.2.1 236) (12 * j + i) 0 := by rw [← hρ, pu_j2s, pu_u2, pu_j2n (by decide), pu_u2]
    obtain ⟨υ, u1, u2, u3, u4⟩ := ih (i + 1) ρ' (cond (pd_is2 d3) none d3) (by omega)
    refine ⟨υ, ?_, f.tr u2, fun c hc => ?_, fun x h1 h2 => ?_⟩
    · have e232 : ρ'.1 232 j = ρ.1 232 j := by rw [f.1 232 (by omega)]
      have key : ∀ t0, t0 = c_ty8 k → M_row_L116 (nI j) (nI k) d3 (nI i) t0 (nI (12 * j + i)) 233 ρ = some (υ, some (pd_i (ρ.1 232 j))) := fun t0 e => by
        subst e
        rw [M_row_L116_eq, e12, show pd_len 233 = 72 from rfl, show pd_len 234 = 72 from rfl, show pd_len 235 = 72 from rfl, show pd_len 236 = 72 from rfl, o72, cond_false, cond_false, cond_false, cond_false, cond_false, nI_clamp (by omega)]
        rw [show (pd_upJ (pd_upI ρ 233 (12 * j + i) (c_ty8 k)) 234 (12 * j + i) 0).1 233 (12 * j + i) = c_ty8 k by rw [pu_j1, pu_u1s, pk_us], hρ, ← nI_succ, u1, e232]
      rw [M_row_L86_eq, show (12 : Int32) = nI 12 from rfl, decide_eq_false (nI_ge (show i < 12 by omega) (by decide)), cond_false, show nI 12 * nI j + nI i = nI (12 * j + i) from e12]
      have e8 := (c_ty8_s hk).1
      cases hd : decide ((8 : Int32) ≤ nI k) with
      | true => rw [hd] at e8; exact key 11 e8.symm
      | false => rw [hd] at e8; exact key (nI k) e8.symm
    · obtain ⟨g1, g2, g3, g4⟩ := u3 c (by omega)
      rw [g1, g2, g3, g4, q233, q234, q235, q236]
      have hne : c ≠ 12 * j + i := by omega
      exact ⟨pk_un hne, pk_uLn hne, pk_un hne, pk_uLn hne⟩
    · by_cases e : x = i
      · subst e
        obtain ⟨g1, g2, g3, g4⟩ := u3 (12 * j + x) (by omega)
        rw [g1, g2, g3, g4, q233, q234, q235, q236]
        exact ⟨pk_us, pk_uLs, pk_us, pk_uLs⟩
      · exact u4 x (by omega) h2
/-- the model places -/
theorem M_placed (hw : s_wf S) (h : RM σ S) {j k m : Nat} (hj : j < 6) (hk : k < 15) (hm : m ≤ 12) (hu : s_us S (nI j) = false) (d3 : Option pd_V) : ∃ υ, M_row_L86 (nI j) (nI k) d3 0 (pd_upI (pd_upI σ 231 j (nI k)) 232 j (nI m)) = some (υ, some (pd_i (nI m))) ∧ RM υ (s_rw S j (nI k) m (c_ty8 k)) ∧ MF σ υ := by
  obtain ⟨υ, u1, u2, u3, u4⟩ := M_row_loop hj hk 12 0 (pd_upI (pd_upI σ 231 j (nI k)) 232 j (nI m)) d3 rfl
  have e232 : (pd_upI (pd_upI σ 231 j (nI k)) 232 j (nI m)).1 232 = upd (σ.1 232) j (nI m) := by rw [pu_u1s, pu_u1n (by decide)]
  have fr : pu_fr (fun q => 231 ≤ q ∧ q ≤ 236) σ υ := ((pu_fr.upI (by omega)).tr (pu_fr.upI (by omega))).tr (u2.mono fun q hq => by omega)
  have hne : ∀ k, k < 15 → nI k ≠ (-1 : Int32) := by decide
  have f232 : υ.1 232 = upd (σ.1 232) j (nI m) := by rw [u2.1 232 (by omega)]; exact e232
  refine ⟨υ, ?_, RM_rw hw h hj (c_kt_k hk hm) hu fr ?_ (fun x hx => ?_) (fun _ => ?_) (fun q => absurd q (hne k hk)) (fun c hc => ?_) (fun i hi => u4 i (Nat.zero_le _) (by omega)), MF.of fr (fun q hq => by omega)⟩
  · rw [show (0 : Int32) = nI 0 from rfl, u1, e232, pk_us]
  · rw [u2.1 231 (by omega), pu_u1n (by decide), pu_u1s]
  · rw [f232, pk_un hx]
  · rw [f232, pk_us]
  · obtain ⟨g1, g2, g3, g4⟩ := u3 c (fun q => hc ⟨by omega, q.2⟩)
    rw [g1, g2, g3, g4, pu_u1n (by decide), pu_u1n (by decide), pu_u1n (by decide), pu_u1n (by decide)]
    exact ⟨rfl, rfl, rfl, rfl⟩
theorem J_row (h : JR σ S) (a b c : Int32) : JI (X_row a b c) (M_row a b c) σ := by
  have hw := h.1
  rcases c_slv_cases a with ⟨ha, ea⟩ | ⟨ea, -⟩
  · obtain ⟨j, hj, rfl⟩ := pu_sl_nI ha
    have o6 : pd_ob (nI j) 6 = false := pu_obN hj (by decide)
    rcases c_pcase b (show 15 < 2 ^ 31 by decide) with ⟨k, hk, rfl⟩ | hb
    · have k14 : decide (nI k ≤ (14 : Int32)) = true := decide_eq_true (nI_le (show k ≤ 14 by omega) (by decide))
      have kM : ∀ ρ, M_in (nI k) 0 14 ρ = some (ρ, some (pd_i 1)) := fun ρ => c_in_k (n := 15) (by decide) hk (by decide) ρ
      have k0 : decide (nI k < 0) = false := decide_eq_false (nI_pos (by omega))
      have k12 : decide ((12 : Int32) < nI k) = !Nat.blt k 13 := by
        have : ∀ k, k < 15 → decide ((12 : Int32) < nI k) = !Nat.blt k 13 := by decide
        exact this k hk
      have k13 : decide ((13 : Int32) ≤ nI k) = !Nat.blt k 13 := by
        have : ∀ k, k < 15 → decide ((13 : Int32) ≤ nI k) = !Nat.blt k 13 := by decide
        exact this k hk
      have base : X_row (nI j) (nI k) c σ = cond (Nat.blt k 13) (cond (decide (c ≤ (12 : Int32))) (X_row_L47 (nI j) (nI k) c 1 σ) (some (σ, some (pd_i (-2))))) (X_row_L47 (nI j) (nI k) c 0 σ) := by
        rw [X_row_eq, X_slot, ea, pd_bI_of, decide_eq_false (by decide : ¬ (1 : Int32) = 0), cond_false, k0, cond_false, k14, cond_true, k12]
        cases Nat.blt k 13 <;> rfl
      have baseM : ∀ ρ, M_row (nI j) (nI k) c ρ = cond (Nat.blt k 13) (cond (decide (c ≤ (12 : Int32))) (M_row_L32 (nI j) (nI k) c none ρ) (some (ρ, some (pd_i (-2))))) (M_row_L32 (nI j) (nI k) c none ρ) := fun ρ => by
        rw [M_row_eq, M_slot, ea, pd_bI_of, decide_eq_false (by decide : ¬ (1 : Int32) = 0), cond_false, kM, pd_bI_of, decide_eq_false (by decide : ¬ (1 : Int32) = 0), cond_false, k13]
        cases Nat.blt k 13 <;> rfl
      have used : s_us S (nI j) = true → ∀ l4, X_row_L47 (nI j) (nI k) c l4 σ = some (σ, some (pd_i (-3))) := fun q l4 => by
        rw [X_row_L47_eq, X_used_s hw h.2.1, q, cond_true, pd_bI_of, decide_eq_false (by decide : ¬ (1 : Int32) = 0), cond_false]
      have usedM : s_us S (nI j) = true → ∀ ρ, RM ρ S → M_row_L32 (nI j) (nI k) c none ρ = some (ρ, some (pd_i (-3))) := fun q ρ g => by
        rw [M_row_L32_eq, M_used_s hw g ha, q, cond_true, pd_bI_of, decide_eq_false (by decide : ¬ (1 : Int32) = 0), cond_false]
      cases hu : s_us S (nI j) with
      | true =>
        cases h13 : Nat.blt k 13 with
        | false => exact JI.same (v := -3) h (by rw [base, h13, cond_false, used hu]) (fun g => by rw [baseM, h13, cond_false, usedM hu _ g])
        | true =>
          by_cases hc : c ≤ 12
          · exact JI.same (v := -3) h (by rw [base, h13, cond_true, decide_eq_true hc, cond_true, used hu]) (fun g => by rw [baseM, h13, cond_true, decide_eq_true hc, cond_true, usedM hu _ g])
          · exact JI.same (v := -2) h (by rw [base, h13, cond_true, decide_eq_false hc, cond_false]) (fun g => by rw [baseM, h13, cond_true, decide_eq_false hc, cond_false])
      | false =>
        have place : ∀ m, m ≤ 12 → (X_row (nI j) (nI k) c σ = pd_bV (Shelf_place (nI j) (nI k) (nI m) σ) fun s1 => pd_bV (Run_play (s1.2.2 0) s1) fun s2 => some (s2, some (pd_i (nI m)))) → (∀ ρ, RM ρ S → M_row (nI j) (nI k) c ρ = M_row_L86 (nI j) (nI k) (some (pd_i c)) 0 (pd_upI (pd_upI ρ 231 j (nI k)) 232 j (nI m))) → JI (X_row (nI j) (nI k) c) (M_row (nI j) (nI k) c) σ := fun m hm eX eM => by
          obtain ⟨ρ, τ, t1, t2, t3, t4⟩ := X_placed hw h.2.1 hj (c_kt_k hk hm) hu
          refine JI.of (v := nI m) h (s_rw_wf hw hj (c_kt_k hk hm) hu) (eX.trans ?_) t3 t4 (fun g => ?_)
          · rw [t1, pd_bV_of, t2, pd_bV_of]
          · obtain ⟨υ, u1, u2, u3⟩ := M_placed hw g hj hk hm hu (some (pd_i c))
            exact ⟨υ, (eM τ g).trans u1, u2, u3⟩
        have X47 : ∀ l4, X_row_L47 (nI j) (nI k) c l4 σ = cond (decide (l4 = 0)) (X_row_L73 (nI j) (nI k) c l4 σ) (cond (decide (0 ≤ c)) (X_row_L73 (nI j) (nI k) c l4 σ) (some (σ, some (pd_i (-10 - 7))))) := fun l4 => by
          rw [X_row_L47_eq, X_used_s hw h.2.1, hu, cond_false, pd_bI_of, decide_eq_true (rfl : (0 : Int32) = 0), cond_true, X_findingCode_s, pd_bI_of]
        have M32 : ∀ ρ, RM ρ S → M_row_L32 (nI j) (nI k) c none ρ = cond (!Nat.blt k 13) (M_row_L59 (nI j) (nI k) c none ρ) (cond (decide (0 ≤ c)) (M_row_L59 (nI j) (nI k) c none ρ) (some (ρ, some (pd_i (-10 - 7))))) := fun ρ g => by
          rw [M_row_L32_eq, M_used_s hw g ha, hu, cond_false, pd_bI_of, decide_eq_true (rfl : (0 : Int32) = 0), cond_true, k13, M_refused_s, pd_bI_of]
        cases h13 : Nat.blt k 13 with
        | false =>
          refine place 0 (by decide) ?_ (fun ρ g => ?_)
          · rw [base, h13, cond_false, X47, decide_eq_true (rfl : (0 : Int32) = 0), cond_true, X_row_L73_eq, decide_eq_true (rfl : (0 : Int32) = 0), cond_true, X_row_L89_eq]
            rfl
          · rw [baseM, h13, cond_false, M32 ρ g, h13, Bool.not_false, cond_true, M_row_L59_eq, show pd_len 231 = 6 from rfl, show pd_len 232 = 6 from rfl, o6, cond_false, k13, h13, Bool.not_false, cond_true, cond_false, nI_clamp (by omega)]
            rfl
        | true =>
          by_cases hc : c ≤ 12
          · by_cases h0 : 0 ≤ c
            · obtain ⟨m, m1, rfl⟩ := nI_of (Int32.not_lt.mpr h0)
              have hm : m ≤ 12 := by
                rw [show (12 : Int32) = nI 12 from rfl, nI_leI m1 (by decide)] at hc; exact hc
              refine place m hm ?_ (fun ρ g => ?_)
              · rw [base, h13, cond_true, decide_eq_true hc, cond_true, X47, decide_eq_false (by decide : ¬ (1 : Int32) = 0), cond_false, decide_eq_true h0, cond_true, X_row_L73_eq, decide_eq_false (by decide : ¬ (1 : Int32) = 0), cond_false, X_row_L89_eq]
                rfl
              · rw [baseM, h13, cond_true, decide_eq_true hc, cond_true, M32 ρ g, h13, Bool.not_true, cond_false, decide_eq_true h0, cond_true, M_row_L59_eq, show pd_len 231 = 6 from rfl, show pd_len 232 = 6 from rfl, o6, cond_false, k13, h13, Bool.not_true, cond_false, cond_false, nI_clamp (by omega)]
            · exact JI.same (v := -10 - 7) h (by rw [base, h13, cond_true, decide_eq_true hc, cond_true, X47, decide_eq_false (by decide : ¬ (1 : Int32) = 0), cond_false, decide_eq_false h0, cond_false]) (fun g => by rw [baseM, h13, cond_true, decide_eq_true hc, cond_true, M32 _ g, h13, Bool.not_true, cond_false, decide_eq_false h0, cond_false])
          · exact JI.same (v := -2) h (by rw [base, h13, cond_true, decide_eq_false hc, cond_false]) (fun g => by rw [baseM, h13, cond_true, decide_eq_false hc, cond_false])
    · refine JI.same (v := -2) h ?_ (fun g => ?_)
      · rw [X_row_eq, X_slot, ea, pd_bI_of, decide_eq_false (by decide : ¬ (1 : Int32) = 0), cond_false]
        rcases hb with q | q
        · rw [decide_eq_true q, cond_true]
        · have : ¬ b ≤ 14 := fun e => absurd (Int32.le_trans q e) (by decide)
          rw [decide_eq_false this, cond_false, Bool.cond_self]
      · rw [M_row_eq, M_slot, ea, pd_bI_of, decide_eq_false (by decide : ¬ (1 : Int32) = 0), cond_false, c_in_ko (n := 15) (by decide) (by decide) hb, pd_bI_of, decide_eq_true (rfl : (0 : Int32) = 0), cond_true]
  · exact JI.same (v := -2) h (by rw [X_row_eq, X_slot, ea, pd_bI_of, decide_eq_true (rfl : (0 : Int32) = 0), cond_true]) (fun g => by rw [M_row_eq, M_slot, ea, pd_bI_of, decide_eq_true (rfl : (0 : Int32) = 0), cond_true])
theorem J_lose (h : JR σ S) (a : Int32) : JI (X_lose a) (M_lose a) σ := by
  have hw := h.1
  rcases c_slv_cases a with ⟨ha, ea⟩ | ⟨ea, -⟩
  · obtain ⟨j, hj, rfl⟩ := pu_sl_nI ha
    have o6 : pd_ob (nI j) 6 = false := pu_obN hj (by decide)
    have e2 : σ.1 2 j = s_kd S j := by rw [h.2.1.1.1]
    cases hu : s_us S (nI j) with
    | true => exact JI.same (v := -3) h (by rw [X_lose_eq, X_slot, ea, pd_bI_of, decide_eq_false (by decide : ¬ (1 : Int32) = 0), cond_false, X_used_s hw h.2.1, hu, cond_true, pd_bI_of, decide_eq_false (by decide : ¬ (1 : Int32) = 0), cond_false]) (fun g => by rw [M_lose_eq, M_slot, ea, pd_bI_of, decide_eq_false (by decide : ¬ (1 : Int32) = 0), cond_false, M_used_s hw g ha, hu, cond_true, pd_bI_of, decide_eq_false (by decide : ¬ (1 : Int32) = 0), cond_false])
    | false =>
      have eX : X_lose (nI j) σ = cond (decide (s_kd S j = (-1 : Int32))) (some (σ, some (pd_i (-10 - 1)))) (pd_bV (Shelf_place (nI j) (-1) (nI 0) σ) fun s5 => pd_bV (Run_play (s5.2.2 0) s5) fun s6 => some (s6, some (pd_i (s_kd S j)))) := by
        rw [X_lose_eq, X_slot, ea, pd_bI_of, decide_eq_false (by decide : ¬ (1 : Int32) = 0), cond_false, X_used_s hw h.2.1, hu, cond_false, pd_bI_of, decide_eq_true (rfl : (0 : Int32) = 0), cond_true, show pd_len 2 = 6 from rfl, o6, cond_false, nI_clamp (by omega), e2, X_findingCode_s, pd_bI_of]
        rfl
      have eM : ∀ ρ, RM ρ S → M_lose (nI j) ρ = cond (decide (s_kd S j = (-1 : Int32))) (some (ρ, some (pd_i (-10 - 1)))) (some (pd_upI ρ 231 j (-1), some (pd_i (s_kd S j)))) := fun ρ g => by
        have ek : ρ.1 231 j = s_kd S j := (g.1.1 j hj).1.symm
        rw [M_lose_eq, M_slot, ea, pd_bI_of, decide_eq_false (by decide : ¬ (1 : Int32) = 0), cond_false, M_used_s hw g ha, hu, cond_false, pd_bI_of, decide_eq_true (rfl : (0 : Int32) = 0), cond_true, show pd_len 231 = 6 from rfl, o6, cond_false, cond_false, cond_false, nI_clamp (by omega), ek, M_refused_s, pd_bI_of]
      by_cases hk : s_kd S j = -1
      · exact JI.same (v := -10 - 1) h (by rw [eX, decide_eq_true hk, cond_true]) (fun g => by rw [eM _ g, decide_eq_true hk, cond_true])
      · have hkt : c_kt (-1) 0 (cond (decide ((7 : Int32) < -1)) 11 (-1)) := ⟨by decide, Or.inl ⟨rfl, rfl⟩⟩
        obtain ⟨ρ, τ, t1, t2, t3, t4⟩ := X_placed hw h.2.1 hj hkt hu
        refine JI.of (v := s_kd S j) h (s_rw_wf hw hj hkt hu) (eX.trans ?_) t3 t4 (fun g => ?_)
        · rw [decide_eq_false hk, cond_false, t1, pd_bV_of, t2, pd_bV_of]
        · have fr : pu_fr (fun k => 231 ≤ k ∧ k ≤ 236) τ (pd_upI τ 231 j (-1)) := pu_fr.upI (by omega)
          refine ⟨pd_upI τ 231 j (-1), by rw [eM τ g, decide_eq_false hk, cond_false], RM_rw hw g hj hkt hu fr (by rw [pu_u1s]) (fun x hx => by rw [pu_u1n (by decide)]) (fun q => absurd rfl q) (fun _ => by rw [pu_u1n (by decide)]) (fun c hc => ?_) (fun i hi => absurd hi (Nat.not_lt_zero _)), MF.of fr (fun k hk => by omega)⟩
          rw [pu_u1n (by decide), pu_u1n (by decide)]
          exact ⟨rfl, rfl, rfl, rfl⟩
  · exact JI.same (v := -2) h (by rw [X_lose_eq, X_slot, ea, pd_bI_of, decide_eq_true (rfl : (0 : Int32) = 0), cond_true]) (fun g => by rw [M_lose_eq, M_slot, ea, pd_bI_of, decide_eq_true (rfl : (0 : Int32) = 0), cond_true])
end ROWJ
