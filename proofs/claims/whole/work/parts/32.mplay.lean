/-! The model's plays. -/
theorem c_tc_eq {s i : Int32} (hs : pu_sl s) {j k : Nat} (hj : j < 6) (hk : k < 12) (hi : ∃ m : Nat, m < 12 ∧ i = nI m) (h : 12 * j + k = c_cell s i) : s = nI j ∧ i = nI k := by
  obtain ⟨m, h1, rfl⟩ := hi
  obtain ⟨q, h2, rfl⟩ := pu_sl_nI hs
  rw [c_cell_eq h2 h1] at h
  exact ⟨by rw [show q = j by omega], by rw [show m = k by omega]⟩
theorem c_tak_low : ∀ k, k < 8 → ∀ t, t < 12 → c_tak (nI k) (nI t) ≠ 0 → t < 8 ∧ c_wid (nI t) (nI k) ≠ 0 := c_tak_wid
/-- cells stay good -/
theorem c_one_cells {kd sz : Nat → Int32} {R : cR} {c : cC} {p : Int32} {a : Nat} (hk : c_kok kd) (hz : c_zok sz) (hc : c_cells kd sz R.1 R.2.1) (h : c_chok c) (h0 : c_fd kd sz R c = 0) : c_cells kd sz (c_one kd p a c R).1 (c_one kd p a c R).2.1 := by
  have h1 : c_f1 kd sz c = 0 := by
    unfold c_fd at h0
    by_cases q : c_f1 kd sz c = 0
    · exact q
    · rw [decide_eq_false q, cond_false] at h0; exact absurd h0 q
  have h2 : c_f2 kd sz R c = 0 := by
    unfold c_fd at h0
    rw [h1] at h0; exact h0
  obtain ⟨t, t1, t2, t3, t4, w, w1, w2, w3⟩ := c_held_ok hk hz hc h h1
  have hs : pu_sl c.2.2.2.1 := h.1.2
  have harr := c_wrF_arr h2
  have hidx := c_wrF_idx h2
  obtain ⟨k, k1, k2⟩ := c_arrF_0 hk hs harr
  -- the new value
  have hnew : c_okv (c_nt kd R c) (c_nn kd R c) ∧ (kd c.2.2.2.1.toNatClampNeg ≤ 7 → c_nt kd R c = kd c.2.2.2.1.toNatClampNeg) := by
    unfold c_nt c_nn
    by_cases h7 : 7 < kd c.2.2.2.1.toNatClampNeg
    · rw [decide_eq_true h7, cond_true, cond_true, t2]
      exact ⟨t4, fun q => absurd (Int32.lt_of_lt_of_le h7 q) (Int32.lt_irrefl)⟩
    · rw [decide_eq_false h7, cond_false, cond_false]
      refine ⟨?_, fun _ => rfl⟩
      have h7' : kd c.2.2.2.1.toNatClampNeg ≤ 7 := Int32.not_lt.mp h7
      have hk8 : k < 8 := by
        rw [k2, show (7 : Int32) = nI 7 from rfl, nI_leI (by omega) (by decide)] at h7'
        omega
      have htk : c_tak (nI k) (nI t) ≠ 0 := by
        intro e
        unfold c_f2 c_wrF at h2
        rw [decide_eq_true harr, cond_true, decide_eq_true h7', cond_true, t3, k2, decide_eq_true e, cond_true] at h2
        exact absurd h2 (by decide)
      obtain ⟨e1, e2⟩ := c_tak_wid k hk8 t t1 htk
      rw [k2, t2]
      exact c_wd_ok e1 hk8 t4 e2
  intro j hj ha i hi hsz
  show c_okv (upd R.1 (c_tc c) (c_nt kd R c) (12 * j + i)) (vp_updL R.2.1 (c_tc c) (c_nn kd R c) (12 * j + i)) ∧ (kd j ≤ 7 → upd R.1 (c_tc c) (c_nt kd R c) (12 * j + i) = kd j)
  by_cases e : 12 * j + i = c_tc c
  · obtain ⟨e1, e2⟩ := c_tc_eq hs hj hi (by obtain ⟨m, m1, m2, -⟩ := c_idxF_0 hz.sz hs hidx; exact ⟨m, m1, m2⟩) e
    rw [e, pk_us, pk_uLs]
    refine ⟨hnew.1, fun q => ?_⟩
    have := hnew.2
    rw [e1, nI_clamp (by omega)] at this
    exact this q
  · rw [pk_un e, pk_uLn e]
    exact hc j hj ha i hi hsz
/-- the rows as the model's plays begin -/
def m_init (σ : pd_H) : cR := (pu_cp (σ.1 235) (σ.1 233) 72, pu_cpL (σ.2.1 236) (σ.2.1 234) 72, pu_cp (fun _ => -1) (σ.1 237) 72, σ.1 247, σ.2.1 248, σ.1 245, σ.2.1 246, σ.1 249)
def m_lens (σ : pd_H) (len : Nat → Nat) : Prop := ∀ p, p < 25 → σ.1 244 p = nI (len p) ∧ len p ≤ 6
/-- the changes of some patches, as the model holds them -/
def m_chs (σ : pd_H) (len : Nat → Nat) (chg : Nat → cC) (l : List Nat) : Prop := ∀ p ∈ l, p < 25 ∧ ∀ k, k < len p → m_is σ (6 * p + k) (chg (6 * p + k)) ∧ c_chok (chg (6 * p + k))
theorem m_is_fr {σ τ : pd_H} {K : Nat → Prop} (h : pu_fr K σ τ) (hK : ∀ k, K k → k < 238 ∨ 243 < k) {a : Nat} {c : cC} (hc : m_is σ a c) : m_is τ a c := by
  have e : ∀ k, 238 ≤ k → k ≤ 243 → τ.1 k = σ.1 k := fun k h1 h2 => h.1 k (fun q => by have := hK k q; omega)
  unfold m_is m_wr m_co at hc ⊢
  rw [e 238 (by omega) (by omega), e 239 (by omega) (by omega), e 240 (by omega) (by omega), e 241 (by omega) (by omega), e 242 (by omega) (by omega), e 243 (by omega) (by omega)]
  exact hc
theorem m_doK_in : ∀ k, m_doK k → k < 238 ∨ 243 < k := fun k h => by unfold m_doK m_mvK at h; omega
section MPLAY
variable {σ : pd_H} {len : Nat → Nat} {chg : Nat → cC}
/-- what plays leaves -/
def m_plo (E τ : pd_H) (chg : Nat → cC) (cs : List Nat) (R : cR) (run : Option pd_R) : Prop :=
  pu_fr m_doK E τ ∧ (∀ j, j ≠ 31 → j ≠ 33 → j ≠ 34 → τ.1 230 j = E.1 230 j) ∧ τ.1 256 = E.1 256 ∧
    ((c_ply (E.1 231) (E.1 232) chg cs R).1 = none → run = some (τ, some (pd_i 0)) ∧ m_R τ = (c_ply (E.1 231) (E.1 232) chg cs R).2) ∧
    (∀ a f, (c_ply (E.1 231) (E.1 232) chg cs R).1 = some (a, f) → run = some (τ, some (pd_i f)) ∧ τ.1 230 33 = nI (a / 6) ∧ τ.1 230 34 = nI (a % 6))
set_option maxHeartbeats 4000000 in
theorem M_plays_L47_s {E : pd_H} {n : Nat} (hn24 : n ≤ 24) (hk : c_kok (E.1 231)) (hz : c_zok (E.1 232)) (hlen : m_lens E len) : ∀ (m : List Nat) (i : Nat) (d3 d4 d5 : Option pd_V) (σ : pd_H), i + m.length = n → (∀ t x, m[t]? = some x → E.1 251 (i + t) = nI x) → m_chs E len chg m → pu_fr m_doK E σ → (∀ j, j ≠ 31 → j ≠ 33 → j ≠ 34 → σ.1 230 j = E.1 230 j) → σ.1 256 = E.1 256 → c_cells (E.1 231) (E.1 232) (σ.1 233) (σ.2.1 234) →
    ∃ τ, m_plo E τ chg (c_line len m) (m_R σ) (M_plays_L47 (nI n) (nI i) d3 d4 d5 σ) := by
  have k244 : ¬ m_doK 244 := by unfold m_doK m_mvK; omega
  have k251 : ¬ m_doK 251 := by unfold m_doK m_mvK; omega
  have k231 : ¬ m_doK 231 := by unfold m_doK m_mvK; omega
  have k232 : ¬ m_doK 232 := by unfold m_doK m_mvK; omega
  have K230 : m_doK 230 := by unfold m_doK m_mvK; omega
  intro m
  induction m with
  | nil =>
    intro i d3 d4 d5 σ hi _ _ hE h230 h256 _
    have hi : i = n := hi
    refine ⟨σ, hE, h230, h256, fun _ => ⟨?_, rfl⟩, fun a f h => by cases h⟩
    rw [M_plays_L47_eq, hi]
    simp only [nI_leI (show n < 2 ^ 31 by omega) (show n < 2 ^ 31 by omega), Nat.le_refl, decide_true, pd_bI_of, pd_bJ_of, pd_bV_of, pd_bR_of, cond_true, cond_false]
  | cons p m ih =>
    intro i d3 d4 d5 σ hi hm hch hE h230 h256 hcl
    have hi : i + (m.length + 1) = n := hi
    have hp : E.1 251 i = nI p := by have := hm 0 p rfl; rwa [Nat.add_zero] at this
    obtain ⟨hp25, hpk⟩ := hch p List.mem_cons_self
    have hmt : ∀ t x, m[t]? = some x → E.1 251 (i + 1 + t) = nI x := fun t x h => by
      rw [show i + 1 + t = i + (t + 1) by omega]; exact hm (t + 1) x h
    have hch' : m_chs E len chg m := fun q hq => hch q (List.mem_cons_of_mem _ hq)
    obtain ⟨hlp, hl6⟩ := hlen p hp25
    have inner : ∀ (d k : Nat) (d5 : Option pd_V) (σ : pd_H), k + d = len p → pu_fr m_doK E σ → (∀ j, j ≠ 31 → j ≠ 33 → j ≠ 34 → σ.1 230 j = E.1 230 j) → σ.1 256 = E.1 256 → c_cells (E.1 231) (E.1 232) (σ.1 233) (σ.2.1 234) →
        ∃ τ, m_plo E τ chg (c_blk p k d ++ c_line len m) (m_R σ) (M_plays_L62 (nI n) (nI i) (nI p) (nI k) d5 σ) := by
      intro d
      induction d with
      | zero =>
        intro k d5 σ hk' hE h230 h256 hcl
        have hk' : k = len p := hk'
        rw [M_plays_L62_eq, hE.1 _ k244]
        simp only [show pd_len 244 = 25 from rfl, pu_obN hp25 (show 25 < 2 ^ 31 by decide), nI_clamp (show p < 2 ^ 31 by omega), hlp, hk', nI_leI (show len p < 2 ^ 31 by omega) (show len p < 2 ^ 31 by omega), Nat.le_refl, decide_true, pd_bI_of, pd_bJ_of, pd_bV_of, pd_bR_of, cond_true, cond_false, nI_1]
        exact ih (i + 1) _ _ _ σ (by omega) hmt hch' hE h230 h256 hcl
      | succ d ih2 =>
        intro k d5 σ hk' hE h230 h256 hcl
        have hk6 : k < 6 := by omega
        obtain ⟨hmi, hco⟩ := hpk k (by omega)
        obtain ⟨τ, t1, t2, t3, t4, t5, t6⟩ := M_does_s (σ := σ) (a := 6 * p + k) (by omega) (m_is_fr hE m_doK_in hmi) (by rw [hE.1 _ k231]; exact hk) (by rw [hE.1 _ k232]; exact hz) (by rw [hE.1 _ k231, hE.1 _ k232]; exact hcl) hco (nI p) 0
        rw [hE.1 _ k231, hE.1 _ k232] at t1 t2 t3
        have hdiv : (6 * p + k) / 6 = p := by omega
        have hmod : (6 * p + k) % 6 = k := by omega
        have hr := c_fd_rng (E.1 231) (E.1 232) (m_R σ) (chg (6 * p + k))
        have ix : (6 : Int32) * nI p + nI k = nI (6 * p + k) := by rw [Int32.mul_comm]; exact c_step_nI p k
        have hrun : M_plays_L62 (nI n) (nI i) (nI p) (nI k) d5 σ = cond (decide (c_fd (E.1 231) (E.1 232) (m_R σ) (chg (6 * p + k)) = 0)) (M_plays_L62 (nI n) (nI i) (nI p) (nI (k + 1)) (some (pd_i (c_fd (E.1 231) (E.1 232) (m_R σ) (chg (6 * p + k))))) τ) (some (pd_upI (pd_upI τ 230 33 (nI p)) 230 34 (nI k), some (pd_i (c_fd (E.1 231) (E.1 232) (m_R σ) (chg (6 * p + k)))))) := by
          rw [M_plays_L62_eq, hE.1 _ k244]
          simp only [show pd_len 244 = 25 from rfl, pu_obN hp25 (show 25 < 2 ^ 31 by decide), nI_clamp (show p < 2 ^ 31 by omega), hlp, nI_leI (show len p < 2 ^ 31 by omega) (show k < 2 ^ 31 by omega), show ¬ len p ≤ k by omega, decide_false, pd_bI_of, pd_bJ_of, pd_bV_of, pd_bR_of, cond_true, cond_false, ix, t1, c_rng_le hr, nI_1]
        have h230' : ∀ j, j ≠ 31 → j ≠ 33 → j ≠ 34 → τ.1 230 j = E.1 230 j := fun j a1 a2 a3 => (t5 j a1).trans (h230 j a1 a2 a3)
        have h256' : τ.1 256 = E.1 256 := by rw [t6]; exact h256
        by_cases h0 : c_fd (E.1 231) (E.1 232) (m_R σ) (chg (6 * p + k)) = 0
        · rw [hrun, decide_eq_true h0, cond_true]
          have hcl' : c_cells (E.1 231) (E.1 232) (τ.1 233) (τ.2.1 234) := by
            have := c_one_cells (p := nI p) (a := 6 * p + k) hk hz (R := m_R σ) hcl hco h0
            rw [← t2 h0] at this
            exact this
          obtain ⟨υ, u1, u2, u3, u4, u5⟩ := ih2 (k + 1) _ τ (by omega) (hE.tr t4) h230' h256' hcl'
          have hc : c_ply (E.1 231) (E.1 232) chg (c_blk p k (d + 1) ++ c_line len m) (m_R σ) = c_ply (E.1 231) (E.1 232) chg (c_blk p (k + 1) d ++ c_line len m) (m_R τ) := by
            show c_ply (E.1 231) (E.1 232) chg ((6 * p + k) :: (c_blk p (k + 1) d ++ c_line len m)) (m_R σ) = _
            rw [c_ply_ok h0, t2 h0, hdiv]
          refine ⟨υ, u1, u2, u3, ?_, ?_⟩
          · rw [hc]; exact u4
          · rw [hc]; exact u5
        · rw [hrun, decide_eq_false h0, cond_false]
          have hc : c_ply (E.1 231) (E.1 232) chg (c_blk p k (d + 1) ++ c_line len m) (m_R σ) = (some (6 * p + k, c_fd (E.1 231) (E.1 232) (m_R σ) (chg (6 * p + k))), m_R σ) := by
            show c_ply (E.1 231) (E.1 232) chg ((6 * p + k) :: (c_blk p (k + 1) d ++ c_line len m)) (m_R σ) = _
            rw [c_ply_bad h0]
          refine ⟨pd_upI (pd_upI τ 230 33 (nI p)) 230 34 (nI k), ((hE.tr t4).tr (pu_fr.upI K230)).tr (pu_fr.upI K230), fun j a1 a2 a3 => ?_, ?_, ?_, ?_⟩
          · rw [pu_u1s, pk_un a3, pu_u1s, pk_un a2]; exact h230' j a1 a2 a3
          · rw [pu_u1n (by decide), pu_u1n (by decide)]; exact h256'
          · rw [hc]; intro h; cases h
          · rw [hc]; intro a g h
            cases h
            refine ⟨rfl, ?_, ?_⟩
            · rw [pu_u1s, pk_un (by decide), pu_u1s, pk_us, hdiv]
            · rw [pu_u1s, pk_us, hmod]
    obtain ⟨τ, h⟩ := inner (len p) 0 d5 σ (Nat.zero_add _) hE h230 h256 hcl
    refine ⟨τ, ?_⟩
    have hrun : M_plays_L47 (nI n) (nI i) d3 d4 d5 σ = M_plays_L62 (nI n) (nI i) (nI p) (nI 0) d5 σ := by
      rw [M_plays_L47_eq, hE.1 _ k251]
      simp only [nI_leI (show n < 2 ^ 31 by omega) (show i < 2 ^ 31 by omega), show ¬ n ≤ i by omega, decide_false, pd_bI_of, pd_bJ_of, pd_bV_of, pd_bR_of, cond_true, cond_false, show pd_len 251 = 24 from rfl, pu_obN (show i < 24 by omega) (show 24 < 2 ^ 31 by decide), nI_clamp (show i < 2 ^ 31 by omega), hp]
      rfl
    rw [hrun]
    exact h
theorem M_plays_L2_s {n : Int32} : ∀ d i d3 d4 d5, i + d = 72 → M_plays_L2 n (nI i) d3 d4 d5 (pu_rwI (pu_rwJ (pu_rwI σ 233 (pu_cp (σ.1 235) (σ.1 233) i)) 234 (pu_cpL (σ.2.1 236) (σ.2.1 234) i)) 237 (pu_cp (fun _ => -1) (σ.1 237) i)) = M_plays_L47 n 0 d3 d4 d5 (pu_rwI (pu_rwJ (pu_rwI σ 233 (pu_cp (σ.1 235) (σ.1 233) 72)) 234 (pu_cpL (σ.2.1 236) (σ.2.1 234) 72)) 237 (pu_cp (fun _ => -1) (σ.1 237) 72)) := by
  intro d
  induction d with
  | zero =>
    intro i d3 d4 d5 hi
    have hi : i = 72 := hi
    rw [M_plays_L2_eq, hi]
    rfl
  | succ d ih =>
    intro i d3 d4 d5 hi
    rw [M_plays_L2_eq, show (72 : Int32) = nI 72 from rfl]
    have o := pu_obN (show i < 72 by omega) (show 72 < 2 ^ 31 by decide)
    simp only [nI_leI (show 72 < 2 ^ 31 by decide) (show i < 2 ^ 31 by omega), show ¬ 72 ≤ i by omega, decide_false, pd_bI_of, pd_bJ_of, pd_bV_of, pd_bR_of, cond_true, cond_false, show pd_len 235 = 72 from rfl, show pd_len 233 = 72 from rfl, show pd_len 236 = 72 from rfl, show pd_len 234 = 72 from rfl, show pd_len 237 = 72 from rfl, o, nI_clamp (show i < 2 ^ 31 by omega), nI_1]
    rw [← ih (i + 1) d3 d4 d5 (by omega)]
    congr 1
    refine pu_H_ext (fun k => ?_) (fun k => ?_) rfl
    · by_cases h1 : k = 237
      · subst h1
        rw [pu_u1s, pu_j1, pu_u1n (by decide), pu_w1s, pu_w1s]
        exact pu_cp_up (f := fun _ => -1)
      · rw [pu_u1n h1, pu_j1, pu_w1n h1, pu_x1]
        by_cases h2 : k = 233
        · subst h2
          rw [pu_u1s, pu_w1n h1, pu_x1, pu_w1s, pu_w1s, pu_w1n (by decide), pu_x1, pu_w1n (by decide)]
          exact pu_cp_up
        · rw [pu_u1n h2, pu_w1n h1, pu_x1, pu_w1n h2, pu_w1n h2]
    · by_cases h1 : k = 234
      · subst h1
        rw [pu_u2, pu_j2s, pu_u2, pu_w2, pu_x2s, pu_w2, pu_x2s, pu_x2n (by decide), pu_w2]
        exact pu_cpL_up
      · simp only [pu_u2, pu_j2n h1, pu_w2, pu_x2n h1]
theorem m_cells_base {kd sz : Nat → Int32} {t u : Nat → Int32} {n v : Nat → Int64} (h : c_cells kd sz t n) : c_cells kd sz (pu_cp t u 72) (pu_cpL n v 72) := by
  intro j hj ha i hi hs
  have h72 : 12 * j + i < 72 := by omega
  unfold pu_cp pu_cpL
  rw [if_pos h72, if_pos h72]
  exact h j hj ha i hi hs
theorem M_plays_s {n : Nat} {l : List Nat} (hl : l.length = n) (hn24 : n ≤ 24) (hk : c_kok (σ.1 231)) (hz : c_zok (σ.1 232)) (hlen : m_lens σ len) (hrow : ∀ t x, l[t]? = some x → σ.1 251 t = nI x) (hch : m_chs σ len chg l) (hb : c_cells (σ.1 231) (σ.1 232) (σ.1 235) (σ.2.1 236)) : ∃ τ, m_plo σ τ chg (c_line len l) (m_init σ) (M_plays (nI n) σ) := by
  have h2 := M_plays_L2_s (σ := σ) (n := nI n) 72 0 none none none rfl
  rw [pu_cp0, pu_cpL0, pu_cp0] at h2
  have e0 : pu_rwI (pu_rwJ (pu_rwI σ 233 (σ.1 233)) 234 (σ.2.1 234)) 237 (σ.1 237) = σ := by
    refine pu_H_ext (fun k => ?_) (fun k => ?_) rfl
    · by_cases h1 : k = 237
      · subst h1; rw [pu_w1s]
      · rw [pu_w1n h1, pu_x1]
        by_cases h2 : k = 233
        · subst h2; rw [pu_w1s]
        · rw [pu_w1n h2]
    · by_cases h1 : k = 234
      · subst h1; rw [pu_w2, pu_x2s]
      · rw [pu_w2, pu_x2n h1, pu_w2]
  rw [e0] at h2
  generalize hE2 : pu_rwI (pu_rwJ (pu_rwI σ 233 (pu_cp (σ.1 235) (σ.1 233) 72)) 234 (pu_cpL (σ.2.1 236) (σ.2.1 234) 72)) 237 (pu_cp (fun _ => -1) (σ.1 237) 72) = E2 at h2
  have f2 : pu_fr m_doK σ E2 := by
    rw [← hE2]
    exact ((pu_fr.rwI (by unfold m_doK m_mvK; omega)).tr (pu_fr.rwJ (by unfold m_doK m_mvK; omega))).tr (pu_fr.rwI (by unfold m_doK m_mvK; omega))
  have hR : m_R E2 = m_init σ := by
    rw [← hE2]
    unfold m_R m_init
    simp only [pu_w1s, pu_w1n (show 233 ≠ 237 by decide), pu_w1n (show 247 ≠ 237 by decide), pu_w1n (show 245 ≠ 237 by decide), pu_w1n (show 249 ≠ 237 by decide), pu_w1n (show 247 ≠ 233 by decide), pu_w1n (show 245 ≠ 233 by decide), pu_w1n (show 249 ≠ 233 by decide), pu_x1, pu_w2, pu_x2s, pu_x2n (show 248 ≠ 234 by decide), pu_x2n (show 246 ≠ 234 by decide)]
  have h230 : E2.1 230 = σ.1 230 := by rw [← hE2, pu_w1n (by decide), pu_x1, pu_w1n (by decide)]
  have h256 : E2.1 256 = σ.1 256 := by rw [← hE2, pu_w1n (by decide), pu_x1, pu_w1n (by decide)]
  have hcl : c_cells (σ.1 231) (σ.1 232) (E2.1 233) (E2.2.1 234) := by
    have e1 : E2.1 233 = pu_cp (σ.1 235) (σ.1 233) 72 := congrArg (fun R : cR => R.1) hR
    have e2 : E2.2.1 234 = pu_cpL (σ.2.1 236) (σ.2.1 234) 72 := congrArg (fun R : cR => R.2.1) hR
    rw [e1, e2]
    exact m_cells_base hb
  obtain ⟨τ, h⟩ := M_plays_L47_s (E := σ) hn24 hk hz hlen l 0 none none none E2 (by omega) (fun t x q => by rw [Nat.zero_add]; exact hrow t x q) hch f2 (fun j _ _ _ => by rw [h230]) h256 hcl
  rw [hR] at h
  refine ⟨τ, ?_⟩
  have hrun : M_plays (nI n) σ = M_plays_L47 (nI n) (nI 0) none none none E2 := by
    rw [M_plays_eq]; exact h2
  rw [hrun]
  exact h
end MPLAY
