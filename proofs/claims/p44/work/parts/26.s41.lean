/-! (whole, 41.calls2) -/
/-! The draft: change, move, drop. -/
theorem c_ply_congr {kd sz : Nat → Int32} {chg chg' : Nat → cC} : ∀ {t : List Nat} {R : cR}, (∀ a ∈ t, chg a = chg' a) → c_ply kd sz chg t R = c_ply kd sz chg' t R := by
  intro t
  induction t with
  | nil => intro R _; rfl
  | cons a t ih =>
    intro R h
    have h1 := h a List.mem_cons_self
    by_cases h0 : c_fd kd sz R (chg a) = 0
    · rw [c_ply_ok h0, c_ply_ok (chg := chg') (by rw [← h1]; exact h0), h1]
      exact ih (fun b hb => h b (List.mem_cons_of_mem _ hb))
    · rw [c_ply_bad h0, c_ply_bad (chg := chg') (by rw [← h1]; exact h0), h1]
theorem c_need_congr {chg chg' : Nat → cC} : ∀ {t : List Nat}, (∀ a ∈ t, chg a = chg' a) → c_need chg t = c_need chg' t := by
  intro t
  induction t with
  | nil => intro _; rfl
  | cons a t ih =>
    intro h
    show c_nst (chg a) (c_need chg t) = c_nst (chg' a) (c_need chg' t)
    rw [h a List.mem_cons_self, ih (fun b hb => h b (List.mem_cons_of_mem _ hb))]
theorem c_mask_congr {chg chg' : Nat → cC} {p : Nat} : ∀ {t : List Nat}, (∀ a ∈ t, chg a = chg' a) → c_mask chg t p = c_mask chg' t p := by
  intro t
  induction t with
  | nil => intro _; rfl
  | cons a t ih =>
    intro h
    have ht := fun b hb => h b (List.mem_cons_of_mem _ hb)
    unfold c_mask
    rw [h a List.mem_cons_self, ih ht, c_need_congr ht]
theorem c_line_congr {len len' : Nat → Nat} : ∀ {l : List Nat}, (∀ p ∈ l, len p = len' p) → c_line len l = c_line len' l := by
  intro l
  induction l with
  | nil => intro _; rfl
  | cons p m ih =>
    intro h
    show c_blk p 0 (len p) ++ c_line len m = c_blk p 0 (len' p) ++ c_line len' m
    rw [h p List.mem_cons_self, ih (fun q hq => h q (List.mem_cons_of_mem _ hq))]
/-- another draft -/
def s_dr (S : cS) (ch : Nat → cC) (ln : Nat → Nat) : cS := (s_kd S, s_sz S, s_bt S, s_bn S, ch, ln, s_pc S, s_or S, s_un S, s_vr S, s_tp S, s_fl S, s_mt S)
def s_drK (S : cS) (ch : Nat → cC) (ln : Nat → Nat) : Prop := (∀ a, a < 144 → ch a = s_ch S a) ∧ (∀ p, p < 24 → ln p = s_ln S p) ∧ ln 24 ≤ 6 ∧ ∀ k, k < ln 24 → c_chok (ch (144 + k)) ∧ c_nrm (ch (144 + k))
section CALLS2
variable {σ : pd_H} {S : cS} {ch : Nat → cC} {ln : Nat → Nat}
theorem s_dr_line (hw : s_wf S) (hd : s_drK S ch ln) {l : List Nat} (hl : ∀ p ∈ l, p < s_pc S) : c_line ln l = c_line (s_ln S) l := c_line_congr (fun p hp => hd.2.1 p (Nat.lt_of_lt_of_le (hl p hp) hw.2.1.1))
theorem s_line_lt (hw : s_wf S) {l : List Nat} (hl : ∀ p ∈ l, p < s_pc S) {a : Nat} (ha : a ∈ c_line (s_ln S) l) : a < 144 := by
  obtain ⟨p, h1, k, h2, rfl⟩ := c_line_mem ha
  have h3 := hl p h1
  have h4 := hw.2.1.1
  have h5 := hw.2.1.2.1 p (by omega)
  omega
theorem s_dr_play (hw : s_wf S) (hd : s_drK S ch ln) {l : List Nat} (hl : ∀ p ∈ l, p < s_pc S) : s_play (s_dr S ch ln) l = s_play S l := by
  show c_ply (s_kd S) (s_sz S) ch (c_line ln l) (c_r0 (s_bt S) (s_bn S)) = c_ply (s_kd S) (s_sz S) (s_ch S) (c_line (s_ln S) l) (c_r0 (s_bt S) (s_bn S))
  rw [s_dr_line hw hd hl]
  exact c_ply_congr (fun a ha => hd.1 a (s_line_lt hw hl ha))
theorem s_dr_wf (hw : s_wf S) (hd : s_drK S ch ln) : s_wf (s_dr S ch ln) := by
  refine ⟨hw.1, ⟨hw.2.1.1, fun p hp => ?_, fun p k hp hk => ?_⟩, hw.2.2.1, ?_, hw.2.2.2.2⟩
  · show ln p ≤ 6
    rcases Nat.lt_or_ge p 24 with q | q
    · rw [hd.2.1 p q]; exact hw.2.1.2.1 p hp
    · rw [show p = 24 by omega]; exact hd.2.2.1
  · have hk : k < ln p := hk
    show c_chok (ch (6 * p + k)) ∧ c_nrm (ch (6 * p + k))
    rcases hp with hp | hp
    · have hp : p < s_pc S := hp
      have h24 : p < 24 := Nat.lt_of_lt_of_le hp hw.2.1.1
      rw [hd.2.1 p h24] at hk
      have h6 := hw.2.1.2.1 p (by omega)
      rw [hd.1 _ (by omega)]
      exact hw.2.1.2.2 p k (Or.inl hp) hk
    · subst hp
      exact hd.2.2.2 k hk
  · show (s_play (s_dr S ch ln) (s_or S)).1 = none
    rw [s_dr_play hw hd (hw.2.2.1.1.2)]
    exact hw.2.2.2.1
def x_drK (k : Nat) : Prop := k = 9 ∨ (224 ≤ k ∧ k < 230)
theorem RX_dr {τ : pd_H} (hw : s_wf S) (hd : s_drK S ch ln) (h : RX σ S) (hf : pu_fr x_drK σ τ) (hb : x_bk τ (s_dr S ch ln)) : RX τ (s_dr S ch ln) := by
  have e1 : ∀ k, ¬ x_drK k → τ.1 k = σ.1 k := hf.1
  have e2 : ∀ k, ¬ x_drK k → τ.2.1 k = σ.2.1 k := hf.2.1
  have hrt := h.2.2.1
  have hr : σ.2.2 0 = 32 ∨ σ.2.2 0 = 48 := by rcases hrt with q | q <;> omega
  have hseq : ∀ o l, o + 1 < 80 → o ≠ 9 → o ≠ 8 → pu_seq σ o l → pu_seq τ o l := fun o l ho h9 h8 q => q.of (by rw [e1 o (by unfold x_drK; omega)]) (e1 (o + 1) (by unfold x_drK; omega))
  have hpl := s_dr_play hw hd hw.2.2.1.1.2
  have hln := s_dr_line hw hd hw.2.2.1.1.2
  obtain ⟨⟨a1, a2, a3, a4⟩, -, -, ⟨c1, c2, c3⟩, ⟨d1, d2, d3⟩, d4, d5, d6⟩ := h
  refine ⟨⟨?_, ?_, ?_, ?_⟩, hb, ?_, ⟨?_, ?_, ?_⟩, ⟨?_, ?_, ?_⟩, ?_, ?_, ?_⟩
  · rw [e1 2 (by unfold x_drK; omega)]; exact a1
  · rw [e1 3 (by unfold x_drK; omega)]; exact a2
  · rw [e1 5 (by unfold x_drK; omega)]; exact a3
  · rw [e2 6 (by unfold x_drK; omega)]; exact a4
  · rw [hf.2.2]; exact hrt
  · rw [hf.2.2]; exact hseq _ _ (by omega) (by omega) (by omega) c1
  · rw [hf.2.2]
    show c_agr (fun c => c < 72) (fun a => a ∈ c_line ln (s_or S)) (x_rw S τ (σ.2.2 0)) (s_play (s_dr S ch ln) (s_or S)).2
    rw [hpl, hln]
    have : x_rw S τ (σ.2.2 0) = x_rw S σ (σ.2.2 0) := by
      unfold x_rw
      rw [e1 _ (by unfold x_drK; omega : ¬ x_drK (σ.2.2 0 + 4)), e2 _ (by unfold x_drK; omega : ¬ x_drK (σ.2.2 0 + 5)), e1 _ (by unfold x_drK; omega : ¬ x_drK (σ.2.2 0 + 6)), e1 _ (by unfold x_drK; omega : ¬ x_drK (σ.2.2 0 + 9)), e2 _ (by unfold x_drK; omega : ¬ x_drK (σ.2.2 0 + 10)), e1 _ (by unfold x_drK; omega : ¬ x_drK (σ.2.2 0 + 12)), e2 _ (by unfold x_drK; omega : ¬ x_drK (σ.2.2 0 + 13)), e1 _ (by unfold x_drK; omega : ¬ x_drK (σ.2.2 0 + 14))]
    rw [this]; exact c2
  · rw [hf.2.2, e1 _ (by unfold x_drK; omega : ¬ x_drK (σ.2.2 0 + 15))]
    intro p hp
    show _ = c_mask ch (c_line ln (s_or S)) p
    rw [c3 p hp, hln]
    exact c_mask_congr (fun a ha => (hd.1 a (s_line_lt hw hw.2.2.1.1.2 ha)).symm)
  · exact hseq _ _ (by omega) (by omega) (by omega) d1
  · rw [e1 0 (by unfold x_drK; omega)]; exact d2
  · intro v l hv
    have hvlt : v < (s_vr S).length := (List.getElem?_eq_some_iff.mp hv).1
    have hvl := hw.2.2.1.2.2.2.1
    exact hseq _ _ (by omega) (by omega) (by omega) (d3 v l hv)
  · rw [e1 10 (by unfold x_drK; omega), e1 11 (by unfold x_drK; omega)]; exact d4
  · rw [e1 0 (by unfold x_drK; omega)]; exact d5
  · rw [e1 16 (by unfold x_drK; omega)]; exact d6
/-- one number at one place -/
def c_updN (f : Nat → Nat) (k x : Nat) : Nat → Nat := fun j => if j = k then x else f j
theorem c_updN_s {f : Nat → Nat} {k x : Nat} : c_updN f k x k = x := if_pos rfl
theorem c_updN_n {f : Nat → Nat} {k x j : Nat} (h : j ≠ k) : c_updN f k x j = f j := if_neg h
def c_updC (f : Nat → cC) (k : Nat) (x : cC) : Nat → cC := fun j => if j = k then x else f j
theorem c_updC_s {f : Nat → cC} {k : Nat} {x : cC} : c_updC f k x k = x := if_pos rfl
theorem c_updC_n {f : Nat → cC} {k : Nat} {x : cC} {j : Nat} (h : j ≠ k) : c_updC f k x j = f j := if_neg h
theorem x_len24 (h : RX σ S) : σ.1 9 24 = nI (s_ln S 24) := (h.2.1.2.1 24 (by omega)).1
/-- one more in the draft -/
def s_add (S : cS) (c : cC) : cS := s_dr S (c_updC (s_ch S) (144 + s_ln S 24) c) (c_updN (s_ln S) 24 (s_ln S 24 + 1))
theorem s_addK (hw : s_wf S) {c : cC} (hn : s_ln S 24 < 6) (hc : c_chok c) (hm : c_nrm c) : s_drK S (c_updC (s_ch S) (144 + s_ln S 24) c) (c_updN (s_ln S) 24 (s_ln S 24 + 1)) := by
  refine ⟨fun a ha => c_updC_n (by omega), fun p hp => c_updN_n (by omega), by rw [c_updN_s]; omega, fun k hk => ?_⟩
  rw [c_updN_s] at hk
  by_cases e : k = s_ln S 24
  · rw [e, c_updC_s]; exact ⟨hc, hm⟩
  · rw [c_updC_n (by omega)]
    exact hw.2.1.2.2 24 k (Or.inr rfl) (by omega)
theorem x_add (hw : s_wf S) (h : RX σ S) {c : cC} (hn : s_ln S 24 < 6) (hc : c_chok c) (hm : c_nrm c) {τ : pd_H} (hf : pu_fr x_drK σ τ) (h1 : ∀ k, k ≠ 224 + s_ln S 24 → k ≠ 9 → τ.1 k = σ.1 k) (h2 : x_chg τ (144 + s_ln S 24) = c) (h3 : τ.1 9 = upd (σ.1 9) 24 (nI (s_ln S 24 + 1))) : RX τ (s_add S c) := by
  refine RX_dr hw (s_addK hw hn hc hm) h hf ⟨fun p k hp hk => ?_, fun p hp => ?_, ?_⟩
  · have hk : k < c_updN (s_ln S) 24 (s_ln S 24 + 1) p := hk
    show x_chg τ (6 * p + k) = c_updC (s_ch S) (144 + s_ln S 24) c (6 * p + k)
    have hp : p < s_pc S ∨ p = 24 := hp
    have hpc := hw.2.1.1
    by_cases e : 6 * p + k = 144 + s_ln S 24
    · rw [e, c_updC_s]; exact h2
    · rw [c_updC_n e]
      have hk2 : k < s_ln S p := by
        by_cases e2 : p = 24
        · subst e2; rw [c_updN_s] at hk; omega
        · rw [c_updN_n e2] at hk; exact hk
      rw [← h.2.1.1 p k hp hk2]
      unfold x_chg
      rw [h1 (80 + (6 * p + k)) (by omega) (by omega)]
  · show τ.1 9 p = nI (c_updN (s_ln S) 24 (s_ln S 24 + 1) p) ∧ c_updN (s_ln S) 24 (s_ln S 24 + 1) p ≤ 6
    rw [h3]
    by_cases e : p = 24
    · rw [e, pk_us, c_updN_s]; exact ⟨rfl, by omega⟩
    · rw [pk_un e, c_updN_n e]; exact h.2.1.2.1 p hp
  · show τ.1 7 2 = _
    rw [h1 7 (by omega) (by omega)]; exact h.2.1.2.2
theorem Book_nextOfDraft_s (h : RX σ S) (hn : s_ln S 24 < 6) : Book_nextOfDraft σ = some (σ, some (pd_r 1 (224 + s_ln S 24))) := by
  have e : (24 : Int32) * 6 + nI (s_ln S 24) = nI (144 + s_ln S 24) := nI_add 144 _
  rw [Book_nextOfDraft_eq, x_len24 h, X_stepOf_s, e]
  simp only [pd_bI_of, pd_bJ_of, pd_bV_of, pd_bR_of, cond_true, cond_false, show pd_len 8 = 150 from rfl, pu_obN (show 144 + s_ln S 24 < 150 by omega) (show 150 < 2 ^ 31 by decide), nI_clamp (show 144 + s_ln S 24 < 2 ^ 31 by omega)]
  rw [show 80 + (144 + s_ln S 24) = 224 + s_ln S 24 by omega]
theorem Change_become_s (o : Nat) (a b c d e f : Int32) (σ : pd_H) : ∃ τ, Change_become o a b c d e f σ = some (τ, none) ∧ pu_fr (fun k => k = o) σ τ ∧ τ.1 o 0 = a ∧ τ.1 o 1 = b ∧ τ.1 o 2 = c ∧ τ.1 o 3 = d ∧ τ.1 o 4 = e ∧ τ.1 o 5 = f := by
  refine ⟨_, Change_become_eq o a b c d e f σ, ?_, ?_, ?_, ?_, ?_, ?_, ?_⟩
  · exact (((((pu_fr.upI (K := fun k => k = o) rfl).tr (pu_fr.upI (K := fun k => k = o) rfl)).tr (pu_fr.upI (K := fun k => k = o) rfl)).tr (pu_fr.upI (K := fun k => k = o) rfl)).tr (pu_fr.upI (K := fun k => k = o) rfl)).tr (pu_fr.upI (K := fun k => k = o) rfl)
  all_goals simp only [pu_u1s, pk_us, pk_un (show 0 ≠ 1 by decide), pk_un (show 0 ≠ 2 by decide), pk_un (show 0 ≠ 3 by decide), pk_un (show 0 ≠ 4 by decide), pk_un (show 0 ≠ 5 by decide), pk_un (show 1 ≠ 2 by decide), pk_un (show 1 ≠ 3 by decide), pk_un (show 1 ≠ 4 by decide), pk_un (show 1 ≠ 5 by decide), pk_un (show 2 ≠ 3 by decide), pk_un (show 2 ≠ 4 by decide), pk_un (show 2 ≠ 5 by decide), pk_un (show 3 ≠ 4 by decide), pk_un (show 3 ≠ 5 by decide), pk_un (show 4 ≠ 5 by decide)]
end CALLS2
/-! (whole, 42.calls3) -/
section CALLS3
variable {σ : pd_H} {S : cS}
theorem x_lt6 {n : Nat} (h : n ≤ 6) : decide (nI n < (6 : Int32)) = decide (n < 6) := by
  have : ∀ n, n < 7 → decide (nI n < (6 : Int32)) = decide (n < 6) := by decide +kernel
  exact this n (by omega)
/-- the end of both: one more in the draft -/
theorem X_put_s (hw : s_wf S) (h : RX σ S) {c : cC} (hn : s_ln S 24 < 6) (hc : c_chok c) (hm : c_nrm c) : ∃ τ, (pd_bR (Book_nextOfDraft σ) 1 fun s3 v4 => pd_bV (Change_become v4 c.1 c.2.1 c.2.2.1 c.2.2.2.1 c.2.2.2.2.1 c.2.2.2.2.2 s3) fun s5 => some (pd_upI s5 9 24 ((s5.1 9 24) + 1), some (pd_i ((pd_upI s5 9 24 ((s5.1 9 24) + 1)).1 9 24)))) = some (τ, some (pd_i (nI (s_ln S 24 + 1)))) ∧ RX τ (s_add S c) ∧ XF σ τ := by
  obtain ⟨ρ, r1, r2, e0, e1, e2, e3, e4, e5⟩ := Change_become_s (224 + s_ln S 24) c.1 c.2.1 c.2.2.1 c.2.2.2.1 c.2.2.2.2.1 c.2.2.2.2.2 σ
  have h9 : ρ.1 9 24 = nI (s_ln S 24) := by rw [r2.1 9 (by omega)]; exact x_len24 h
  have f1 : pu_fr x_drK σ ρ := r2.mono (fun k hk => by unfold x_drK; omega)
  have f2 : pu_fr x_drK σ (pd_upI ρ 9 24 (nI (s_ln S 24 + 1))) := f1.tr (pu_fr.upI (Or.inl rfl))
  refine ⟨pd_upI ρ 9 24 (nI (s_ln S 24 + 1)), ?_, x_add hw h hn hc hm f2 (fun k h1 h2 => ?_) ?_ ?_, XF.of f2 (fun k hk => by unfold x_drK at hk; omega)⟩
  · rw [Book_nextOfDraft_s h hn, pd_bR_of, r1, pd_bV_of, h9, nI_1, pu_u1s, pk_us]
  · rw [pu_u1n h2, r2.1 k h1]
  · unfold x_chg
    rw [pu_u1n (by omega), show 80 + (144 + s_ln S 24) = 224 + s_ln S 24 by omega, e0, e1, e2, e3, e4, e5]
  · rw [pu_u1s, r2.1 9 (by omega)]
end CALLS3
/-! (whole, 43.carry) -/
theorem c_ply_ne {kd sz : Nat → Int32} {chg : Nat → cC} : ∀ {t : List Nat} {R : cR} {a : Nat} {f : Int32}, (c_ply kd sz chg t R).1 = some (a, f) → f ≠ 0 ∧ c_rng f ∧ a ∈ t := by
  intro t
  induction t with
  | nil => intro R a f h; cases h
  | cons b t ih =>
    intro R a f h
    by_cases h0 : c_fd kd sz R (chg b) = 0
    · rw [c_ply_ok h0] at h
      obtain ⟨h1, h2, h3⟩ := ih h
      exact ⟨h1, h2, List.mem_cons_of_mem _ h3⟩
    · rw [c_ply_bad h0] at h
      cases h
      exact ⟨h0, c_fd_rng _ _ _ _, List.mem_cons_self⟩
section CARRY
variable {σ : pd_H} {S : cS}
theorem s_ok (hw : s_wf S) {l : List Nat} (hl : s_ord S l) : ∀ a ∈ c_line (s_ln S) l, c_ok (s_ch S a) := fun a ha => by
  obtain ⟨p, h1, k, h2, rfl⟩ := c_line_mem ha
  exact (hw.2.1.2.2 p k (Or.inl (hl.2 p h1)) h2).1.1
/-- the desk plays an order in a run: what comes of it -/
theorem x_play (hw : s_wf S) (hs : x_sh σ S) (hb : x_bk σ S) {r : Nat} (hr : r = 32 ∨ r = 48 ∨ r = 64) {l : List Nat} (hl : pu_seq σ (r + 1) l) (ho : s_ord S l) :
    ∃ τ, Run_play r σ = some (τ, none) ∧ pu_fr (x_plK r) σ τ ∧ (∀ j, j < 10 → τ.1 r j = σ.1 r j) ∧
      ((s_play S l).1 = none → c_agr (fun c => c < 72) (fun a => a ∈ c_line (s_ln S) l) (x_rows τ r) (s_play S l).2 ∧ τ.1 r 10 = 0 ∧ ∀ p ∈ l, τ.1 (r + 15) p = c_mask (s_ch S) (c_line (s_ln S) l) p) ∧
      (∀ a f, (s_play S l).1 = some (a, f) → τ.1 r 10 = f ∧ τ.1 r 11 = nI (a / 6) ∧ τ.1 r 12 = nI (a % 6)) := by
  obtain ⟨s1, s2, s3, s4⟩ := hs
  have hpc := hw.2.1.1
  have hchg : ∀ a ∈ c_line (s_ln S) l, x_chg σ a = s_ch S a := fun a ha => by
    obtain ⟨p, h1, k, h2, rfl⟩ := c_line_mem ha
    exact hb.1 p k (Or.inl (ho.2 p h1)) h2
  have hok : x_oks σ (s_ln S) l := fun p hp => ⟨by have := ho.2 p hp; omega, fun k hk => by
    have := s_ok hw ho (6 * p + k) (c_line_in hp hk)
    rw [← hchg _ (c_line_in hp hk)] at this
    exact this⟩
  obtain ⟨τ, t1, t2, t3, t4, t5⟩ := Run_play_s (E := σ) hr (by rw [s2]; exact hw.1.2.1.sz) hb.2.1 hl ho.1 hok
  have hagr0 : c_agr (fun c => c < 72) (fun _ => False) (x_init σ r) (c_r0 (s_bt S) (s_bn S)) := by
    refine ⟨fun c hc => ?_, fun a ha => ha.elim⟩
    have hc : c < 72 := hc
    unfold x_init c_r0 pu_cp pu_cpL
    simp only [if_pos hc, s3, s4]
    exact ⟨trivial, trivial, trivial⟩
  have hA := c_ply_agr (kd := s_kd S) (sz := s_sz S) (kd' := s_kd S) (sz' := s_sz S) (V := fun c => c < 72) c_kz.rf (fun c hc => c_vc_72 hc) hw.1.2.1.sz (chg := x_chg σ) (chg' := s_ch S) (t := c_line (s_ln S) l) hagr0 (fun a ha => ⟨by rw [hchg a ha]; exact s_ok hw ho a ha, hchg a ha⟩)
  rw [s1, s2] at t4 t5
  refine ⟨τ, t1, t2, t3, fun hn => ?_, fun a f hf => ?_⟩
  · have hn' : (c_ply (s_kd S) (s_sz S) (x_chg σ) (c_line (s_ln S) l) (x_init σ r)).1 = none := hA.1.trans hn
    obtain ⟨u1, u2, u3⟩ := t4 hn'
    refine ⟨?_, u2, fun p hp => ?_⟩
    · rw [u1]
      exact (hA.2 hn').mono (fun _ h => h) (fun a ha => Or.inr ha)
    · rw [u3 p hp]
      exact c_mask_congr hchg
  · exact t5 a f (hA.1.trans hf)
/-- the trial's things, and some more that don't matter -/
def x_frK (t k : Nat) : Prop := (t ≤ k ∧ k < t + 16) ∨ (64 ≤ k ∧ k < 80) ∨ k = 12 ∨ k = 13 ∨ k = 14
theorem RX_frK {τ : pd_H} (hw : s_wf S) (h : RX σ S) (hf : pu_fr (x_frK (σ.2.2 1)) σ τ) : RX τ S := by
  have hrt := h.2.2.1
  have hr : (σ.2.2 0 = 32 ∧ σ.2.2 1 = 48) ∨ (σ.2.2 0 = 48 ∧ σ.2.2 1 = 32) := hrt
  have e1 : ∀ k, ¬ x_frK (σ.2.2 1) k → τ.1 k = σ.1 k := hf.1
  have e2 : ∀ k, ¬ x_frK (σ.2.2 1) k → τ.2.1 k = σ.2.1 k := hf.2.1
  have hseq : ∀ o l, ¬ x_frK (σ.2.2 1) o → ¬ x_frK (σ.2.2 1) (o + 1) → pu_seq σ o l → pu_seq τ o l := fun o l h1 h2 q => q.of (by rw [e1 o h1]) (e1 (o + 1) h2)
  obtain ⟨⟨a1, a2, a3, a4⟩, ⟨b1, b2, b3⟩, -, ⟨c1, c2, c3⟩, ⟨d1, d2, d3⟩, d4, d5, d6⟩ := h
  have hvl := hw.2.2.1.2.2.2.1
  have hpc := hw.2.1.1
  have nk : ∀ k, k < 12 → ¬ x_frK (σ.2.2 1) k := fun k hk => by unfold x_frK; omega
  have nk2 : ∀ k, 15 ≤ k → k < 32 → ¬ x_frK (σ.2.2 1) k := fun k hk hk2 => by unfold x_frK; omega
  have nk3 : ∀ j, j < 16 → ¬ x_frK (σ.2.2 1) (σ.2.2 0 + j) := fun j hj => by unfold x_frK; omega
  refine ⟨⟨?_, ?_, ?_, ?_⟩, ⟨?_, ?_, ?_⟩, ?_, ⟨?_, ?_, ?_⟩, ⟨?_, ?_, ?_⟩, ?_, ?_, ?_⟩
  · rw [e1 2 (nk 2 (by omega))]; exact a1
  · rw [e1 3 (nk 3 (by omega))]; exact a2
  · rw [e1 5 (nk 5 (by omega))]; exact a3
  · rw [e2 6 (nk 6 (by omega))]; exact a4
  · intro p k hp hk
    have h25 : p < 25 := by rcases hp with q | q <;> omega
    have := hw.2.1.2.1 p h25
    have hx : x_chg τ (6 * p + k) = x_chg σ (6 * p + k) := by unfold x_chg; rw [e1 _ (by unfold x_frK; omega)]
    rw [hx]
    exact b1 p k hp hk
  · intro p hp; rw [e1 9 (nk 9 (by omega))]; exact b2 p hp
  · rw [e1 7 (nk 7 (by omega))]; exact b3
  · rw [hf.2.2]; exact hrt
  · rw [hf.2.2]; exact hseq _ _ (nk3 1 (by omega)) (nk3 2 (by omega)) c1
  · rw [hf.2.2]
    have : x_rw S τ (σ.2.2 0) = x_rw S σ (σ.2.2 0) := by
      unfold x_rw
      rw [e1 _ (nk3 4 (by omega)), e2 _ (nk3 5 (by omega)), e1 _ (nk3 6 (by omega)), e1 _ (nk3 9 (by omega)), e2 _ (nk3 10 (by omega)), e1 _ (nk3 12 (by omega)), e2 _ (nk3 13 (by omega)), e1 _ (nk3 14 (by omega))]
    rw [this]; exact c2
  · rw [hf.2.2, e1 _ (nk3 15 (by omega))]; exact c3
  · exact hseq _ _ (nk2 17 (by omega) (by omega)) (nk2 18 (by omega) (by omega)) d1
  · rw [e1 0 (nk 0 (by omega))]; exact d2
  · intro v l hv
    have hvlt : v < (s_vr S).length := (List.getElem?_eq_some_iff.mp hv).1
    exact hseq _ _ (nk2 _ (by omega) (by omega)) (nk2 _ (by omega) (by omega)) (d3 v l hv)
  · rw [e1 10 (nk 10 (by omega)), e1 11 (nk 11 (by omega))]; exact d4
  · rw [e1 0 (nk 0 (by omega))]; exact d5
  · rw [e1 16 (nk2 16 (by omega) (by omega))]; exact d6
/-- another order; another fault; other undone ones -/
def s_to (S : cS) (l un : List Nat) : cS := (s_kd S, s_sz S, s_bt S, s_bn S, s_ch S, s_ln S, s_pc S, l, un, s_vr S, s_tp S, s_fl S, s_mt S)
def s_ft (S : cS) (fl : Int32 × Int32 × Int32) : cS := (s_kd S, s_sz S, s_bt S, s_bn S, s_ch S, s_ln S, s_pc S, s_or S, s_un S, s_vr S, s_tp S, fl, s_mt S)
theorem s_ft_wf (hw : s_wf S) (fl : Int32 × Int32 × Int32) : s_wf (s_ft S fl) := hw
theorem s_to_wf (hw : s_wf S) {l un : List Nat} (hl : s_ord S l) (hp : (s_play S l).1 = none) (hu : s_ord S un) (hd : ∀ p ∈ un, p ∉ l) : s_wf (s_to S l un) := ⟨hw.1, hw.2.1, ⟨hl, hu, hd, hw.2.2.1.2.2.2⟩, hp, hw.2.2.2.2⟩
theorem x_run (h : RX σ S) : (σ.2.2 0 = 32 ∧ σ.2.2 1 = 48) ∨ (σ.2.2 0 = 48 ∧ σ.2.2 1 = 32) := h.2.2.1
theorem x_tr3 (h : RX σ S) : σ.2.2 1 = 32 ∨ σ.2.2 1 = 48 ∨ σ.2.2 1 = 64 := by have := x_run h; omega
theorem X_refuse_s (h : RX σ S) (a b c : Int32) : ∃ τ, X_refuse a b c σ = some (τ, some (pd_i (-10 - c))) ∧ RX τ (s_ft S (a, b, c)) ∧ XF σ τ := by
  have hr := x_run h
  have fr : pu_fr (fun k => k = 0) σ (pd_upI (pd_upI (pd_upI σ 0 11 a) 0 12 b) 0 13 c) := ((pu_fr.upI (K := fun k => k = 0) rfl).tr (pu_fr.upI (K := fun k => k = 0) rfl)).tr (pu_fr.upI (K := fun k => k = 0) rfl)
  refine ⟨pd_upI (pd_upI (pd_upI σ 0 11 a) 0 12 b) 0 13 c, ?_, ?_, XF.of fr (fun k hk => by omega)⟩
  · rw [X_refuse_eq, X_findingCode_s]; rfl
  · obtain ⟨⟨a1, a2, a3, a4⟩, ⟨b1, b2, b3⟩, hrt, ⟨c1, c2, c3⟩, ⟨d1, d2, d3⟩, d4, d5, d6⟩ := h
    have e1 : ∀ k, k ≠ 0 → (pd_upI (pd_upI (pd_upI σ 0 11 a) 0 12 b) 0 13 c).1 k = σ.1 k := fun k hk => by rw [pu_u1n hk, pu_u1n hk, pu_u1n hk]
    have hseq : ∀ o l, o ≠ 0 → pu_seq σ o l → pu_seq (pd_upI (pd_upI (pd_upI σ 0 11 a) 0 12 b) 0 13 c) o l := fun o l h1 q => q.of (by rw [e1 o h1]) (e1 (o + 1) (by omega))
    refine ⟨⟨?_, ?_, ?_, a4⟩, ⟨?_, ?_, ?_⟩, hrt, ⟨hseq _ _ (by omega) c1, ?_, ?_⟩, ⟨hseq _ _ (by omega) d1, ?_, fun v l hv => hseq _ _ (by omega) (d3 v l hv)⟩, ?_, ⟨?_, ?_, ?_⟩, ?_⟩
    · rw [e1 2 (by omega)]; exact a1
    · rw [e1 3 (by omega)]; exact a2
    · rw [e1 5 (by omega)]; exact a3
    · intro p k hp hk
      have hx : x_chg (pd_upI (pd_upI (pd_upI σ 0 11 a) 0 12 b) 0 13 c) (6 * p + k) = x_chg σ (6 * p + k) := by unfold x_chg; rw [e1 _ (by omega)]
      rw [hx]; exact b1 p k hp hk
    · intro p hp; rw [e1 9 (by omega)]; exact b2 p hp
    · rw [e1 7 (by omega)]; exact b3
    · have : x_rw S (pd_upI (pd_upI (pd_upI σ 0 11 a) 0 12 b) 0 13 c) (σ.2.2 0) = x_rw S σ (σ.2.2 0) := by
        unfold x_rw
        rw [e1 _ (by omega : σ.2.2 0 + 4 ≠ 0), e1 _ (by omega : σ.2.2 0 + 6 ≠ 0), e1 _ (by omega : σ.2.2 0 + 9 ≠ 0), e1 _ (by omega : σ.2.2 0 + 12 ≠ 0), e1 _ (by omega : σ.2.2 0 + 14 ≠ 0)]
        rfl
      show c_agr _ _ (x_rw S _ (σ.2.2 0)) _
      rw [this]; exact c2
    · show ∀ p ∈ s_or S, (pd_upI (pd_upI (pd_upI σ 0 11 a) 0 12 b) 0 13 c).1 (σ.2.2 0 + 15) p = _
      rw [e1 _ (by omega)]; exact c3
    · rw [pu_u1s, pk_un (by decide), pu_u1s, pk_un (by decide), pu_u1s, pk_un (by decide)]; exact d2
    · rw [e1 10 (by omega), e1 11 (by omega)]; exact d4
    · rw [pu_u1s, pk_un (by decide), pu_u1s, pk_un (by decide), pu_u1s, pk_us]; rfl
    · rw [pu_u1s, pk_un (by decide), pu_u1s, pk_us]; rfl
    · rw [pu_u1s, pk_us]; rfl
    · rw [e1 16 (by omega)]; exact d6
/-- the former run, which is the trial then -/
def x_old (τ : pd_H) (S : cS) : Prop := pu_seq τ (τ.2.2 1 + 1) (s_or S) ∧ c_agr (fun c => c < 72) (fun a => a ∈ c_line (s_ln S) (s_or S)) (x_rw S τ (τ.2.2 1)) (s_play S (s_or S)).2
theorem X_carryOut_ok (hw : s_wf S) (h : RX σ S) {l : List Nat} (hl : pu_seq σ (σ.2.2 1 + 1) l) (ho : s_ord S l) (hn : (s_play S l).1 = none) : ∃ τ, X_carryOut σ = some (τ, some (pd_i 0)) ∧ RX τ (s_to S l (s_un S)) ∧ XF σ τ ∧ x_old τ S := by
  obtain ⟨τ, t1, t2, t3, t4, -⟩ := x_play hw h.1 h.2.1 (x_tr3 h) hl ho
  obtain ⟨u1, u2, u3⟩ := t4 hn
  have hr := x_run h
  have frK : pu_fr (x_frK (σ.2.2 1)) σ τ := t2.mono (fun k hk => by have := x_plK_in k hk; unfold x_frK; omega)
  have hX := RX_frK hw h frK
  have e22 : τ.2.2 = σ.2.2 := t2.2.2
  have hh0 : (pd_upR (pd_upR τ 0 (τ.2.2 1)) 1 (τ.2.2 0)).2.2 0 = τ.2.2 1 := by
    show (if 0 = 1 then τ.2.2 0 else if 0 = 0 then τ.2.2 1 else τ.2.2 0) = _
    rw [if_neg (by decide), if_pos rfl]
  have hh1 : (pd_upR (pd_upR τ 0 (τ.2.2 1)) 1 (τ.2.2 0)).2.2 1 = τ.2.2 0 := by
    show (if 1 = 1 then τ.2.2 0 else (pd_upR τ 0 (τ.2.2 1)).2.2 1) = _
    rw [if_pos rfl]
  refine ⟨pd_upR (pd_upR τ 0 (τ.2.2 1)) 1 (τ.2.2 0), ?_, ?_, ?_, ?_⟩
  · rw [X_carryOut_eq, t1, pd_bV_of, e22, u2]; rfl
  · obtain ⟨q1, q2, q3, q4, q5⟩ := hX
    refine ⟨q1, q2, ?_, ?_, q5⟩
    · rw [hh0, hh1, e22]
      rcases hr with q | q
      · exact Or.inr ⟨q.2, q.1⟩
      · exact Or.inl ⟨q.2, q.1⟩
    · rw [hh0, e22]
      exact ⟨hl.of (by rw [pu_r1, pu_r1, t2.1 _ (by unfold x_plK x_stK x_ddK; omega)]) (by rw [pu_r1, pu_r1, t2.1 _ (by unfold x_plK x_stK x_ddK; omega)]), x_rw_of (S := s_to S l (s_un S)) u1, u3⟩
  · exact fun k hk => ⟨t2.1 k (fun q => by have := x_plK_in k q; omega), t2.2.1 k (fun q => by have := x_plK_in k q; omega)⟩
  · obtain ⟨-, -, -, ⟨c1, c2, -⟩, -⟩ := hX
    unfold x_old
    rw [hh1]
    exact ⟨c1, c2⟩
theorem X_carryOut_no (hw : s_wf S) (h : RX σ S) {l : List Nat} (hl : pu_seq σ (σ.2.2 1 + 1) l) (ho : s_ord S l) {a : Nat} {f : Int32} (hf : (s_play S l).1 = some (a, f)) : ∃ τ, X_carryOut σ = some (τ, some (pd_i (-10 - f))) ∧ RX τ (s_ft S (nI (a / 6), nI (a % 6), f)) ∧ XF σ τ := by
  obtain ⟨τ, t1, t2, t3, -, t5⟩ := x_play hw h.1 h.2.1 (x_tr3 h) hl ho
  obtain ⟨u1, u2, u3⟩ := t5 a f hf
  have hr := x_run h
  have frK : pu_fr (x_frK (σ.2.2 1)) σ τ := t2.mono (fun k hk => by have := x_plK_in k hk; unfold x_frK; omega)
  have hX := RX_frK hw h frK
  have e22 : τ.2.2 = σ.2.2 := t2.2.2
  obtain ⟨υ, v1, v2, v3⟩ := X_refuse_s hX (nI (a / 6)) (nI (a % 6)) f
  refine ⟨υ, ?_, v2, XF.tr (fun k hk => ⟨t2.1 k (fun q => by have := x_plK_in k q; omega), t2.2.1 k (fun q => by have := x_plK_in k q; omega)⟩) v3⟩
  have hne := (c_ply_ne hf).1
  rw [X_carryOut_eq, t1, pd_bV_of, e22, u1, u2, u3, decide_eq_false hne, cond_false, v1]
  rfl
end CARRY
/-! (whole, 44.mcarry) -/
section MCARRY
variable {σ : pd_H} {S : cS}
theorem s_len24 (hw : s_wf S) {l : List Nat} (ho : s_ord S l) : l.length ≤ 24 := by
  have key : ∀ (n : Nat) (l : List Nat), l.Nodup → (∀ p ∈ l, p < n) → l.length ≤ n := by
    intro n
    induction n with
    | zero =>
      intro l _ h
      cases l with
      | nil => exact Nat.le_refl 0
      | cons a r => exact absurd (h a List.mem_cons_self) (Nat.not_lt_zero a)
    | succ n ih =>
      intro l hn h
      have h1 := ih (l.erase n) (hn.erase n) (fun p hp => by
        have h2 := (hn.mem_erase_iff).mp hp
        have h3 := h p h2.2
        have h4 := h2.1
        omega)
      by_cases hm : n ∈ l
      · rw [List.length_erase_of_mem hm] at h1; omega
      · rw [List.erase_of_not_mem hm] at h1; omega
  exact Nat.le_trans (key (s_pc S) l ho.1 ho.2) hw.2.1.1
end MCARRY
