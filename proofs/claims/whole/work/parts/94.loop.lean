/-! The law's loop: every call answered alike. -/
def lw_fin (r : Option pd_R) : Prop := ∃ τ, r = some (τ, some (pd_i 1))
/-- the script: its length, its row -/
def lw_sc (L : Nat) (xs : Nat → Int32) (σ : pd_H) : Prop := σ.1 266 0 = nI L ∧ σ.1 265 = xs
theorem lw_sc.lf {L : Nat} {xs : Nat → Int32} {σ τ : pd_H} (h : lw_sc L xs σ) (g : LF σ τ) : lw_sc L xs τ := ⟨by rw [g.2]; exact h.1, g.1.trans h.2⟩
theorem lw_fin.cond {b : Bool} {x y : Option pd_R} (h : lw_fin x) (g : lw_fin y) : lw_fin (cond b x y) := by cases b <;> assumption
def lw_nx (L : Nat) (xs : Nat → Int32) (j : Nat) : Prop := ∀ υ S, JR υ S → lw_sc L xs υ → lw_fin (L_law_L1270 (nI j) υ)
section LAW
variable {σ : pd_H} {S : cS} {L j : Nat} {xs : Nat → Int32} {x m : pd_H → Option pd_R}
theorem lw_i {k : pd_H → Int32 → Option pd_R} (h : JI x m σ) (hs : lw_sc L xs σ) (hn : lw_nx L xs j) (hk : ∀ τ v, lw_sc L xs τ → k τ v = pd_bI (m τ) fun υ w => cond (decide (v = w)) (L_law_L1270 (nI j) υ) (some (υ, some (pd_i 0)))) : lw_fin (pd_bI (x σ) k) := by
  obtain ⟨τ, υ, v, S', h1, h2, h3, h4, h5⟩ := h
  rw [h1, pd_bI_of, hk τ v (hs.lf h4), h2, pd_bI_of, decide_eq_true rfl, cond_true]
  exact hn υ S' h3 (hs.lf h5)
theorem lw_l {k : pd_H → Int64 → Option pd_R} (h : JL x m σ) (hs : lw_sc L xs σ) (hn : lw_nx L xs j) (hk : ∀ τ v, lw_sc L xs τ → k τ v = pd_bJ (m τ) fun υ w => cond (decide (lg_cmp v w = 0)) (L_law_L1270 (nI j) υ) (some (υ, some (pd_i 0)))) : lw_fin (pd_bJ (x σ) k) := by
  obtain ⟨τ, υ, v, S', h1, h2, h3, h4, h5⟩ := h
  rw [h1, pd_bJ_of, hk τ v (hs.lf h4), h2, pd_bJ_of, pu_cmp0, decide_eq_true rfl, cond_true]
  exact hn υ S' h3 (hs.lf h5)
theorem lw_gd (hL : L ≤ 3072) (hj : j + 6 ≤ L) {i : Nat} (hi : i < 6) {a : Int32} (ha : a = nI i) : pd_ob (nI j + a) (nI L).toNatClampNeg = false := by
  subst ha
  rw [nI_add, nI_clamp (by omega)]
  exact pu_obN (by omega) (by omega)
theorem lw_row (hL : L ≤ 3072) (hj : j + 6 ≤ L) (h : JR σ S) (hs : lw_sc L xs σ) (hn : lw_nx L xs j) : lw_fin (L_law_L212 (nI j) σ) := by
  rw [L_law_L212_eq]
  simp only [hs.1, hs.2, lw_gd hL hj (show 1 < 6 by decide) (show (1 : Int32) = nI 1 from rfl), lw_gd hL hj (show 2 < 6 by decide) (show (2 : Int32) = nI 2 from rfl), lw_gd hL hj (show 3 < 6 by decide) (show (3 : Int32) = nI 3 from rfl), cond_false]
  exact lw_i (J_row h _ _ _) hs hn (fun τ v ht => by simp only [ht.1, ht.2, lw_gd hL hj (show 1 < 6 by decide) (show (1 : Int32) = nI 1 from rfl), lw_gd hL hj (show 2 < 6 by decide) (show (2 : Int32) = nI 2 from rfl), lw_gd hL hj (show 3 < 6 by decide) (show (3 : Int32) = nI 3 from rfl), cond_false])
theorem lw_lose (hL : L ≤ 3072) (hj : j + 6 ≤ L) (h : JR σ S) (hs : lw_sc L xs σ) (hn : lw_nx L xs j) : lw_fin (L_law_L255 (nI j) σ) := by
  rw [L_law_L255_eq]
  simp only [hs.1, hs.2, lw_gd hL hj (show 1 < 6 by decide) (show (1 : Int32) = nI 1 from rfl), cond_false]
  exact lw_i (J_lose h _) hs hn (fun τ v ht => by simp only [ht.1, ht.2, lw_gd hL hj (show 1 < 6 by decide) (show (1 : Int32) = nI 1 from rfl), cond_false])
theorem lw_kind (hL : L ≤ 3072) (hj : j + 6 ≤ L) (h : JR σ S) (hs : lw_sc L xs σ) (hn : lw_nx L xs j) : lw_fin (L_law_L278 (nI j) σ) := by
  rw [L_law_L278_eq]
  simp only [hs.1, hs.2, lw_gd hL hj (show 1 < 6 by decide) (show (1 : Int32) = nI 1 from rfl), cond_false]
  exact lw_i (J_kind h _) hs hn (fun τ v ht => by simp only [ht.1, ht.2, lw_gd hL hj (show 1 < 6 by decide) (show (1 : Int32) = nI 1 from rfl), cond_false])
theorem lw_size (hL : L ≤ 3072) (hj : j + 6 ≤ L) (h : JR σ S) (hs : lw_sc L xs σ) (hn : lw_nx L xs j) : lw_fin (L_law_L301 (nI j) σ) := by
  rw [L_law_L301_eq]
  simp only [hs.1, hs.2, lw_gd hL hj (show 1 < 6 by decide) (show (1 : Int32) = nI 1 from rfl), cond_false]
  exact lw_i (J_size h _) hs hn (fun τ v ht => by simp only [ht.1, ht.2, lw_gd hL hj (show 1 < 6 by decide) (show (1 : Int32) = nI 1 from rfl), cond_false])
theorem lw_get (hL : L ≤ 3072) (hj : j + 6 ≤ L) (h : JR σ S) (hs : lw_sc L xs σ) (hn : lw_nx L xs j) : lw_fin (L_law_L324 (nI j) σ) := by
  rw [L_law_L324_eq]
  simp only [hs.1, hs.2, lw_gd hL hj (show 1 < 6 by decide) (show (1 : Int32) = nI 1 from rfl), lw_gd hL hj (show 2 < 6 by decide) (show (2 : Int32) = nI 2 from rfl), lw_gd hL hj (show 3 < 6 by decide) (show (3 : Int32) = nI 3 from rfl), cond_false]
  exact lw_l (J_get h _ _ _) hs hn (fun τ v ht => by simp only [ht.1, ht.2, lw_gd hL hj (show 1 < 6 by decide) (show (1 : Int32) = nI 1 from rfl), lw_gd hL hj (show 2 < 6 by decide) (show (2 : Int32) = nI 2 from rfl), lw_gd hL hj (show 3 < 6 by decide) (show (3 : Int32) = nI 3 from rfl), cond_false])
theorem lw_what (hL : L ≤ 3072) (hj : j + 6 ≤ L) (h : JR σ S) (hs : lw_sc L xs σ) (hn : lw_nx L xs j) : lw_fin (L_law_L368 (nI j) σ) := by
  rw [L_law_L368_eq]
  simp only [hs.1, hs.2, lw_gd hL hj (show 1 < 6 by decide) (show (1 : Int32) = nI 1 from rfl), lw_gd hL hj (show 2 < 6 by decide) (show (2 : Int32) = nI 2 from rfl), cond_false]
  exact lw_i (J_what h _ _) hs hn (fun τ v ht => by simp only [ht.1, ht.2, lw_gd hL hj (show 1 < 6 by decide) (show (1 : Int32) = nI 1 from rfl), lw_gd hL hj (show 2 < 6 by decide) (show (2 : Int32) = nI 2 from rfl), cond_false])
theorem lw_bits (hL : L ≤ 3072) (hj : j + 6 ≤ L) (h : JR σ S) (hs : lw_sc L xs σ) (hn : lw_nx L xs j) : lw_fin (L_law_L401 (nI j) σ) := by
  rw [L_law_L401_eq]
  simp only [hs.1, hs.2, lw_gd hL hj (show 1 < 6 by decide) (show (1 : Int32) = nI 1 from rfl), lw_gd hL hj (show 2 < 6 by decide) (show (2 : Int32) = nI 2 from rfl), cond_false]
  exact lw_l (J_bits h _ _) hs hn (fun τ v ht => by simp only [ht.1, ht.2, lw_gd hL hj (show 1 < 6 by decide) (show (1 : Int32) = nI 1 from rfl), lw_gd hL hj (show 2 < 6 by decide) (show (2 : Int32) = nI 2 from rfl), cond_false])
theorem lw_changed (hL : L ≤ 3072) (hj : j + 6 ≤ L) (h : JR σ S) (hs : lw_sc L xs σ) (hn : lw_nx L xs j) : lw_fin (L_law_L435 (nI j) σ) := by
  rw [L_law_L435_eq]
  simp only [hs.1, hs.2, lw_gd hL hj (show 1 < 6 by decide) (show (1 : Int32) = nI 1 from rfl), cond_false]
  exact lw_i (J_changed h _) hs hn (fun τ v ht => by simp only [ht.1, ht.2, lw_gd hL hj (show 1 < 6 by decide) (show (1 : Int32) = nI 1 from rfl), cond_false])
theorem lw_change (hL : L ≤ 3072) (hj : j + 6 ≤ L) (h : JR σ S) (hs : lw_sc L xs σ) (hn : lw_nx L xs j) : lw_fin (L_law_L458 (nI j) σ) := by
  rw [L_law_L458_eq]
  simp only [hs.1, hs.2, lw_gd hL hj (show 1 < 6 by decide) (show (1 : Int32) = nI 1 from rfl), lw_gd hL hj (show 2 < 6 by decide) (show (2 : Int32) = nI 2 from rfl), lw_gd hL hj (show 3 < 6 by decide) (show (3 : Int32) = nI 3 from rfl), lw_gd hL hj (show 4 < 6 by decide) (show (4 : Int32) = nI 4 from rfl), cond_false]
  exact lw_i (J_change h _ _ _ _) hs hn (fun τ v ht => by simp only [ht.1, ht.2, lw_gd hL hj (show 1 < 6 by decide) (show (1 : Int32) = nI 1 from rfl), lw_gd hL hj (show 2 < 6 by decide) (show (2 : Int32) = nI 2 from rfl), lw_gd hL hj (show 3 < 6 by decide) (show (3 : Int32) = nI 3 from rfl), lw_gd hL hj (show 4 < 6 by decide) (show (4 : Int32) = nI 4 from rfl), cond_false])
theorem lw_move (hL : L ≤ 3072) (hj : j + 6 ≤ L) (h : JR σ S) (hs : lw_sc L xs σ) (hn : lw_nx L xs j) : lw_fin (L_law_L511 (nI j) σ) := by
  rw [L_law_L511_eq]
  simp only [hs.1, hs.2, lw_gd hL hj (show 1 < 6 by decide) (show (1 : Int32) = nI 1 from rfl), lw_gd hL hj (show 2 < 6 by decide) (show (2 : Int32) = nI 2 from rfl), lw_gd hL hj (show 3 < 6 by decide) (show (3 : Int32) = nI 3 from rfl), lw_gd hL hj (show 4 < 6 by decide) (show (4 : Int32) = nI 4 from rfl), lw_gd hL hj (show 5 < 6 by decide) (show (5 : Int32) = nI 5 from rfl), cond_false]
  exact lw_i (J_move h _ _ _ _ _) hs hn (fun τ v ht => by simp only [ht.1, ht.2, lw_gd hL hj (show 1 < 6 by decide) (show (1 : Int32) = nI 1 from rfl), lw_gd hL hj (show 2 < 6 by decide) (show (2 : Int32) = nI 2 from rfl), lw_gd hL hj (show 3 < 6 by decide) (show (3 : Int32) = nI 3 from rfl), lw_gd hL hj (show 4 < 6 by decide) (show (4 : Int32) = nI 4 from rfl), lw_gd hL hj (show 5 < 6 by decide) (show (5 : Int32) = nI 5 from rfl), cond_false])
theorem lw_drop (hL : L ≤ 3072) (hj : j + 6 ≤ L) (h : JR σ S) (hs : lw_sc L xs σ) (hn : lw_nx L xs j) : lw_fin (L_law_L574 (nI j) σ) := by
  rw [L_law_L574_eq]
  exact lw_i (J_drop h) hs hn (fun τ v ht => rfl)
theorem lw_preview (hL : L ≤ 3072) (hj : j + 6 ≤ L) (h : JR σ S) (hs : lw_sc L xs σ) (hn : lw_nx L xs j) : lw_fin (L_law_L587 (nI j) σ) := by
  rw [L_law_L587_eq]
  simp only [hs.1, hs.2, lw_gd hL hj (show 1 < 6 by decide) (show (1 : Int32) = nI 1 from rfl), cond_false]
  exact lw_i (J_preview h _) hs hn (fun τ v ht => by simp only [ht.1, ht.2, lw_gd hL hj (show 1 < 6 by decide) (show (1 : Int32) = nI 1 from rfl), cond_false])
theorem lw_type (hL : L ≤ 3072) (hj : j + 6 ≤ L) (h : JR σ S) (hs : lw_sc L xs σ) (hn : lw_nx L xs j) : lw_fin (L_law_L610 (nI j) σ) := by
  rw [L_law_L610_eq]
  simp only [hs.1, hs.2, lw_gd hL hj (show 1 < 6 by decide) (show (1 : Int32) = nI 1 from rfl), cond_false]
  exact lw_i (J_type h _) hs hn (fun τ v ht => by simp only [ht.1, ht.2, lw_gd hL hj (show 1 < 6 by decide) (show (1 : Int32) = nI 1 from rfl), cond_false])
theorem lw_wipe (hL : L ≤ 3072) (hj : j + 6 ≤ L) (h : JR σ S) (hs : lw_sc L xs σ) (hn : lw_nx L xs j) : lw_fin (L_law_L633 (nI j) σ) := by
  rw [L_law_L633_eq]
  exact lw_i (J_wipe h) hs hn (fun τ v ht => rfl)
theorem lw_flaw (hL : L ≤ 3072) (hj : j + 6 ≤ L) (h : JR σ S) (hs : lw_sc L xs σ) (hn : lw_nx L xs j) : lw_fin (L_law_L646 (nI j) σ) := by
  rw [L_law_L646_eq]
  exact lw_i (J_flaw h) hs hn (fun τ v ht => rfl)
theorem lw_read (hL : L ≤ 3072) (hj : j + 6 ≤ L) (h : JR σ S) (hs : lw_sc L xs σ) (hn : lw_nx L xs j) : lw_fin (L_law_L659 (nI j) σ) := by
  rw [L_law_L659_eq]
  exact lw_i (J_read h) hs hn (fun τ v ht => rfl)
theorem lw_text (hL : L ≤ 3072) (hj : j + 6 ≤ L) (h : JR σ S) (hs : lw_sc L xs σ) (hn : lw_nx L xs j) : lw_fin (L_law_L672 (nI j) σ) := by
  rw [L_law_L672_eq]
  simp only [hs.1, hs.2, lw_gd hL hj (show 1 < 6 by decide) (show (1 : Int32) = nI 1 from rfl), lw_gd hL hj (show 2 < 6 by decide) (show (2 : Int32) = nI 2 from rfl), cond_false]
  exact lw_i (J_text h _ _) hs hn (fun τ v ht => by simp only [ht.1, ht.2, lw_gd hL hj (show 1 < 6 by decide) (show (1 : Int32) = nI 1 from rfl), lw_gd hL hj (show 2 < 6 by decide) (show (2 : Int32) = nI 2 from rfl), cond_false])
theorem lw_lay (hL : L ≤ 3072) (hj : j + 6 ≤ L) (h : JR σ S) (hs : lw_sc L xs σ) (hn : lw_nx L xs j) : lw_fin (L_law_L705 (nI j) σ) := by
  rw [L_law_L705_eq]
  exact lw_i (J_lay h) hs hn (fun τ v ht => rfl)
theorem lw_undo (hL : L ≤ 3072) (hj : j + 6 ≤ L) (h : JR σ S) (hs : lw_sc L xs σ) (hn : lw_nx L xs j) : lw_fin (L_law_L718 (nI j) σ) := by
  rw [L_law_L718_eq]
  exact lw_i (J_undo h) hs hn (fun τ v ht => rfl)
theorem lw_redo (hL : L ≤ 3072) (hj : j + 6 ≤ L) (h : JR σ S) (hs : lw_sc L xs σ) (hn : lw_nx L xs j) : lw_fin (L_law_L731 (nI j) σ) := by
  rw [L_law_L731_eq]
  exact lw_i (J_redo h) hs hn (fun τ v ht => rfl)
theorem lw_again (hL : L ≤ 3072) (hj : j + 6 ≤ L) (h : JR σ S) (hs : lw_sc L xs σ) (hn : lw_nx L xs j) : lw_fin (L_law_L744 (nI j) σ) := by
  rw [L_law_L744_eq]
  simp only [hs.1, hs.2, lw_gd hL hj (show 1 < 6 by decide) (show (1 : Int32) = nI 1 from rfl), cond_false]
  exact lw_i (J_again h _) hs hn (fun τ v ht => by simp only [ht.1, ht.2, lw_gd hL hj (show 1 < 6 by decide) (show (1 : Int32) = nI 1 from rfl), cond_false])
theorem lw_out (hL : L ≤ 3072) (hj : j + 6 ≤ L) (h : JR σ S) (hs : lw_sc L xs σ) (hn : lw_nx L xs j) : lw_fin (L_law_L767 (nI j) σ) := by
  rw [L_law_L767_eq]
  simp only [hs.1, hs.2, lw_gd hL hj (show 1 < 6 by decide) (show (1 : Int32) = nI 1 from rfl), cond_false]
  exact lw_i (J_out h _) hs hn (fun τ v ht => by simp only [ht.1, ht.2, lw_gd hL hj (show 1 < 6 by decide) (show (1 : Int32) = nI 1 from rfl), cond_false])
theorem lw_lift (hL : L ≤ 3072) (hj : j + 6 ≤ L) (h : JR σ S) (hs : lw_sc L xs σ) (hn : lw_nx L xs j) : lw_fin (L_law_L790 (nI j) σ) := by
  rw [L_law_L790_eq]
  simp only [hs.1, hs.2, lw_gd hL hj (show 1 < 6 by decide) (show (1 : Int32) = nI 1 from rfl), cond_false]
  exact lw_i (J_lift h _) hs hn (fun τ v ht => by simp only [ht.1, ht.2, lw_gd hL hj (show 1 < 6 by decide) (show (1 : Int32) = nI 1 from rfl), cond_false])
theorem lw_swap (hL : L ≤ 3072) (hj : j + 6 ≤ L) (h : JR σ S) (hs : lw_sc L xs σ) (hn : lw_nx L xs j) : lw_fin (L_law_L813 (nI j) σ) := by
  rw [L_law_L813_eq]
  simp only [hs.1, hs.2, lw_gd hL hj (show 1 < 6 by decide) (show (1 : Int32) = nI 1 from rfl), cond_false]
  exact lw_i (J_swap h _) hs hn (fun τ v ht => by simp only [ht.1, ht.2, lw_gd hL hj (show 1 < 6 by decide) (show (1 : Int32) = nI 1 from rfl), cond_false])
theorem lw_with (hL : L ≤ 3072) (hj : j + 6 ≤ L) (h : JR σ S) (hs : lw_sc L xs σ) (hn : lw_nx L xs j) : lw_fin (L_law_L836 (nI j) σ) := by
  rw [L_law_L836_eq]
  simp only [hs.1, hs.2, lw_gd hL hj (show 1 < 6 by decide) (show (1 : Int32) = nI 1 from rfl), cond_false]
  exact lw_i (J_with h _) hs hn (fun τ v ht => by simp only [ht.1, ht.2, lw_gd hL hj (show 1 < 6 by decide) (show (1 : Int32) = nI 1 from rfl), cond_false])
theorem lw_hangs (hL : L ≤ 3072) (hj : j + 6 ≤ L) (h : JR σ S) (hs : lw_sc L xs σ) (hn : lw_nx L xs j) : lw_fin (L_law_L859 (nI j) σ) := by
  rw [L_law_L859_eq]
  simp only [hs.1, hs.2, lw_gd hL hj (show 1 < 6 by decide) (show (1 : Int32) = nI 1 from rfl), cond_false]
  exact lw_i (J_hangs h _) hs hn (fun τ v ht => by simp only [ht.1, ht.2, lw_gd hL hj (show 1 < 6 by decide) (show (1 : Int32) = nI 1 from rfl), cond_false])
theorem lw_without (hL : L ≤ 3072) (hj : j + 6 ≤ L) (h : JR σ S) (hs : lw_sc L xs σ) (hn : lw_nx L xs j) : lw_fin (L_law_L882 (nI j) σ) := by
  rw [L_law_L882_eq]
  simp only [hs.1, hs.2, lw_gd hL hj (show 1 < 6 by decide) (show (1 : Int32) = nI 1 from rfl), lw_gd hL hj (show 2 < 6 by decide) (show (2 : Int32) = nI 2 from rfl), lw_gd hL hj (show 3 < 6 by decide) (show (3 : Int32) = nI 3 from rfl), cond_false]
  exact lw_l (J_without h _ _ _) hs hn (fun τ v ht => by simp only [ht.1, ht.2, lw_gd hL hj (show 1 < 6 by decide) (show (1 : Int32) = nI 1 from rfl), lw_gd hL hj (show 2 < 6 by decide) (show (2 : Int32) = nI 2 from rfl), lw_gd hL hj (show 3 < 6 by decide) (show (3 : Int32) = nI 3 from rfl), cond_false])
theorem lw_trace (hL : L ≤ 3072) (hj : j + 6 ≤ L) (h : JR σ S) (hs : lw_sc L xs σ) (hn : lw_nx L xs j) : lw_fin (L_law_L926 (nI j) σ) := by
  rw [L_law_L926_eq]
  simp only [hs.1, hs.2, lw_gd hL hj (show 1 < 6 by decide) (show (1 : Int32) = nI 1 from rfl), lw_gd hL hj (show 2 < 6 by decide) (show (2 : Int32) = nI 2 from rfl), lw_gd hL hj (show 3 < 6 by decide) (show (3 : Int32) = nI 3 from rfl), cond_false]
  exact lw_l (J_trace h _ _ _) hs hn (fun τ v ht => by simp only [ht.1, ht.2, lw_gd hL hj (show 1 < 6 by decide) (show (1 : Int32) = nI 1 from rfl), lw_gd hL hj (show 2 < 6 by decide) (show (2 : Int32) = nI 2 from rfl), lw_gd hL hj (show 3 < 6 by decide) (show (3 : Int32) = nI 3 from rfl), cond_false])
theorem lw_dead (hL : L ≤ 3072) (hj : j + 6 ≤ L) (h : JR σ S) (hs : lw_sc L xs σ) (hn : lw_nx L xs j) : lw_fin (L_law_L970 (nI j) σ) := by
  rw [L_law_L970_eq]
  simp only [hs.1, hs.2, lw_gd hL hj (show 1 < 6 by decide) (show (1 : Int32) = nI 1 from rfl), cond_false]
  exact lw_i (J_dead h _) hs hn (fun τ v ht => by simp only [ht.1, ht.2, lw_gd hL hj (show 1 < 6 by decide) (show (1 : Int32) = nI 1 from rfl), cond_false])
theorem lw_prune (hL : L ≤ 3072) (hj : j + 6 ≤ L) (h : JR σ S) (hs : lw_sc L xs σ) (hn : lw_nx L xs j) : lw_fin (L_law_L993 (nI j) σ) := by
  rw [L_law_L993_eq]
  exact lw_i (J_prune h) hs hn (fun τ v ht => rfl)
theorem lw_order (hL : L ≤ 3072) (hj : j + 6 ≤ L) (h : JR σ S) (hs : lw_sc L xs σ) (hn : lw_nx L xs j) : lw_fin (L_law_L1006 (nI j) σ) := by
  rw [L_law_L1006_eq]
  simp only [hs.1, hs.2, lw_gd hL hj (show 1 < 6 by decide) (show (1 : Int32) = nI 1 from rfl), cond_false]
  exact lw_i (J_order h _) hs hn (fun τ v ht => by simp only [ht.1, ht.2, lw_gd hL hj (show 1 < 6 by decide) (show (1 : Int32) = nI 1 from rfl), cond_false])
theorem lw_blame (hL : L ≤ 3072) (hj : j + 6 ≤ L) (h : JR σ S) (hs : lw_sc L xs σ) (hn : lw_nx L xs j) : lw_fin (L_law_L1029 (nI j) σ) := by
  rw [L_law_L1029_eq]
  simp only [hs.1, hs.2, lw_gd hL hj (show 1 < 6 by decide) (show (1 : Int32) = nI 1 from rfl), lw_gd hL hj (show 2 < 6 by decide) (show (2 : Int32) = nI 2 from rfl), cond_false]
  exact lw_i (J_blame h _ _) hs hn (fun τ v ht => by simp only [ht.1, ht.2, lw_gd hL hj (show 1 < 6 by decide) (show (1 : Int32) = nI 1 from rfl), lw_gd hL hj (show 2 < 6 by decide) (show (2 : Int32) = nI 2 from rfl), cond_false])
theorem lw_since (hL : L ≤ 3072) (hj : j + 6 ≤ L) (h : JR σ S) (hs : lw_sc L xs σ) (hn : lw_nx L xs j) : lw_fin (L_law_L1062 (nI j) σ) := by
  rw [L_law_L1062_eq]
  simp only [hs.1, hs.2, lw_gd hL hj (show 1 < 6 by decide) (show (1 : Int32) = nI 1 from rfl), lw_gd hL hj (show 2 < 6 by decide) (show (2 : Int32) = nI 2 from rfl), cond_false]
  exact lw_i (J_since h _ _) hs hn (fun τ v ht => by simp only [ht.1, ht.2, lw_gd hL hj (show 1 < 6 by decide) (show (1 : Int32) = nI 1 from rfl), lw_gd hL hj (show 2 < 6 by decide) (show (2 : Int32) = nI 2 from rfl), cond_false])
theorem lw_settle (hL : L ≤ 3072) (hj : j + 6 ≤ L) (h : JR σ S) (hs : lw_sc L xs σ) (hn : lw_nx L xs j) : lw_fin (L_law_L1095 (nI j) σ) := by
  rw [L_law_L1095_eq]
  exact lw_i (J_settle h) hs hn (fun τ v ht => rfl)
theorem lw_keep (hL : L ≤ 3072) (hj : j + 6 ≤ L) (h : JR σ S) (hs : lw_sc L xs σ) (hn : lw_nx L xs j) : lw_fin (L_law_L1108 (nI j) σ) := by
  rw [L_law_L1108_eq]
  exact lw_i (J_keep h) hs hn (fun τ v ht => rfl)
theorem lw_go (hL : L ≤ 3072) (hj : j + 6 ≤ L) (h : JR σ S) (hs : lw_sc L xs σ) (hn : lw_nx L xs j) : lw_fin (L_law_L1121 (nI j) σ) := by
  rw [L_law_L1121_eq]
  simp only [hs.1, hs.2, lw_gd hL hj (show 1 < 6 by decide) (show (1 : Int32) = nI 1 from rfl), cond_false]
  exact lw_i (J_go h _) hs hn (fun τ v ht => by simp only [ht.1, ht.2, lw_gd hL hj (show 1 < 6 by decide) (show (1 : Int32) = nI 1 from rfl), cond_false])
theorem lw_between (hL : L ≤ 3072) (hj : j + 6 ≤ L) (h : JR σ S) (hs : lw_sc L xs σ) (hn : lw_nx L xs j) : lw_fin (L_law_L1144 (nI j) σ) := by
  rw [L_law_L1144_eq]
  simp only [hs.1, hs.2, lw_gd hL hj (show 1 < 6 by decide) (show (1 : Int32) = nI 1 from rfl), lw_gd hL hj (show 2 < 6 by decide) (show (2 : Int32) = nI 2 from rfl), cond_false]
  exact lw_i (J_between h _ _) hs hn (fun τ v ht => by simp only [ht.1, ht.2, lw_gd hL hj (show 1 < 6 by decide) (show (1 : Int32) = nI 1 from rfl), lw_gd hL hj (show 2 < 6 by decide) (show (2 : Int32) = nI 2 from rfl), cond_false])
theorem lw_fault (hL : L ≤ 3072) (hj : j + 6 ≤ L) (h : JR σ S) (hs : lw_sc L xs σ) (hn : lw_nx L xs j) : lw_fin (L_law_L1177 (nI j) σ) := by
  rw [L_law_L1177_eq]
  simp only [hs.1, hs.2, lw_gd hL hj (show 1 < 6 by decide) (show (1 : Int32) = nI 1 from rfl), cond_false]
  exact lw_i (J_fault h _) hs hn (fun τ v ht => by simp only [ht.1, ht.2, lw_gd hL hj (show 1 < 6 by decide) (show (1 : Int32) = nI 1 from rfl), cond_false])
theorem lw_met (hL : L ≤ 3072) (hj : j + 6 ≤ L) (h : JR σ S) (hs : lw_sc L xs σ) (hn : lw_nx L xs j) : lw_fin (L_law_L1200 (nI j) σ) := by
  rw [L_law_L1200_eq]
  simp only [hs.1, hs.2, lw_gd hL hj (show 1 < 6 by decide) (show (1 : Int32) = nI 1 from rfl), lw_gd hL hj (show 2 < 6 by decide) (show (2 : Int32) = nI 2 from rfl), cond_false]
  exact lw_i (J_met h _ _) hs hn (fun τ v ht => by simp only [ht.1, ht.2, lw_gd hL hj (show 1 < 6 by decide) (show (1 : Int32) = nI 1 from rfl), lw_gd hL hj (show 2 < 6 by decide) (show (2 : Int32) = nI 2 from rfl), cond_false])
theorem lw_count (hL : L ≤ 3072) (hj : j + 6 ≤ L) (h : JR σ S) (hs : lw_sc L xs σ) (hn : lw_nx L xs j) : lw_fin (L_law_L1233 (nI j) σ) := by
  rw [L_law_L1233_eq]
  simp only [hs.1, hs.2, lw_gd hL hj (show 1 < 6 by decide) (show (1 : Int32) = nI 1 from rfl), cond_false]
  exact lw_i (J_count h _) hs hn (fun τ v ht => by simp only [ht.1, ht.2, lw_gd hL hj (show 1 < 6 by decide) (show (1 : Int32) = nI 1 from rfl), cond_false])
theorem lw_digest (hL : L ≤ 3072) (hj : j + 6 ≤ L) (h : JR σ S) (hs : lw_sc L xs σ) (hn : lw_nx L xs j) : lw_fin (L_law_L1256 (nI j) σ) := by
  rw [L_law_L1256_eq]
  exact lw_l (J_digest h) hs hn (fun τ v ht => rfl)
theorem lw_loop (hL : L ≤ 3072) : ∀ n j, L ≤ n + j → j ≤ L → ∀ σ S, JR σ S → lw_sc L xs σ → lw_fin (L_law_L18 (nI j) σ) := by
  intro n
  induction n using Nat.strongRecOn with
  | ind n ih =>
    intro j hn hjL σ S h hs
    rw [L_law_L18_eq, hs.1]
    by_cases hj : j + 6 ≤ L
    · rw [show (6 : Int32) = nI 6 from rfl, nI_subN (show 6 ≤ L by omega), decide_eq_false (by rw [nI_ltI (by omega) (by omega)]; omega), cond_false, nI_clamp (show L < 2 ^ 31 by omega), pu_obN (show j < L by omega) (by omega), cond_false]
      have hn : lw_nx L xs j := fun υ S' h' hs' => by
        rw [L_law_L1270_eq, show (6 : Int32) = nI 6 from rfl, nI_add]
        exact ih (n - 1) (by omega) (j + 6) (by omega) hj υ S' h' hs'
      exact (lw_fin.cond (lw_row hL hj h hs hn) (lw_fin.cond (lw_lose hL hj h hs hn) (lw_fin.cond (lw_kind hL hj h hs hn) (lw_fin.cond (lw_size hL hj h hs hn) (lw_fin.cond (lw_get hL hj h hs hn) (lw_fin.cond (lw_what hL hj h hs hn) (lw_fin.cond (lw_bits hL hj h hs hn) (lw_fin.cond (lw_changed hL hj h hs hn) (lw_fin.cond (lw_change hL hj h hs hn) (lw_fin.cond (lw_move hL hj h hs hn) (lw_fin.cond (lw_drop hL hj h hs hn) (lw_fin.cond (lw_preview hL hj h hs hn) (lw_fin.cond (lw_type hL hj h hs hn) (lw_fin.cond (lw_wipe hL hj h hs hn) (lw_fin.cond (lw_flaw hL hj h hs hn) (lw_fin.cond (lw_read hL hj h hs hn) (lw_fin.cond (lw_text hL hj h hs hn) (lw_fin.cond (lw_lay hL hj h hs hn) (lw_fin.cond (lw_undo hL hj h hs hn) (lw_fin.cond (lw_redo hL hj h hs hn) (lw_fin.cond (lw_again hL hj h hs hn) (lw_fin.cond (lw_out hL hj h hs hn) (lw_fin.cond (lw_lift hL hj h hs hn) (lw_fin.cond (lw_swap hL hj h hs hn) (lw_fin.cond (lw_with hL hj h hs hn) (lw_fin.cond (lw_hangs hL hj h hs hn) (lw_fin.cond (lw_without hL hj h hs hn) (lw_fin.cond (lw_trace hL hj h hs hn) (lw_fin.cond (lw_dead hL hj h hs hn) (lw_fin.cond (lw_prune hL hj h hs hn) (lw_fin.cond (lw_order hL hj h hs hn) (lw_fin.cond (lw_blame hL hj h hs hn) (lw_fin.cond (lw_since hL hj h hs hn) (lw_fin.cond (lw_settle hL hj h hs hn) (lw_fin.cond (lw_keep hL hj h hs hn) (lw_fin.cond (lw_go hL hj h hs hn) (lw_fin.cond (lw_between hL hj h hs hn) (lw_fin.cond (lw_fault hL hj h hs hn) (lw_fin.cond (lw_met hL hj h hs hn) (lw_fin.cond (lw_count hL hj h hs hn) (lw_fin.cond (lw_digest hL hj h hs hn) (hn σ S h hs))))))))))))))))))))))))))))))))))))))))))
    · have e : nI L - 6 < nI j := by
        by_cases h6 : 6 ≤ L
        · rw [show (6 : Int32) = nI 6 from rfl, nI_subN h6, nI_ltI (by omega) (by omega)]; omega
        · exact (by decide : ∀ a b : Fin 6, nI a.1 - 6 < nI b.1) ⟨L, by omega⟩ ⟨j, by omega⟩
      rw [decide_eq_true e, cond_true]
      exact ⟨σ, rfl⟩
end LAW
