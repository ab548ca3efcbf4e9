/-! A call of one desk among the four. -/
theorem p4_pt_self {s : Nat → pd_H} {d : Nat} : p4_pt s d (s d) = s := by
  funext q
  unfold p4_pt
  by_cases h : q = d
  · rw [if_pos h, h]
  · rw [if_neg h]
/-- what the four desks hold -/
def l_W (s : Nat → pd_H) (Q : Nat → cS) : Prop := ∀ d, d < 4 → s_wf (Q d) ∧ RX (s d) (Q d) ∧ p4_gH (s d)
def qs (Q : Nat → cS) (d : Nat) (S : cS) : Nat → cS := fun q => if q = d then S else Q q
theorem qs_s {Q : Nat → cS} {d : Nat} {S : cS} : qs Q d S d = S := if_pos rfl
theorem qs_n {Q : Nat → cS} {d e : Nat} {S : cS} (h : e ≠ d) : qs Q d S e = Q e := if_neg h
theorem l_W.put {s : Nat → pd_H} {Q : Nat → cS} (h : l_W s Q) {d : Nat} {T : pd_H} {S : cS} (hS : s_wf S) (hT : RX T S) (hg : p4_gH T) : l_W (p4_pt s d T) (qs Q d S) := fun e he => by
  by_cases q : e = d
  · subst q
    rw [qs_s, p4_ptd]
    exact ⟨hS, hT, hg⟩
  · rw [qs_n q, show p4_pt s d T e = s e from if_neg q]
    exact h e he
theorem y_gL {ls : pd_L} (h : ∀ o ∈ ls, o = some (pd_r 9 0) ∨ o = none ∨ ∃ x, o = some (pd_i x)) : p4_gL ls := fun o ho v hv => by
  rcases h o ho with e | e | ⟨x, e⟩
  · rw [e] at hv; cases hv; exact ⟨by decide, rfl⟩
  · rw [e] at hv; cases hv
  · rw [e] at hv; cases hv; exact trivial
theorem y_gen (hT : pd_TF) {s : Nat → pd_H} {d : Nat} (hd : d < 4) (hg : p4_gH (s d)) {m : Nat} (hm : m < 90) {ls : pd_L} (hl : p4_gL ls) {w : pd_R} (e : pd_run pd_cd (m, 0, ls, [], s d) = some w) : p4_run pd_cd (m, 0, p4_eL d ls, [], p4_jn s) = some (p4_eR s d w) ∧ p4_gR w := by
  have h := p4_run_on (s := s) hT hd (c := (m, 0, ls, [], s d)) ⟨hm, hl, fun v hv => absurd hv List.not_mem_nil, hg⟩ e
  rw [show p4_eC s d (m, 0, ls, [], s d) = (m, 0, p4_eL d ls, [], p4_jn (p4_pt s d (s d))) from rfl, p4_pt_self] at h
  exact h
theorem y_row {s : Nat → pd_H} {Q : Nat → cS} {d : Nat} (hd : d < 4) (h : l_W s Q) (a0 a1 a2 : Int32) {v : Int32} {S : cS} (hz : zd (X_row a0 a1 a2) (s d) v S) (hS : s_wf S) : ∃ s', Y_row (230 * d) a0 a1 a2 (p4_jn s) = some (p4_jn s', some (pd_i v)) ∧ l_W s' (qs Q d S) ∧ s' 4 = s 4 := by
  obtain ⟨T, e, hX⟩ := hz
  obtain ⟨h1, h2⟩ := y_gen pd_TF_ok hd (h d hd).2.2 (m := 36) (by decide) (ls := [some (pd_r 9 0), some (pd_i a0), some (pd_i a1), some (pd_i a2), none]) (y_gL (fun o ho => by simp only [List.mem_cons, List.not_mem_nil, or_false] at ho; rcases ho with rfl | rfl | rfl | rfl | rfl <;> first | exact Or.inl rfl | exact Or.inr (Or.inl rfl) | exact Or.inr (Or.inr ⟨_, rfl⟩))) e
  exact ⟨p4_pt s d T, h1, h.put hS hX h2.1, if_neg (by omega)⟩
theorem y_get {s : Nat → pd_H} {Q : Nat → cS} {d : Nat} (hd : d < 4) (h : l_W s Q) (a0 a1 a2 : Int32) {v : Int64} {S : cS} (hz : zl (X_get a0 a1 a2) (s d) v S) (hS : s_wf S) : ∃ s', Y_get (230 * d) a0 a1 a2 (p4_jn s) = some (p4_jn s', some (pd_j v)) ∧ l_W s' (qs Q d S) ∧ s' 4 = s 4 := by
  obtain ⟨T, e, hX⟩ := hz
  obtain ⟨h1, h2⟩ := y_gen pd_TF_ok hd (h d hd).2.2 (m := 37) (by decide) (ls := [some (pd_r 9 0), some (pd_i a0), some (pd_i a1), some (pd_i a2)]) (y_gL (fun o ho => by simp only [List.mem_cons, List.not_mem_nil, or_false] at ho; rcases ho with rfl | rfl | rfl | rfl <;> first | exact Or.inl rfl | exact Or.inr (Or.inl rfl) | exact Or.inr (Or.inr ⟨_, rfl⟩))) e
  exact ⟨p4_pt s d T, h1, h.put hS hX h2.1, if_neg (by omega)⟩
theorem y_what {s : Nat → pd_H} {Q : Nat → cS} {d : Nat} (hd : d < 4) (h : l_W s Q) (a0 a1 : Int32) {v : Int32} {S : cS} (hz : zd (X_what a0 a1) (s d) v S) (hS : s_wf S) : ∃ s', Y_what (230 * d) a0 a1 (p4_jn s) = some (p4_jn s', some (pd_i v)) ∧ l_W s' (qs Q d S) ∧ s' 4 = s 4 := by
  obtain ⟨T, e, hX⟩ := hz
  obtain ⟨h1, h2⟩ := y_gen pd_TF_ok hd (h d hd).2.2 (m := 38) (by decide) (ls := [some (pd_r 9 0), some (pd_i a0), some (pd_i a1), none]) (y_gL (fun o ho => by simp only [List.mem_cons, List.not_mem_nil, or_false] at ho; rcases ho with rfl | rfl | rfl | rfl <;> first | exact Or.inl rfl | exact Or.inr (Or.inl rfl) | exact Or.inr (Or.inr ⟨_, rfl⟩))) e
  exact ⟨p4_pt s d T, h1, h.put hS hX h2.1, if_neg (by omega)⟩
theorem y_change {s : Nat → pd_H} {Q : Nat → cS} {d : Nat} (hd : d < 4) (h : l_W s Q) (a0 a1 a2 a3 : Int32) {v : Int32} {S : cS} (hz : zd (X_change a0 a1 a2 a3) (s d) v S) (hS : s_wf S) : ∃ s', Y_change (230 * d) a0 a1 a2 a3 (p4_jn s) = some (p4_jn s', some (pd_i v)) ∧ l_W s' (qs Q d S) ∧ s' 4 = s 4 := by
  obtain ⟨T, e, hX⟩ := hz
  obtain ⟨h1, h2⟩ := y_gen pd_TF_ok hd (h d hd).2.2 (m := 39) (by decide) (ls := [some (pd_r 9 0), some (pd_i a0), some (pd_i a1), some (pd_i a2), some (pd_i a3)]) (y_gL (fun o ho => by simp only [List.mem_cons, List.not_mem_nil, or_false] at ho; rcases ho with rfl | rfl | rfl | rfl | rfl <;> first | exact Or.inl rfl | exact Or.inr (Or.inl rfl) | exact Or.inr (Or.inr ⟨_, rfl⟩))) e
  exact ⟨p4_pt s d T, h1, h.put hS hX h2.1, if_neg (by omega)⟩
theorem y_move {s : Nat → pd_H} {Q : Nat → cS} {d : Nat} (hd : d < 4) (h : l_W s Q) (a0 a1 a2 a3 a4 : Int32) {v : Int32} {S : cS} (hz : zd (X_move a0 a1 a2 a3 a4) (s d) v S) (hS : s_wf S) : ∃ s', Y_move (230 * d) a0 a1 a2 a3 a4 (p4_jn s) = some (p4_jn s', some (pd_i v)) ∧ l_W s' (qs Q d S) ∧ s' 4 = s 4 := by
  obtain ⟨T, e, hX⟩ := hz
  obtain ⟨h1, h2⟩ := y_gen pd_TF_ok hd (h d hd).2.2 (m := 40) (by decide) (ls := [some (pd_r 9 0), some (pd_i a0), some (pd_i a1), some (pd_i a2), some (pd_i a3), some (pd_i a4)]) (y_gL (fun o ho => by simp only [List.mem_cons, List.not_mem_nil, or_false] at ho; rcases ho with rfl | rfl | rfl | rfl | rfl | rfl <;> first | exact Or.inl rfl | exact Or.inr (Or.inl rfl) | exact Or.inr (Or.inr ⟨_, rfl⟩))) e
  exact ⟨p4_pt s d T, h1, h.put hS hX h2.1, if_neg (by omega)⟩
theorem y_drop {s : Nat → pd_H} {Q : Nat → cS} {d : Nat} (hd : d < 4) (h : l_W s Q) {v : Int32} {S : cS} (hz : zd (X_drop ) (s d) v S) (hS : s_wf S) : ∃ s', Y_drop (230 * d)  (p4_jn s) = some (p4_jn s', some (pd_i v)) ∧ l_W s' (qs Q d S) ∧ s' 4 = s 4 := by
  obtain ⟨T, e, hX⟩ := hz
  obtain ⟨h1, h2⟩ := y_gen pd_TF_ok hd (h d hd).2.2 (m := 41) (by decide) (ls := [some (pd_r 9 0)]) (y_gL (fun o ho => by simp only [List.mem_cons, List.not_mem_nil, or_false] at ho; rcases ho with rfl <;> first | exact Or.inl rfl | exact Or.inr (Or.inl rfl) | exact Or.inr (Or.inr ⟨_, rfl⟩))) e
  exact ⟨p4_pt s d T, h1, h.put hS hX h2.1, if_neg (by omega)⟩
theorem y_lay {s : Nat → pd_H} {Q : Nat → cS} {d : Nat} (hd : d < 4) (h : l_W s Q) {v : Int32} {S : cS} (hz : zd (X_lay ) (s d) v S) (hS : s_wf S) : ∃ s', Y_lay (230 * d)  (p4_jn s) = some (p4_jn s', some (pd_i v)) ∧ l_W s' (qs Q d S) ∧ s' 4 = s 4 := by
  obtain ⟨T, e, hX⟩ := hz
  obtain ⟨h1, h2⟩ := y_gen pd_TF_ok hd (h d hd).2.2 (m := 42) (by decide) (ls := [some (pd_r 9 0), none, none, none]) (y_gL (fun o ho => by simp only [List.mem_cons, List.not_mem_nil, or_false] at ho; rcases ho with rfl | rfl | rfl | rfl <;> first | exact Or.inl rfl | exact Or.inr (Or.inl rfl) | exact Or.inr (Or.inr ⟨_, rfl⟩))) e
  exact ⟨p4_pt s d T, h1, h.put hS hX h2.1, if_neg (by omega)⟩
theorem y_undo {s : Nat → pd_H} {Q : Nat → cS} {d : Nat} (hd : d < 4) (h : l_W s Q) {v : Int32} {S : cS} (hz : zd (X_undo ) (s d) v S) (hS : s_wf S) : ∃ s', Y_undo (230 * d)  (p4_jn s) = some (p4_jn s', some (pd_i v)) ∧ l_W s' (qs Q d S) ∧ s' 4 = s 4 := by
  obtain ⟨T, e, hX⟩ := hz
  obtain ⟨h1, h2⟩ := y_gen pd_TF_ok hd (h d hd).2.2 (m := 43) (by decide) (ls := [some (pd_r 9 0), none, none]) (y_gL (fun o ho => by simp only [List.mem_cons, List.not_mem_nil, or_false] at ho; rcases ho with rfl | rfl | rfl <;> first | exact Or.inl rfl | exact Or.inr (Or.inl rfl) | exact Or.inr (Or.inr ⟨_, rfl⟩))) e
  exact ⟨p4_pt s d T, h1, h.put hS hX h2.1, if_neg (by omega)⟩
theorem y_out {s : Nat → pd_H} {Q : Nat → cS} {d : Nat} (hd : d < 4) (h : l_W s Q) (a0 : Int32) {v : Int32} {S : cS} (hz : zd (X_out a0) (s d) v S) (hS : s_wf S) : ∃ s', Y_out (230 * d) a0 (p4_jn s) = some (p4_jn s', some (pd_i v)) ∧ l_W s' (qs Q d S) ∧ s' 4 = s 4 := by
  obtain ⟨T, e, hX⟩ := hz
  obtain ⟨h1, h2⟩ := y_gen pd_TF_ok hd (h d hd).2.2 (m := 44) (by decide) (ls := [some (pd_r 9 0), some (pd_i a0), none]) (y_gL (fun o ho => by simp only [List.mem_cons, List.not_mem_nil, or_false] at ho; rcases ho with rfl | rfl | rfl <;> first | exact Or.inl rfl | exact Or.inr (Or.inl rfl) | exact Or.inr (Or.inr ⟨_, rfl⟩))) e
  exact ⟨p4_pt s d T, h1, h.put hS hX h2.1, if_neg (by omega)⟩
theorem y_with {s : Nat → pd_H} {Q : Nat → cS} {d : Nat} (hd : d < 4) (h : l_W s Q) (a0 : Int32) {v : Int32} {S : cS} (hz : zd (X_with a0) (s d) v S) (hS : s_wf S) : ∃ s', Y_with (230 * d) a0 (p4_jn s) = some (p4_jn s', some (pd_i v)) ∧ l_W s' (qs Q d S) ∧ s' 4 = s 4 := by
  obtain ⟨T, e, hX⟩ := hz
  obtain ⟨h1, h2⟩ := y_gen pd_TF_ok hd (h d hd).2.2 (m := 45) (by decide) (ls := [some (pd_r 9 0), some (pd_i a0), none, none, none, none, none]) (y_gL (fun o ho => by simp only [List.mem_cons, List.not_mem_nil, or_false] at ho; rcases ho with rfl | rfl | rfl | rfl | rfl | rfl | rfl <;> first | exact Or.inl rfl | exact Or.inr (Or.inl rfl) | exact Or.inr (Or.inr ⟨_, rfl⟩))) e
  exact ⟨p4_pt s d T, h1, h.put hS hX h2.1, if_neg (by omega)⟩
theorem y_hangs {s : Nat → pd_H} {Q : Nat → cS} {d : Nat} (hd : d < 4) (h : l_W s Q) (a0 : Int32) {v : Int32} {S : cS} (hz : zd (X_hangs a0) (s d) v S) (hS : s_wf S) : ∃ s', Y_hangs (230 * d) a0 (p4_jn s) = some (p4_jn s', some (pd_i v)) ∧ l_W s' (qs Q d S) ∧ s' 4 = s 4 := by
  obtain ⟨T, e, hX⟩ := hz
  obtain ⟨h1, h2⟩ := y_gen pd_TF_ok hd (h d hd).2.2 (m := 46) (by decide) (ls := [some (pd_r 9 0), some (pd_i a0), none]) (y_gL (fun o ho => by simp only [List.mem_cons, List.not_mem_nil, or_false] at ho; rcases ho with rfl | rfl | rfl <;> first | exact Or.inl rfl | exact Or.inr (Or.inl rfl) | exact Or.inr (Or.inr ⟨_, rfl⟩))) e
  exact ⟨p4_pt s d T, h1, h.put hS hX h2.1, if_neg (by omega)⟩
theorem y_without {s : Nat → pd_H} {Q : Nat → cS} {d : Nat} (hd : d < 4) (h : l_W s Q) (a0 a1 a2 : Int32) {v : Int64} {S : cS} (hz : zl (X_without a0 a1 a2) (s d) v S) (hS : s_wf S) : ∃ s', Y_without (230 * d) a0 a1 a2 (p4_jn s) = some (p4_jn s', some (pd_j v)) ∧ l_W s' (qs Q d S) ∧ s' 4 = s 4 := by
  obtain ⟨T, e, hX⟩ := hz
  obtain ⟨h1, h2⟩ := y_gen pd_TF_ok hd (h d hd).2.2 (m := 47) (by decide) (ls := [some (pd_r 9 0), some (pd_i a0), some (pd_i a1), some (pd_i a2), none]) (y_gL (fun o ho => by simp only [List.mem_cons, List.not_mem_nil, or_false] at ho; rcases ho with rfl | rfl | rfl | rfl | rfl <;> first | exact Or.inl rfl | exact Or.inr (Or.inl rfl) | exact Or.inr (Or.inr ⟨_, rfl⟩))) e
  exact ⟨p4_pt s d T, h1, h.put hS hX h2.1, if_neg (by omega)⟩
theorem y_trace {s : Nat → pd_H} {Q : Nat → cS} {d : Nat} (hd : d < 4) (h : l_W s Q) (a0 a1 a2 : Int32) {v : Int64} {S : cS} (hz : zl (X_trace a0 a1 a2) (s d) v S) (hS : s_wf S) : ∃ s', Y_trace (230 * d) a0 a1 a2 (p4_jn s) = some (p4_jn s', some (pd_j v)) ∧ l_W s' (qs Q d S) ∧ s' 4 = s 4 := by
  obtain ⟨T, e, hX⟩ := hz
  obtain ⟨h1, h2⟩ := y_gen pd_TF_ok hd (h d hd).2.2 (m := 48) (by decide) (ls := [some (pd_r 9 0), some (pd_i a0), some (pd_i a1), some (pd_i a2)]) (y_gL (fun o ho => by simp only [List.mem_cons, List.not_mem_nil, or_false] at ho; rcases ho with rfl | rfl | rfl | rfl <;> first | exact Or.inl rfl | exact Or.inr (Or.inl rfl) | exact Or.inr (Or.inr ⟨_, rfl⟩))) e
  exact ⟨p4_pt s d T, h1, h.put hS hX h2.1, if_neg (by omega)⟩
theorem y_prune {s : Nat → pd_H} {Q : Nat → cS} {d : Nat} (hd : d < 4) (h : l_W s Q) {v : Int32} {S : cS} (hz : zd (X_prune ) (s d) v S) (hS : s_wf S) : ∃ s', Y_prune (230 * d)  (p4_jn s) = some (p4_jn s', some (pd_i v)) ∧ l_W s' (qs Q d S) ∧ s' 4 = s 4 := by
  obtain ⟨T, e, hX⟩ := hz
  obtain ⟨h1, h2⟩ := y_gen pd_TF_ok hd (h d hd).2.2 (m := 49) (by decide) (ls := [some (pd_r 9 0), none, none, none]) (y_gL (fun o ho => by simp only [List.mem_cons, List.not_mem_nil, or_false] at ho; rcases ho with rfl | rfl | rfl | rfl <;> first | exact Or.inl rfl | exact Or.inr (Or.inl rfl) | exact Or.inr (Or.inr ⟨_, rfl⟩))) e
  exact ⟨p4_pt s d T, h1, h.put hS hX h2.1, if_neg (by omega)⟩
theorem y_blame {s : Nat → pd_H} {Q : Nat → cS} {d : Nat} (hd : d < 4) (h : l_W s Q) (a0 a1 : Int32) {v : Int32} {S : cS} (hz : zd (X_blame a0 a1) (s d) v S) (hS : s_wf S) : ∃ s', Y_blame (230 * d) a0 a1 (p4_jn s) = some (p4_jn s', some (pd_i v)) ∧ l_W s' (qs Q d S) ∧ s' 4 = s 4 := by
  obtain ⟨T, e, hX⟩ := hz
  obtain ⟨h1, h2⟩ := y_gen pd_TF_ok hd (h d hd).2.2 (m := 50) (by decide) (ls := [some (pd_r 9 0), some (pd_i a0), some (pd_i a1), none]) (y_gL (fun o ho => by simp only [List.mem_cons, List.not_mem_nil, or_false] at ho; rcases ho with rfl | rfl | rfl | rfl <;> first | exact Or.inl rfl | exact Or.inr (Or.inl rfl) | exact Or.inr (Or.inr ⟨_, rfl⟩))) e
  exact ⟨p4_pt s d T, h1, h.put hS hX h2.1, if_neg (by omega)⟩
theorem y_since {s : Nat → pd_H} {Q : Nat → cS} {d : Nat} (hd : d < 4) (h : l_W s Q) (a0 a1 : Int32) {v : Int32} {S : cS} (hz : zd (X_since a0 a1) (s d) v S) (hS : s_wf S) : ∃ s', Y_since (230 * d) a0 a1 (p4_jn s) = some (p4_jn s', some (pd_i v)) ∧ l_W s' (qs Q d S) ∧ s' 4 = s 4 := by
  obtain ⟨T, e, hX⟩ := hz
  obtain ⟨h1, h2⟩ := y_gen pd_TF_ok hd (h d hd).2.2 (m := 51) (by decide) (ls := [some (pd_r 9 0), some (pd_i a0), some (pd_i a1), none]) (y_gL (fun o ho => by simp only [List.mem_cons, List.not_mem_nil, or_false] at ho; rcases ho with rfl | rfl | rfl | rfl <;> first | exact Or.inl rfl | exact Or.inr (Or.inl rfl) | exact Or.inr (Or.inr ⟨_, rfl⟩))) e
  exact ⟨p4_pt s d T, h1, h.put hS hX h2.1, if_neg (by omega)⟩
theorem y_settle {s : Nat → pd_H} {Q : Nat → cS} {d : Nat} (hd : d < 4) (h : l_W s Q) {v : Int32} {S : cS} (hz : zd (X_settle ) (s d) v S) (hS : s_wf S) : ∃ s', Y_settle (230 * d)  (p4_jn s) = some (p4_jn s', some (pd_i v)) ∧ l_W s' (qs Q d S) ∧ s' 4 = s 4 := by
  obtain ⟨T, e, hX⟩ := hz
  obtain ⟨h1, h2⟩ := y_gen pd_TF_ok hd (h d hd).2.2 (m := 52) (by decide) (ls := [some (pd_r 9 0), none]) (y_gL (fun o ho => by simp only [List.mem_cons, List.not_mem_nil, or_false] at ho; rcases ho with rfl | rfl <;> first | exact Or.inl rfl | exact Or.inr (Or.inl rfl) | exact Or.inr (Or.inr ⟨_, rfl⟩))) e
  exact ⟨p4_pt s d T, h1, h.put hS hX h2.1, if_neg (by omega)⟩
theorem y_fault {s : Nat → pd_H} {Q : Nat → cS} {d : Nat} (hd : d < 4) (h : l_W s Q) (a0 : Int32) {v : Int32} {S : cS} (hz : zd (X_fault a0) (s d) v S) (hS : s_wf S) : ∃ s', Y_fault (230 * d) a0 (p4_jn s) = some (p4_jn s', some (pd_i v)) ∧ l_W s' (qs Q d S) ∧ s' 4 = s 4 := by
  obtain ⟨T, e, hX⟩ := hz
  obtain ⟨h1, h2⟩ := y_gen pd_TF_ok hd (h d hd).2.2 (m := 53) (by decide) (ls := [some (pd_r 9 0), some (pd_i a0)]) (y_gL (fun o ho => by simp only [List.mem_cons, List.not_mem_nil, or_false] at ho; rcases ho with rfl | rfl <;> first | exact Or.inl rfl | exact Or.inr (Or.inl rfl) | exact Or.inr (Or.inr ⟨_, rfl⟩))) e
  exact ⟨p4_pt s d T, h1, h.put hS hX h2.1, if_neg (by omega)⟩
theorem y_count {s : Nat → pd_H} {Q : Nat → cS} {d : Nat} (hd : d < 4) (h : l_W s Q) (a0 : Int32) {v : Int32} {S : cS} (hz : zd (X_count a0) (s d) v S) (hS : s_wf S) : ∃ s', Y_count (230 * d) a0 (p4_jn s) = some (p4_jn s', some (pd_i v)) ∧ l_W s' (qs Q d S) ∧ s' 4 = s 4 := by
  obtain ⟨T, e, hX⟩ := hz
  obtain ⟨h1, h2⟩ := y_gen pd_TF_ok hd (h d hd).2.2 (m := 54) (by decide) (ls := [some (pd_r 9 0), some (pd_i a0), none]) (y_gL (fun o ho => by simp only [List.mem_cons, List.not_mem_nil, or_false] at ho; rcases ho with rfl | rfl | rfl <;> first | exact Or.inl rfl | exact Or.inr (Or.inl rfl) | exact Or.inr (Or.inr ⟨_, rfl⟩))) e
  exact ⟨p4_pt s d T, h1, h.put hS hX h2.1, if_neg (by omega)⟩
