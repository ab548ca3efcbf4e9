/-! The limit, over all four. -/
section PDR
variable {cd : Nat → Nat → Option pd_O}
theorem p4_ex_succ (n : Nat) : ∀ c, pd_le (p4_ex cd n c) (p4_ex cd (n + 1) c) := by
  induction n with
  | zero => intro c r h; cases h
  | succ n ih => intro c; exact pd_F_mono ih ih _
theorem p4_ex_le {n k : Nat} (h : n ≤ k) : ∀ c, pd_le (p4_ex cd n c) (p4_ex cd k c) := by
  induction h with
  | refl => exact fun _ => pd_le_rfl
  | step _ ih => exact fun c r hr => p4_ex_succ _ c r (ih c r hr)
theorem p4_run_iff {c : pd_C} {r : pd_R} : p4_run cd c = some r ↔ ∃ n, p4_ex cd n c = some r := by
  unfold p4_run
  by_cases h : ∃ q : Nat × pd_R, p4_ex cd q.1 c = some q.2
  · rw [dif_pos h]
    have hs := Classical.choose_spec h
    constructor
    · intro e
      cases e
      exact ⟨_, hs⟩
    · rintro ⟨n, hn⟩
      have h1 := p4_ex_le (Nat.le_max_left (Classical.choose h).1 n) c _ hs
      have h2 := p4_ex_le (Nat.le_max_right (Classical.choose h).1 n) c _ hn
      rw [h1] at h2
      exact h2
  · rw [dif_neg h]
    constructor
    · intro e; cases e
    · rintro ⟨n, hn⟩
      exact absurd ⟨(n, r), hn⟩ h
theorem p4_ex_run (n : Nat) : ∀ c, pd_le (p4_ex cd n c) (p4_run cd c) := fun _ _ h => p4_run_iff.mpr ⟨n, h⟩
theorem p4_ho_cont {o : Option pd_C} {r : pd_R} (h : pd_ho (p4_run cd) o = some r) : ∃ n, pd_ho (p4_ex cd n) o = some r := by
  cases o with
  | none => cases h
  | some c => exact p4_run_iff.mp h
theorem p4_sw_cont {x : Int32} {tb : List (Int32 × Nat)} {c : pd_C} {r : pd_R} (h : pd_sw (p4_run cd) x tb c = some r) : ∃ n, pd_sw (p4_ex cd n) x tb c = some r := by
  induction tb with
  | nil => exact p4_run_iff.mp h
  | cons q t ih =>
    unfold pd_sw at h ⊢
    cases hd : decide (x = q.1) with
    | true => rw [hd] at h; exact p4_run_iff.mp h
    | false => rw [hd] at h; exact ih h
theorem p4_cl_cont {cc : pd_C} {z t : Nat} {c : pd_C} {r : pd_R} (h : pd_cl (p4_run cd) (p4_run cd cc) z t c = some r) : ∃ n, pd_cl (p4_ex cd n) (p4_ex cd n cc) z t c = some r := by
  obtain ⟨m, pc, ls, st, σ⟩ := c
  unfold pd_cl at h ⊢
  dsimp only at h ⊢
  have two : ∀ {q : pd_R} {c2 : pd_C}, p4_run cd cc = some q → p4_run cd c2 = some r → ∃ n, p4_ex cd n cc = some q ∧ p4_ex cd n c2 = some r := by
    intro q c2 e k
    obtain ⟨n1, h1⟩ := p4_run_iff.mp e
    obtain ⟨n2, h2⟩ := p4_run_iff.mp k
    exact ⟨max n1 n2, p4_ex_le (Nat.le_max_left n1 n2) _ _ h1, p4_ex_le (Nat.le_max_right n1 n2) _ _ h2⟩
  split at h
  · obtain ⟨σ, e, k⟩ := pd_bV_some h
    obtain ⟨n, a, b⟩ := two e k
    exact ⟨n, by rw [a]; exact b⟩
  · obtain ⟨σ, x, e, k⟩ := pd_bI_some h
    obtain ⟨n, a, b⟩ := two e k
    exact ⟨n, by rw [a]; exact b⟩
  · obtain ⟨σ, x, e, k⟩ := pd_bJ_some h
    obtain ⟨n, a, b⟩ := two e k
    exact ⟨n, by rw [a]; exact b⟩
  · obtain ⟨σ, x, e, k⟩ := pd_bR_some h
    obtain ⟨n, a, b⟩ := two e k
    exact ⟨n, by rw [a, pd_bR_of]; exact b⟩
theorem p4_F_cont {s : pd_S} {r : pd_R} (h : pd_F (p4_run cd) (p4_run cd) s = some r) : ∃ n, pd_F (p4_ex cd n) (p4_ex cd n) s = some r := by
  match s, h with
  | .inl (.inl q), h => exact ⟨0, h⟩
  | .inl (.inr c), h => exact p4_run_iff.mp h
  | .inr (.inl (b, o1, o2)), h =>
    cases b with
    | true => exact p4_ho_cont (o := o1) h
    | false => exact p4_ho_cont (o := o2) h
  | .inr (.inr (.inl (x, tb, c))), h => exact p4_sw_cont h
  | .inr (.inr (.inr (cc, z, t, c))), h => exact p4_cl_cont h
theorem p4_run_eq (c : pd_C) : p4_run cd c = pd_F (p4_run cd) (p4_run cd) (p4_st cd c) := by
  apply Option.ext
  intro r
  constructor
  · intro h
    obtain ⟨n, hn⟩ := p4_run_iff.mp h
    cases n with
    | zero => cases hn
    | succ n => exact pd_F_mono (p4_ex_run n) (p4_ex_run n) _ r hn
  · intro h
    obtain ⟨n, hn⟩ := p4_F_cont h
    exact p4_run_iff.mpr ⟨n + 1, hn⟩
theorem p4_dr_eq (sp : Nat → Bool) (n : Nat) : ∀ c, p4_dr cd (p4_run cd) sp n c = p4_run cd c := by
  induction n with
  | zero => exact fun _ => rfl
  | succ n ih =>
    intro c
    rw [p4_run_eq c]
    show pd_F _ (fun c => cond (sp c.2.1) (p4_run cd c) (p4_dr cd (p4_run cd) sp n c)) _ = _
    have e : (fun c : pd_C => cond (sp c.2.1) (p4_run cd c) (p4_dr cd (p4_run cd) sp n c)) = p4_run cd := by
      funext c
      rw [ih c]
      cases sp c.2.1 <;> rfl
    rw [e]
end PDR
