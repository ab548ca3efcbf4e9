/-! The limit is a fixed point of the step. -/
def pd_le (a b : Option pd_R) : Prop := ∀ r, a = some r → b = some r
theorem pd_le_rfl {a : Option pd_R} : pd_le a a := fun _ h => h
theorem pd_bV_some {r : Option pd_R} {k : pd_H → Option pd_R} {q : pd_R} (h : pd_bV r k = some q) : ∃ σ, r = some (σ, none) ∧ k σ = some q := by
  unfold pd_bV at h
  split at h
  · exact ⟨_, rfl, h⟩
  · cases h
theorem pd_bI_some {r : Option pd_R} {k : pd_H → Int32 → Option pd_R} {q : pd_R} (h : pd_bI r k = some q) : ∃ σ x, r = some (σ, some (pd_i x)) ∧ k σ x = some q := by
  unfold pd_bI at h
  split at h
  · exact ⟨_, _, rfl, h⟩
  · cases h
theorem pd_bJ_some {r : Option pd_R} {k : pd_H → Int64 → Option pd_R} {q : pd_R} (h : pd_bJ r k = some q) : ∃ σ x, r = some (σ, some (pd_j x)) ∧ k σ x = some q := by
  unfold pd_bJ at h
  split at h
  · exact ⟨_, _, rfl, h⟩
  · cases h
theorem pd_bR_some {r : Option pd_R} {t : Nat} {k : pd_H → Nat → Option pd_R} {q : pd_R} (h : pd_bR r t k = some q) : ∃ σ o, r = some (σ, some (pd_r t o)) ∧ k σ o = some q := by
  unfold pd_bR at h
  split at h
  · rename_i u o
    cases hu : Nat.beq u t with
    | false => rw [hu] at h; cases h
    | true =>
      rw [hu] at h
      have := Nat.eq_of_beq_eq_true hu
      subst this
      exact ⟨_, _, rfl, h⟩
  · cases h
theorem pd_bV_of {σ : pd_H} {k : pd_H → Option pd_R} : pd_bV (some (σ, none)) k = k σ := rfl
theorem pd_bI_of {σ : pd_H} {x : Int32} {k : pd_H → Int32 → Option pd_R} : pd_bI (some (σ, some (pd_i x))) k = k σ x := rfl
theorem pd_bJ_of {σ : pd_H} {x : Int64} {k : pd_H → Int64 → Option pd_R} : pd_bJ (some (σ, some (pd_j x))) k = k σ x := rfl
theorem pd_bR_of {σ : pd_H} {t o : Nat} {k : pd_H → Nat → Option pd_R} : pd_bR (some (σ, some (pd_r t o))) t k = k σ o := by
  show cond (Nat.beq t t) (k σ o) none = _
  rw [Nat.beq_refl]; rfl
theorem pd_ho_mono {h h' : pd_C → Option pd_R} (H : ∀ c, pd_le (h c) (h' c)) (o : Option pd_C) : pd_le (pd_ho h o) (pd_ho h' o) := by
  cases o with
  | none => exact pd_le_rfl
  | some c => exact H c
theorem pd_sw_mono {h h' : pd_C → Option pd_R} (H : ∀ c, pd_le (h c) (h' c)) (x : Int32) (tb : List (Int32 × Nat)) (c : pd_C) : pd_le (pd_sw h x tb c) (pd_sw h' x tb c) := by
  induction tb with
  | nil => exact H c
  | cons q r ih =>
    intro z hz
    unfold pd_sw at hz ⊢
    cases hd : decide (x = q.1) with
    | true => rw [hd] at hz; exact H _ z hz
    | false => rw [hd] at hz; exact ih z hz
theorem pd_cl_mono {h h' : pd_C → Option pd_R} {r r' : Option pd_R} (hr : pd_le r r') (H : ∀ c, pd_le (h c) (h' c)) (z t : Nat) (c : pd_C) : pd_le (pd_cl h r z t c) (pd_cl h' r' z t c) := by
  obtain ⟨m, pc, ls, st, σ⟩ := c
  intro q hq
  unfold pd_cl at hq ⊢
  dsimp only at hq ⊢
  split at hq
  · obtain ⟨σ, e, k⟩ := pd_bV_some hq
    rw [hr _ e]; exact H _ _ k
  · obtain ⟨σ, x, e, k⟩ := pd_bI_some hq
    rw [hr _ e]; exact H _ _ k
  · obtain ⟨σ, x, e, k⟩ := pd_bJ_some hq
    rw [hr _ e]; exact H _ _ k
  · obtain ⟨σ, x, e, k⟩ := pd_bR_some hq
    rw [hr _ e, pd_bR_of]; exact H _ _ k
theorem pd_F_mono {g g' h h' : pd_C → Option pd_R} (G : ∀ c, pd_le (g c) (g' c)) (H : ∀ c, pd_le (h c) (h' c)) (s : pd_S) : pd_le (pd_F g h s) (pd_F g' h' s) := by
  match s with
  | .inl (.inl r) => exact pd_le_rfl
  | .inl (.inr c) => exact H c
  | .inr (.inl (b, o1, o2)) =>
    cases b with
    | true => exact pd_ho_mono H o1
    | false => exact pd_ho_mono H o2
  | .inr (.inr (.inl (x, tb, c))) => exact pd_sw_mono H x tb c
  | .inr (.inr (.inr (cc, z, t, c))) => exact pd_cl_mono (G cc) H z t c
section PDR
variable {cd : Nat → Nat → Option pd_O}
theorem pd_ex_succ (n : Nat) : ∀ c, pd_le (pd_ex cd n c) (pd_ex cd (n + 1) c) := by
  induction n with
  | zero => intro c r h; cases h
  | succ n ih => intro c; exact pd_F_mono ih ih _
theorem pd_ex_le {n k : Nat} (h : n ≤ k) : ∀ c, pd_le (pd_ex cd n c) (pd_ex cd k c) := by
  induction h with
  | refl => exact fun _ => pd_le_rfl
  | step _ ih => exact fun c r hr => pd_ex_succ _ c r (ih c r hr)
theorem pd_run_iff {c : pd_C} {r : pd_R} : pd_run cd c = some r ↔ ∃ n, pd_ex cd n c = some r := by
  unfold pd_run
  by_cases h : ∃ q : Nat × pd_R, pd_ex cd q.1 c = some q.2
  · rw [dif_pos h]
    have hs := Classical.choose_spec h
    constructor
    · intro e
      cases e
      exact ⟨_, hs⟩
    · rintro ⟨n, hn⟩
      have h1 := pd_ex_le (Nat.le_max_left (Classical.choose h).1 n) c _ hs
      have h2 := pd_ex_le (Nat.le_max_right (Classical.choose h).1 n) c _ hn
      rw [h1] at h2
      exact h2
  · rw [dif_neg h]
    constructor
    · intro e; cases e
    · rintro ⟨n, hn⟩
      exact absurd ⟨(n, r), hn⟩ h
theorem pd_ex_run (n : Nat) : ∀ c, pd_le (pd_ex cd n c) (pd_run cd c) := fun _ _ h => pd_run_iff.mpr ⟨n, h⟩
theorem pd_ho_cont {o : Option pd_C} {r : pd_R} (h : pd_ho (pd_run cd) o = some r) : ∃ n, pd_ho (pd_ex cd n) o = some r := by
  cases o with
  | none => cases h
  | some c => exact pd_run_iff.mp h
theorem pd_sw_cont {x : Int32} {tb : List (Int32 × Nat)} {c : pd_C} {r : pd_R} (h : pd_sw (pd_run cd) x tb c = some r) : ∃ n, pd_sw (pd_ex cd n) x tb c = some r := by
  induction tb with
  | nil => exact pd_run_iff.mp h
  | cons q t ih =>
    unfold pd_sw at h ⊢
    cases hd : decide (x = q.1) with
    | true => rw [hd] at h; exact pd_run_iff.mp h
    | false => rw [hd] at h; exact ih h
theorem pd_cl_cont {cc : pd_C} {z t : Nat} {c : pd_C} {r : pd_R} (h : pd_cl (pd_run cd) (pd_run cd cc) z t c = some r) : ∃ n, pd_cl (pd_ex cd n) (pd_ex cd n cc) z t c = some r := by
  obtain ⟨m, pc, ls, st, σ⟩ := c
  unfold pd_cl at h ⊢
  dsimp only at h ⊢
  have two : ∀ {q : pd_R} {c2 : pd_C}, pd_run cd cc = some q → pd_run cd c2 = some r → ∃ n, pd_ex cd n cc = some q ∧ pd_ex cd n c2 = some r := by
    intro q c2 e k
    obtain ⟨n1, h1⟩ := pd_run_iff.mp e
    obtain ⟨n2, h2⟩ := pd_run_iff.mp k
    exact ⟨max n1 n2, pd_ex_le (Nat.le_max_left n1 n2) _ _ h1, pd_ex_le (Nat.le_max_right n1 n2) _ _ h2⟩
  split at h
  · obtain ⟨σ, e, k⟩ := pd_bV_some h
    obtain ⟨n, a, b⟩ := two e k
    exact ⟨n, by rw [a]; exact b⟩
  · obtain ⟨σ, x, e, k⟩ := pd_bI_some h
    obtain ⟨n, a, b⟩ := two e k
    exact ⟨n, by rw [a]; exact b⟩
  · obtain ⟨σ, x, e, k⟩ := pd_bJ_some h
    obtain ⟨n, a, b⟩ := two e k
    exact ⟨n, by rw [a]; exact b⟩
  · obtain ⟨σ, x, e, k⟩ := pd_bR_some h
    obtain ⟨n, a, b⟩ := two e k
    exact ⟨n, by rw [a, pd_bR_of]; exact b⟩
theorem pd_F_cont {s : pd_S} {r : pd_R} (h : pd_F (pd_run cd) (pd_run cd) s = some r) : ∃ n, pd_F (pd_ex cd n) (pd_ex cd n) s = some r := by
  match s, h with
  | .inl (.inl q), h => exact ⟨0, h⟩
  | .inl (.inr c), h => exact pd_run_iff.mp h
  | .inr (.inl (b, o1, o2)), h =>
    cases b with
    | true => exact pd_ho_cont (o := o1) h
    | false => exact pd_ho_cont (o := o2) h
  | .inr (.inr (.inl (x, tb, c))), h => exact pd_sw_cont h
  | .inr (.inr (.inr (cc, z, t, c))), h => exact pd_cl_cont h
theorem pd_run_eq (c : pd_C) : pd_run cd c = pd_F (pd_run cd) (pd_run cd) (pd_st cd c) := by
  apply Option.ext
  intro r
  constructor
  · intro h
    obtain ⟨n, hn⟩ := pd_run_iff.mp h
    cases n with
    | zero => cases hn
    | succ n => exact pd_F_mono (pd_ex_run n) (pd_ex_run n) _ r hn
  · intro h
    obtain ⟨n, hn⟩ := pd_F_cont h
    exact pd_run_iff.mpr ⟨n + 1, hn⟩
theorem pd_dr_eq (sp : Nat → Bool) (n : Nat) : ∀ c, pd_dr cd (pd_run cd) sp n c = pd_run cd c := by
  induction n with
  | zero => exact fun _ => rfl
  | succ n ih =>
    intro c
    rw [pd_run_eq c]
    show pd_F _ (fun c => cond (sp c.2.1) (pd_run cd c) (pd_dr cd (pd_run cd) sp n c)) _ = _
    have e : (fun c : pd_C => cond (sp c.2.1) (pd_run cd c) (pd_dr cd (pd_run cd) sp n c)) = pd_run cd := by
      funext c
      rw [ih c]
      cases sp c.2.1 <;> rfl
    rw [e]
end PDR
