/-! At first: what both hold. -/
def s_00 : cS := (fun _ => -1, fun _ => 0, fun _ => 0, fun _ => 0, fun _ => (0, 0, 0, 0, 0, 0), fun _ => 0, 0, [], [], [], [], (-1, -1, -1), fun _ => 0)
theorem s_00_arr (a : Int32) : ¬ c_arrF (s_kd s_00) a = 0 := fun h => by
  unfold c_arrF at h
  rw [decide_eq_true (show s_kd s_00 a.toNatClampNeg = -1 from rfl), cond_true] at h
  exact absurd h (by decide)
theorem s_00_no : s_no s_00 := ⟨rfl, fun _ _ => rfl⟩
theorem s_00_wf : s_wf s_00 := by
  refine ⟨⟨fun s _ => Or.inl rfl, fun s _ => ⟨0, Nat.zero_le _, rfl⟩, fun j _ h => absurd h (s_00_arr _)⟩, ⟨Nat.zero_le _, fun p _ => Nat.zero_le _, fun p k _ hk => absurd hk (Nat.not_lt_zero k)⟩, ⟨s_ord0, s_ord0, fun p hp => (by cases hp), Nat.zero_le _, fun l hl => (by cases hl)⟩, rfl, Nat.zero_le _, fun b hb => by cases hb⟩
