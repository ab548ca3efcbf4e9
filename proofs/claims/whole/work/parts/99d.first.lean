/-! At first: what both hold. -/
def s_00 : cS := (fun _ => -1, fun _ => 0, fun _ => 0, fun _ => 0, fun _ => (0, 0, 0, 0, 0, 0), fun _ => 0, 0, [], [], [], [], (-1, -1, -1), fun _ => 0)
theorem s_00_arr (a : Int32) : ¬ c_arrF (s_kd s_00) a = 0 := fun h => by
  unfold c_arrF at h
  rw [decide_eq_true (show s_kd s_00 a.toNatClampNeg = -1 from rfl), cond_true] at h
  exact absurd h (by decide)
theorem s_00_no : s_no s_00 := ⟨rfl, fun _ _ => rfl⟩
theorem s_00_wf : s_wf s_00 := by
  refine ⟨⟨fun s _ => Or.inl rfl, fun s _ => ⟨0, Nat.zero_le _, rfl⟩, fun j _ h => absurd h (s_00_arr _)⟩, ⟨Nat.zero_le _, fun p _ => Nat.zero_le _, fun p k _ hk => absurd hk (Nat.not_lt_zero k)⟩, ⟨s_ord0, s_ord0, fun p hp => (by cases hp), Nat.zero_le _, fun l hl => (by cases hl)⟩, rfl, Nat.zero_le _, fun b hb => by cases hb⟩
section J0
variable {xs : Nat → Int32} {L : Nat}
theorem k0_seq {o : Nat} (h : (k0_H xs L).1 o 1 = 0) : pu_seq (k0_H xs L) o [] := ⟨h, Nat.zero_le _, fun i x hx => by cases i <;> cases hx⟩
theorem k0_RX : RX (k0_H xs L) s_00 := by
  refine ⟨⟨rfl, rfl, rfl, rfl⟩, ⟨fun p k _ hk => absurd hk (Nat.not_lt_zero k), fun p _ => ⟨rfl, Nat.zero_le _⟩, rfl⟩, Or.inl ⟨rfl, rfl⟩, ⟨k0_seq rfl, ⟨fun c _ => ⟨rfl, rfl, ?_⟩, fun a ha => by cases ha⟩, fun p hp => by cases hp⟩, ⟨k0_seq rfl, rfl, fun v l hv => by cases v <;> cases hv⟩, ⟨rfl, fun i b hb => by cases i <;> cases hb⟩, ⟨rfl, rfl, rfl⟩, rfl⟩
  show s_wr s_00 _ c = -1
  rw [show s_wr s_00 ((k0_H xs L).1 ((k0_H xs L).2.2 0 + 6)) = fun _ => -1 from if_pos s_00_no]
theorem k0_ls (f : Nat → Int32) : m_ls f [] := fun i x hx => by cases i <;> cases hx
theorem k0_RM : RM (k0_H xs L) s_00 := by
  refine ⟨⟨fun s _ => ⟨rfl, fun _ => rfl⟩, fun s _ => ⟨0, Nat.zero_le _, rfl⟩, fun c _ => ⟨rfl, rfl⟩⟩, ⟨fun p k _ hk => absurd hk (Nat.not_lt_zero k), fun p _ => ⟨rfl, Nat.zero_le _⟩, rfl⟩, ⟨⟨rfl, k0_ls _, fun c _ => rfl⟩, ⟨fun c hc => ?_, fun a ha => by cases ha⟩⟩, ⟨rfl, k0_ls _, rfl, fun v l hv => by cases v <;> cases hv⟩, ⟨rfl, k0_ls _⟩, ⟨rfl, rfl, rfl⟩, rfl⟩
  obtain ⟨j, i, -, -, h, -⟩ := hc
  exact absurd h (s_00_arr _)
theorem k0_JR : JR (k0_H xs L) s_00 := ⟨s_00_wf, k0_RX, k0_RM⟩
theorem k0_law (hL : L ≤ 3072) : ∃ (n : Nat) (τ : pd_H), pd_ex pd_cd n (243, 18, [some (pd_r 30 265), some (pd_r 9 0), some (pd_r 10 230), some (pd_i (nI 0))], [], k0_H xs L) = some (τ, some (pd_i 1)) := by
  obtain ⟨τ, h⟩ := lw_loop (xs := xs) hL L 0 (by omega) (Nat.zero_le _) (k0_H xs L) s_00 k0_JR ⟨rfl, rfl⟩
  obtain ⟨n, hn⟩ := pd_run_iff.mp h
  exact ⟨n, τ, hn⟩
end J0
