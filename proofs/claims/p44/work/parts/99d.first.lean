/-! At first: four fresh desks, and the law from there on. -/
section J0
variable {xs : Nat → Int32} {L : Nat}
theorem k0_seq {o : Nat} (h : k0_D.1 o 1 = 0) : pu_seq k0_D o [] := ⟨h, Nat.zero_le _, fun i x hx => by cases i <;> cases hx⟩
theorem k0_RX : RX k0_D s_00 := by
  refine ⟨⟨rfl, rfl, rfl, rfl⟩, ⟨fun p k _ hk => absurd hk (Nat.not_lt_zero k), fun p _ => ⟨rfl, Nat.zero_le _⟩, rfl⟩, Or.inl ⟨rfl, rfl⟩, ⟨k0_seq rfl, ⟨fun c _ => ⟨rfl, rfl, ?_⟩, fun a ha => by cases ha⟩, fun p hp => by cases hp⟩, ⟨k0_seq rfl, rfl, fun v l hv => by cases v <;> cases hv⟩, ⟨rfl, fun i b hb => by cases i <;> cases hb⟩, ⟨rfl, rfl, rfl⟩, rfl⟩
  show s_wr s_00 _ c = -1
  rw [show s_wr s_00 (k0_D.1 (k0_D.2.2 0 + 6)) = fun _ => -1 from if_pos s_00_no]
theorem k0_lW : l_W (k0_s xs L) (fun _ => s_00) := fun d hd => by
  rw [k0_sd hd]
  exact ⟨s_00_wf, k0_RX, k0_gH⟩
theorem k0_lM : l_M (k0_s xs L) L xs := ⟨rfl, rfl⟩
theorem k0_law (hL : L < 2 ^ 31) : ∃ (n : Nat) (τ : pd_H), p4_ex pd_cd n (89, 45, [some (pd_r 30 922), some (pd_r 9 0), some (pd_r 9 230), some (pd_r 9 460), some (pd_r 9 690), some (pd_r 20 920), some (pd_r 21 921)] ++ List.replicate 17 none, [], p4_jn (k0_s xs L)) = some (τ, some (pd_i 1)) := by
  obtain ⟨τ, h⟩ := l_law hL k0_lW k0_lM none none none none none none none none none none none none none none none none none
  obtain ⟨n, hn⟩ := p4_run_iff.mp h
  exact ⟨n, τ, hn⟩
end J0
