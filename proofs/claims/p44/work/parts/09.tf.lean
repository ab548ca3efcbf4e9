def pd_LP : List (List Nat) := [[107, 109, 111], [87, 89, 91, 93, 95, 97], [227, 229, 231, 233, 235, 237, 239, 241, 243, 245, 247, 249, 251, 253, 255, 257, 259, 261, 263], [152, 154], [179, 181], [53, 55, 57], [164], [129, 131, 133, 135, 137, 139, 141], [39, 41], [281, 283, 285, 287, 289, 291, 293, 295, 297, 299, 301, 303, 305, 307]]
theorem pd_LP_ok : (List.range 10).all (fun t => (List.range (pd_nf t)).all (fun k => decide (tables_1[(pd_LP.getD t []).getD k 0]? = some (u_lay (pd_cn t) ((vwCl.getD t (RL, TX0, 0)).2.1) k)))) = true := by decide +kernel
theorem pd_lay_good (C : String) (T : u_T) (k : Nat) : goodWord (u_lay C T k) = true := by
  unfold u_lay
  split <;> rfl
theorem pd_rng {P : Nat → Bool} {a n : Nat} (h : ((List.range n).map (fun i => i + a)).all P = true) {k : Nat} (h1 : a ≤ k) (h2 : k < a + n) : P k = true := by
  refine List.all_eq_true.mp h k (List.mem_map.mpr ⟨k - a, List.mem_range.mpr (by omega), by omega⟩)
theorem pd_rng0 {P : Nat → Bool} {n : Nat} (h : (List.range n).all P = true) {k : Nat} (h2 : k < n) : P k = true := List.all_eq_true.mp h k (List.mem_range.mpr h2)
theorem pd_ck_of {m i : Nat} {op : pd_O} (h : (List.range (pd_mx m + 1)).all (fun i => match pd_cd m i with | none => true | some op => pd_ck m i op) = true) (ho : pd_cd m i = some op) : pd_ck m i op = true := by
  have hi : i ≤ pd_mx m := by
    unfold pd_cd at ho
    cases hb : Nat.ble i (pd_mx m) with
    | true => exact Nat.le_of_ble_eq_true hb
    | false => rw [hb] at ho; cases ho
  have := pd_rng0 h (Nat.lt_succ_of_le hi)
  rw [ho] at this
  exact this
theorem pd_TF_code {m i : Nat} {op : pd_O} (hm : m < 90) (ho : pd_cd m i = some op) : pd_ck m i op = true := by
  rcases Nat.lt_or_ge m 20 with h0 | h0
  · exact pd_ck_of (pd_rng pd_ok0 (Nat.zero_le m) (by omega)) ho
  rcases Nat.lt_or_ge m 47 with h1 | h1
  · exact pd_ck_of (pd_rng pd_ok1 h0 (by omega)) ho
  rcases Nat.lt_or_ge m 80 with h2 | h2
  · exact pd_ck_of (pd_rng pd_ok2 h1 (by omega)) ho
  rcases Nat.lt_or_ge m 89 with h3 | h3
  · exact pd_ck_of (pd_rng pd_ok3 h2 (by omega)) ho
  have hm : m = 89 := by omega
  subst hm
  have hi : i ≤ 1076 := by
    unfold pd_cd at ho
    cases hb : Nat.ble i (pd_mx 89) with
    | true => exact Nat.le_of_ble_eq_true hb
    | false => rw [hb] at ho; cases ho
  have fin : (match pd_cd 89 i with | none => true | some op => pd_ck 89 i op) = true → pd_ck 89 i op = true := fun h => by rw [ho] at h; exact h
  apply fin
  rcases Nat.lt_or_ge i 48 with g0 | g0
  · exact pd_rng pd_okl0 (Nat.zero_le i) (by omega)
  rcases Nat.lt_or_ge i 96 with g1 | g1
  · exact pd_rng pd_okl1 g0 (by omega)
  rcases Nat.lt_or_ge i 144 with g2 | g2
  · exact pd_rng pd_okl2 g1 (by omega)
  rcases Nat.lt_or_ge i 192 with g3 | g3
  · exact pd_rng pd_okl3 g2 (by omega)
  rcases Nat.lt_or_ge i 240 with g4 | g4
  · exact pd_rng pd_okl4 g3 (by omega)
  rcases Nat.lt_or_ge i 288 with g5 | g5
  · exact pd_rng pd_okl5 g4 (by omega)
  rcases Nat.lt_or_ge i 336 with g6 | g6
  · exact pd_rng pd_okl6 g5 (by omega)
  rcases Nat.lt_or_ge i 384 with g7 | g7
  · exact pd_rng pd_okl7 g6 (by omega)
  rcases Nat.lt_or_ge i 432 with g8 | g8
  · exact pd_rng pd_okl8 g7 (by omega)
  rcases Nat.lt_or_ge i 480 with g9 | g9
  · exact pd_rng pd_okl9 g8 (by omega)
  rcases Nat.lt_or_ge i 528 with g10 | g10
  · exact pd_rng pd_okl10 g9 (by omega)
  rcases Nat.lt_or_ge i 576 with g11 | g11
  · exact pd_rng pd_okl11 g10 (by omega)
  rcases Nat.lt_or_ge i 624 with g12 | g12
  · exact pd_rng pd_okl12 g11 (by omega)
  rcases Nat.lt_or_ge i 672 with g13 | g13
  · exact pd_rng pd_okl13 g12 (by omega)
  rcases Nat.lt_or_ge i 720 with g14 | g14
  · exact pd_rng pd_okl14 g13 (by omega)
  rcases Nat.lt_or_ge i 768 with g15 | g15
  · exact pd_rng pd_okl15 g14 (by omega)
  rcases Nat.lt_or_ge i 816 with g16 | g16
  · exact pd_rng pd_okl16 g15 (by omega)
  rcases Nat.lt_or_ge i 864 with g17 | g17
  · exact pd_rng pd_okl17 g16 (by omega)
  rcases Nat.lt_or_ge i 912 with g18 | g18
  · exact pd_rng pd_okl18 g17 (by omega)
  rcases Nat.lt_or_ge i 960 with g19 | g19
  · exact pd_rng pd_okl19 g18 (by omega)
  rcases Nat.lt_or_ge i 1008 with g20 | g20
  · exact pd_rng pd_okl20 g19 (by omega)
  rcases Nat.lt_or_ge i 1056 with g21 | g21
  · exact pd_rng pd_okl21 g20 (by omega)
  exact pd_rng pd_okl22 g21 (by omega)
theorem pd_MC_all {m : Nat} (hm : m < 89) : tables_1[(pd_mt m).2.2.2.2]? = some (Cond.code (pd_y m) (pd_b m) (pd_ml m) (pd_rt m)) := by
  rcases Nat.lt_or_ge m 30 with h0 | h0
  · exact of_decide_eq_true (pd_rng pd_MC_ok0 (Nat.zero_le m) (by omega))
  rcases Nat.lt_or_ge m 60 with h1 | h1
  · exact of_decide_eq_true (pd_rng pd_MC_ok1 h0 (by omega))
  exact of_decide_eq_true (pd_rng pd_MC_ok2 h1 (by omega))
theorem pd_W_lw {i : Nat} {w : Jvm.Cond} (h : lw_tbl[i]? = some w) (g : goodWord w = true) : w ∈ pd_W := pd_W_in (List.mem_of_getElem? h) g
theorem pd_CW_all {k : Nat} (hk : k < 89) : pd_CW k := by
  have h1 := pd_rng0 pd_MT_ok hk
  have h2 := pd_rng0 pd_MY_ok hk
  simp only [Bool.and_eq_true, decide_eq_true_eq] at h1 h2
  obtain ⟨⟨a1, a2⟩, a3⟩ := h1
  obtain ⟨⟨⟨b1, b2⟩, b3⟩, b4⟩ := h2
  refine ⟨pd_W_tab (pd_MC_all hk) rfl, pd_W_tab a1 ?_, fun h0 => ?_, pd_W_tab a3 rfl, b1, b2, b3, b4⟩
  · cases Nat.beq (pd_mt k).1 1 <;> rfl
  · rw [h0] at a2
    have a2 : (false || decide (lw_tbl[(pd_mt k).2.2.1]? = some (Cond.selects (pd_y k).cls (pd_y k) (pd_y k)))) = true := a2
    rw [Bool.false_or, decide_eq_true_eq] at a2
    exact pd_W_lw a2 rfl
theorem pd_TF_ok : pd_TF := by
  refine ⟨fun m i op hm ho => pd_TF_code hm ho, fun k hk => pd_CW_all hk, fun e he => ?_, fun e he => ?_, fun e he => ?_, fun e he => ?_, fun t ht w hw => ?_⟩
  · exact pd_W_tab (of_decide_eq_true (List.all_eq_true.mp pd_FL_ok e he)) rfl
  · exact pd_W_tab (of_decide_eq_true (List.all_eq_true.mp pd_CI_ok e he)) rfl
  · exact pd_W_tab (of_decide_eq_true (List.all_eq_true.mp pd_CJ_ok e he)) rfl
  · intro h0
    have h1 := of_decide_eq_true (List.all_eq_true.mp pd_CL_ok e he)
    rw [h0] at h1
    exact pd_W_tab (w := Jvm.Cond.methodLink (pd_cn e.1) e.2.1 (pd_y e.2.2.1)) h1 rfl
  · obtain ⟨k, h1, rfl⟩ := List.mem_map.mp hw
    exact pd_W_tab (of_decide_eq_true (pd_rng0 (pd_rng0 pd_LP_ok ht) (List.mem_range.mp h1))) (pd_lay_good _ _ _)
