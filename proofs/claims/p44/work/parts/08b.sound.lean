section PDW
variable {p : Program} {l : Launch} {e : Env} {R : Room} {s : State} {m : MethodId} {args : Array Value} {below : List Frame} {meth : Method} {c : Code} {cells slots : Nat} {Q : State → Prop}
variable {ad : Nat → Nat} {D : va_G} {cA : Nat → ClassId} {xs : Nat → Int32} {A : Nat → Prop} {b L mi : Nat} {H0 : Heap}
variable {n : Nat} {r : pd_R} {pc : Nat} {ls : pd_L} {st : List pd_V} {σ : pd_H}
theorem pd_CI_in {a : Nat} {v : Int32} (hT : pd_TF) (hv : pd_CI.any (fun e => Nat.beq e.1 (pd_oc mi) && Nat.beq e.2.1 a && decide (e.2.2.1 = v)) = true) : Jvm.Cond.constant (pd_cn (pd_oc mi)) a v ∈ pd_W := by
  obtain ⟨e, h1, h2⟩ := List.any_eq_true.mp hv
  simp only [Bool.and_eq_true, decide_eq_true_eq] at h2
  obtain ⟨⟨q1, q2⟩, q3⟩ := h2
  have q1 := Nat.eq_of_beq_eq_true q1
  have q2 := Nat.eq_of_beq_eq_true q2
  have := hT.2.2.2.1 e h1
  rw [q1, q2, q3] at this
  exact this
theorem pd_CJ_in {a : Nat} {v : Int64} (hT : pd_TF) (hv : pd_CJ.any (fun e => Nat.beq e.1 (pd_oc mi) && Nat.beq e.2.1 a && decide (e.2.2.1 = v)) = true) : Jvm.Cond.constantLong (pd_cn (pd_oc mi)) a v ∈ pd_W := by
  obtain ⟨e, h1, h2⟩ := List.any_eq_true.mp hv
  simp only [Bool.and_eq_true, decide_eq_true_eq] at h2
  obtain ⟨⟨q1, q2⟩, q3⟩ := h2
  have q1 := Nat.eq_of_beq_eq_true q1
  have q2 := Nat.eq_of_beq_eq_true q2
  have := hT.2.2.2.2.1 e h1
  rw [q1, q2, q3] at this
  exact this
theorem pd_ok_set1 {i : Nat} {v : pd_V} (h : ∀ k v, pd_nth ls k = some v → pd_okv v) (hv : pd_okv v) : ∀ k w, pd_nth (pd_set1 ls i v) k = some w → pd_okv w := by
  intro k w hw
  rcases pd_nth_set1 hw with ⟨-, rfl⟩ | ⟨-, h1, -⟩
  · exact hv
  · exact h k w h1
theorem pd_ok_set2 {i : Nat} {v : pd_V} (h : ∀ k v, pd_nth ls k = some v → pd_okv v) (hv : pd_okv v) : ∀ k w, pd_nth (pd_set2 ls i v) k = some w → pd_okv w := by
  intro k w hw
  rcases pd_nth_set2 hw with ⟨-, rfl⟩ | ⟨-, -, h1, -⟩
  · exact hv
  · exact h k w h1

theorem pd_s_iconst {a : Int} {v : Int32} (hdg : decode (pd_b mi) pc = .ok (.iconst a, 1)) (hv : Int32.ofInt a = v) : pd_Goal p l e R s m args below meth c cells slots Q ad D cA xs A b L mi H0 n r (mi, pc, ls, st, σ) (pd_go (mi, pc + 1, ls, pd_i v :: st, σ)) := by
  intro hC hT hCon hK hRt hF lsM H locs hR
  exact lv_iconst hC.1 hC.2.1 hdg hv (hK _ rfl hF lsM H locs (pd_push hR trivial))
theorem pd_s_bipush {a : Int} {v : Int32} (hdg : decode (pd_b mi) pc = .ok (.bipush a, 2)) (hv : (Int8.ofInt a).toInt32 = v) : pd_Goal p l e R s m args below meth c cells slots Q ad D cA xs A b L mi H0 n r (mi, pc, ls, st, σ) (pd_go (mi, pc + 2, ls, pd_i v :: st, σ)) := by
  intro hC hT hCon hK hRt hF lsM H locs hR
  exact lv_bipush hC.1 hC.2.1 hdg hv (hK _ rfl hF lsM H locs (pd_push hR trivial))
theorem pd_s_sipush {a : Int} {v : Int32} (hdg : decode (pd_b mi) pc = .ok (.sipush a, 3)) (hv : (Int16.ofInt a).toInt32 = v) : pd_Goal p l e R s m args below meth c cells slots Q ad D cA xs A b L mi H0 n r (mi, pc, ls, st, σ) (pd_go (mi, pc + 3, ls, pd_i v :: st, σ)) := by
  intro hC hT hCon hK hRt hF lsM H locs hR
  exact lv_sipush hC.1 hC.2.1 hdg hv (hK _ rfl hF lsM H locs (pd_push hR trivial))
theorem pd_s_lconst {a : Fin 2} {v : Int64} (hdg : decode (pd_b mi) pc = .ok (.lconst a, 1)) (hv : Int64.ofNat (a : Nat) = v) : pd_Goal p l e R s m args below meth c cells slots Q ad D cA xs A b L mi H0 n r (mi, pc, ls, st, σ) (pd_go (mi, pc + 1, ls, pd_j v :: st, σ)) := by
  intro hC hT hCon hK hRt hF lsM H locs hR
  exact lv_lconst hC.1 hC.2.1 hdg hv (hK _ rfl hF lsM H locs (pd_push hR trivial))
theorem pd_s_ldc {a : Nat} {v : Int32} (hdg : decode (pd_b mi) pc = .ok (.ldc a, 2)) (hv : pd_CI.any (fun e => Nat.beq e.1 (pd_oc mi) && Nat.beq e.2.1 a && decide (e.2.2.1 = v)) = true) : pd_Goal p l e R s m args below meth c cells slots Q ad D cA xs A b L mi H0 n r (mi, pc, ls, st, σ) (pd_go (mi, pc + 2, ls, pd_i v :: st, σ)) := by
  intro hC hT hCon hK hRt hF lsM H locs hR
  exact lv_ldc hC.1 hC.2.1 hC.2.2.2.1 (hC.2.2.2.2.1 _ (pd_CI_in hT hv)) hdg (hK _ rfl hF lsM H locs (pd_push hR trivial))
theorem pd_s_ldc_w {a : Nat} {v : Int32} (hdg : decode (pd_b mi) pc = .ok (.ldc_w a, 3)) (hv : pd_CI.any (fun e => Nat.beq e.1 (pd_oc mi) && Nat.beq e.2.1 a && decide (e.2.2.1 = v)) = true) : pd_Goal p l e R s m args below meth c cells slots Q ad D cA xs A b L mi H0 n r (mi, pc, ls, st, σ) (pd_go (mi, pc + 3, ls, pd_i v :: st, σ)) := by
  intro hC hT hCon hK hRt hF lsM H locs hR
  exact lv_ldcw hC.1 hC.2.1 hC.2.2.2.1 (hC.2.2.2.2.1 _ (pd_CI_in hT hv)) hdg (hK _ rfl hF lsM H locs (pd_push hR trivial))
theorem pd_s_ldc2 {a : Nat} {v : Int64} (hdg : decode (pd_b mi) pc = .ok (.ldc2_w a, 3)) (hv : pd_CJ.any (fun e => Nat.beq e.1 (pd_oc mi) && Nat.beq e.2.1 a && decide (e.2.2.1 = v)) = true) : pd_Goal p l e R s m args below meth c cells slots Q ad D cA xs A b L mi H0 n r (mi, pc, ls, st, σ) (pd_go (mi, pc + 3, ls, pd_j v :: st, σ)) := by
  intro hC hT hCon hK hRt hF lsM H locs hR
  exact lv_ldc2 hC.1 hC.2.1 hC.2.2.2.1 (hC.2.2.2.2.1 _ (pd_CJ_in hT hv)) hdg (hK _ rfl hF lsM H locs (pd_push hR trivial))
theorem pd_s_iload {a : Nat} (hdg : decode (pd_b mi) pc = .ok (.iload a, 2)) : pd_Goal p l e R s m args below meth c cells slots Q ad D cA xs A b L mi H0 n r (mi, pc, ls, st, σ) (pd_ldi mi (pc + 2) ls st σ a) := by
  intro hC hT hCon hK hRt hF lsM H locs hR
  unfold pd_ldi at hF
  split at hF
  · next h1 => exact lv_iload hC.1 hC.2.1 hdg (hR.1.at h1) (hK _ rfl hF lsM H locs (pd_push hR trivial))
  · cases hF
theorem pd_s_iload_n {a : Fin 4} (hdg : decode (pd_b mi) pc = .ok (.iload_n a, 1)) : pd_Goal p l e R s m args below meth c cells slots Q ad D cA xs A b L mi H0 n r (mi, pc, ls, st, σ) (pd_ldi mi (pc + 1) ls st σ (a : Nat)) := by
  intro hC hT hCon hK hRt hF lsM H locs hR
  unfold pd_ldi at hF
  split at hF
  · next h1 => exact lv_iload_n hC.1 hC.2.1 hdg rfl (hR.1.at h1) (hK _ rfl hF lsM H locs (pd_push hR trivial))
  · cases hF
theorem pd_s_lload {a : Nat} (hdg : decode (pd_b mi) pc = .ok (.lload a, 2)) : pd_Goal p l e R s m args below meth c cells slots Q ad D cA xs A b L mi H0 n r (mi, pc, ls, st, σ) (pd_ldj mi (pc + 2) ls st σ a) := by
  intro hC hT hCon hK hRt hF lsM H locs hR
  unfold pd_ldj at hF
  split at hF
  · next h1 => exact lv_lload hC.1 hC.2.1 hdg (hR.1.at h1) (hK _ rfl hF lsM H locs (pd_push hR trivial))
  · cases hF
theorem pd_s_lload_n {a : Fin 4} (hdg : decode (pd_b mi) pc = .ok (.lload_n a, 1)) : pd_Goal p l e R s m args below meth c cells slots Q ad D cA xs A b L mi H0 n r (mi, pc, ls, st, σ) (pd_ldj mi (pc + 1) ls st σ (a : Nat)) := by
  intro hC hT hCon hK hRt hF lsM H locs hR
  unfold pd_ldj at hF
  split at hF
  · next h1 => exact lv_lload_n hC.1 hC.2.1 hdg rfl (hR.1.at h1) (hK _ rfl hF lsM H locs (pd_push hR trivial))
  · cases hF
theorem pd_s_aload {a : Nat} (hdg : decode (pd_b mi) pc = .ok (.aload a, 2)) : pd_Goal p l e R s m args below meth c cells slots Q ad D cA xs A b L mi H0 n r (mi, pc, ls, st, σ) (pd_lda mi (pc + 2) ls st σ a) := by
  intro hC hT hCon hK hRt hF lsM H locs hR
  unfold pd_lda at hF
  split at hF
  · next h1 => exact lv_aload hC.1 hC.2.1 hdg (hR.1.at h1) (hK _ rfl hF lsM H locs (pd_push hR (hR.2.1 _ _ (by assumption))))
  · cases hF
theorem pd_s_aload_n {a : Fin 4} (hdg : decode (pd_b mi) pc = .ok (.aload_n a, 1)) : pd_Goal p l e R s m args below meth c cells slots Q ad D cA xs A b L mi H0 n r (mi, pc, ls, st, σ) (pd_lda mi (pc + 1) ls st σ (a : Nat)) := by
  intro hC hT hCon hK hRt hF lsM H locs hR
  unfold pd_lda at hF
  split at hF
  · next h1 => exact lv_aload_n hC.1 hC.2.1 hdg rfl (hR.1.at h1) (hK _ rfl hF lsM H locs (pd_push hR (hR.2.1 _ _ (by assumption))))
  · cases hF
theorem pd_s_istore {a : Nat} (hdg : decode (pd_b mi) pc = .ok (.istore a, 2)) (hn : a + 1 ≤ pd_ml mi) : pd_Goal p l e R s m args below meth c cells slots Q ad D cA xs A b L mi H0 n r (mi, pc, ls, st, σ) (pd_sti mi (pc + 2) ls st σ a) := by
  intro hC hT hCon hK hRt hF lsM H locs hR
  unfold pd_sti at hF
  split at hF
  · refine lv_istore hC.1 hC.2.1 hdg hR.1 (by omega) rfl fun ls' hl => ?_
    exact hK _ rfl hF ls' H locs ⟨pd_lok.set1 hl, pd_ok_set1 hR.2.1 (hR.2.2.1 _ List.mem_cons_self), fun v h => hR.2.2.1 v (List.mem_cons_of_mem _ h), hR.2.2.2⟩
  · cases hF
theorem pd_s_istore_n {a : Fin 4} (hdg : decode (pd_b mi) pc = .ok (.istore_n a, 1)) (hn : (a : Nat) + 1 ≤ pd_ml mi) : pd_Goal p l e R s m args below meth c cells slots Q ad D cA xs A b L mi H0 n r (mi, pc, ls, st, σ) (pd_sti mi (pc + 1) ls st σ (a : Nat)) := by
  intro hC hT hCon hK hRt hF lsM H locs hR
  unfold pd_sti at hF
  split at hF
  · refine lv_istore_n hC.1 hC.2.1 hdg rfl hR.1 (by omega) rfl fun ls' hl => ?_
    exact hK _ rfl hF ls' H locs ⟨pd_lok.set1 hl, pd_ok_set1 hR.2.1 (hR.2.2.1 _ List.mem_cons_self), fun v h => hR.2.2.1 v (List.mem_cons_of_mem _ h), hR.2.2.2⟩
  · cases hF
theorem pd_s_lstore {a : Nat} (hdg : decode (pd_b mi) pc = .ok (.lstore a, 2)) (hn : a + 2 ≤ pd_ml mi) : pd_Goal p l e R s m args below meth c cells slots Q ad D cA xs A b L mi H0 n r (mi, pc, ls, st, σ) (pd_stj mi (pc + 2) ls st σ a) := by
  intro hC hT hCon hK hRt hF lsM H locs hR
  unfold pd_stj at hF
  split at hF
  · refine lv_lstore hC.1 hC.2.1 hdg hR.1 (by omega) rfl fun ls' hl => ?_
    exact hK _ rfl hF ls' H locs ⟨pd_lok.set2 hl, pd_ok_set2 hR.2.1 (hR.2.2.1 _ List.mem_cons_self), fun v h => hR.2.2.1 v (List.mem_cons_of_mem _ h), hR.2.2.2⟩
  · cases hF
theorem pd_s_lstore_n {a : Fin 4} (hdg : decode (pd_b mi) pc = .ok (.lstore_n a, 1)) (hn : (a : Nat) + 2 ≤ pd_ml mi) : pd_Goal p l e R s m args below meth c cells slots Q ad D cA xs A b L mi H0 n r (mi, pc, ls, st, σ) (pd_stj mi (pc + 1) ls st σ (a : Nat)) := by
  intro hC hT hCon hK hRt hF lsM H locs hR
  unfold pd_stj at hF
  split at hF
  · refine lv_lstore_n hC.1 hC.2.1 hdg rfl hR.1 (by omega) rfl fun ls' hl => ?_
    exact hK _ rfl hF ls' H locs ⟨pd_lok.set2 hl, pd_ok_set2 hR.2.1 (hR.2.2.1 _ List.mem_cons_self), fun v h => hR.2.2.1 v (List.mem_cons_of_mem _ h), hR.2.2.2⟩
  · cases hF
theorem pd_s_astore {a : Nat} (hdg : decode (pd_b mi) pc = .ok (.astore a, 2)) (hn : a + 1 ≤ pd_ml mi) : pd_Goal p l e R s m args below meth c cells slots Q ad D cA xs A b L mi H0 n r (mi, pc, ls, st, σ) (pd_sta mi (pc + 2) ls st σ a) := by
  intro hC hT hCon hK hRt hF lsM H locs hR
  unfold pd_sta at hF
  split at hF
  · refine lv_astore hC.1 hC.2.1 hdg hR.1 (by omega) rfl fun ls' hl => ?_
    exact hK _ rfl hF ls' H locs ⟨pd_lok.set1 hl, pd_ok_set1 hR.2.1 (hR.2.2.1 _ List.mem_cons_self), fun v h => hR.2.2.1 v (List.mem_cons_of_mem _ h), hR.2.2.2⟩
  · cases hF
theorem pd_s_astore_n {a : Fin 4} (hdg : decode (pd_b mi) pc = .ok (.astore_n a, 1)) (hn : (a : Nat) + 1 ≤ pd_ml mi) : pd_Goal p l e R s m args below meth c cells slots Q ad D cA xs A b L mi H0 n r (mi, pc, ls, st, σ) (pd_sta mi (pc + 1) ls st σ (a : Nat)) := by
  intro hC hT hCon hK hRt hF lsM H locs hR
  unfold pd_sta at hF
  split at hF
  · refine lv_astore_n hC.1 hC.2.1 hdg rfl hR.1 (by omega) rfl fun ls' hl => ?_
    exact hK _ rfl hF ls' H locs ⟨pd_lok.set1 hl, pd_ok_set1 hR.2.1 (hR.2.2.1 _ List.mem_cons_self), fun v h => hR.2.2.1 v (List.mem_cons_of_mem _ h), hR.2.2.2⟩
  · cases hF
theorem pd_s_iinc {a : Nat} {d : Int} {v : Int32} (hdg : decode (pd_b mi) pc = .ok (.iinc a d, 3)) (hn : a + 1 ≤ pd_ml mi) (hv : Int32.ofInt d = v) : pd_Goal p l e R s m args below meth c cells slots Q ad D cA xs A b L mi H0 n r (mi, pc, ls, st, σ) (pd_inc mi (pc + 3) ls st σ a v) := by
  intro hC hT hCon hK hRt hF lsM H locs hR
  unfold pd_inc at hF
  split at hF
  · next x h1 =>
    obtain ⟨j, hj⟩ := pd_lok.place (ad := ad) h1
    refine lv_iinc hC.1 hC.2.1 hdg hR.1 hj (by rw [hv]) (by omega) rfl fun ls' hl => ?_
    exact hK _ rfl hF ls' H locs ⟨pd_lok.set1 (v := pd_i (x + v)) hl, pd_ok_set1 hR.2.1 trivial, hR.2.2⟩
  · cases hF
theorem pd_s_dup (hdg : decode (pd_b mi) pc = .ok (.dup, 1)) : pd_Goal p l e R s m args below meth c cells slots Q ad D cA xs A b L mi H0 n r (mi, pc, ls, st, σ) (match st with | a :: r => cond (pd_two a) pd_no (pd_go (mi, pc + 1, ls, a :: a :: r, σ)) | _ => pd_no) := by
  intro hC hT hCon hK hRt hF lsM H locs hR
  split at hF
  · next a t =>
    cases h1 : pd_two a with
    | true => rw [h1] at hF; cases hF
    | false =>
      rw [h1] at hF
      exact lv_dup hC.1 hC.2.1 hdg (pd_cv_cat1 ad h1) (hK _ rfl hF lsM H locs (pd_push hR (hR.2.2.1 _ List.mem_cons_self)))
  · cases hF
theorem pd_s_dup2 (hdg : decode (pd_b mi) pc = .ok (.dup2, 1)) : pd_Goal p l e R s m args below meth c cells slots Q ad D cA xs A b L mi H0 n r (mi, pc, ls, st, σ) (match st with | a :: b :: r => cond (pd_two a) pd_no (cond (pd_two b) pd_no (pd_go (mi, pc + 1, ls, a :: b :: a :: b :: r, σ))) | _ => pd_no) := by
  intro hC hT hCon hK hRt hF lsM H locs hR
  split at hF
  · next a b t =>
    cases h1 : pd_two a with
    | true => rw [h1] at hF; cases hF
    | false =>
      cases h2 : pd_two b with
      | true => rw [h1, h2] at hF; cases hF
      | false =>
        rw [h1, h2] at hF
        exact lv_dup2_11 hC.1 hC.2.1 hdg (pd_cv_cat1 ad h1) (pd_cv_cat1 ad h2) (hK _ rfl hF lsM H locs (pd_push (pd_push hR (hR.2.2.1 _ (List.mem_cons_of_mem _ List.mem_cons_self))) (hR.2.2.1 _ List.mem_cons_self)))
  · cases hF
theorem pd_s_pop (hdg : decode (pd_b mi) pc = .ok (.pop, 1)) : pd_Goal p l e R s m args below meth c cells slots Q ad D cA xs A b L mi H0 n r (mi, pc, ls, st, σ) (match st with | a :: r => cond (pd_two a) pd_no (pd_go (mi, pc + 1, ls, r, σ)) | _ => pd_no) := by
  intro hC hT hCon hK hRt hF lsM H locs hR
  split at hF
  · next a t =>
    cases h1 : pd_two a with
    | true => rw [h1] at hF; cases hF
    | false =>
      rw [h1] at hF
      exact lv_pop hC.1 hC.2.1 hdg (pd_cv_cat1 ad h1) (hK _ rfl hF lsM H locs (pd_pops hR (fun v h => List.mem_cons_of_mem _ h)))
  · cases hF
theorem pd_s_iadd (hdg : decode (pd_b mi) pc = .ok (.iadd, 1)) : pd_Goal p l e R s m args below meth c cells slots Q ad D cA xs A b L mi H0 n r (mi, pc, ls, st, σ) (pd_ii (fun x y => x + y) mi (pc + 1) ls st σ) := by
  intro hC hT hCon hK hRt hF lsM H locs hR
  unfold pd_ii at hF
  split at hF
  · exact lv_iadd hC.1 hC.2.1 hdg (hK _ rfl hF lsM H locs (pd_push (pd_pops hR (fun v h => List.mem_cons_of_mem _ (List.mem_cons_of_mem _ h))) trivial))
  · cases hF
theorem pd_s_isub (hdg : decode (pd_b mi) pc = .ok (.isub, 1)) : pd_Goal p l e R s m args below meth c cells slots Q ad D cA xs A b L mi H0 n r (mi, pc, ls, st, σ) (pd_ii (fun x y => x - y) mi (pc + 1) ls st σ) := by
  intro hC hT hCon hK hRt hF lsM H locs hR
  unfold pd_ii at hF
  split at hF
  · exact lv_isub hC.1 hC.2.1 hdg (hK _ rfl hF lsM H locs (pd_push (pd_pops hR (fun v h => List.mem_cons_of_mem _ (List.mem_cons_of_mem _ h))) trivial))
  · cases hF
theorem pd_s_imul (hdg : decode (pd_b mi) pc = .ok (.imul, 1)) : pd_Goal p l e R s m args below meth c cells slots Q ad D cA xs A b L mi H0 n r (mi, pc, ls, st, σ) (pd_ii (fun x y => x * y) mi (pc + 1) ls st σ) := by
  intro hC hT hCon hK hRt hF lsM H locs hR
  unfold pd_ii at hF
  split at hF
  · exact lv_imul hC.1 hC.2.1 hdg (hK _ rfl hF lsM H locs (pd_push (pd_pops hR (fun v h => List.mem_cons_of_mem _ (List.mem_cons_of_mem _ h))) trivial))
  · cases hF
theorem pd_s_iand (hdg : decode (pd_b mi) pc = .ok (.iand, 1)) : pd_Goal p l e R s m args below meth c cells slots Q ad D cA xs A b L mi H0 n r (mi, pc, ls, st, σ) (pd_ii (fun x y => x &&& y) mi (pc + 1) ls st σ) := by
  intro hC hT hCon hK hRt hF lsM H locs hR
  unfold pd_ii at hF
  split at hF
  · exact lv_iand hC.1 hC.2.1 hdg (hK _ rfl hF lsM H locs (pd_push (pd_pops hR (fun v h => List.mem_cons_of_mem _ (List.mem_cons_of_mem _ h))) trivial))
  · cases hF
theorem pd_s_ior (hdg : decode (pd_b mi) pc = .ok (.ior, 1)) : pd_Goal p l e R s m args below meth c cells slots Q ad D cA xs A b L mi H0 n r (mi, pc, ls, st, σ) (pd_ii (fun x y => x ||| y) mi (pc + 1) ls st σ) := by
  intro hC hT hCon hK hRt hF lsM H locs hR
  unfold pd_ii at hF
  split at hF
  · exact lv_ior hC.1 hC.2.1 hdg (hK _ rfl hF lsM H locs (pd_push (pd_pops hR (fun v h => List.mem_cons_of_mem _ (List.mem_cons_of_mem _ h))) trivial))
  · cases hF
theorem pd_s_ishl (hdg : decode (pd_b mi) pc = .ok (.ishl, 1)) : pd_Goal p l e R s m args below meth c cells slots Q ad D cA xs A b L mi H0 n r (mi, pc, ls, st, σ) (pd_ii (fun x y => x <<< (y &&& 31)) mi (pc + 1) ls st σ) := by
  intro hC hT hCon hK hRt hF lsM H locs hR
  unfold pd_ii at hF
  split at hF
  · exact lv_ishl hC.1 hC.2.1 hdg (hK _ rfl hF lsM H locs (pd_push (pd_pops hR (fun v h => List.mem_cons_of_mem _ (List.mem_cons_of_mem _ h))) trivial))
  · cases hF
theorem pd_s_ishr (hdg : decode (pd_b mi) pc = .ok (.ishr, 1)) : pd_Goal p l e R s m args below meth c cells slots Q ad D cA xs A b L mi H0 n r (mi, pc, ls, st, σ) (pd_ii (fun x y => x >>> (y &&& 31)) mi (pc + 1) ls st σ) := by
  intro hC hT hCon hK hRt hF lsM H locs hR
  unfold pd_ii at hF
  split at hF
  · exact lv_ishr hC.1 hC.2.1 hdg (hK _ rfl hF lsM H locs (pd_push (pd_pops hR (fun v h => List.mem_cons_of_mem _ (List.mem_cons_of_mem _ h))) trivial))
  · cases hF
theorem pd_s_iushr (hdg : decode (pd_b mi) pc = .ok (.iushr, 1)) : pd_Goal p l e R s m args below meth c cells slots Q ad D cA xs A b L mi H0 n r (mi, pc, ls, st, σ) (pd_ii (fun x y => (x.toUInt32 >>> (y.toUInt32 &&& Int32.toUInt32 31)).toInt32) mi (pc + 1) ls st σ) := by
  intro hC hT hCon hK hRt hF lsM H locs hR
  unfold pd_ii at hF
  split at hF
  · exact lv_iushr hC.1 hC.2.1 hdg rfl (hK _ rfl hF lsM H locs (pd_push (pd_pops hR (fun v h => List.mem_cons_of_mem _ (List.mem_cons_of_mem _ h))) trivial))
  · cases hF
theorem pd_s_ladd (hdg : decode (pd_b mi) pc = .ok (.ladd, 1)) : pd_Goal p l e R s m args below meth c cells slots Q ad D cA xs A b L mi H0 n r (mi, pc, ls, st, σ) (pd_jj (fun x y => x + y) mi (pc + 1) ls st σ) := by
  intro hC hT hCon hK hRt hF lsM H locs hR
  unfold pd_jj at hF
  split at hF
  · exact lv_ladd hC.1 hC.2.1 hdg (hK _ rfl hF lsM H locs (pd_push (pd_pops hR (fun v h => List.mem_cons_of_mem _ (List.mem_cons_of_mem _ h))) trivial))
  · cases hF
theorem pd_s_lsub (hdg : decode (pd_b mi) pc = .ok (.lsub, 1)) : pd_Goal p l e R s m args below meth c cells slots Q ad D cA xs A b L mi H0 n r (mi, pc, ls, st, σ) (pd_jj (fun x y => x - y) mi (pc + 1) ls st σ) := by
  intro hC hT hCon hK hRt hF lsM H locs hR
  unfold pd_jj at hF
  split at hF
  · exact lv_lsub hC.1 hC.2.1 hdg (hK _ rfl hF lsM H locs (pd_push (pd_pops hR (fun v h => List.mem_cons_of_mem _ (List.mem_cons_of_mem _ h))) trivial))
  · cases hF
theorem pd_s_lmul (hdg : decode (pd_b mi) pc = .ok (.lmul, 1)) : pd_Goal p l e R s m args below meth c cells slots Q ad D cA xs A b L mi H0 n r (mi, pc, ls, st, σ) (pd_jj (fun x y => x * y) mi (pc + 1) ls st σ) := by
  intro hC hT hCon hK hRt hF lsM H locs hR
  unfold pd_jj at hF
  split at hF
  · exact lv_lmul hC.1 hC.2.1 hdg (hK _ rfl hF lsM H locs (pd_push (pd_pops hR (fun v h => List.mem_cons_of_mem _ (List.mem_cons_of_mem _ h))) trivial))
  · cases hF
theorem pd_s_land (hdg : decode (pd_b mi) pc = .ok (.land, 1)) : pd_Goal p l e R s m args below meth c cells slots Q ad D cA xs A b L mi H0 n r (mi, pc, ls, st, σ) (pd_jj (fun x y => x &&& y) mi (pc + 1) ls st σ) := by
  intro hC hT hCon hK hRt hF lsM H locs hR
  unfold pd_jj at hF
  split at hF
  · exact lv_land hC.1 hC.2.1 hdg (hK _ rfl hF lsM H locs (pd_push (pd_pops hR (fun v h => List.mem_cons_of_mem _ (List.mem_cons_of_mem _ h))) trivial))
  · cases hF
theorem pd_s_lor (hdg : decode (pd_b mi) pc = .ok (.lor, 1)) : pd_Goal p l e R s m args below meth c cells slots Q ad D cA xs A b L mi H0 n r (mi, pc, ls, st, σ) (pd_jj (fun x y => x ||| y) mi (pc + 1) ls st σ) := by
  intro hC hT hCon hK hRt hF lsM H locs hR
  unfold pd_jj at hF
  split at hF
  · exact lv_lor hC.1 hC.2.1 hdg (hK _ rfl hF lsM H locs (pd_push (pd_pops hR (fun v h => List.mem_cons_of_mem _ (List.mem_cons_of_mem _ h))) trivial))
  · cases hF
theorem pd_s_lshl (hdg : decode (pd_b mi) pc = .ok (.lshl, 1)) : pd_Goal p l e R s m args below meth c cells slots Q ad D cA xs A b L mi H0 n r (mi, pc, ls, st, σ) (pd_ji (fun x y => x <<< (y.toInt64 &&& 63)) mi (pc + 1) ls st σ) := by
  intro hC hT hCon hK hRt hF lsM H locs hR
  unfold pd_ji at hF
  split at hF
  · exact lv_lshl hC.1 hC.2.1 hdg rfl (hK _ rfl hF lsM H locs (pd_push (pd_pops hR (fun v h => List.mem_cons_of_mem _ (List.mem_cons_of_mem _ h))) trivial))
  · cases hF
theorem pd_s_lshr (hdg : decode (pd_b mi) pc = .ok (.lshr, 1)) : pd_Goal p l e R s m args below meth c cells slots Q ad D cA xs A b L mi H0 n r (mi, pc, ls, st, σ) (pd_ji (fun x y => x >>> (y.toInt64 &&& 63)) mi (pc + 1) ls st σ) := by
  intro hC hT hCon hK hRt hF lsM H locs hR
  unfold pd_ji at hF
  split at hF
  · exact lv_lshr hC.1 hC.2.1 hdg rfl (hK _ rfl hF lsM H locs (pd_push (pd_pops hR (fun v h => List.mem_cons_of_mem _ (List.mem_cons_of_mem _ h))) trivial))
  · cases hF
theorem pd_s_idiv (hdg : decode (pd_b mi) pc = .ok (.idiv, 1)) : pd_Goal p l e R s m args below meth c cells slots Q ad D cA xs A b L mi H0 n r (mi, pc, ls, st, σ) (match st with | .inl (.inl y) :: .inl (.inl x) :: r => pd_gd (decide (y = 0)) (mi, pc + 1, ls, pd_i (x / y) :: r, σ) | _ => pd_no) := by
  intro hC hT hCon hK hRt hF lsM H locs hR
  split at hF
  · next y x t =>
    by_cases h1 : y = 0
    · rw [decide_eq_true h1] at hF; cases hF
    · rw [decide_eq_false h1] at hF
      exact lv_idiv hC.1 hC.2.1 hdg h1 (hK _ rfl hF lsM H locs (pd_push (pd_pops hR (fun v h => List.mem_cons_of_mem _ (List.mem_cons_of_mem _ h))) trivial))
  · cases hF
theorem pd_s_irem (hdg : decode (pd_b mi) pc = .ok (.irem, 1)) : pd_Goal p l e R s m args below meth c cells slots Q ad D cA xs A b L mi H0 n r (mi, pc, ls, st, σ) (match st with | .inl (.inl y) :: .inl (.inl x) :: r => pd_gd (decide (y = 0)) (mi, pc + 1, ls, pd_i (x - x / y * y) :: r, σ) | _ => pd_no) := by
  intro hC hT hCon hK hRt hF lsM H locs hR
  split at hF
  · next y x t =>
    by_cases h1 : y = 0
    · rw [decide_eq_true h1] at hF; cases hF
    · rw [decide_eq_false h1] at hF
      exact lv_irem hC.1 hC.2.1 hdg h1 (hK _ rfl hF lsM H locs (pd_push (pd_pops hR (fun v h => List.mem_cons_of_mem _ (List.mem_cons_of_mem _ h))) trivial))
  · cases hF
theorem pd_s_ldiv (hdg : decode (pd_b mi) pc = .ok (.ldiv, 1)) : pd_Goal p l e R s m args below meth c cells slots Q ad D cA xs A b L mi H0 n r (mi, pc, ls, st, σ) (match st with | .inl (.inr y) :: .inl (.inr x) :: r => pd_gd (decide (y = 0)) (mi, pc + 1, ls, pd_j (x / y) :: r, σ) | _ => pd_no) := by
  intro hC hT hCon hK hRt hF lsM H locs hR
  split at hF
  · next y x t =>
    by_cases h1 : y = 0
    · rw [decide_eq_true h1] at hF; cases hF
    · rw [decide_eq_false h1] at hF
      exact lv_ldiv hC.1 hC.2.1 hdg h1 (hK _ rfl hF lsM H locs (pd_push (pd_pops hR (fun v h => List.mem_cons_of_mem _ (List.mem_cons_of_mem _ h))) trivial))
  · cases hF
theorem pd_s_lrem (hdg : decode (pd_b mi) pc = .ok (.lrem, 1)) : pd_Goal p l e R s m args below meth c cells slots Q ad D cA xs A b L mi H0 n r (mi, pc, ls, st, σ) (match st with | .inl (.inr y) :: .inl (.inr x) :: r => pd_gd (decide (y = 0)) (mi, pc + 1, ls, pd_j (x - x / y * y) :: r, σ) | _ => pd_no) := by
  intro hC hT hCon hK hRt hF lsM H locs hR
  split at hF
  · next y x t =>
    by_cases h1 : y = 0
    · rw [decide_eq_true h1] at hF; cases hF
    · rw [decide_eq_false h1] at hF
      exact lv_lrem hC.1 hC.2.1 hdg h1 (hK _ rfl hF lsM H locs (pd_push (pd_pops hR (fun v h => List.mem_cons_of_mem _ (List.mem_cons_of_mem _ h))) trivial))
  · cases hF
theorem pd_s_lneg (hdg : decode (pd_b mi) pc = .ok (.lneg, 1)) : pd_Goal p l e R s m args below meth c cells slots Q ad D cA xs A b L mi H0 n r (mi, pc, ls, st, σ) (match st with | .inl (.inr x) :: r => pd_go (mi, pc + 1, ls, pd_j (-x) :: r, σ) | _ => pd_no) := by
  intro hC hT hCon hK hRt hF lsM H locs hR
  split at hF
  · exact lv_lneg hC.1 hC.2.1 hdg (hK _ rfl hF lsM H locs (pd_push (pd_pops hR (fun v h => List.mem_cons_of_mem _ h)) trivial))
  · cases hF
theorem pd_s_lcmp (hdg : decode (pd_b mi) pc = .ok (.lcmp, 1)) : pd_Goal p l e R s m args below meth c cells slots Q ad D cA xs A b L mi H0 n r (mi, pc, ls, st, σ) (match st with | .inl (.inr y) :: .inl (.inr x) :: r => pd_go (mi, pc + 1, ls, pd_i (lg_cmp x y) :: r, σ) | _ => pd_no) := by
  intro hC hT hCon hK hRt hF lsM H locs hR
  split at hF
  · exact W.lcmp hC.1 hC.2.1 hdg (hK _ rfl hF lsM H locs (pd_push (pd_pops hR (fun v h => List.mem_cons_of_mem _ (List.mem_cons_of_mem _ h))) trivial))
  · cases hF
theorem pd_s_i2l (hdg : decode (pd_b mi) pc = .ok (.i2l, 1)) : pd_Goal p l e R s m args below meth c cells slots Q ad D cA xs A b L mi H0 n r (mi, pc, ls, st, σ) (match st with | .inl (.inl x) :: r => pd_go (mi, pc + 1, ls, pd_j x.toInt64 :: r, σ) | _ => pd_no) := by
  intro hC hT hCon hK hRt hF lsM H locs hR
  split at hF
  · exact lv_i2l hC.1 hC.2.1 hdg rfl (hK _ rfl hF lsM H locs (pd_push (pd_pops hR (fun v h => List.mem_cons_of_mem _ h)) trivial))
  · cases hF
theorem pd_s_l2i (hdg : decode (pd_b mi) pc = .ok (.l2i, 1)) : pd_Goal p l e R s m args below meth c cells slots Q ad D cA xs A b L mi H0 n r (mi, pc, ls, st, σ) (match st with | .inl (.inr x) :: r => pd_go (mi, pc + 1, ls, pd_i x.toInt32 :: r, σ) | _ => pd_no) := by
  intro hC hT hCon hK hRt hF lsM H locs hR
  split at hF
  · exact lv_l2i hC.1 hC.2.1 hdg rfl (hK _ rfl hF lsM H locs (pd_push (pd_pops hR (fun v h => List.mem_cons_of_mem _ h)) trivial))
  · cases hF
theorem pd_s_i2f (hdg : decode (pd_b mi) pc = .ok (.i2f, 1)) : pd_Goal p l e R s m args below meth c cells slots Q ad D cA xs A b L mi H0 n r (mi, pc, ls, st, σ) (match st with | .inl (.inl x) :: r => pd_go (mi, pc + 1, ls, pd_f (FP.i2f x) :: r, σ) | _ => pd_no) := by
  intro hC hT hCon hK hRt hF lsM H locs hR
  split at hF
  · exact lv_i2f hC.1 hC.2.1 hdg (hK _ rfl hF lsM H locs (pd_push (pd_pops hR (fun v h => List.mem_cons_of_mem _ h)) trivial))
  · cases hF
theorem pd_s_l2f (hdg : decode (pd_b mi) pc = .ok (.l2f, 1)) : pd_Goal p l e R s m args below meth c cells slots Q ad D cA xs A b L mi H0 n r (mi, pc, ls, st, σ) (match st with | .inl (.inr x) :: r => pd_go (mi, pc + 1, ls, pd_f (FP.l2f x) :: r, σ) | _ => pd_no) := by
  intro hC hT hCon hK hRt hF lsM H locs hR
  split at hF
  · exact lv_l2f hC.1 hC.2.1 hdg (hK _ rfl hF lsM H locs (pd_push (pd_pops hR (fun v h => List.mem_cons_of_mem _ h)) trivial))
  · cases hF
theorem pd_s_f2l (hdg : decode (pd_b mi) pc = .ok (.f2l, 1)) : pd_Goal p l e R s m args below meth c cells slots Q ad D cA xs A b L mi H0 n r (mi, pc, ls, st, σ) (match st with | .inr (.inl (.inl x)) :: r => pd_go (mi, pc + 1, ls, pd_j (FP.f2l x) :: r, σ) | _ => pd_no) := by
  intro hC hT hCon hK hRt hF lsM H locs hR
  split at hF
  · exact lv_f2l hC.1 hC.2.1 hdg (hK _ rfl hF lsM H locs (pd_push (pd_pops hR (fun v h => List.mem_cons_of_mem _ h)) trivial))
  · cases hF
theorem pd_s_l2d (hdg : decode (pd_b mi) pc = .ok (.l2d, 1)) : pd_Goal p l e R s m args below meth c cells slots Q ad D cA xs A b L mi H0 n r (mi, pc, ls, st, σ) (match st with | .inl (.inr x) :: r => pd_go (mi, pc + 1, ls, pd_d (FP.l2d x) :: r, σ) | _ => pd_no) := by
  intro hC hT hCon hK hRt hF lsM H locs hR
  split at hF
  · exact lv_l2d hC.1 hC.2.1 hdg (hK _ rfl hF lsM H locs (pd_push (pd_pops hR (fun v h => List.mem_cons_of_mem _ h)) trivial))
  · cases hF
theorem pd_s_d2l (hdg : decode (pd_b mi) pc = .ok (.d2l, 1)) : pd_Goal p l e R s m args below meth c cells slots Q ad D cA xs A b L mi H0 n r (mi, pc, ls, st, σ) (match st with | .inr (.inl (.inr x)) :: r => pd_go (mi, pc + 1, ls, pd_j (FP.d2l x) :: r, σ) | _ => pd_no) := by
  intro hC hT hCon hK hRt hF lsM H locs hR
  split at hF
  · exact lv_d2l hC.1 hC.2.1 hdg (hK _ rfl hF lsM H locs (pd_push (pd_pops hR (fun v h => List.mem_cons_of_mem _ h)) trivial))
  · cases hF
theorem pd_s_i2b (hdg : decode (pd_b mi) pc = .ok (.i2b, 1)) : pd_Goal p l e R s m args below meth c cells slots Q ad D cA xs A b L mi H0 n r (mi, pc, ls, st, σ) (pd_cv1 (fun x => x.toInt8.toInt32) mi (pc + 1) ls st σ) := by
  intro hC hT hCon hK hRt hF lsM H locs hR
  unfold pd_cv1 at hF
  split at hF
  · exact lv_i2b hC.1 hC.2.1 hdg rfl (hK _ rfl hF lsM H locs (pd_push (pd_pops hR (fun v h => List.mem_cons_of_mem _ h)) trivial))
  · cases hF
theorem pd_s_i2c (hdg : decode (pd_b mi) pc = .ok (.i2c, 1)) : pd_Goal p l e R s m args below meth c cells slots Q ad D cA xs A b L mi H0 n r (mi, pc, ls, st, σ) (pd_cv1 (fun x => (x.toUInt32 % 65536).toInt32) mi (pc + 1) ls st σ) := by
  intro hC hT hCon hK hRt hF lsM H locs hR
  unfold pd_cv1 at hF
  split at hF
  · exact lv_i2c hC.1 hC.2.1 hdg rfl (hK _ rfl hF lsM H locs (pd_push (pd_pops hR (fun v h => List.mem_cons_of_mem _ h)) trivial))
  · cases hF
theorem pd_s_i2s (hdg : decode (pd_b mi) pc = .ok (.i2s, 1)) : pd_Goal p l e R s m args below meth c cells slots Q ad D cA xs A b L mi H0 n r (mi, pc, ls, st, σ) (pd_cv1 (fun x => x.toInt16.toInt32) mi (pc + 1) ls st σ) := by
  intro hC hT hCon hK hRt hF lsM H locs hR
  unfold pd_cv1 at hF
  split at hF
  · exact lv_i2s hC.1 hC.2.1 hdg rfl (hK _ rfl hF lsM H locs (pd_push (pd_pops hR (fun v h => List.mem_cons_of_mem _ h)) trivial))
  · cases hF
theorem pd_s_if_eq {off : Int} {k : Nat} {x : Int32} (hdg : decode (pd_b mi) pc = .ok (.ifCond .eq off, 3)) (ht : (pc : Int) + off = (k : Int)) : pd_Goal p l e R s m args below meth c cells slots Q ad D cA xs A b L mi H0 n r (mi, pc, ls, pd_i x :: st, σ) (pd_br .eq x 0 (mi, k, ls, st, σ) (mi, pc + 3, ls, st, σ)) := by
  intro hC hT hCon hK hRt hF lsM H locs hR
  have hR' := pd_pops (st' := st) hR (fun v h => List.mem_cons_of_mem _ h)
  exact lv_if_eq hC.1 hC.2.1 hdg ht (fun h9 => hK _ rfl (by have h8 := hF; unfold pd_br pd_cc at h8; rw [decide_eq_true h9] at h8; exact h8) lsM H locs hR') (fun h9 => hK _ rfl (by have h8 := hF; unfold pd_br pd_cc at h8; rw [decide_eq_false h9] at h8; exact h8) lsM H locs hR')
theorem pd_s_icmp_eq {off : Int} {k : Nat} {x y : Int32} (hdg : decode (pd_b mi) pc = .ok (.if_icmp .eq off, 3)) (ht : (pc : Int) + off = (k : Int)) : pd_Goal p l e R s m args below meth c cells slots Q ad D cA xs A b L mi H0 n r (mi, pc, ls, pd_i y :: pd_i x :: st, σ) (pd_br .eq x y (mi, k, ls, st, σ) (mi, pc + 3, ls, st, σ)) := by
  intro hC hT hCon hK hRt hF lsM H locs hR
  have hR' := pd_pops (st' := st) hR (fun v h => List.mem_cons_of_mem _ (List.mem_cons_of_mem _ h))
  exact lv_icmp_eq hC.1 hC.2.1 hdg ht (fun h9 => hK _ rfl (by have h8 := hF; unfold pd_br pd_cc at h8; rw [decide_eq_true h9] at h8; exact h8) lsM H locs hR') (fun h9 => hK _ rfl (by have h8 := hF; unfold pd_br pd_cc at h8; rw [decide_eq_false h9] at h8; exact h8) lsM H locs hR')
theorem pd_s_if_ne {off : Int} {k : Nat} {x : Int32} (hdg : decode (pd_b mi) pc = .ok (.ifCond .ne off, 3)) (ht : (pc : Int) + off = (k : Int)) : pd_Goal p l e R s m args below meth c cells slots Q ad D cA xs A b L mi H0 n r (mi, pc, ls, pd_i x :: st, σ) (pd_br .ne x 0 (mi, k, ls, st, σ) (mi, pc + 3, ls, st, σ)) := by
  intro hC hT hCon hK hRt hF lsM H locs hR
  have hR' := pd_pops (st' := st) hR (fun v h => List.mem_cons_of_mem _ h)
  exact lv_if_ne hC.1 hC.2.1 hdg ht (fun h9 => hK _ rfl (by have h8 := hF; unfold pd_br pd_cc at h8; rw [decide_eq_false h9] at h8; exact h8) lsM H locs hR') (fun h9 => hK _ rfl (by have h8 := hF; unfold pd_br pd_cc at h8; rw [decide_eq_true h9] at h8; exact h8) lsM H locs hR')
theorem pd_s_icmp_ne {off : Int} {k : Nat} {x y : Int32} (hdg : decode (pd_b mi) pc = .ok (.if_icmp .ne off, 3)) (ht : (pc : Int) + off = (k : Int)) : pd_Goal p l e R s m args below meth c cells slots Q ad D cA xs A b L mi H0 n r (mi, pc, ls, pd_i y :: pd_i x :: st, σ) (pd_br .ne x y (mi, k, ls, st, σ) (mi, pc + 3, ls, st, σ)) := by
  intro hC hT hCon hK hRt hF lsM H locs hR
  have hR' := pd_pops (st' := st) hR (fun v h => List.mem_cons_of_mem _ (List.mem_cons_of_mem _ h))
  exact lv_icmp_ne hC.1 hC.2.1 hdg ht (fun h9 => hK _ rfl (by have h8 := hF; unfold pd_br pd_cc at h8; rw [decide_eq_false h9] at h8; exact h8) lsM H locs hR') (fun h9 => hK _ rfl (by have h8 := hF; unfold pd_br pd_cc at h8; rw [decide_eq_true h9] at h8; exact h8) lsM H locs hR')
theorem pd_s_if_lt {off : Int} {k : Nat} {x : Int32} (hdg : decode (pd_b mi) pc = .ok (.ifCond .lt off, 3)) (ht : (pc : Int) + off = (k : Int)) : pd_Goal p l e R s m args below meth c cells slots Q ad D cA xs A b L mi H0 n r (mi, pc, ls, pd_i x :: st, σ) (pd_br .lt x 0 (mi, k, ls, st, σ) (mi, pc + 3, ls, st, σ)) := by
  intro hC hT hCon hK hRt hF lsM H locs hR
  have hR' := pd_pops (st' := st) hR (fun v h => List.mem_cons_of_mem _ h)
  exact lv_if_lt hC.1 hC.2.1 hdg ht (fun h9 => hK _ rfl (by have h8 := hF; unfold pd_br pd_cc at h8; rw [decide_eq_true h9] at h8; exact h8) lsM H locs hR') (fun h9 => hK _ rfl (by have h8 := hF; unfold pd_br pd_cc at h8; rw [decide_eq_false h9] at h8; exact h8) lsM H locs hR')
theorem pd_s_icmp_lt {off : Int} {k : Nat} {x y : Int32} (hdg : decode (pd_b mi) pc = .ok (.if_icmp .lt off, 3)) (ht : (pc : Int) + off = (k : Int)) : pd_Goal p l e R s m args below meth c cells slots Q ad D cA xs A b L mi H0 n r (mi, pc, ls, pd_i y :: pd_i x :: st, σ) (pd_br .lt x y (mi, k, ls, st, σ) (mi, pc + 3, ls, st, σ)) := by
  intro hC hT hCon hK hRt hF lsM H locs hR
  have hR' := pd_pops (st' := st) hR (fun v h => List.mem_cons_of_mem _ (List.mem_cons_of_mem _ h))
  exact lv_icmp_lt hC.1 hC.2.1 hdg ht (fun h9 => hK _ rfl (by have h8 := hF; unfold pd_br pd_cc at h8; rw [decide_eq_true h9] at h8; exact h8) lsM H locs hR') (fun h9 => hK _ rfl (by have h8 := hF; unfold pd_br pd_cc at h8; rw [decide_eq_false h9] at h8; exact h8) lsM H locs hR')
theorem pd_s_if_ge {off : Int} {k : Nat} {x : Int32} (hdg : decode (pd_b mi) pc = .ok (.ifCond .ge off, 3)) (ht : (pc : Int) + off = (k : Int)) : pd_Goal p l e R s m args below meth c cells slots Q ad D cA xs A b L mi H0 n r (mi, pc, ls, pd_i x :: st, σ) (pd_br .ge x 0 (mi, k, ls, st, σ) (mi, pc + 3, ls, st, σ)) := by
  intro hC hT hCon hK hRt hF lsM H locs hR
  have hR' := pd_pops (st' := st) hR (fun v h => List.mem_cons_of_mem _ h)
  exact lv_if_ge hC.1 hC.2.1 hdg ht (fun h9 => hK _ rfl (by have h8 := hF; unfold pd_br pd_cc at h8; rw [decide_eq_true h9] at h8; exact h8) lsM H locs hR') (fun h9 => hK _ rfl (by have h8 := hF; unfold pd_br pd_cc at h8; rw [decide_eq_false h9] at h8; exact h8) lsM H locs hR')
theorem pd_s_icmp_ge {off : Int} {k : Nat} {x y : Int32} (hdg : decode (pd_b mi) pc = .ok (.if_icmp .ge off, 3)) (ht : (pc : Int) + off = (k : Int)) : pd_Goal p l e R s m args below meth c cells slots Q ad D cA xs A b L mi H0 n r (mi, pc, ls, pd_i y :: pd_i x :: st, σ) (pd_br .ge x y (mi, k, ls, st, σ) (mi, pc + 3, ls, st, σ)) := by
  intro hC hT hCon hK hRt hF lsM H locs hR
  have hR' := pd_pops (st' := st) hR (fun v h => List.mem_cons_of_mem _ (List.mem_cons_of_mem _ h))
  exact lv_icmp_ge hC.1 hC.2.1 hdg ht (fun h9 => hK _ rfl (by have h8 := hF; unfold pd_br pd_cc at h8; rw [decide_eq_true h9] at h8; exact h8) lsM H locs hR') (fun h9 => hK _ rfl (by have h8 := hF; unfold pd_br pd_cc at h8; rw [decide_eq_false h9] at h8; exact h8) lsM H locs hR')
theorem pd_s_if_gt {off : Int} {k : Nat} {x : Int32} (hdg : decode (pd_b mi) pc = .ok (.ifCond .gt off, 3)) (ht : (pc : Int) + off = (k : Int)) : pd_Goal p l e R s m args below meth c cells slots Q ad D cA xs A b L mi H0 n r (mi, pc, ls, pd_i x :: st, σ) (pd_br .gt x 0 (mi, k, ls, st, σ) (mi, pc + 3, ls, st, σ)) := by
  intro hC hT hCon hK hRt hF lsM H locs hR
  have hR' := pd_pops (st' := st) hR (fun v h => List.mem_cons_of_mem _ h)
  exact lv_if_gt hC.1 hC.2.1 hdg ht (fun h9 => hK _ rfl (by have h8 := hF; unfold pd_br pd_cc at h8; rw [decide_eq_true h9] at h8; exact h8) lsM H locs hR') (fun h9 => hK _ rfl (by have h8 := hF; unfold pd_br pd_cc at h8; rw [decide_eq_false h9] at h8; exact h8) lsM H locs hR')
theorem pd_s_icmp_gt {off : Int} {k : Nat} {x y : Int32} (hdg : decode (pd_b mi) pc = .ok (.if_icmp .gt off, 3)) (ht : (pc : Int) + off = (k : Int)) : pd_Goal p l e R s m args below meth c cells slots Q ad D cA xs A b L mi H0 n r (mi, pc, ls, pd_i y :: pd_i x :: st, σ) (pd_br .gt x y (mi, k, ls, st, σ) (mi, pc + 3, ls, st, σ)) := by
  intro hC hT hCon hK hRt hF lsM H locs hR
  have hR' := pd_pops (st' := st) hR (fun v h => List.mem_cons_of_mem _ (List.mem_cons_of_mem _ h))
  exact lv_icmp_gt hC.1 hC.2.1 hdg ht (fun h9 => hK _ rfl (by have h8 := hF; unfold pd_br pd_cc at h8; rw [decide_eq_true h9] at h8; exact h8) lsM H locs hR') (fun h9 => hK _ rfl (by have h8 := hF; unfold pd_br pd_cc at h8; rw [decide_eq_false h9] at h8; exact h8) lsM H locs hR')
theorem pd_s_if_le {off : Int} {k : Nat} {x : Int32} (hdg : decode (pd_b mi) pc = .ok (.ifCond .le off, 3)) (ht : (pc : Int) + off = (k : Int)) : pd_Goal p l e R s m args below meth c cells slots Q ad D cA xs A b L mi H0 n r (mi, pc, ls, pd_i x :: st, σ) (pd_br .le x 0 (mi, k, ls, st, σ) (mi, pc + 3, ls, st, σ)) := by
  intro hC hT hCon hK hRt hF lsM H locs hR
  have hR' := pd_pops (st' := st) hR (fun v h => List.mem_cons_of_mem _ h)
  exact lv_if_le hC.1 hC.2.1 hdg ht (fun h9 => hK _ rfl (by have h8 := hF; unfold pd_br pd_cc at h8; rw [decide_eq_true h9] at h8; exact h8) lsM H locs hR') (fun h9 => hK _ rfl (by have h8 := hF; unfold pd_br pd_cc at h8; rw [decide_eq_false h9] at h8; exact h8) lsM H locs hR')
theorem pd_s_icmp_le {off : Int} {k : Nat} {x y : Int32} (hdg : decode (pd_b mi) pc = .ok (.if_icmp .le off, 3)) (ht : (pc : Int) + off = (k : Int)) : pd_Goal p l e R s m args below meth c cells slots Q ad D cA xs A b L mi H0 n r (mi, pc, ls, pd_i y :: pd_i x :: st, σ) (pd_br .le x y (mi, k, ls, st, σ) (mi, pc + 3, ls, st, σ)) := by
  intro hC hT hCon hK hRt hF lsM H locs hR
  have hR' := pd_pops (st' := st) hR (fun v h => List.mem_cons_of_mem _ (List.mem_cons_of_mem _ h))
  exact lv_icmp_le hC.1 hC.2.1 hdg ht (fun h9 => hK _ rfl (by have h8 := hF; unfold pd_br pd_cc at h8; rw [decide_eq_true h9] at h8; exact h8) lsM H locs hR') (fun h9 => hK _ rfl (by have h8 := hF; unfold pd_br pd_cc at h8; rw [decide_eq_false h9] at h8; exact h8) lsM H locs hR')
theorem pd_s_goto {off : Int} {k : Nat} (hdg : decode (pd_b mi) pc = .ok (.goto off, 3)) (ht : (pc : Int) + off = (k : Int)) : pd_Goal p l e R s m args below meth c cells slots Q ad D cA xs A b L mi H0 n r (mi, pc, ls, st, σ) (pd_go (mi, k, ls, st, σ)) := by
  intro hC hT hCon hK hRt hF lsM H locs hR
  exact lv_goto hC.1 hC.2.1 hdg ht (hK _ rfl hF lsM H locs hR)
end PDW
