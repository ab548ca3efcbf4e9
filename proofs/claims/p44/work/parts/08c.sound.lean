section PDW
variable {p : Program} {l : Launch} {e : Env} {R : Room} {s : State} {m : MethodId} {args : Array Value} {below : List Frame} {meth : Method} {c : Code} {cells slots : Nat} {Q : State → Prop}
variable {ad : Nat → Nat} {D : va_G} {cA : Nat → ClassId} {xs : Nat → Int32} {A : Nat → Prop} {b L mi : Nat} {H0 : Heap}
variable {n : Nat} {r : pd_R} {pc : Nat} {ls : pd_L} {st : List pd_V} {σ : pd_H}
theorem pd_fs_in {a : Nat} (hT : pd_TF) {c0 : Nat} (h : (pd_fs c0 a).1 < 10) : Jvm.Cond.fieldLink (pd_cn c0) a (pd_cn (pd_fs c0 a).1) ((vwCl.getD (pd_fs c0 a).1 (RL, TX0, 0)).2.1 (pd_fs c0 a).2).2.1 ((vwCl.getD (pd_fs c0 a).1 (RL, TX0, 0)).2.1 (pd_fs c0 a).2).2.2.1 ∈ pd_W := by
  unfold pd_fs at h ⊢
  cases hf : pd_FL.find? (fun e => Nat.beq e.1 c0 && Nat.beq e.2.1 a) with
  | none => rw [hf] at h; exact absurd h (by decide)
  | some e =>
    have h1 := List.find?_some hf
    have h2 := List.mem_of_find?_eq_some hf
    simp only [Bool.and_eq_true] at h1
    have q1 := Nat.eq_of_beq_eq_true h1.1
    have q2 := Nat.eq_of_beq_eq_true h1.2
    have := hT.2.2.1 e h2
    rw [q1, q2] at this
    exact this
theorem pd_obj {t o : Nat} (h : pd_okv (pd_r t o)) (ht : t < 10) : o < 922 ∧ pd_el ad cA σ o (p4_tag o) = .inr (t, pd_fds ad σ o t) ∧ p4_tag o = t := by
  have e : p4_tag o = t := h.1
  exact ⟨pd_tag_lt (by omega), by rw [e]; exact pd_el_obj ad cA σ o ht, e⟩
theorem pd_ble {a b : Nat} (h : Nat.ble (a + 1) b = true) : a < b := Nat.le_of_ble_eq_true h
theorem pd_getf {a x s0 : Nat} {o : Nat} {v : pd_V} (hC : pd_Cx p R s m args c cells slots ad xs A b L mi H0) (hT : pd_TF) (hdg : decode (pd_b mi) pc = .ok (.getfield a, 3)) (hx : (pd_fs (pd_oc mi) a).1 = x) (hx11 : x < 10) (hs : (pd_fs (pd_oc mi) a).2 = s0) (hs0 : s0 < pd_nf x)
    {lsM : Array Slot} {H : Heap} {locs : List Loc} {ts : List pd_V} (hR : pd_Rl s ad D cA xs A L mi H0 ls (pd_r x o :: ts) σ lsM H locs) (hv : pd_fval ad σ o (pd_fkd x s0) = pd_cv ad v)
    (kk : W p l e R s m args below meth c H locs cells slots Q (F0 m (pc + 3) lsM ((v :: ts).map (pd_cv ad)))) : W p l e R s m args below meth c H locs cells slots Q (F0 m pc lsM ((pd_r x o :: ts).map (pd_cv ad))) := by
  obtain ⟨h1, h2, h3⟩ := pd_obj (ad := ad) (cA := cA) (σ := σ) (hR.2.2.1 _ List.mem_cons_self) hx11
  have hW := hR.2.2.2.1
  have hl := pd_fs_in (a := a) hT (c0 := pd_oc mi) (by rw [hx]; exact hx11)
  rw [hx, hs] at hl
  have he := pd_ws_at ad cA σ h1
  rw [h2] at he
  refine va_get (Ts := pd_W) (C := pd_cn x) (T := (vwCl.getD x (RL, TX0, 0)).2.1) (N := pd_nf x) (ref := pd_cn x) (ci := x) hC.1 hC.2.1 hC.2.2.2.2.1 (hT.2.2.2.2.2.2 x hx11) hC.2.2.2.1 hW.2.1 hW.1 o he (pd_cls_at hx11) s0 hs0 (hC.2.2.2.2.1 _ hl) (fun w hw => by rw [pd_cn_own x hx11 s0 hs0] at hw; exact hw) (pd_fds_at ad σ o hs0) hdg ?_
  rw [hv]
  exact kk
theorem pd_putf {a x s0 : Nat} {o : Nat} {v : pd_V} {ty : FieldType} {σ' : pd_H} (hC : pd_Cx p R s m args c cells slots ad xs A b L mi H0) (hT : pd_TF) (hdg : decode (pd_b mi) pc = .ok (.putfield a, 3)) (hx : (pd_fs (pd_oc mi) a).1 = x) (hx11 : x < 10) (hs : (pd_fs (pd_oc mi) a).2 = s0) (hs0 : s0 < pd_nf x)
    (hfin : ((vwCl.getD x (RL, TX0, 0)).2.1 s0).2.2.2 = false) (hty : pd_ty x s0 = some ty) (hn : narrow ty (pd_cv ad v) = pd_cv ad v) (hfit : fits ty (pd_cv ad v) = true)
    {lsM : Array Slot} {H : Heap} {locs : List Loc} {ts : List pd_V} (hR : pd_Rl s ad D cA xs A L mi H0 ls (v :: pd_r x o :: ts) σ lsM H locs)
    (hset : (pd_fds ad σ o x).set s0 (pd_cv ad v) = pd_fds ad σ' o x) (hoth : ∀ j, j < 922 → j ≠ o → pd_el ad cA σ' j (p4_tag j) = pd_el ad cA σ j (p4_tag j)) (hdy : p4_dy σ') (hsc : σ'.1 922 = σ.1 922 ∧ σ'.1 923 0 = σ.1 923 0)
    (kk : ∀ (H1 : Heap) (locs1 : List Loc), pd_Rl s ad D cA xs A L mi H0 ls ts σ' lsM H1 locs1 → W p l e R s m args below meth c H1 locs1 cells slots Q (F0 m (pc + 3) lsM (ts.map (pd_cv ad)))) : W p l e R s m args below meth c H locs cells slots Q (F0 m pc lsM ((v :: pd_r x o :: ts).map (pd_cv ad))) := by
  obtain ⟨h1, h2, h3⟩ := pd_obj (ad := ad) (cA := cA) (σ := σ) (hR.2.2.1 _ (List.mem_cons_of_mem _ List.mem_cons_self)) hx11
  have hW := hR.2.2.2.1
  have hE : pd_E ad A b L := hC.2.2.2.2.2.2.2.2.2.1
  have hl := pd_fs_in (a := a) hT (c0 := pd_oc mi) (by rw [hx]; exact hx11)
  rw [hx, hs] at hl
  have he := pd_ws_at ad cA σ h1
  rw [h2] at he
  refine va_put (Ts := pd_W) (C := pd_cn x) (T := (vwCl.getD x (RL, TX0, 0)).2.1) (N := pd_nf x) (ref := pd_cn x) (ci := x) hC.1 hC.2.1 hC.2.2.2.2.1 (hT.2.2.2.2.2.2 x hx11) (pd_tyk x) (pd_tyk_ok hx11) (pd_nmk_ok hx11) hC.2.2.2.1 hW.2.1 hW.1 (hE.D cA σ) hR.2.2.2.2 o he (pd_cls_at hx11) s0 hs0 (hC.2.2.2.2.1 _ hl) (fun w hw => by rw [pd_cn_own x hx11 s0 hs0] at hw; exact hw) hfin (ty := ty) hty hn hfit (by rw [pd_fds_len]; exact hs0) hdg (fun H1 locs1 hP1 hD1 hS1 => ?_)
  rw [hset, pd_ws_set (σ' := σ') h1 (by rw [h3]; exact (pd_el_obj ad cA σ' o hx11).symm) hoth] at hP1
  exact kk H1 locs1 ⟨hR.1, hR.2.1, fun w hw => hR.2.2.1 w (List.mem_cons_of_mem _ (List.mem_cons_of_mem _ hw)), ⟨hP1, hW.2.1, hdy, by rw [hsc.1]; exact hW.2.2.2.1, by rw [hsc.2]; exact hW.2.2.2.2⟩, hS1⟩
theorem pd_nb {v : Int32} (h : v = 0 ∨ v = 1) : narrow .boolean (.int v) = .int v ∧ fits .boolean (.int v) = true := by
  rcases h with rfl | rfl <;> exact ⟨rfl, rfl⟩
theorem pd_fval_upI {k i : Nat} {x : Int32} {o : Nat} {q : Nat × Nat × Nat} (h : ¬ (o = k ∧ q.1 = 0 ∧ q.2.1 = i)) : pd_fval ad (pd_upI σ k i x) o q = pd_fval ad σ o q := by
  obtain ⟨q0, q1, q2⟩ := q
  rcases q0 with _ | _ | _ | _ | q0
  · show Value.int ((if o = k then upd (σ.1 k) i x else σ.1 o) q1) = Value.int (σ.1 o q1)
    by_cases h1 : o = k
    · subst h1
      rw [if_pos rfl]
      show Value.int (if q1 = i then x else _) = _
      rw [if_neg (fun z => h ⟨rfl, rfl, z⟩)]
    · rw [if_neg h1]
  · rfl
  · rfl
  · rfl
  · rfl
theorem pd_fval_upJ {k i : Nat} {x : Int64} {o : Nat} {q : Nat × Nat × Nat} (h : ¬ (o = k ∧ q.1 = 1 ∧ q.2.1 = i)) : pd_fval ad (pd_upJ σ k i x) o q = pd_fval ad σ o q := by
  obtain ⟨q0, q1, q2⟩ := q
  rcases q0 with _ | _ | _ | _ | q0
  · rfl
  · show Value.long ((if o = k then vp_updL (σ.2.1 k) i x else σ.2.1 o) q1) = Value.long (σ.2.1 o q1)
    by_cases h1 : o = k
    · subst h1
      rw [if_pos rfl]
      show Value.long (if q1 = i then x else _) = _
      rw [if_neg (fun z => h ⟨rfl, rfl, z⟩)]
    · rw [if_neg h1]
  · rfl
  · rfl
  · rfl
theorem pd_ob_in {i : Int32} {N : Nat} (h : pd_ob i N = false) : vp_in i N := of_decide_eq_false h
theorem pd_arr {t o : Nat} (h : pd_okv (pd_r t o)) (ht : t < 25) : o < 922 ∧ p4_tag o = t := ⟨pd_tag_lt (by have e : p4_tag o = t := h.1; omega), h.1⟩
/-- behind a store into an array -/
theorem pd_stored {o : Nat} {t : Nat} {σ' : pd_H} {e2 : va_E} {lsM : Array Slot} {H H1 : Heap} {locs locs1 : List Loc} {ts st0 : List pd_V} (hR : pd_Rl s ad D cA xs A L mi H0 ls st0 σ lsM H locs) (hts : ∀ v ∈ ts, v ∈ st0) (ho : o < 922) (ht : p4_tag o = t) (he : e2 = pd_el ad cA σ' o t) (hoth : ∀ j, j < 922 → j ≠ o → pd_el ad cA σ' j (p4_tag j) = pd_el ad cA σ j (p4_tag j)) (hdy : σ'.2.2 = σ.2.2) (hsc : σ'.1 922 = σ.1 922 ∧ σ'.1 923 0 = σ.1 923 0)
    (hP1 : va_P D vwCl ((pd_ws ad cA σ).set o (ad o, e2)) H1) (hS1 : va_S A H0 H1 locs1) : pd_Rl s ad D cA xs A L mi H0 ls ts σ' lsM H1 locs1 := by
  have hW := hR.2.2.2.1
  rw [pd_ws_set (σ' := σ') ho (by rw [he, ht]) hoth] at hP1
  exact ⟨hR.1, hR.2.1, fun w hw => hR.2.2.1 w (hts w hw), ⟨hP1, hW.2.1, by unfold p4_dy; rw [hdy]; exact hW.2.2.1, by rw [hsc.1]; exact hW.2.2.2.1, by rw [hsc.2]; exact hW.2.2.2.2⟩, hS1⟩
theorem pd_sc_upI {k i : Nat} {x : Int32} (h : k < 922) : (pd_upI σ k i x).1 922 = σ.1 922 ∧ (pd_upI σ k i x).1 923 0 = σ.1 923 0 := by
  have e1 : (pd_upI σ k i x).1 922 = σ.1 922 := if_neg (by omega)
  have e2 : (pd_upI σ k i x).1 923 = σ.1 923 := if_neg (by omega)
  exact ⟨e1, by rw [e2]⟩
theorem pd_s_getfield {a x k y z : Nat} (hdg : decode (pd_b mi) pc = .ok (.getfield a, 3)) (hx : (pd_fs (pd_oc mi) a).1 = x) (hx11 : x < 10) (hs0 : (pd_fs (pd_oc mi) a).2 < pd_nf x) (hk : pd_fkd x (pd_fs (pd_oc mi) a).2 = (k, y, z)) : pd_Goal p l e R s m args below meth c cells slots Q ad D cA xs A b L mi H0 n r (mi, pc, ls, st, σ) (p4_gf mi (pc + 3) ls st σ k x y z) := by
  intro hC hT hCon hK hRt hF lsM H locs hR
  unfold p4_gf at hF
  split at hF
  · next t o ts =>
    cases h1 : Nat.beq t x with
    | false => rw [h1] at hF; cases hF
    | true =>
      rw [h1, cond_true] at hF
      have := Nat.eq_of_beq_eq_true h1
      subst this
      have hmx := pd_fk_max t hx11 _ hs0
      have hw := hR.2.2.2.1
      obtain ⟨g1, -, g3⟩ := pd_obj (ad := ad) (cA := cA) (σ := σ) (hR.2.2.1 _ List.mem_cons_self) hx11
      rw [hk] at hmx
      match k, hk, hmx, hF with
      | 0, hk, _, hF => exact pd_getf (v := pd_i (σ.1 o y)) hC hT hdg hx hx11 rfl hs0 hR (by rw [hk]; rfl) (hK _ rfl hF lsM H locs (pd_push (pd_pops hR (fun v h => List.mem_cons_of_mem _ h)) trivial))
      | 1, hk, _, hF => exact pd_getf (v := pd_j (σ.2.1 o y)) hC hT hdg hx hx11 rfl hs0 hR (by rw [hk]; rfl) (hK _ rfl hF lsM H locs (pd_push (pd_pops hR (fun v h => List.mem_cons_of_mem _ h)) trivial))
      | 2, hk, _, hF =>
        have h5 := pd_fk_rel o g1 _ (by rw [g3]; exact hs0) (by rw [g3]; exact hx11)
        rw [g3, hk] at h5
        have h6 := h5 rfl
        exact pd_getf (v := pd_r z (o + y)) hC hT hdg hx hx11 rfl hs0 hR (by rw [hk]; rfl) (hK _ rfl hF lsM H locs (pd_push (pd_pops hR (fun v h => List.mem_cons_of_mem _ h)) ⟨h6.1, Nat.lt_trans h6.2 (by decide)⟩))
      | 3, hk, _, hF =>
        have h5 := pd_fk_abs (p4_tag_20 (k := o) (by omega)) t hx11 _ hs0
        rw [hk] at h5
        have h6 := h5 rfl
        exact pd_getf (v := pd_r z (p4_bs o + y)) hC hT hdg hx hx11 rfl hs0 hR (by rw [hk]; rfl) (hK _ rfl hF lsM H locs (pd_push (pd_pops hR (fun v h => List.mem_cons_of_mem _ h)) ⟨h6.1, Nat.lt_trans h6.2 (by decide)⟩))
      | 4, hk, hmx, hF =>
        have h6 := hmx.2 rfl
        have h7 : p4_tag (σ.2.2 (p4_bs o + y)) = z := by
          have h8 : z = 2 := h6.2
          have h9 : y < 2 := h6.1
          rw [h8]
          exact hw.2.2.1 o (p4_tag_20 (by omega)) y h9
        exact pd_getf (v := pd_r z (σ.2.2 (p4_bs o + y))) hC hT hdg hx hx11 rfl hs0 hR (by rw [hk]; rfl) (hK _ rfl hF lsM H locs (pd_push (pd_pops hR (fun v h => List.mem_cons_of_mem _ h)) ⟨h7, by have h8 : z = 2 := h6.2; omega⟩))
      | k + 5, _, hmx, _ => exact absurd hmx.1 (by show ¬ k + 5 ≤ 4; omega)
  · cases hF
theorem pd_s_putfield {a x k y z : Nat} (hdg : decode (pd_b mi) pc = .ok (.putfield a, 3)) (hx : (pd_fs (pd_oc mi) a).1 = x) (hx11 : x < 10) (hs0 : (pd_fs (pd_oc mi) a).2 < pd_nf x) (hk : pd_fkd x (pd_fs (pd_oc mi) a).2 = (cond (Nat.beq k 5) 0 k, y, z)) (hfin : ((vwCl.getD x (RL, TX0, 0)).2.1 (pd_fs (pd_oc mi) a).2).2.2.2 = false)
    (hty : pd_ty x (pd_fs (pd_oc mi) a).2 = pd_pty k) (h4 : k = 4 → y ≤ 1 ∧ z = 2) : pd_Goal p l e R s m args below meth c cells slots Q ad D cA xs A b L mi H0 n r (mi, pc, ls, st, σ) (p4_pf mi (pc + 3) ls st σ k x y z) := by
  intro hC hT hCon hK hRt hF lsM H locs hR
  unfold p4_pf at hF
  split at hF
  · next v t o ts =>
    cases h1 : Nat.beq t x with
    | false => rw [h1] at hF; cases hF
    | true =>
      rw [h1, cond_true] at hF
      have := Nat.eq_of_beq_eq_true h1
      subst this
      obtain ⟨g1, -, g3⟩ := pd_obj (ad := ad) (cA := cA) (σ := σ) (hR.2.2.1 _ (List.mem_cons_of_mem _ List.mem_cons_self)) hx11
      have own := pd_fk_own t hx11 _ hs0
      split at hF
      · rw [hk] at own
        have e := own (Nat.zero_le 1)
        refine pd_putf (v := pd_i v) (σ' := pd_upI σ o y v) hC hT hdg hx hx11 rfl hs0 hfin hty rfl rfl hR (pd_fds_set hs0 ?_ ?_) (fun j _ hj => pd_el_upI ad cA σ _ hj) hR.2.2.2.1.2.2.1 (pd_sc_upI g1) (fun H1 locs1 hR1 => hK _ rfl hF lsM H1 locs1 hR1)
        · rw [hk]
          show Value.int v = Value.int ((if o = o then upd (σ.1 o) y v else σ.1 o) y)
          rw [if_pos rfl]
          show _ = Value.int (if y = y then v else _)
          rw [if_pos rfl]
        · intro s' hs' hne
          refine pd_fval_upI (fun q => hne ?_)
          have e2 := pd_fk_own t hx11 s' hs' (by rw [q.2.1]; exact Nat.zero_le 1)
          rw [← e2, q.2.2]; exact e
      · rw [hk] at own
        have e := own (Nat.zero_le 1)
        by_cases hv : v = 0 ∨ v = 1
        · rw [decide_eq_true hv] at hF
          obtain ⟨n1, n2⟩ := pd_nb hv
          refine pd_putf (v := pd_i v) (σ' := pd_upI σ o y v) hC hT hdg hx hx11 rfl hs0 hfin hty n1 n2 hR (pd_fds_set hs0 ?_ ?_) (fun j _ hj => pd_el_upI ad cA σ _ hj) hR.2.2.2.1.2.2.1 (pd_sc_upI g1) (fun H1 locs1 hR1 => hK _ rfl hF lsM H1 locs1 hR1)
          · rw [hk]
            show Value.int v = Value.int ((if o = o then upd (σ.1 o) y v else σ.1 o) y)
            rw [if_pos rfl]
            show _ = Value.int (if y = y then v else _)
            rw [if_pos rfl]
          · intro s' hs' hne
            refine pd_fval_upI (fun q => hne ?_)
            have e2 := pd_fk_own t hx11 s' hs' (by rw [q.2.1]; exact Nat.zero_le 1)
            rw [← e2, q.2.2]; exact e
        · rw [decide_eq_false hv] at hF
          cases hF
      · cases hF
  · next v t o ts =>
    cases h1 : Nat.beq t x with
    | false => rw [h1] at hF; cases hF
    | true =>
      rw [h1, cond_true] at hF
      have := Nat.eq_of_beq_eq_true h1
      subst this
      obtain ⟨g1, -, g3⟩ := pd_obj (ad := ad) (cA := cA) (σ := σ) (hR.2.2.1 _ (List.mem_cons_of_mem _ List.mem_cons_self)) hx11
      have own := pd_fk_own t hx11 _ hs0
      split at hF
      · rw [hk] at own
        have e := own (Nat.le_refl 1)
        refine pd_putf (v := pd_j v) (σ' := pd_upJ σ o y v) hC hT hdg hx hx11 rfl hs0 hfin hty rfl rfl hR (pd_fds_set hs0 ?_ ?_) (fun j _ hj => pd_el_upJ ad cA σ _ hj) hR.2.2.2.1.2.2.1 ⟨rfl, rfl⟩ (fun H1 locs1 hR1 => hK _ rfl hF lsM H1 locs1 hR1)
        · rw [hk]
          show Value.long v = Value.long ((if o = o then vp_updL (σ.2.1 o) y v else σ.2.1 o) y)
          rw [if_pos rfl]
          show _ = Value.long (if y = y then v else _)
          rw [if_pos rfl]
        · intro s' hs' hne
          refine pd_fval_upJ (fun q => hne ?_)
          have e2 := pd_fk_own t hx11 s' hs' (by rw [q.2.1]; exact Nat.le_refl 1)
          rw [← e2, q.2.2]; exact e
      · cases hF
  · next t2 o2 t o ts =>
    cases h1 : Nat.beq t x with
    | false => rw [h1] at hF; cases hF
    | true =>
      rw [h1, cond_true] at hF
      have := Nat.eq_of_beq_eq_true h1
      subst this
      cases h2 : Nat.beq t2 z with
      | false => rw [h2] at hF; cases hF
      | true =>
        rw [h2, cond_true] at hF
        have := Nat.eq_of_beq_eq_true h2
        subst this
        obtain ⟨g1, -, g3⟩ := pd_obj (ad := ad) (cA := cA) (σ := σ) (hR.2.2.1 _ (List.mem_cons_of_mem _ List.mem_cons_self)) hx11
        split at hF
        · obtain ⟨hy, hz⟩ := h4 rfl
          have hk : pd_fkd t (pd_fs (pd_oc mi) a).2 = (4, y, t2) := hk
          have h9 : t = 9 := by
            rcases pd_fk_dyn t hx11 _ hs0 with q | q
            · rw [hk] at q; exact absurd q (by show ¬ 4 ≤ 3; omega)
            · exact q
          subst h9
          have h0 := pd_tag9 o g1 g3
          have ok2 := (hR.2.2.1 _ List.mem_cons_self).1
          have hu : ∀ i, (pd_upR σ (p4_bs o + y) o2).2.2 i = if i = p4_bs o + y then o2 else σ.2.2 i := fun i => rfl
          refine pd_putf (v := pd_r t2 o2) (σ' := pd_upR σ (p4_bs o + y) o2) hC hT hdg hx hx11 rfl hs0 hfin hty rfl rfl hR (pd_fds_set hs0 ?_ ?_) (fun j hj hne => ?_) ?_ ⟨rfl, rfl⟩ (fun H1 locs1 hR1 => hK _ rfl hF lsM H1 locs1 hR1)
          · rw [hk]
            show Value.ref (ad o2) = Value.ref (ad ((pd_upR σ (p4_bs o + y) o2).2.2 (p4_bs o + y)))
            rw [hu, if_pos rfl]
          · intro s' hs' hne
            have d := pd_fk_dyn9 _ hs0 (by rw [hk]) s' hs'
            have mx := (pd_fk_max 9 hx11 s' hs').1
            rw [hk] at d
            generalize pd_fkd 9 s' = q at d mx ⊢
            obtain ⟨q0, q1, q2⟩ := q
            rcases q0 with _ | _ | _ | _ | q0
            · rfl
            · rfl
            · rfl
            · rfl
            · have mx : q0 + 4 ≤ 4 := mx
              show Value.ref (ad (if p4_bs o + q1 = p4_bs o + y then o2 else σ.2.2 (p4_bs o + q1))) = _
              rw [if_neg (fun z => hne (d (show q0 + 4 = 4 by omega) (show q1 = y by omega)))]
              rfl
          · rcases pd_tags j hj with q | q
            · rw [pd_el_obj ad cA _ j q, pd_el_obj ad cA _ j q]
              have : pd_fds ad (pd_upR σ (p4_bs o + y) o2) j (p4_tag j) = pd_fds ad σ j (p4_tag j) := by
                unfold pd_fds
                refine List.map_congr_left (fun s' hs' => ?_)
                have hs' := List.mem_range.mp hs'
                have d := pd_fk_dyn _ q s' hs'
                have mx := pd_fk_max _ q s' hs'
                have d9 : p4_tag j = 9 → p4_bs j = j := fun z => (pd_tag9 j hj z).2
                generalize pd_fkd (p4_tag j) s' = w at d mx ⊢
                obtain ⟨q0, q1, q2⟩ := w
                rcases q0 with _ | _ | _ | _ | q0
                · rfl
                · rfl
                · rfl
                · rfl
                · have z : p4_tag j = 9 := d.resolve_left (by show ¬ q0 + 4 ≤ 3; omega)
                  have e1 := d9 z
                  have e2 := h0.2
                  have m1 : q1 < 2 := (mx.2 (by have : q0 + 4 ≤ 4 := mx.1; show q0 + 4 = 4; omega)).1
                  show Value.ref (ad (if p4_bs j + q1 = p4_bs o + y then o2 else σ.2.2 (p4_bs j + q1))) = _
                  rw [if_neg (fun w => hne ?_)]
                  · rfl
                  · unfold p4_bs at e1 e2 w
                    omega
              rw [this]
            · generalize p4_tag j = t at q
              rcases (show t = 20 ∨ t = 21 ∨ t = 22 ∨ t = 23 ∨ t = 24 by omega) with rfl | rfl | rfl | rfl | rfl <;> rfl
          · have w1 := hR.2.2.2.1.2.2.1
            have ok2 : p4_tag o2 = 2 := by rw [ok2]; exact hz
            intro k' hk' y' hy'
            rw [hu]
            by_cases z : p4_bs k' + y' = p4_bs o + y
            · rw [if_pos z]; exact ok2
            · rw [if_neg z]; exact w1 k' hk' y' hy'
        · cases hF
  · cases hF
end PDW
