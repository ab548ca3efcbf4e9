section PDW
variable {p : Program} {l : Launch} {e : Env} {R : Room} {s : State} {m : MethodId} {args : Array Value} {below : List Frame} {meth : Method} {c : Code} {cells slots : Nat} {Q : State → Prop}
variable {ad : Nat → Nat} {D : va_G} {cA : Nat → ClassId} {xs : Nat → Int32} {A : Nat → Prop} {b L mi : Nat} {H0 : Heap}
variable {n : Nat} {r : pd_R} {pc : Nat} {ls : pd_L} {st : List pd_V} {σ : pd_H}
theorem pd_cats_app (a b : List pd_V) : pd_cats (a ++ b) = pd_cats a + pd_cats b := by
  induction a with
  | nil => simp [pd_cats]
  | cons v r ih => simp only [List.cons_append, pd_cats, ih]; omega
theorem pd_cats_rev (a : List pd_V) : pd_cats a.reverse = pd_cats a := by
  induction a with
  | nil => rfl
  | cons v r ih => rw [List.reverse_cons, pd_cats_app, ih]; simp only [pd_cats]; omega
theorem pd_cl_out {h : pd_C → Option pd_R} {r0 : pd_R} {z t : Nat} {ts : List pd_V} (H : pd_cl h (some r0) z t (mi, pc, ls, ts, σ) = some r) : h (mi, pc, ls, r0.2.toList ++ ts, r0.1) = some r := by
  unfold pd_cl at H
  dsimp only at H
  split at H
  · obtain ⟨σ', e, k⟩ := pd_bV_some H
    cases e; exact k
  · obtain ⟨σ', x, e, k⟩ := pd_bI_some H
    cases e; exact k
  · obtain ⟨σ', x, e, k⟩ := pd_bJ_some H
    cases e; exact k
  · obtain ⟨σ', x, e, k⟩ := pd_bR_some H
    cases e; exact k
theorem pd_cl_none {h : pd_C → Option pd_R} {z t : Nat} {cf : pd_C} : pd_cl h none z t cf = none := by
  obtain ⟨m, pc, ls, st, σ⟩ := cf
  unfold pd_cl
  dsimp only
  split <;> rfl
theorem pd_back {lsM : Array Slot} {H : Heap} {locs : List Loc} {st0 : List Value} {ts : List pd_V} {r0 : pd_R} {a : Array Value}
    (hR : pd_Rl s ad D cA xs A L mi H0 ls ts σ lsM H locs)
    (hr : va_Run p l e R s m args below meth c H locs cells slots 0 0 (F0 m pc lsM st0) (ts.map (pd_cv ad)) (pd_Qc ad D cA xs A L r0 a) A)
    (k : pd_K p l e R s m args below meth c cells slots Q ad D cA xs A L mi H0 (mi, pc + 3, ls, r0.2.toList ++ ts, r0.1)) : W p l e R s m args below meth c H locs cells slots Q (F0 m pc lsM st0) := by
  intro T hT X
  obtain ⟨v, st₀, t, T', Lc, h0, X', hL, e1, e2, ⟨hq1, hq2, hq3, hq4⟩, st1⟩ := hr T hT X
  have hv : v = r0.2.map (pd_cv ad) := by
    injection hq1
  subst hv
  obtain ⟨hz, hk⟩ := hq4
  rw [h0] at hz hk
  have hvm : t.vm.Alike s.vm := by rw [← e2]; exact X'.warmed.alike.symm
  have hS := hR.2.2.2.2
  have hA1 : va_S A H0 T'.heap (locs ++ Lc) := ⟨Nat.le_trans hS.1 (by rw [e1]; exact hz), fun q h1 h2 => by rw [e1, hk q (Nat.lt_of_lt_of_le h1 hS.1) h2]; exact hS.2.1 q h1 h2, fun q hq => by
      rcases List.mem_append.mp hq with h | h
      · exact hS.2.2 q h
      · exact hL q h⟩
  have hok : ∀ w ∈ r0.2.toList ++ ts, pd_okv w := fun w hw => by
    rcases List.mem_append.mp hw with h | h
    · exact hq2 w (Option.mem_toList.mp h)
    · exact hR.2.2.1 w h
  obtain ⟨t2, a1, b1⟩ := k lsM T'.heap (locs ++ Lc) ⟨hR.1, hR.2.1, hok, by rw [e1]; exact pd_Wd.moved hvm hq3, hA1⟩ T' rfl X'
  refine ⟨t2, st1 t2 ?_, b1⟩
  have e3 : (r0.2.toList ++ ts).map (pd_cv ad) = (r0.2.map (pd_cv ad)).toList ++ ts.map (pd_cv ad) := by
    cases r0.2 <;> simp
  have a1 : Steps p.tables e below (T'.setTop (F0 m (pc + 3) lsM ((r0.2.toList ++ ts).map (pd_cv ad)))) t2 := a1
  rw [e3] at a1
  exact a1
theorem pd_pre {lsM : Array Slot} {H : Heap} {locs : List Loc} {ts av : List pd_V} (hC : pd_Cx p R s m args c cells slots ad xs A b L mi H0) (hR : pd_Rl s ad D cA xs A L mi H0 ls ts σ lsM H locs) (U : State) (hU : U.heap = H) (hW : s.WarmedH U.vm) : pd_Pc ad D cA xs b L av σ (av.map (pd_cv ad)).toArray U := by
  have hS := hR.2.2.2.2
  have hX := hC.2.2.2.2.2.2.2.2.2.2.1
  have hbl := hC.2.2.2.2.2.2.2.2.2.2.2.1
  have hbA := hC.2.2.2.2.2.2.2.2.2.1.2.2.2.1
  refine ⟨rfl, by rw [hU]; exact pd_Wd.moved hW.alike hR.2.2.2.1, ?_, ?_, pd_NW.warm hW hC.2.2.2.2.2.2.2.2.2.2.2.2.2⟩
  · rw [hU]
    exact va_X.moved hW.alike (hX.kept (hS.2.1 b hbl hbA))
  · rw [hU]
    exact Nat.lt_of_lt_of_le hbl hS.1
theorem pd_wd_good {k : Nat} (h : pd_CW k) : GoodIn pd_W (pd_wd k) := by
  have g : ∀ w ∈ pd_W, w ∈ pd_W ∧ ((w.onTables && w.keeps) = true ∨ ∃ ty, w = .arrayClass ty) := fun w hw => ⟨hw, good_of_word (List.mem_filter.mp hw).2⟩
  intro w hw
  rcases List.mem_cons.mp hw with rfl | hw
  · exact g _ h.1
  · exact g _ hw
theorem pd_len_of {k : Nat} (h : pd_CW k) : ∀ sig, parseMethodDescriptor (pd_y k).desc = some sig → pd_pn k = sig.parameters.length := by
  intro sig hs
  have h2 := h.2.2.2.2.2.2.2
  rw [hs] at h2
  exact (Option.some.inj h2).symm
theorem pd_s_static {a k x y z : Nat} (hdg : decode (pd_b mi) pc = .ok (.invokestatic a, 3)) (hk : k < 89) (hst : (pd_mt k).1 = 1) (hx : x = pd_pn k) (hy : y = pd_ml k) (hfr : pd_fr k + 1 ≤ pd_fr mi) (hlo : 8 + (pd_ml k + 11) + pd_lo k ≤ pd_lo mi)
    (hl : Jvm.Cond.methodLink (pd_cn (pd_oc mi)) a (pd_y k) ∈ pd_W ∨ ∃ e ∈ pd_CL, e.1 = pd_oc mi ∧ e.2.1 = a ∧ e.2.2.1 = k ∧ e.2.2.2.1 = 1) : pd_Goal p l e R s m args below meth c cells slots Q ad D cA xs A b L mi H0 n r (mi, pc, ls, st, σ) (pd_ca mi (pc + 3) ls st σ k x y z) := by
  intro hC hT hCon hK hRt hF lsM H locs hR
  have hR : pd_Rl s ad D cA xs A L mi H0 ls st σ lsM H locs := hR
  unfold pd_ca at hF
  cases b1 : Nat.ble x st.length with
  | false => rw [b1] at hF; cases hF
  | true =>
  rw [b1, cond_true] at hF
  cases b2 : Nat.ble (pd_cats (st.drop x)) 8 with
  | false => rw [b2] at hF; cases hF
  | true =>
  rw [b2, cond_true] at hF
  cases b3 : Nat.ble (pd_cats (st.take x)) y with
  | false => rw [b3] at hF; cases hF
  | true =>
  rw [b3, cond_true] at hF
  have hF : pd_cl (p4_ex pd_cd n) (p4_ex pd_cd n (k, 0, pd_en (st.take x).reverse y, [], σ)) (z % 8) (z / 8) (mi, pc + 3, ls, st.drop x, σ) = some r := hF
  cases hr0 : p4_ex pd_cd n (k, 0, pd_en (st.take x).reverse y, [], σ) with
  | none => rw [hr0, pd_cl_none] at hF; cases hF
  | some r0 =>
  rw [hr0] at hF
  have hF2 := pd_cl_out hF
  have W0 := hT.2.1 k hk
  have hts := hC.2.2.2.2.1
  have hcats : pd_cats (st.take x).reverse ≤ pd_ml k := by
    rw [← hy, pd_cats_rev]; exact Nat.le_of_ble_eq_true b3
  subst hy
  have hM := hCon k (st.take x).reverse σ r0 hk (fun v hv => hR.2.2.1 v (List.mem_of_mem_take (List.mem_reverse.mp hv))) hcats hr0
  have hR' := pd_pops (st' := st.drop x) hR (fun v h => List.mem_of_mem_drop h)
  have hsp : st.map (pd_cv ad) = ((st.take x).reverse.map (pd_cv ad)).reverse ++ (st.drop x).map (pd_cv ad) := by
    rw [← List.map_reverse, List.reverse_reverse, ← List.map_append, List.take_append_drop]
  have hn : ((st.take x).reverse.map (pd_cv ad)).length = pd_pn k := by
    rw [List.length_map, List.length_reverse, List.length_take, ← hx]
    exact Nat.min_eq_left (Nat.le_of_ble_eq_true b1)
  have hroom : 2 * (F0 m pc lsM (st.map (pd_cv ad))).monitorRoom + (((st.drop x).map (pd_cv ad)).map fun v => v.category).sum ≤ 8 := lv_room (by rw [pd_cat_sum]; exact Nat.le_of_ble_eq_true b2)
  have hfit : cells + 0 ≤ R.cells ∧ slots + 0 ≤ R.slots := ⟨hC.2.2.2.2.2.2.2.1, hC.2.2.2.2.2.2.2.2.1⟩
  have hRm : (pd_rm k).frames + 1 ≤ R.frames ∧ 8 + (pd_ml k + 11) + (pd_rm k).locals ≤ R.locals := ⟨Nat.le_trans hfr hC.2.2.2.2.2.1, Nat.le_trans hlo hC.2.2.2.2.2.2.1⟩
  have hstat : (Jvm.Cond.static (pd_y k)).before args s = true := hts _ (by have h9 := W0.2.1; rw [hst] at h9; exact h9)
  have hini : (Jvm.Cond.initialized (pd_y k).cls).before args s = true := hts _ W0.2.2.2.1
  have hpre : PreS s H (pd_Pc ad D cA xs b L (st.take x).reverse σ) ((st.take x).reverse.map (pd_cv ad)) := ⟨pd_Pc_blind, fun U hU hW => pd_pre hC hR' U hU hW⟩
  rcases hl with hl | hl
  · exact pd_back hR' (va_runS (Ts := pd_W) (nL := pd_ml mi) ⟨hC.1, hC.2.1, hC.2.2.1, hC.2.2.2.1, hts⟩ hM ⟨callB_of (pd_pn k) hts (pd_wd_good W0) rfl rfl rfl hini (hts _ hl) ⟨W0.2.2.2.2.2.2.1.1, W0.2.2.2.2.2.2.1.2, W0.2.2.2.2.2.2.2⟩ hRm, hstat⟩ hpre rfl hn hR.1.1 hsp hroom hdg hfit) (hK _ rfl hF2)
  · obtain ⟨e9, he9, q1, q2, q3, q4⟩ := hl
    have hlk := va_Nw.use (A := args) rfl (hC.2.2.2.2.2.2.2.2.2.2.2.2.2 e9 he9 q4)
    rw [q1, q2, q3] at hlk
    exact pd_back hR' (va_runSN (Ts := pd_W) (nL := pd_ml mi) (own := pd_cn (pd_oc mi)) (host := RX9) ⟨hC.1, hC.2.1, hC.2.2.1, hC.2.2.2.1, hts⟩ hM ⟨⟨⟨rfl, rfl, hRm.1, hRm.2, pay_in hts (pd_wd_good W0), List.mem_cons_self⟩, hts _ W0.1, hini, W0.2.2.2.2.2.2.1, pd_len_of W0, hlk⟩, hstat, trivial⟩ hpre rfl hn hR.1.1 hsp hroom hdg hfit) (hK _ rfl hF2)
theorem pd_s_virtual {a k x y z : Nat} (hdg : decode (pd_b mi) pc = .ok (.invokevirtual a, 3)) (hk : k < 89) (hst : (pd_mt k).1 = 0) (hx : x = pd_pn k + 1) (hy : y = pd_ml k) (hz : z / 256 = pd_oc k) (h11 : pd_oc k < 10) (hfr : pd_fr k + 1 ≤ pd_fr mi) (hlo : 8 + (pd_ml k + 11) + pd_lo k ≤ pd_lo mi)
    (hl : Jvm.Cond.methodLink (pd_cn (pd_oc mi)) a (pd_y k) ∈ pd_W) : pd_Goal p l e R s m args below meth c cells slots Q ad D cA xs A b L mi H0 n r (mi, pc, ls, st, σ) (pd_cav mi (pc + 3) ls st σ k x y z) := by
  intro hC hT hCon hK hRt hF lsM H locs hR
  have hR : pd_Rl s ad D cA xs A L mi H0 ls st σ lsM H locs := hR
  unfold pd_cav at hF
  split at hF
  · next t o rest hav =>
    cases b0 : Nat.beq t (z / 256) with
    | false => rw [b0] at hF; cases hF
    | true =>
    rw [b0, cond_true] at hF
    have ht : t = pd_oc k := by rw [← hz]; exact Nat.eq_of_beq_eq_true b0
    unfold pd_ca at hF
    cases b1 : Nat.ble x st.length with
    | false => rw [b1] at hF; cases hF
    | true =>
    rw [b1, cond_true] at hF
    cases b2 : Nat.ble (pd_cats (st.drop x)) 8 with
    | false => rw [b2] at hF; cases hF
    | true =>
    rw [b2, cond_true] at hF
    cases b3 : Nat.ble (pd_cats (st.take x)) y with
    | false => rw [b3] at hF; cases hF
    | true =>
    rw [b3, cond_true] at hF
    have hF : pd_cl (p4_ex pd_cd n) (p4_ex pd_cd n (k, 0, pd_en (st.take x).reverse y, [], σ)) (z % 256 % 8) (z % 256 / 8) (mi, pc + 3, ls, st.drop x, σ) = some r := hF
    cases hr0 : p4_ex pd_cd n (k, 0, pd_en (st.take x).reverse y, [], σ) with
    | none => rw [hr0, pd_cl_none] at hF; cases hF
    | some r0 =>
    rw [hr0] at hF
    have hF2 := pd_cl_out hF
    have W0 := hT.2.1 k hk
    have hts := hC.2.2.2.2.1
    have hcats : pd_cats (st.take x).reverse ≤ pd_ml k := by
      rw [← hy, pd_cats_rev]; exact Nat.le_of_ble_eq_true b3
    subst hy
    have hokav : ∀ v ∈ (st.take x).reverse, pd_okv v := fun v hv => hR.2.2.1 v (List.mem_of_mem_take (List.mem_reverse.mp hv))
    have hM := hCon k (st.take x).reverse σ r0 hk hokav hcats hr0
    have hR' := pd_pops (st' := st.drop x) hR (fun v h => List.mem_of_mem_drop h)
    have hpre0 := fun U hU hW => pd_pre (av := (st.take x).reverse) hC hR' U hU hW
    have hsp : st.map (pd_cv ad) = ((st.take x).reverse.map (pd_cv ad)).reverse ++ (st.drop x).map (pd_cv ad) := by
      rw [← List.map_reverse, List.reverse_reverse, ← List.map_append, List.take_append_drop]
    have hn0 : ((st.take x).reverse).length = pd_pn k + 1 := by
      rw [List.length_reverse, List.length_take, ← hx]
      exact Nat.min_eq_left (Nat.le_of_ble_eq_true b1)
    rw [hav] at hsp hn0 hM hpre0
    have hoko : pd_okv (pd_r t o) := hokav _ (by rw [hav]; exact List.mem_cons_self)
    have hn : (rest.map (pd_cv ad)).length = pd_pn k := by
      rw [List.length_map]
      have h9 : rest.length + 1 = pd_pn k + 1 := hn0
      omega
    have hsp : st.map (pd_cv ad) = (rest.map (pd_cv ad)).reverse ++ .ref (ad o) :: (st.drop x).map (pd_cv ad) := by
      rw [hsp, List.map_cons, List.reverse_cons, List.append_assoc]
      rfl
    have hroom : 2 * (F0 m pc lsM (st.map (pd_cv ad))).monitorRoom + (((st.drop x).map (pd_cv ad)).map fun v => v.category).sum ≤ 8 := lv_room (by rw [pd_cat_sum]; exact Nat.le_of_ble_eq_true b2)
    have hfit : cells + 0 ≤ R.cells ∧ slots + 0 ≤ R.slots := ⟨hC.2.2.2.2.2.2.2.1, hC.2.2.2.2.2.2.2.2.1⟩
    have hRm : (pd_rm k).frames + 1 ≤ R.frames ∧ 8 + (pd_ml k + 11) + (pd_rm k).locals ≤ R.locals := ⟨Nat.le_trans hfr hC.2.2.2.2.2.1, Nat.le_trans hlo hC.2.2.2.2.2.2.1⟩
    have hinst : (Jvm.Cond.instanceMethod (pd_y k)).before args s = true := hts _ (by have h9 := W0.2.1; rw [hst] at h9; exact h9)
    have hini : (Jvm.Cond.initialized (pd_y k).cls).before args s = true := hts _ W0.2.2.2.1
    obtain ⟨g1, g2, g3⟩ := pd_obj (ad := ad) (cA := cA) (σ := σ) hoko (by rw [ht]; exact h11)
    have he := pd_ws_at ad cA σ g1
    rw [g2] at he
    have hrecv := va_recv hR.2.2.2.1.2.1 hR.2.2.2.1.1 (pd_cls_at (t := t) (by rw [ht]; exact h11)) he
    have hcls : (pd_cn t) = (pd_y k).cls := by rw [W0.2.2.2.2.1, ht]
    have hpre : PreV s H (pd_y k).cls (ad o) (pd_Pc ad D cA xs b L (pd_r t o :: rest) σ) (rest.map (pd_cv ad)) := ⟨pd_Pc_blind, by rw [← hcls]; exact hrecv, fun U hU hW => hpre0 U hU hW⟩
    exact pd_back hR' (va_runV (Ts := pd_W) (nL := pd_ml mi) ⟨hC.1, hC.2.1, hC.2.2.1, hC.2.2.2.1, hts⟩ hM ⟨callB_of (pd_pn k) hts (pd_wd_good W0) rfl rfl rfl hini (hts _ hl) ⟨W0.2.2.2.2.2.2.1.1, W0.2.2.2.2.2.2.1.2, W0.2.2.2.2.2.2.2⟩ hRm, hinst, hts _ (W0.2.2.1 hst)⟩ hpre rfl hn hR.1.1 hsp hroom hdg hfit) (hK _ rfl hF2)
  · cases hF
theorem pd_s_ireturn {k : Nat} (hdg : decode (pd_b mi) pc = .ok (.ireturn, 1)) (hk : (k = 0 ∧ pd_rt mi = some .int) ∨ (k = 1 ∧ pd_rt mi = some .boolean)) : pd_Goal p l e R s m args below meth c cells slots Q ad D cA xs A b L mi H0 n r (mi, pc, ls, st, σ) (pd_ri st σ k) := by
  intro hC hT hCon hK hRt hF lsM H locs hR
  unfold pd_ri at hF
  split at hF
  · next x =>
    rcases hk with ⟨rfl, hr⟩ | ⟨rfl, hr⟩
    · have e : some (σ, some (pd_i x)) = some r := hF
      injection e with e
      subst e
      exact hRt .ireturn pc lsM H locs hdg (Or.inl hr) (fun v hv => by cases hv; trivial) hR.2.2.2.1 hR.2.2.2.2
    · by_cases hv : x = 0 ∨ x = 1
      · have e : cond (decide (x = 0 ∨ x = 1)) (some (σ, some (pd_i x))) none = some r := hF
        rw [decide_eq_true hv] at e
        injection e with e
        subst e
        exact hRt .ireturn pc lsM H locs hdg (Or.inr ⟨hr, hv⟩) (fun v hv => by cases hv; trivial) hR.2.2.2.1 hR.2.2.2.2
      · have e : cond (decide (x = 0 ∨ x = 1)) (some (σ, some (pd_i x))) none = some r := hF
        rw [decide_eq_false hv] at e
        cases e
  · cases hF
theorem pd_s_lreturn (hdg : decode (pd_b mi) pc = .ok (.lreturn, 1)) (hr : pd_rt mi = some .long) : pd_Goal p l e R s m args below meth c cells slots Q ad D cA xs A b L mi H0 n r (mi, pc, ls, st, σ) (match st with | [.inl (.inr a)] => .inl (.inl (some (σ, some (pd_j a)))) | _ => pd_no) := by
  intro hC hT hCon hK hRt hF lsM H locs hR
  split at hF
  · next x =>
    have e : some (σ, some (pd_j x)) = some r := hF
    injection e with e
    subst e
    exact hRt .lreturn pc lsM H locs hdg hr (fun v hv => by cases hv; trivial) hR.2.2.2.1 hR.2.2.2.2
  · cases hF
theorem pd_s_areturn (hdg : decode (pd_b mi) pc = .ok (.areturn, 1)) (hr : pd_rt mi = some (.object RX1)) : pd_Goal p l e R s m args below meth c cells slots Q ad D cA xs A b L mi H0 n r (mi, pc, ls, st, σ) (match st with | [.inr (.inr (t, o))] => .inl (.inl (some (σ, some (pd_r t o)))) | _ => pd_no) := by
  intro hC hT hCon hK hRt hF lsM H locs hR
  split at hF
  · next t o =>
    have e : some (σ, some (pd_r t o)) = some r := hF
    injection e with e
    subst e
    exact hRt .areturn pc lsM H locs hdg hr (fun v hv => by cases hv; exact hR.2.2.1 _ List.mem_cons_self) hR.2.2.2.1 hR.2.2.2.2
  · cases hF
theorem pd_s_return (hdg : decode (pd_b mi) pc = .ok (.return_, 1)) (hr : pd_rt mi = none) : pd_Goal p l e R s m args below meth c cells slots Q ad D cA xs A b L mi H0 n r (mi, pc, ls, st, σ) (match st with | [] => .inl (.inl (some (σ, none))) | _ => pd_no) := by
  intro hC hT hCon hK hRt hF lsM H locs hR
  split at hF
  · have e : some (σ, none) = some r := hF
    injection e with e
    subst e
    exact hRt .return_ pc lsM H locs hdg hr (fun v hv => by cases hv) hR.2.2.2.1 hR.2.2.2.2
  · cases hF
end PDW
