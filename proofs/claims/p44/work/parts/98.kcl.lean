/-! The constructors' loops. -/
theorem kc_arrV {cI : ClassId} {N : Nat} {f g : Nat → Value} (h : ∀ i, i < N → f i = g i) : arrV cI N f = arrV cI N g := by
  unfold arrV
  have e : (Array.ofFn (n := N) fun j => f j.val) = (Array.ofFn (n := N) fun j => g j.val) := by
    congr 1
    funext j
    exact h j.val j.isLt
  rw [e]
theorem kc_set_app {ws w2 : va_W} {ai : Nat} {x y : Nat × va_E} (h : ai < ws.length) : (ws.set ai x ++ w2).set ai y = ws.set ai y ++ w2 := by
  rw [List.set_append_left _ _ (by rw [List.length_set]; exact h), List.set_set]
theorem kc_set_at {ws w2 : va_W} {ai : Nat} {x : Nat × va_E} (h : ai < ws.length) : (ws.set ai x ++ w2)[ai]? = some x := by
  rw [List.getElem?_append_left (by rw [List.length_set]; exact h), List.getElem?_set_self h]
theorem kc_set_0 {ws w2 : va_W} {ai : Nat} {x y : Nat × va_E} (h : ai ≠ 0) (h0 : ws[0]? = some y) : (ws.set ai x ++ w2)[0]? = some y := by
  rw [List.getElem?_append_left (by rw [List.length_set]; exact (List.getElem?_eq_some_iff.mp h0).1), List.getElem?_set_ne h, h0]
theorem kc_re {D : va_G} {A : Nat → Prop} {H0 H : Heap} {ws w2 : va_W} {ai qa : Nat} {x y : va_E} {locs : List Loc} (hi : ai < ws.length) (hxy : va_at D vwCl (qa, x) H → va_at D vwCl (qa, y) H) (h : kc_St D A H0 (ws.set ai (qa, x) ++ w2) H locs) : kc_St D A H0 (ws.set ai (qa, y) ++ w2) H locs := by
  obtain ⟨hP, hD, hS⟩ := h
  have hp := kc_set_at (w2 := w2) (x := (qa, x)) hi
  have h1 := hP.set hD hp (hxy (hP ai _ hp)) (fun _ _ => rfl)
  have h2 : va_D A ((ws.set ai (qa, x) ++ w2).set ai (qa, y)) := hD.set hp
  rw [kc_set_app hi] at h1 h2
  exact ⟨h1, h2, hS⟩
section KL
variable {p : Program} {l : Launch} {e : Env} {R : Room} {s : State} {m : MethodId} {args : Array Value} {below : List Frame} {meth : Method} {c : Code} {cells slots : Nat} {Q : State → Prop}
variable {cc : ByteArray} {D : va_G} {cA : Nat → ClassId} {A : Nat → Prop} {a ml t : Nat} {ws : va_W} {H0 : Heap} {fs : List Value}
theorem kc_fill (h : kc_Cx p s m args c cc ml t D cA A H0) (ht : t < 10) {k idx plc : Nat} (hf : (t, idx, t, k, plc) ∈ pd_FL) (hk : k < pd_nf t) (qa ai N pc0 b pcE : Nat) {og ob : Int} (hN : N < 2 ^ 31) (h2 : 1 < ml) (he0 : ws[0]? = some (a, .inr (t, fs))) (hfk : fs[k]? = some (.ref qa)) {f0 : Nat → Int32} (hei : ws[ai]? = some (qa, .inl (cA 0, N, .inl f0))) (hai : ai ≠ 0)
    (d0 : decode cc pc0 = .ok (.iload_n 1, 1)) (hpush : ∀ (H : Heap) (locs : List Loc) (ls : Array Slot) (st : List Value), W p l e R s m args below meth c H locs cells slots Q (F0 m b ls (.int (nI N) :: st)) → W p l e R s m args below meth c H locs cells slots Q (F0 m (pc0 + 1) ls st))
    (d2 : decode cc b = .ok (.if_icmp .ge og, 3)) (hg : (b : Int) + og = (pcE : Int)) (d3 : decode cc (b + 3) = .ok (.aload_n 0, 1)) (d4 : decode cc (b + 3 + 1) = .ok (.getfield idx, 3)) (d5 : decode cc (b + 3 + 1 + 3) = .ok (.iload_n 1, 1)) (d6 : decode cc (b + 3 + 1 + 3 + 1) = .ok (.iconst (-1), 1)) (d7 : decode cc (b + 3 + 1 + 3 + 1 + 1) = .ok (.iastore, 1)) (d8 : decode cc (b + 3 + 1 + 3 + 1 + 1 + 1) = .ok (.iinc 1 1, 3)) (d9 : decode cc (b + 3 + 1 + 3 + 1 + 1 + 1 + 3) = .ok (.goto ob, 3)) (hb' : ((b + 3 + 1 + 3 + 1 + 1 + 1 + 3 : Nat) : Int) + ob = (pc0 : Int))
    (kk : ∀ (H : Heap) (locs : List Loc) (ls : Array Slot), lv_has ls ml [(1, .int (nI N)), (0, .ref a)] → kc_St D A H0 (ws.set ai (qa, .inl (cA 0, N, .inl (fun _ => -1)))) H locs → W p l e R s m args below meth c H locs cells slots Q (F0 m pcE ls [])) :
    ∀ (H : Heap) (locs : List Loc) (ls : Array Slot), lv_has ls ml [(1, .int 0), (0, .ref a)] → kc_St D A H0 ws H locs → W p l e R s m args below meth c H locs cells slots Q (F0 m pc0 ls []) := by
  have hx := h.1
  have hb := h.2.1
  have hi : ai < ws.length := (List.getElem?_eq_some_iff.mp hei).1
  have key : ∀ n j, j + n = N → ∀ (H : Heap) (locs : List Loc) (ls : Array Slot) (g : Nat → Int32), (∀ i, i < j → g i = -1) → lv_has ls ml [(1, .int (nI j)), (0, .ref a)] → kc_St D A H0 (ws.set ai (qa, .inl (cA 0, N, .inl g)) ++ []) H locs → W p l e R s m args below meth c H locs cells slots Q (F0 m pc0 ls []) := by
    intro n
    induction n with
    | zero =>
      intro j hj H locs ls g hgj hl hSt
      have hj : j = N := by omega
      subst hj
      refine lv_iload_n hx hb d0 rfl (lv_at hl 0 rfl) ?_
      refine hpush _ _ _ _ ?_
      refine lv_icmp_ge hx hb d2 hg (fun _ => ?_) (fun q => absurd (Int32.le_refl _) q)
      refine kk H locs ls hl ?_
      have h9 := kc_re (y := .inl (cA 0, j, .inl (fun _ => -1))) hi (fun q => by
        show H[qa]? = some (vp_cell _ _)
        rw [show H[qa]? = some (vp_cell (cA 0) (j, .inl g)) from q, vp_cell_i, vp_cell_i, kc_arrV (fun i hi => by rw [hgj i hi])]) hSt
      rw [List.append_nil] at h9
      exact h9
    | succ n ih =>
      intro j hj H locs ls g hgj hl hSt
      refine lv_iload_n hx hb d0 rfl (lv_at hl 0 rfl) ?_
      refine hpush _ _ _ _ ?_
      refine lv_icmp_ge hx hb d2 hg (fun q => absurd q (nI_ge (by omega) hN)) (fun _ => ?_)
      refine lv_aload_n hx hb d3 rfl (lv_at hl 1 rfl) ?_
      refine kc_get h hSt ht hf hk (kc_set_0 hai he0) hfk d4 ?_
      refine lv_iload_n hx hb d5 rfl (lv_at hl 0 rfl) ?_
      refine lv_iconst (v := -1) hx hb d6 (by decide) ?_
      refine va_iast hx hb h.2.2.2.2.2.1 hSt.1 hSt.2.1 hSt.2.2 ai 0 (kc_set_at hi) rfl (nI_in (show j < N by omega) hN) d7 (fun H1 locs1 q1 q2 q3 => ?_)
      rw [kc_set_app hi, nI_clamp (show j < 2 ^ 31 by omega)] at q1 q2
      refine lv_iinc (k := 0) hx hb d8 hl rfl (show nI j + Int32.ofInt 1 = nI (j + 1) from (nI_succ j).symm) h2 rfl (fun ls' hl' => ?_)
      refine lv_goto hx hb d9 hb' ?_
      refine ih (j + 1) (by omega) H1 locs1 ls' (upd g j (-1)) (fun i hi => ?_) hl' ⟨q1, q2, q3⟩
      unfold upd
      by_cases e : i = j
      · rw [if_pos e]
      · rw [if_neg e]; exact hgj i (by omega)
  intro H locs ls hl hSt
  refine key N 0 (by omega) H locs ls f0 (fun i hi => absurd hi (Nat.not_lt_zero i)) hl ?_
  rw [List.append_nil, show ws.set ai (qa, .inl (cA 0, N, .inl f0)) = ws from ?_]
  · exact hSt
  · apply List.ext_getElem?
    intro q
    rw [List.getElem?_set]
    by_cases e : ai = q
    · subst e; rw [if_pos rfl, if_pos hi, hei]
    · rw [if_neg e]
theorem kc_flat {j : Nat} {f g : Nat → va_W} (h : ∀ i, i < j → f i = g i) : (List.range j).flatMap f = (List.range j).flatMap g := by
  rw [List.flatMap_def, List.flatMap_def]
  exact congrArg List.flatten (List.map_congr_left (fun i hi => h i (List.mem_range.mp hi)))
theorem kc_objs (h : kc_Cx p s m args c cc ml t D cA A H0) (ht : t < 10) {k idx plc : Nat} (hf : (t, idx, t, k, plc) ∈ pd_FL) (hk : k < pd_nf t) (qa ai N pc0 b pcE t0 t' : Nat) {og ob : Int} (hN : N < 2 ^ 31) (h2 : 1 < ml) (he0 : ws[0]? = some (a, .inr (t, fs))) (hfk : fs[k]? = some (.ref qa)) {cAt : ClassId} (hei : ws[ai]? = some (qa, .inl (cAt, N, .inr (.inr (.inr (.inr (fun _ => none))))))) (hai : ai ≠ 0) (ht0 : (pd_tys cA)[t0]? = some (cAt, .object (pd_cn t'))) (ht' : t' < 10)
    {y : MethodName} {cy : ByteArray} {mly : Nat} {rm : Room} {shape : Nat → kc_S → va_W} {mc ms nf : Nat} (hM : kc_Met l D cA t' y cy mly rm [] shape mc ms) (hy : kc_Y t' y cy mly 0) (hsh : ∀ q u, ∃ e r, shape q u = (q, .inr (t', e)) :: r) {icl idc : Nat} (hlk : Jvm.Cond.methodLink (pd_cn t) idc y ∈ pd_W ∨ (t, idc, y) ∈ kc_CL) (hcl : Jvm.Cond.classLink (pd_cn t) icl (pd_cn t') ∈ pd_W) (hinst : Jvm.Cond.instantiable (pd_cn t') nf ∈ pd_W) (hnf : pd_nf t' = nf) (hini : Jvm.Cond.initialized (pd_cn t') ∈ pd_W) (hR : rm.frames + 1 ≤ R.frames ∧ 8 + (mly + 11) + rm.locals ≤ R.locals) (hrc : rm.cells = mc) (hrs : rm.slots = ms) (hfc : cells + N * (1 + mc) ≤ R.cells) (hfs : slots + N * (nf + ms) ≤ R.slots)
    (d0 : decode cc pc0 = .ok (.iload_n 1, 1)) (hpush : ∀ (H : Heap) (locs : List Loc) (cells slots : Nat) (ls : Array Slot) (st : List Value), W p l e R s m args below meth c H locs cells slots Q (F0 m b ls (.int (nI N) :: st)) → W p l e R s m args below meth c H locs cells slots Q (F0 m (pc0 + 1) ls st))
    (d2 : decode cc b = .ok (.if_icmp .ge og, 3)) (hg : (b : Int) + og = (pcE : Int)) (d3 : decode cc (b + 3) = .ok (.aload_n 0, 1)) (d4 : decode cc (b + 3 + 1) = .ok (.getfield idx, 3)) (d5 : decode cc (b + 3 + 1 + 3) = .ok (.iload_n 1, 1)) (d6 : decode cc (b + 3 + 1 + 3 + 1) = .ok (.new icl, 3)) (d7 : decode cc (b + 3 + 1 + 3 + 1 + 3) = .ok (.dup, 1)) (d8 : decode cc (b + 3 + 1 + 3 + 1 + 3 + 1) = .ok (.invokespecial idc, 3)) (d9 : decode cc (b + 3 + 1 + 3 + 1 + 3 + 1 + 3) = .ok (.aastore, 1)) (d10 : decode cc (b + 3 + 1 + 3 + 1 + 3 + 1 + 3 + 1) = .ok (.iinc 1 1, 3)) (d11 : decode cc (b + 3 + 1 + 3 + 1 + 3 + 1 + 3 + 1 + 3) = .ok (.goto ob, 3)) (hb' : ((b + 3 + 1 + 3 + 1 + 3 + 1 + 3 + 1 + 3 : Nat) : Int) + ob = (pc0 : Int))
    (kk : ∀ (H : Heap) (locs : List Loc) (ls : Array Slot) (v : Nat → Nat) (us : Nat → kc_S), lv_has ls ml [(1, .int (nI N)), (0, .ref a)] → kc_St D A H0 (ws.set ai (qa, .inl (cAt, N, .inr (.inr (.inr (.inr (fun i => some (v i))))))) ++ (List.range N).flatMap (fun i => shape (v i) (us i))) H locs → W p l e R s m args below meth c H locs (cells + N * (1 + mc)) (slots + N * (nf + ms)) Q (F0 m pcE ls [])) :
    ∀ (H : Heap) (locs : List Loc) (ls : Array Slot), lv_has ls ml [(1, .int 0), (0, .ref a)] → kc_St D A H0 ws H locs → W p l e R s m args below meth c H locs cells slots Q (F0 m pc0 ls []) := by
  have hx := h.1
  have hb := h.2.1
  have hi : ai < ws.length := (List.getElem?_eq_some_iff.mp hei).1
  have key : ∀ n j, j + n = N → ∀ (H : Heap) (locs : List Loc) (ls : Array Slot) (g : Nat → Option Nat) (v : Nat → Nat) (us : Nat → kc_S), (∀ i, i < j → g i = some (v i)) → lv_has ls ml [(1, .int (nI j)), (0, .ref a)] → kc_St D A H0 (ws.set ai (qa, .inl (cAt, N, .inr (.inr (.inr (.inr g))))) ++ (List.range j).flatMap (fun i => shape (v i) (us i))) H locs → W p l e R s m args below meth c H locs (cells + j * (1 + mc)) (slots + j * (nf + ms)) Q (F0 m pc0 ls []) := by
    intro n
    induction n with
    | zero =>
      intro j hj H locs ls g v us hgj hl hSt
      have hj : j = N := by omega
      subst hj
      refine lv_iload_n hx hb d0 rfl (lv_at hl 0 rfl) ?_
      refine hpush _ _ _ _ _ _ ?_
      refine lv_icmp_ge hx hb d2 hg (fun _ => ?_) (fun q => absurd (Int32.le_refl _) q)
      refine kk H locs ls v us hl ?_
      exact kc_re (y := .inl (cAt, j, .inr (.inr (.inr (.inr (fun i => some (v i))))))) hi (fun q => by
        show H[qa]? = some (vp_cell _ _)
        rw [show H[qa]? = some (vp_cell cAt (j, .inr (.inr (.inr (.inr g))))) from q, vp_cell_q, vp_cell_q, kc_arrV (fun i hi => by rw [hgj i hi])]) hSt
    | succ n ih =>
      intro j hj H locs ls g v us hgj hl hSt
      have hm1 : (j + 1) * (1 + mc) ≤ N * (1 + mc) := Nat.mul_le_mul_right _ (by omega)
      have hm2 : (j + 1) * (nf + ms) ≤ N * (nf + ms) := Nat.mul_le_mul_right _ (by omega)
      rw [Nat.succ_mul] at hm1 hm2
      refine lv_iload_n hx hb d0 rfl (lv_at hl 0 rfl) ?_
      refine hpush _ _ _ _ _ _ ?_
      refine lv_icmp_ge hx hb d2 hg (fun q => absurd q (nI_ge (by omega) hN)) (fun _ => ?_)
      refine lv_aload_n hx hb d3 rfl (lv_at hl 1 rfl) ?_
      refine kc_get h hSt ht hf hk (kc_set_0 hai he0) hfk d4 ?_
      refine lv_iload_n hx hb d5 rfl (lv_at hl 0 rfl) ?_
      refine kc_new h hSt t' ht' hcl hinst hnf hini (by omega) (by omega) d6 (fun q H hSt => ?_)
      refine lv_dup hx hb d7 rfl ?_
      refine kc_call (As := []) hM h hSt hy hlk hR hrc hrs rfl hl.1 rfl (Nat.le_of_ble_eq_true rfl) d8 ⟨by omega, by omega⟩ (fun u H locs hSt => ?_)
      obtain ⟨e0, r0, hshq⟩ := hsh q u
      have hlen : ai < (ws.set ai (qa, (.inl (cAt, N, .inr (.inr (.inr (.inr g)))) : va_E)) ++ (List.range j).flatMap (fun i => shape (v i) (us i))).length := by rw [List.length_append, List.length_set]; omega
      refine va_astq hx hb h.2.2.2.2.2.1 hSt.1 hSt.2.1 hSt.2.2 ai t0 (ws.set ai (qa, (.inl (cAt, N, .inr (.inr (.inr (.inr g)))) : va_E)) ++ (List.range j).flatMap (fun i => shape (v i) (us i))).length t' (r := (pd_cn t', (vwCl.getD t' (RL, TX0, 0)).2.1, pd_nf t')) (v := q) (vs := e0) (by rw [List.getElem?_append_left hlen]; exact kc_set_at hi) ht0 (by rw [hshq, List.getElem?_append_right (Nat.le_refl _), Nat.sub_self]; rfl) (pd_cls_at ht') (nI_in (show j < N by omega) hN) d9 (fun H1 locs1 q1 q2 q3 => ?_)
      rw [List.set_append_left _ _ hlen, kc_set_app hi, nI_clamp (show j < 2 ^ 31 by omega), List.append_assoc] at q1 q2
      refine lv_iinc (k := 0) hx hb d10 hl rfl (show nI j + Int32.ofInt 1 = nI (j + 1) from (nI_succ j).symm) h2 rfl (fun ls' hl' => ?_)
      refine lv_goto hx hb d11 hb' ?_
      have e1 : (List.range j).flatMap (fun i => shape (v i) (us i)) ++ shape q u = (List.range (j + 1)).flatMap (fun i => shape ((fun i => if i = j then q else v i) i) ((fun i => if i = j then u else us i) i)) := by
        rw [List.range_succ, List.flatMap_append, kc_flat (f := fun i => shape (v i) (us i)) (g := fun i => shape ((fun i => if i = j then q else v i) i) ((fun i => if i = j then u else us i) i)) (fun i hi => by simp only [if_neg (show ¬ i = j by omega)])]
        simp
      rw [e1] at q1 q2
      have e2 : cells + (j + 1) * (1 + mc) = cells + j * (1 + mc) + 1 + mc := by rw [Nat.succ_mul]; omega
      have e3 : slots + (j + 1) * (nf + ms) = slots + j * (nf + ms) + nf + ms := by rw [Nat.succ_mul]; omega
      have h9 := ih (j + 1) (by omega) H1 locs1 ls' (va_up g j (some q)) (fun i => if i = j then q else v i) (fun i => if i = j then u else us i) (fun i hi => by
        unfold va_up
        by_cases e : i = j
        · rw [if_pos e, if_pos e]
        · rw [if_neg e, if_neg e]; exact hgj i (by omega)) hl' ⟨q1, q2, q3⟩
      rw [e2, e3] at h9
      exact h9
  intro H locs ls hl hSt
  have h9 := key N 0 (by omega) H locs ls (fun _ => none) (fun _ => 0) (fun _ => (fun _ => 0, fun _ => 0)) (fun i hi => absurd hi (Nat.not_lt_zero i)) hl (by
    rw [List.range_zero, List.flatMap_nil, List.append_nil, show ws.set ai (qa, .inl (cAt, N, .inr (.inr (.inr (.inr (fun _ => none)))))) = ws from ?_]
    · exact hSt
    · apply List.ext_getElem?
      intro q
      rw [List.getElem?_set]
      by_cases e : ai = q
      · subst e; rw [if_pos rfl, if_pos hi, hei]
      · rw [if_neg e])
  rw [Nat.zero_mul, Nat.add_zero, Nat.zero_mul, Nat.add_zero] at h9
  exact h9
end KL
