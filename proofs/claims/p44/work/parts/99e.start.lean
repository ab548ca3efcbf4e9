/-! THE CLAIM OUT OF ONE WALK OF THE LAW'S BODY. Your part is whole_start (and what it stands on); all else here is the same for every law, but numbers. -/
def R_law : String := "PatchDeskLaw"
def lw_P (b : Addr) (xs : List Int32) (args : Array Value) (s : State) : Prop := args = #[.ref b] ∧ s.IntsAt b xs ∧ xs.length ≤ 260 ∧ (Jvm.Cond.and given_1 narrow_1).before args s = true
def lw_Q (_ : Array Value) (s : State) (o : Outcome) (t : State) : Prop := o = .returned (some (.int 1)) ∧ Framed s o t [] 600000 7302250
def lw_Z (below : List Frame) (a : Array Value) (s : State) : State → Prop := fun t => ∃ o, t.status = .running ∧ Ended t below o ∧ lw_Q a s o t
/-- the law's own end, with 1 on the stack, nothing written that was there before, its room as the claim has it -/
theorem lw_ret {p : Program} {l : Launch} {e : Env} {s : State} {m : MethodId} {below : List Frame} {meth : Method} {c : Code} {b : Nat} (hx : p.tables.exec = Jvm.exec) (hb : c.code = code) (hr : meth.sig.returnType = ret) (hlocks : meth.locks = false) {pc : Nat} {H : Heap} {ls : Array Slot} (hdg : decode code pc = .ok (.ireturn, 1)) : W p l e room_1 s m #[Value.ref b] below meth c H [] 600000 7302250 (lw_Z below #[Value.ref b] s) (F0 m pc ls [.int 1]) := by
  intro T hT X
  obtain ⟨fs, hret, hrun, hended, hW, hframe⟩ := X.leave (v := some (.int 1)) (hlocks := hlocks) (fun h => by rw [hr] at h; cases h)
  have hmeth' : T.vm.method? m = some meth := X.method'
  refine ⟨T.setFrames fs, ?_, .returned (some (.int 1)), hrun, hended, rfl, ⟨_, rfl⟩, hW, hframe⟩
  jvm_step X.here [X.here.top, hx, hb, hdg, hmeth', hr, ret, narrow_b1]
  (try refine ⟨rfl, ?_⟩); (try refine ⟨rfl, ?_⟩)
  first | (intro acts; rw [hret _ acts rfl rfl rfl]) | rw [hret _ _ rfl rfl rfl]
  exact Steps.refl _
/-- what holds at the law's entry: the machine, the code, the tables' words (any of lw_tbl by 'hts w (by decide +kernel)'), the script of L ints xs at the cell b, what the Statement gives of the start (any of its parts by flat_of_before) -/
def lw_At (p : Program) (s : State) (m : MethodId) (meth : Method) (c : Code) (b L : Nat) (xs : Nat → Int32) : Prop :=
  p.tables.exec = Jvm.exec ∧ c.code = code ∧ meth.sig.returnType = ret ∧ c.maxLocals = 24 ∧ s.vm.findClass R_law = some m.cls ∧ (∀ w ∈ lw_tbl, w.before #[Value.ref b] s = true) ∧ va_X b L xs s s.heap ∧ b < s.heap.size ∧ meth.locks = false ∧ (Jvm.Cond.and given_1 narrow_1).before #[Value.ref b] s = true
theorem ws_known {s : State} {args : Array Value} (hW : ∀ w ∈ pd_W, w.before args s = true) : ∃ D : va_G, ∀ (c : Nat) (q : vw_C), vwCl[c]? = some q → u_Kn s q.1 q.2.1 q.2.2 (D.1 c) (D.2 c) := by
  have h : ∀ c : Nat, ∃ x : ClassId × (Nat → Nat), ∀ q : vw_C, vwCl[c]? = some q → u_Kn s q.1 q.2.1 q.2.2 x.1 x.2 := by
    intro c
    by_cases hc : c < 10
    · have hi : ∃ n, Jvm.Cond.instantiable (pd_cn c) n ∈ pd_W := by
        match c, hc with
        | 0, _ => exact ⟨_, kw_in_0⟩
        | 1, _ => exact ⟨_, kw_in_1⟩
        | 2, _ => exact ⟨_, kw_in_2⟩
        | 3, _ => exact ⟨_, kw_in_3⟩
        | 4, _ => exact ⟨_, kw_in_4⟩
        | 5, _ => exact ⟨_, kw_in_5⟩
        | 6, _ => exact ⟨_, kw_in_6⟩
        | 7, _ => exact ⟨_, kw_in_7⟩
        | 8, _ => exact ⟨_, kw_in_8⟩
        | 9, _ => exact ⟨_, kw_in_9⟩
      obtain ⟨n, hn⟩ := hi
      obtain ⟨cC, iS, hk⟩ := u_known hW (pd_TF_ok.2.2.2.2.2.2 c hc) (hW _ hn)
      refine ⟨(cC, iS), fun q hq => ?_⟩
      rw [pd_cls_at hc] at hq
      cases hq
      exact hk
    · refine ⟨(0, fun _ => 0), fun q hq => absurd (List.getElem?_eq_some_iff.mp hq).1 ?_⟩
      show ¬ c < 10
      exact hc
  exact ⟨(fun c => (Classical.choose (h c)).1, fun c => (Classical.choose (h c)).2), fun c q hq => Classical.choose_spec (h c) q hq⟩
theorem ws_int {s : State} {args : Array Value} (h : (Jvm.Cond.arrayClass .int).before args s = true) : ∃ c, ArrOfT s c .int ∧ va_RA s c .int := by
  obtain ⟨c, k, comp, h1, h2, h3⟩ := Cond.arrayClass_spec h
  exact ⟨c, fun n z => ⟨fun k h => (by cases h), k, h2, comp, h3⟩, h1⟩
theorem ws_long {s : State} {args : Array Value} (h : (Jvm.Cond.arrayClass .long).before args s = true) : ∃ c, ArrOfT s c .long ∧ va_RA s c .long := by
  obtain ⟨c, k, comp, h1, h2, h3⟩ := Cond.arrayClass_spec h
  exact ⟨c, fun n z => ⟨fun k h => (by cases h), k, h2, comp, h3⟩, h1⟩
theorem ws_bool {s : State} {args : Array Value} (h : (Jvm.Cond.arrayClass .boolean).before args s = true) : ∃ c, ArrOfT s c .boolean ∧ va_RA s c .boolean := by
  obtain ⟨c, k, comp, h1, h2, h3⟩ := Cond.arrayClass_spec h
  exact ⟨c, fun n z => ⟨fun k h => (by cases h), k, h2, comp, h3⟩, h1⟩
theorem ws_over {s : State} {C : String} (h : va_AO C s) : ∃ c, ArrOfT s c (.object C) ∧ va_RA s c (.object C) := by
  obtain ⟨comp, c, k, h1, -, h3, h4, h5⟩ := Cond.arrayOver_spec (va_AO.use (A := #[]) h)
  exact ⟨c, fun n z => ⟨fun k h => (by cases h), k, h3, comp, h4⟩, k, comp, h3, h4, h1, h5⟩
theorem ws_t {i : Nat} {w : Jvm.Cond} (h : tables_1[i]? = some w) : w ∈ lw_tbl := List.mem_append_right _ (List.mem_of_getElem? h)
theorem ws_kNW {s : State} {args : Array Value} (hts : ∀ w ∈ lw_tbl, w.before args s = true) : kc_NW s := by
  refine ⟨fun e he => ?_, va_AO.of (A := args) (hts _ (ws_t (i := 67) (by decide +kernel))), va_AO.of (A := args) (hts _ (ws_t (i := 184) (by decide +kernel)))⟩
  unfold kc_CL at he
  simp only [List.mem_cons, List.not_mem_nil, or_false] at he
  rcases he with rfl | rfl | rfl | rfl | rfl | rfl | rfl
  · exact va_Nw.of rfl (hts _ (ws_t (i := 69) (by decide +kernel)))
  · exact va_Nw.of rfl (hts _ (ws_t (i := 116) (by decide +kernel)))
  · exact va_Nw.of rfl (hts _ (ws_t (i := 121) (by decide +kernel)))
  · exact va_Nw.of rfl (hts _ (ws_t (i := 146) (by decide +kernel)))
  · exact va_Nw.of rfl (hts _ (ws_t (i := 159) (by decide +kernel)))
  · exact va_Nw.of rfl (hts _ (ws_t (i := 169) (by decide +kernel)))
  · exact va_Nw.of rfl (hts _ (ws_t (i := 192) (by decide +kernel)))
theorem ws_NW {s : State} {args : Array Value} (hts : ∀ w ∈ lw_tbl, w.before args s = true) : pd_NW s := by
  intro e he h1
  have h2 := of_decide_eq_true (List.all_eq_true.mp pd_CL_ok e he)
  rw [h1] at h2
  exact va_Nw.of rfl (hts _ (ws_t h2))
/-- what stands in the law's places when the deeds begin -/
theorem ws_nth {k : Nat} {v : pd_V} (h : pd_nth ([some (pd_r 30 922), some (pd_r 9 0), some (pd_r 9 230), some (pd_r 9 460), some (pd_r 9 690), some (pd_r 20 920), some (pd_r 21 921)] ++ List.replicate 17 none) k = some v) : ∃ t o, v = pd_r t o ∧ pd_okv (pd_r t o) := by
  match k, h with
  | 0, h => cases h; exact ⟨_, _, rfl, rfl, by decide⟩
  | 1, h => cases h; exact ⟨_, _, rfl, rfl, by decide⟩
  | 2, h => cases h; exact ⟨_, _, rfl, rfl, by decide⟩
  | 3, h => cases h; exact ⟨_, _, rfl, rfl, by decide⟩
  | 4, h => cases h; exact ⟨_, _, rfl, rfl, by decide⟩
  | 5, h => cases h; exact ⟨_, _, rfl, rfl, by decide⟩
  | 6, h => cases h; exact ⟨_, _, rfl, rfl, by decide⟩
  | n + 7, h =>
    have f : ∀ (m k : Nat), pd_nth (List.replicate m none) k = none := fun m => by
      induction m with
      | zero => intro k; cases k <;> rfl
      | succ m ih => intro k; cases k with
        | zero => rfl
        | succ k => exact ih k
    have h : pd_nth (List.replicate 17 none) n = some v := h
    rw [f] at h
    cases h
theorem kl_0 : decode code 0 = .ok (.new 20, 3) := by decide +kernel
theorem kl_3 : decode code 3 = .ok (.dup, 1) := by decide +kernel
theorem kl_4 : decode code 4 = .ok (.invokespecial 54, 3) := by decide +kernel
theorem kl_7 : decode code 7 = .ok (.astore_n 1, 1) := by decide +kernel
theorem kl_8 : decode code 8 = .ok (.new 20, 3) := by decide +kernel
theorem kl_11 : decode code 11 = .ok (.dup, 1) := by decide +kernel
theorem kl_12 : decode code 12 = .ok (.invokespecial 54, 3) := by decide +kernel
theorem kl_15 : decode code 15 = .ok (.astore_n 2, 1) := by decide +kernel
theorem kl_16 : decode code 16 = .ok (.new 20, 3) := by decide +kernel
theorem kl_19 : decode code 19 = .ok (.dup, 1) := by decide +kernel
theorem kl_20 : decode code 20 = .ok (.invokespecial 54, 3) := by decide +kernel
theorem kl_23 : decode code 23 = .ok (.astore_n 3, 1) := by decide +kernel
theorem kl_24 : decode code 24 = .ok (.new 20, 3) := by decide +kernel
theorem kl_27 : decode code 27 = .ok (.dup, 1) := by decide +kernel
theorem kl_28 : decode code 28 = .ok (.invokespecial 54, 3) := by decide +kernel
theorem kl_31 : decode code 31 = .ok (.astore 4, 2) := by decide +kernel
theorem kl_33 : decode code 33 = .ok (.bipush 20, 2) := by decide +kernel
theorem kl_35 : decode code 35 = .ok (.newarray .int, 2) := by decide +kernel
theorem kl_37 : decode code 37 = .ok (.astore 5, 2) := by decide +kernel
theorem kl_39 : decode code 39 = .ok (.bipush 24, 2) := by decide +kernel
theorem kl_41 : decode code 41 = .ok (.newarray .long, 2) := by decide +kernel
theorem kl_43 : decode code 43 = .ok (.astore 6, 2) := by decide +kernel
set_option maxHeartbeats 4000000 in
set_option maxRecDepth 100000 in
/-- YOUR PART: from the entry, for every script of at most 260 ints, the law comes to its end with true ('hflags': the launch's flags, for a law that throws: no stack traces) -/
theorem whole_start {p : Program} {e : Env} {s : State} {m : MethodId} {below : List Frame} {meth : Method} {c : Code} (l : Launch) (hflags : l.flags = flags0) {b L : Nat} {xs : Nat → Int32} (hL : L ≤ 260) (C0 : lw_At p s m meth c b L xs) : W p l e room_1 s m #[Value.ref b] below meth c s.heap [] 0 0 (lw_Z below #[Value.ref b] s) (entryFrame m ([Value.ref b] : List Value).toArray 24) := by
  obtain ⟨hx, hb, hret, hml, hown, hts, hX, hbl, hlocks, hgv⟩ := C0
  have hW : ∀ w ∈ pd_W, w.before #[Value.ref b] s = true := fun w hw => hts w (List.mem_filter.mp hw).1
  have hkn := ws_kNW hts
  obtain ⟨D, hD⟩ := ws_known hW
  obtain ⟨c0, a0, r0⟩ := ws_int (hW _ kw_ar_int)
  obtain ⟨c1, a1, r1⟩ := ws_long (hW _ kw_ar_long)
  obtain ⟨c2, a2, r2⟩ := ws_bool (hW _ kw_ar_boolean)
  obtain ⟨c3, a3, r3⟩ := ws_over hkn.2.1
  obtain ⟨c4, a4, r4⟩ := ws_over hkn.2.2
  obtain ⟨cA, e0, e1, e2, e3, e4⟩ : ∃ cA : Nat → ClassId, cA 0 = c0 ∧ cA 1 = c1 ∧ cA 2 = c2 ∧ cA 3 = c3 ∧ cA 4 = c4 := ⟨fun k => [c0, c1, c2, c3, c4].getD k 0, rfl, rfl, rfl, rfl, rfl⟩
  subst e0; subst e1; subst e2; subst e3; subst e4
  have hK : va_K D vwCl (pd_tys cA) s := by
    refine ⟨hD, fun k q hq => ?_⟩
    match k, hq with
    | 0, hq => cases hq; exact ⟨a0, r0⟩
    | 1, hq => cases hq; exact ⟨a1, r1⟩
    | 2, hq => cases hq; exact ⟨a2, r2⟩
    | 3, hq => cases hq; exact ⟨a3, r3⟩
    | 4, hq => cases hq; exact ⟨a4, r4⟩
    | n + 5, hq => cases hq
  have hown : s.vm.findClass (pd_cn 13) = some m.cls := hown
  have hC : kc_Cx p s m #[Value.ref b] c code 24 13 D cA (fun q => s.heap.size ≤ q) s.heap := ⟨hx, hb, hml, hown, hW, hK, fun q h => h, hkn⟩
  have hSt : kc_St D (fun q => s.heap.size ≤ q) s.heap [] s.heap [] := ⟨fun k q h => (by cases k <;> cases h), ⟨fun i j p q h => (by cases i <;> cases h), fun k q h => (by cases k <;> cases h)⟩, va_S.rf⟩
  have hl := lv_entry ([Value.ref b]) (n := 24) (Nat.le_of_ble_eq_true rfl)
  rw [lg_entry_eq]
  generalize (lg_sl ([Value.ref b]) ++ List.replicate (24 - (lg_sl ([Value.ref b])).length) Slot.unset).toArray = ls at hl ⊢
  have hl : lv_has ls 24 [(0, .ref b)] := hl
  refine kc_new hC hSt 9 (by decide) kw_cl_13_20 kw_in_9 rfl kw_re_9 (Nat.le_of_ble_eq_true rfl) (Nat.le_of_ble_eq_true rfl) kl_0 (fun q0 H hSt => ?_)
  refine lv_dup hx hb kl_3 rfl ?_
  refine kc_call (ws := []) (q := q0) (As := []) (kc_X9 l D cA) hC hSt kY_9 (Or.inl kw_ml_13_54) ⟨Nat.le_of_ble_eq_true rfl, Nat.le_of_ble_eq_true rfl⟩ rfl rfl rfl hl.1 rfl (Nat.le_of_ble_eq_true rfl) kl_4 ⟨Nat.le_of_ble_eq_true rfl, Nat.le_of_ble_eq_true rfl⟩ (fun u0 H locs hSt => ?_)
  refine lv_astore_n hx hb kl_7 rfl hl (Nat.le_of_ble_eq_true rfl) rfl (fun ls hl => ?_)
  have hl : lv_has ls 24 [(1, .ref q0), (0, .ref b)] := hl
  refine kc_new hC hSt 9 (by decide) kw_cl_13_20 kw_in_9 rfl kw_re_9 (Nat.le_of_ble_eq_true rfl) (Nat.le_of_ble_eq_true rfl) kl_8 (fun q1 H hSt => ?_)
  refine lv_dup hx hb kl_11 rfl ?_
  refine kc_call (ws := ([] ++ kh_X9 cA q0 u0)) (q := q1) (As := []) (kc_X9 l D cA) hC hSt kY_9 (Or.inl kw_ml_13_54) ⟨Nat.le_of_ble_eq_true rfl, Nat.le_of_ble_eq_true rfl⟩ rfl rfl rfl hl.1 rfl (Nat.le_of_ble_eq_true rfl) kl_12 ⟨Nat.le_of_ble_eq_true rfl, Nat.le_of_ble_eq_true rfl⟩ (fun u1 H locs hSt => ?_)
  refine lv_astore_n hx hb kl_15 rfl hl (Nat.le_of_ble_eq_true rfl) rfl (fun ls hl => ?_)
  have hl : lv_has ls 24 [(2, .ref q1), (1, .ref q0), (0, .ref b)] := hl
  refine kc_new hC hSt 9 (by decide) kw_cl_13_20 kw_in_9 rfl kw_re_9 (Nat.le_of_ble_eq_true rfl) (Nat.le_of_ble_eq_true rfl) kl_16 (fun q2 H hSt => ?_)
  refine lv_dup hx hb kl_19 rfl ?_
  refine kc_call (ws := (([] ++ kh_X9 cA q0 u0) ++ kh_X9 cA q1 u1)) (q := q2) (As := []) (kc_X9 l D cA) hC hSt kY_9 (Or.inl kw_ml_13_54) ⟨Nat.le_of_ble_eq_true rfl, Nat.le_of_ble_eq_true rfl⟩ rfl rfl rfl hl.1 rfl (Nat.le_of_ble_eq_true rfl) kl_20 ⟨Nat.le_of_ble_eq_true rfl, Nat.le_of_ble_eq_true rfl⟩ (fun u2 H locs hSt => ?_)
  refine lv_astore_n hx hb kl_23 rfl hl (Nat.le_of_ble_eq_true rfl) rfl (fun ls hl => ?_)
  have hl : lv_has ls 24 [(3, .ref q2), (2, .ref q1), (1, .ref q0), (0, .ref b)] := hl
  refine kc_new hC hSt 9 (by decide) kw_cl_13_20 kw_in_9 rfl kw_re_9 (Nat.le_of_ble_eq_true rfl) (Nat.le_of_ble_eq_true rfl) kl_24 (fun q3 H hSt => ?_)
  refine lv_dup hx hb kl_27 rfl ?_
  refine kc_call (ws := ((([] ++ kh_X9 cA q0 u0) ++ kh_X9 cA q1 u1) ++ kh_X9 cA q2 u2)) (q := q3) (As := []) (kc_X9 l D cA) hC hSt kY_9 (Or.inl kw_ml_13_54) ⟨Nat.le_of_ble_eq_true rfl, Nat.le_of_ble_eq_true rfl⟩ rfl rfl rfl hl.1 rfl (Nat.le_of_ble_eq_true rfl) kl_28 ⟨Nat.le_of_ble_eq_true rfl, Nat.le_of_ble_eq_true rfl⟩ (fun u3 H locs hSt => ?_)
  refine lv_astore hx hb kl_31 hl (Nat.le_of_ble_eq_true rfl) rfl (fun ls hl => ?_)
  have hl : lv_has ls 24 [(4, .ref q3), (3, .ref q2), (2, .ref q1), (1, .ref q0), (0, .ref b)] := hl
  refine lv_bipush (v := 20) hx hb kl_33 (by decide) ?_
  refine kc_newa (a0 := (20, .inl (fun _ => 0))) (N' := 20) hC hSt (atype := .int) (ty := .int) rfl 0 rfl kw_ar_int (fun _ => rfl) (by decide) (by decide) (Nat.le_of_ble_eq_true rfl) (Nat.le_of_ble_eq_true rfl) (Nat.le_of_ble_eq_true rfl) kl_35 (fun q4 H hSt => ?_)
  refine lv_astore hx hb kl_37 hl (Nat.le_of_ble_eq_true rfl) rfl (fun ls hl => ?_)
  have hl : lv_has ls 24 [(5, .ref q4), (4, .ref q3), (3, .ref q2), (2, .ref q1), (1, .ref q0), (0, .ref b)] := hl
  refine lv_bipush (v := 24) hx hb kl_39 (by decide) ?_
  refine kc_newa (a0 := (24, .inr (.inl (fun _ => 0)))) (N' := 24) hC hSt (atype := .long) (ty := .long) rfl 1 rfl kw_ar_long (fun _ => rfl) (by decide) (by decide) (Nat.le_of_ble_eq_true rfl) (Nat.le_of_ble_eq_true rfl) (Nat.le_of_ble_eq_true rfl) kl_41 (fun q5 H hSt => ?_)
  refine lv_astore hx hb kl_43 hl (Nat.le_of_ble_eq_true rfl) rfl (fun ls hl => ?_)
  have hl : lv_has ls 24 [(6, .ref q5), (5, .ref q4), (4, .ref q3), (3, .ref q2), (2, .ref q1), (1, .ref q0), (0, .ref b)] := hl
  have hq : ∃ q : Nat → Nat, q 0 = q0 ∧ q 1 = q1 ∧ q 2 = q2 ∧ q 3 = q3 := ⟨fun d => [q0, q1, q2, q3].getD d 0, rfl, rfl, rfl, rfl⟩
  have hu : ∃ u : Nat → kc_S, u 0 = u0 ∧ u 1 = u1 ∧ u 2 = u2 ∧ u 3 = u3 := ⟨fun d => [u0, u1, u2, u3].getD d u0, rfl, rfl, rfl, rfl⟩
  obtain ⟨q, rfl, rfl, rfl, rfl⟩ := hq
  obtain ⟨u, rfl, rfl, rfl, rfl⟩ := hu
  have hSt : kc_St D (fun q => s.heap.size ≤ q) s.heap (k0_W cA q u q4 q5) H locs := hSt
  have hE := k0_world (b := b) (L := L) (xs := xs) hSt (Nat.not_le.mpr hbl) (by omega)
  obtain ⟨n, τ, hn⟩ := k0_law (xs := xs) (L := L) (by omega)
  have hRt : pd_Rt p l e room_1 s m #[Value.ref b] below meth c 922 20660 (lw_Z below #[Value.ref b] s) (k0_AD q u q4 q5 b) D cA xs (fun q => s.heap.size ≤ q) L 89 s.heap (τ, some (pd_i 1)) := by
    intro ins pc lsM H locs hd hend hok hWd hS
    match ins, hend with
    | .ireturn, _ => exact va_forget hS.2.2 (W.widen (k := 600000) (n := 7302250) (Nat.le_of_ble_eq_true rfl) (Nat.le_of_ble_eq_true rfl) (lw_ret hx hb hret hlocks hd))
  have hL24 : lv_has ls 24 (pd_ps (k0_AD q u q4 q5 b) 0 ([some (pd_r 30 922), some (pd_r 9 0), some (pd_r 9 230), some (pd_r 9 460), some (pd_r 9 690), some (pd_r 20 920), some (pd_r 21 921)] ++ List.replicate 17 none)) := lv_sub hl [6, 5, 4, 3, 2, 1, 0] rfl
  refine pd_walk (N := n) (b := b) (r := (τ, some (pd_i 1))) ⟨hx, hb, hml, hown, hW, Nat.le_of_ble_eq_true rfl, Nat.le_of_ble_eq_true rfl, Nat.le_of_ble_eq_true rfl, Nat.le_of_ble_eq_true rfl, hE.1, hX, hbl, by decide, ws_NW hts⟩ pd_TF_ok (fun j _ => pd_con pd_TF_ok hE.1 j) hRt n (Nat.le_refl _) _ rfl hn ls H locs ⟨hL24, fun k v hv => ?_, fun v hv => absurd hv List.not_mem_nil, ⟨hE.2, hK, k0_dy, rfl, rfl⟩, hSt.2.2⟩
  rcases ws_nth hv with ⟨t, o, rfl, h⟩
  exact h
set_option maxHeartbeats 4000000 in
theorem lw_walk (l : Launch) (hflags : l.flags = flags0) (b : Addr) (xs : List Int32) : MetFree l x (headSpec (Jvm.Cond.code x code maxLocals ret :: tables_1) room_1) (lw_P b xs) (fun _ _ _ _ _ => True) lw_Q := by
  refine MetFree.of_bodyS (code := code) (maxLocals := maxLocals) (ret := ret) (by decide) ?_ ?_
  · intro args s m h hn
    obtain ⟨meth, c, h1, h2, h3, h4, h5, h6, -, -⟩ := Cond.code_spec hn (atoms_spec (ws := Jvm.Cond.code x code maxLocals ret :: tables_1) h _ List.mem_cons_self)
    exact ⟨meth, c, h1, h2, h3, h4, h5, h6⟩
  · intro p e s m args below meth c s₁ B hml0 hP _
    obtain ⟨rfl, hx, hbd, hgv⟩ := hP
    obtain ⟨scr, harrAt, hlist, hof, hsmall⟩ := hx
    obtain ⟨hcb, hkn, -, -⟩ := State.arrayAt?_spec harrAt
    have hown : s.vm.findClass R_law = some m.cls := findClass_of_methodNamed B.named
    have hts0 : ∀ c ∈ (Jvm.Cond.code x code maxLocals ret :: tables_1), c.before #[Value.ref b] s = true := atoms_spec (ws := Jvm.Cond.code x code maxLocals ret :: tables_1) B.pre
    have hts : ∀ w ∈ lw_tbl, w.before #[Value.ref b] s = true := k2_hts_sels lw_privs (fun w hw => hts0 w (List.mem_cons_of_mem _ hw)) lw_privs_ok
    have hml : c.maxLocals = 24 := B.maxLocals_eq (hts0 _ List.mem_cons_self)
    have X₀ : Stand p l e room_1 s m #[Value.ref b] below meth c s₁ [] 0 0 := Stand.of_body B
    have hh0 : s₁.heap = s.heap := by rw [B.state]; rfl
    have hsz : scr.slots.size = xs.length := by rw [← Array.length_toList, hlist, List.length_map]
    have hval : ∀ j : Nat, j < xs.length → scr.slots[j]? = some (.int (xs.getD j 0)) := fun j hj => by
      rw [← Array.getElem?_toList, hlist]
      simp [hj]
    have hbl : b < s.heap.size := (Array.getElem?_eq_some_iff.mp hcb).1
    have hX : va_X b xs.length (fun j => xs.getD j 0) s s.heap := ⟨scr, hcb, hof, hkn, hsz, hval⟩
    have K : W p l e room_1 s m #[Value.ref b] below meth c s₁.heap [] 0 0 (lw_Z below #[Value.ref b] s) (entryFrame m ([Value.ref b] : List Value).toArray 24) := by
      rw [hh0]
      exact whole_start l hflags hbd ⟨B.exec, B.bytes, B.returns, hml, hown, hts, hX, hbl, B.notSynchronized, hgv⟩
    obtain ⟨t, a1, o, b1, b2, b3⟩ := K s₁ rfl X₀
    exact ⟨t, o, a1, b1, b2, b3⟩
theorem lw_pre_spec {args : Array Value} {s : State} (h : (Jvm.Cond.and given_1 narrow_1).before args s = true) (hr : rest_1_c.before args s = true) : ∃ (b : Addr) (xs : List Int32), lw_P b xs args s := by
  have hs := flat_of_before _ h
  have hq := flat_of_before _ hr
  have hc : (Cond.count 1).before args s = true := hs _ (by decide +kernel)
  have harr : (Cond.arrayOf (.arg 0) .int).before args s = true := hs _ (by decide +kernel)
  have hle : (Cond.le (.length (.arg 0)) (.int 260)).before args s = true := hs _ (by decide +kernel)
  have hlen : (Cond.isInt (.length (.arg 0))).before args s = true := hq _ (by decide +kernel)
  have hall : (Cond.all (.arg 0) (.isInt (.elem (.arg 0) (.index 0)))).before args s = true := hq _ (by decide +kernel)
  obtain ⟨b, xs, hb, hx⟩ := State.ints_of_pre rfl harr hlen hall
  have hsm : xs.length < 2 ^ 31 := hx.choose_spec.2.2.2
  have hev : (Term.length (.arg 0)).eval args s none [] s = some (.int xs.length.toInt32) := hx.length_eval hb
  have hv := Cond.le_ints hev (show (Term.int 260).eval args s none [] s = some (.int 260) from rfl)
  have hd : xs.length.toInt32 ≤ 260 := by
    simpa [Cond.before, Cond.holds, hv] using hle
  have hN : xs.length ≤ 260 := (Int32.ofNat_le_ofNat hsm (by decide)).mp (show Int32.ofNat xs.length ≤ Int32.ofNat 260 from hd)
  exact ⟨b, xs, Cond.one_arg hc (show args[0]? = some (.ref b) from hb), hx, hN, h⟩
theorem lw_comes (l : Launch) (hflags : l.flags = flags0) : Comes l x (Jvm.Cond.code x code maxLocals ret :: tables_1) room_1 (fun tb e args s => Calls_1 tb e args s ∧ rest_1 tb e args s ∧ Pre_1 tb e args s)
    (fun _ _ args s o t => lw_Q args s o t) := by
  intro p e ha hc hk s m args below hf hfit hheap happ hpre
  obtain ⟨b, xs, hP⟩ := lw_pre_spec hpre.2.2 hpre.2.1
  obtain ⟨k, o, h1, h2, h3, hQ⟩ := lw_walk l hflags b xs p e ha hc hk s m args below hf ((Spec.applies_iff_loose hf).mp happ).1 hP trivial
  exact ⟨k, o, h1, h2, h3, hQ⟩
theorem lw_frame {s t : State} {o : Outcome} {args : Array Value} (h : Framed s o t [] 600000 7302250) :
    Framed s o t (fieldLocs frame_1_writes args s ++ arrayLocs frame_1_arrays args s ++ staticLocs frame_1_statics s) 600000 7302250 := h
theorem lw_limb (L : Cond) (hL : ∀ (args : Array Value) (s t : State), L.after args s (.returned (some (.int 1))) t = true) :
    ArmFor flags0 classFile x code maxLocals ret World_1 tables_1 room_1 Calls_1 rest_1 Pre_1
      (fun tb e a s o t => postC L tb e a s o t ∧ Framed s o t (fieldLocs frame_1_writes a s ++ arrayLocs frame_1_arrays a s ++ staticLocs frame_1_statics s) 600000 7302250) := by
  intro l hflags _ _ p e ha hc hk s m args below hf hfit hheap happ hpre
  obtain ⟨k, o, h1, h2, h3, rfl, hF⟩ := lw_comes l hflags p e ha hc hk s m args below hf hfit hheap happ hpre
  exact ⟨k, _, h1, h2, h3, hL args s _, lw_frame hF⟩
theorem i_vc : Claimed_1_1 ∧ Claimed_1_2 := ⟨lw_limb limb_1_1 (fun args s t => by simp [limb_1_1, Cond.after, Cond.holds, Cond.value]), lw_limb limb_1_2 (fun args s t => Cond.after_iff.mpr (by
  first | (rw [show limb_1_2 = Cond.eq .result (.int 1) from rfl, Cond.eq_ints (x := 1) (y := 1) rfl rfl]; simp; done) | (simp [limb_1_2, Cond.value, Term.eval]; done)))⟩
