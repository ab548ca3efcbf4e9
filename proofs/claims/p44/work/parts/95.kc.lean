/-! The constructors: what holds all through, a step each. -/
def kc_CL : List (Nat × Nat × MethodName) := [(0, 25, yX1_init), (9, 25, yX7_init), (7, 17, yX1_init), (9, 32, yX3_init), (9, 39, yX6_init), (9, 46, yX4_init), (2, 11, yX4_init)]
/-- links to nest mates' constructors; rows of objects -/
def kc_NW (U : State) : Prop := (∀ e ∈ kc_CL, va_Nw (.methodLinkNest (pd_cn e.1) e.2.1 e.2.2 RX9) U) ∧ va_AO RX1 U ∧ va_AO RX4 U
theorem kc_NW.warm {s U : State} (hW : s.WarmedH U.vm) (h : kc_NW s) : kc_NW U := ⟨fun e he => va_Nw.warmM hW (h.1 e he), va_AO.moved hW.alike h.2.1, va_AO.moved hW.alike h.2.2⟩
theorem kc_NW.same {U V : State} (hv : U.vm = V.vm) (h : kc_NW U) : kc_NW V := ⟨fun e he => va_Nw.same rfl hv (h.1 e he), va_AO.moved (by rw [hv]; exact Vm.Alike.refl _) h.2.1, va_AO.moved (by rw [hv]; exact Vm.Alike.refl _) h.2.2⟩
/-- a new object's fields -/
def kc_fs (t : Nat) : List Value := (List.range (pd_nf t)).map fun j => defaultValue (pd_tyk t j)
theorem kc_fs_at {t j : Nat} (h : j < pd_nf t) : defaultValue (pd_tyk t j) = vp_V (kc_fs t) j := by
  unfold vp_V kc_fs
  rw [List.getD_eq_getElem?_getD, List.getElem?_map, List.getElem?_range h]
  rfl
theorem kc_fs_len (t : Nat) : (kc_fs t).length = pd_nf t := by simp [kc_fs]
abbrev kc_S : Type := (Nat → Nat) × (Nat → Nat)
/-- a constructor's words -/
def kc_Y (t : Nat) (y : MethodName) (cy : ByteArray) (ml n : Nat) : Prop := Jvm.Cond.code y cy ml none ∈ pd_W ∧ Jvm.Cond.initialized y.cls ∈ pd_W ∧ Jvm.Cond.instanceMethod y ∈ pd_W ∧ y.name = "<init>" ∧ plainFor y = true ∧ y.cls = pd_cn t ∧ (y.cls ≠ "java/lang/invoke/MethodHandle" ∧ y.cls ≠ "java/lang/invoke/VarHandle") ∧ (parseMethodDescriptor y.desc).map (fun d => d.parameters.length) = some n
/-- a constructor's contract: what it makes, by its shape -/
def kc_Met (l : Launch) (D : va_G) (cA : Nat → ClassId) (t : Nat) (y : MethodName) (cy : ByteArray) (ml : Nat) (rm : Room) (As : List Value) (shape : Nat → kc_S → va_W) (mc ms : Nat) : Prop :=
  ∀ h0 sz : Nat, Met l y (Jvm.Cond.code y cy ml none :: pd_W) rm (va_Pc (.ref h0 :: As) (fun U => U.heap.size = sz ∧ va_P D vwCl [(h0, .inr (t, kc_fs t))] U.heap ∧ va_K D vwCl (pd_tys cA) U ∧ kc_NW U)) (va_Qv (fun _ : kc_S => True) (fun u U => va_P D vwCl (shape h0 u) U.heap ∧ va_D (va_A [(h0, .inr (t, kc_fs t))] sz) (shape h0 u)) (va_A [(h0, .inr (t, kc_fs t))] sz)) mc ms (va_A [(h0, .inr (t, kc_fs t))] sz)
def kc_Cx (p : Program) (s : State) (m : MethodId) (args : Array Value) (c : Code) (cc : ByteArray) (ml t : Nat) (D : va_G) (cA : Nat → ClassId) (A : Nat → Prop) (H0 : Heap) : Prop :=
  p.tables.exec = Jvm.exec ∧ c.code = cc ∧ c.maxLocals = ml ∧ s.vm.findClass (pd_cn t) = some m.cls ∧ (∀ w ∈ pd_W, w.before args s = true) ∧ va_K D vwCl (pd_tys cA) s ∧ (∀ q, H0.size ≤ q → A q) ∧ kc_NW s
def kc_St (D : va_G) (A : Nat → Prop) (H0 : Heap) (ws : va_W) (H : Heap) (locs : List Loc) : Prop := va_P D vwCl ws H ∧ va_D A ws ∧ va_S A H0 H locs
theorem kc_one {A : Nat → Prop} {x : Nat × va_E} (h : A x.1) : va_D A [x] := by
  refine ⟨fun i j p q hi hj _ => ?_, fun k q hk => ?_⟩
  · have h1 : i < 1 := (List.getElem?_eq_some_iff.mp hi).1
    have h2 : j < 1 := (List.getElem?_eq_some_iff.mp hj).1
    omega
  · have h1 : k < 1 := (List.getElem?_eq_some_iff.mp hk).1
    rw [show k = 0 by omega] at hk
    cases hk
    exact h
theorem kc_RA {U : State} {a b : ClassId} {ty : FieldType} (h : va_RA U a ty) (g : va_RA U b ty) : a = b := by
  cases ty with
  | object C =>
    obtain ⟨_, _, -, -, -, h4⟩ := h
    obtain ⟨_, _, -, -, -, g4⟩ := g
    exact Option.some.inj (h4.symm.trans g4)
  | _ => exact Option.some.inj ((show U.vm.findClass _ = some a from h).symm.trans g)
/-- behind a call: the caller's cells, and the callee's -/
theorem kc_join {A0 : Nat → Prop} {D : va_G} {cl : List vw_C} {ws w1 : va_W} {x : Nat × va_E} {H H1 : Heap} (hP : va_P D cl (ws ++ [x]) H) (hD : va_D A0 (ws ++ [x])) (hk : ∀ q : Nat, q < H.size → ¬ va_A [x] H.size q → H1[q]? = H[q]?) (hF : ∀ q, va_A [x] H.size q → A0 q) (hP1 : va_P D cl w1 H1) (hD1 : va_D (va_A [x] H.size) w1) : va_P D cl (ws ++ w1) H1 ∧ va_D A0 (ws ++ w1) := by
  have hl : ∀ (k : Nat) (q : Nat × va_E), ws[k]? = some q → (ws ++ [x])[k]? = some q := fun k q h => by
    rw [List.getElem?_append_left (List.getElem?_eq_some_iff.mp h).1]; exact h
  have hx : (ws ++ [x])[ws.length]? = some x := by simp
  have apart : ∀ (k : Nat) (q : Nat × va_E), ws[k]? = some q → q.1 < H.size ∧ ¬ va_A [x] H.size q.1 := by
    intro k q hq
    have h1 := (hP k q (hl k q hq)).lt
    refine ⟨h1, fun h => ?_⟩
    rcases h with ⟨k2, e, h⟩ | h
    · have h2 : k2 < 1 := (List.getElem?_eq_some_iff.mp h).1
      rw [show k2 = 0 by omega] at h
      have h : some x = some (q.1, e) := h
      cases h
      have := hD.1 k ws.length q _ (hl k q hq) hx rfl
      have := (List.getElem?_eq_some_iff.mp hq).1
      omega
    · omega
  refine ⟨va_P.app (fun k q hq => ?_) hP1, va_D.app ⟨fun i j p q hp hq e => hD.1 i j p q (hl i p hp) (hl j q hq) e, fun k q hk => hD.2 k q (hl k q hk)⟩ (hD1.weaken (fun k q _ h => hF q.1 h)) (fun i j a b ha hb hab => ?_)⟩
  · obtain ⟨g1, g2⟩ := apart k q hq
    exact (hP k q (hl k q hq)).kept (hk q.1 g1 g2)
  · exact (apart i a ha).2 (by rw [hab]; exact hD1.2 j b hb)
section KC
variable {p : Program} {l : Launch} {e : Env} {R : Room} {s : State} {m : MethodId} {args : Array Value} {below : List Frame} {meth : Method} {c : Code} {H : Heap} {locs : List Loc} {cells slots : Nat} {Q : State → Prop}
variable {cc : ByteArray} {pc : Nat} {ls : Array Slot} {rest : List Value} {D : va_G} {cA : Nat → ClassId} {A : Nat → Prop} {a ml t : Nat} {ws w : va_W} {H0 : Heap} {fs : List Value}
theorem kc_put (h : kc_Cx p s m args c cc ml t D cA A H0) (hin : meth.name = "<init>") (hS : kc_St D A H0 ((a, .inr (t, fs)) :: w) H locs) (ht : t < 10) {idx k plc : Nat} (hf : (t, idx, t, k, plc) ∈ pd_FL) (hk : k < pd_nf t) {v : Value} (hn : narrow (pd_tyk t k) v = v) (hv : fits (pd_tyk t k) v = true) (hl : k < fs.length) {fs' : List Value} (hfs : fs.set k v = fs') (hdg : decode cc pc = .ok (.putfield idx, 3))
    (kk : ∀ (H1 : Heap) (locs1 : List Loc), kc_St D A H0 ((a, .inr (t, fs')) :: w) H1 locs1 → W p l e R s m args below meth c H1 locs1 cells slots Q (F0 m (pc + 3) ls rest)) : W p l e R s m args below meth c H locs cells slots Q (F0 m pc ls (v :: .ref a :: rest)) := by
  obtain ⟨hx, hb, hml, hown, hts, hK, hA, hNW⟩ := h
  obtain ⟨hP, hD, hSS⟩ := hS
  subst hfs
  have hL := hts _ (pd_TF_ok.2.2.1 _ hf)
  have hsame : ∀ x, s.fieldFound? ((vwCl.getD t (RL, TX0, 0)).2.1 k).1 ((vwCl.getD t (RL, TX0, 0)).2.1 k).2.1 ((vwCl.getD t (RL, TX0, 0)).2.1 k).2.2.1 = some x → s.fieldFound? (pd_cn t) ((vwCl.getD t (RL, TX0, 0)).2.1 k).2.1 ((vwCl.getD t (RL, TX0, 0)).2.1 k).2.2.1 = some x := fun x hx => by
    rw [pd_cn_own t ht k hk] at hx; exact hx
  cases hfin : ((vwCl.getD t (RL, TX0, 0)).2.1 k).2.2.2 with
  | false => exact va_put hx hb hts (pd_TF_ok.2.2.2.2.2.2 t ht) (pd_tyk t) (pd_tyk_ok ht) (pd_nmk_ok ht) hown hK hP hD hSS 0 rfl (pd_cls_at ht) k hk hL hsame hfin (pd_tyk_ok ht k hk) hn hv hl hdg (fun H1 locs1 q1 q2 q3 => kk H1 locs1 ⟨q1, q2, q3⟩)
  | true => exact va_putF hx hb hts (pd_TF_ok.2.2.2.2.2.2 t ht) (pd_tyk t) (pd_tyk_ok ht) (pd_nmk_ok ht) hown hK hP hD hSS 0 rfl (pd_cls_at ht) k hk hL hsame hfin hin (pd_cn_own t ht k hk) (pd_tyk_ok ht k hk) hn hv hl hdg (fun H1 locs1 q1 q2 q3 => kk H1 locs1 ⟨q1, q2, q3⟩)
theorem kc_get (h : kc_Cx p s m args c cc ml t D cA A H0) (hS : kc_St D A H0 ws H locs) (ht : t < 10) {idx k plc : Nat} (hf : (t, idx, t, k, plc) ∈ pd_FL) (hk : k < pd_nf t) {v : Value} (he : ws[0]? = some (a, .inr (t, fs))) (hv : fs[k]? = some v) (hdg : decode cc pc = .ok (.getfield idx, 3))
    (kk : W p l e R s m args below meth c H locs cells slots Q (F0 m (pc + 3) ls (v :: rest))) : W p l e R s m args below meth c H locs cells slots Q (F0 m pc ls (.ref a :: rest)) := by
  obtain ⟨hx, hb, hml, hown, hts, hK, hA, hNW⟩ := h
  have hsame : ∀ x, s.fieldFound? ((vwCl.getD t (RL, TX0, 0)).2.1 k).1 ((vwCl.getD t (RL, TX0, 0)).2.1 k).2.1 ((vwCl.getD t (RL, TX0, 0)).2.1 k).2.2.1 = some x → s.fieldFound? (pd_cn t) ((vwCl.getD t (RL, TX0, 0)).2.1 k).2.1 ((vwCl.getD t (RL, TX0, 0)).2.1 k).2.2.1 = some x := fun x hx => by
    rw [pd_cn_own t ht k hk] at hx; exact hx
  exact va_get hx hb hts (pd_TF_ok.2.2.2.2.2.2 t ht) hown hK hS.1 0 he (pd_cls_at ht) k hk (hts _ (pd_TF_ok.2.2.1 _ hf)) hsame hv hdg kk
theorem kc_newa (h : kc_Cx p s m args c cc ml t D cA A H0) (hS : kc_St D A H0 ws H locs) {atype : ArrayType} {ty : FieldType} (hty : newarray.typeOf atype = ty) (t0 : Nat) {cAt : ClassId} (ht0 : (pd_tys cA)[t0]? = some (cAt, ty)) (harr : Jvm.Cond.arrayClass (newarray.typeOf atype) ∈ pd_W) {n : Int32} {N' : Nat} {a0 : vp_A} (ha : ∀ cA : ClassId, vp_cell cA a0 = arrV cA N' (fun _ => defaultValue ty)) (hn : ¬ n < 0) (hN : n.toNatClampNeg = N') (hbytes : N' * componentBytes ty ≤ 536870912) (hcells : cells + 1 ≤ R.cells) (hslots : slots + N' ≤ R.slots) (hdg : decode cc pc = .ok (.newarray atype, 2))
    (kk : ∀ (q : Nat) (H1 : Heap), kc_St D A H0 (ws ++ [(q, .inl (cAt, a0))]) H1 locs → W p l e R s m args below meth c H1 locs (cells + 1) (slots + N') Q (F0 m (pc + 2) ls (.ref q :: rest))) : W p l e R s m args below meth c H locs cells slots Q (F0 m pc ls (.int n :: rest)) := by
  obtain ⟨hx, hb, hml, hown, hts, hK, hA, hNW⟩ := h
  refine va_newa hx hb (hts _ harr) hty hK hS.1 hS.2.1 hS.2.2 hA ha hn hN hbytes hcells hslots hdg (fun q cA' H1 hK' hP' hD' hS' => ?_)
  have e : cA' = cAt := kc_RA (hK'.2 5 (cA', ty) rfl).2 (hK.2 t0 _ ht0).2
  subst e
  exact kk q H1 ⟨hP', hD', hS'⟩
theorem kc_newq (h : kc_Cx p s m args c cc ml t D cA A H0) (hS : kc_St D A H0 ws H locs) {C : String} {index : Nat} (hcl : Jvm.Cond.classLink (pd_cn t) index C ∈ pd_W) (hov : va_AO C s) (t0 : Nat) {cAt : ClassId} (ht0 : (pd_tys cA)[t0]? = some (cAt, .object C)) {n : Int32} {N' : Nat} (hn : ¬ n < 0) (hN : n.toNatClampNeg = N') (hbytes : N' * 4 ≤ 536870912) (hcells : cells + 1 ≤ R.cells) (hslots : slots + N' ≤ R.slots) (hdg : decode cc pc = .ok (.anewarray index, 3))
    (kk : ∀ (q : Nat) (H1 : Heap), kc_St D A H0 (ws ++ [(q, .inl (cAt, N', .inr (.inr (.inr (.inr (fun _ => none))))))]) H1 locs → W p l e R s m args below meth c H1 locs (cells + 1) (slots + N') Q (F0 m (pc + 3) ls (.ref q :: rest))) : W p l e R s m args below meth c H locs cells slots Q (F0 m pc ls (.int n :: rest)) := by
  obtain ⟨hx, hb, hml, hown, hts, hK, hA, hNW⟩ := h
  refine va_newq hx hb hown (hts _ hcl) hov hK hS.1 hS.2.1 hS.2.2 hA hn hN hbytes hcells hslots hdg (fun q cA' H1 hK' hP' hD' hS' => ?_)
  have e : cA' = cAt := kc_RA (hK'.2 5 (cA', .object C) rfl).2 (hK.2 t0 _ ht0).2
  subst e
  exact kk q H1 ⟨hP', hD', hS'⟩
theorem kc_new (h : kc_Cx p s m args c cc ml t D cA A H0) (hS : kc_St D A H0 ws H locs) (t' : Nat) (ht : t' < 10) {index N : Nat} (hcl : Jvm.Cond.classLink (pd_cn t) index (pd_cn t') ∈ pd_W) (hinst : Jvm.Cond.instantiable (pd_cn t') N ∈ pd_W) (hN : pd_nf t' = N) (hini : Jvm.Cond.initialized (pd_cn t') ∈ pd_W) (hcells : cells + 1 ≤ R.cells) (hslots : slots + N ≤ R.slots) (hdg : decode cc pc = .ok (.new index, 3))
    (kk : ∀ (q : Nat) (H1 : Heap), kc_St D A H0 (ws ++ [(q, .inr (t', kc_fs t'))]) H1 locs → W p l e R s m args below meth c H1 locs (cells + 1) (slots + N) Q (F0 m (pc + 3) ls (.ref q :: rest))) : W p l e R s m args below meth c H locs cells slots Q (F0 m pc ls rest) := by
  obtain ⟨hx, hb, hml, hown, hts, hK, hA, hNW⟩ := h
  subst hN
  exact va_new hx hb hts (pd_TF_ok.2.2.2.2.2.2 t' ht) (pd_tyk t') (pd_tyk_ok ht) hown (hts _ hcl) (hts _ hinst) (hts _ hini) hK hS.1 hS.2.1 hS.2.2 hA (pd_cls_at ht) (fs := kc_fs t') (fun j hj => kc_fs_at hj) hcells hslots hdg (fun q H1 q1 q2 q3 => kk q H1 ⟨q1, q2, q3⟩)
theorem kc_good {w : Jvm.Cond} (h : w ∈ pd_W) : GoodIn pd_W (w :: pd_W) := by
  have g : ∀ w ∈ pd_W, w ∈ pd_W ∧ ((w.onTables && w.keeps) = true ∨ ∃ ty, w = .arrayClass ty) := fun w hw => ⟨hw, good_of_word (List.mem_filter.mp hw).2⟩
  intro x hx
  rcases List.mem_cons.mp hx with rfl | hx
  · exact g _ h
  · exact g _ hx
theorem kc_call {t' : Nat} {y : MethodName} {cy : ByteArray} {mly n : Nat} {rm : Room} {As : List Value} {shape : Nat → kc_S → va_W} {mc ms q : Nat} (hM : kc_Met l D cA t' y cy mly rm As shape mc ms) (h : kc_Cx p s m args c cc ml t D cA A H0) (hS : kc_St D A H0 (ws ++ [(q, .inr (t', kc_fs t'))]) H locs) (hy : kc_Y t' y cy mly n) {idx : Nat} (hlk : Jvm.Cond.methodLink (pd_cn t) idx y ∈ pd_W ∨ (t, idx, y) ∈ kc_CL) (hR : rm.frames + 1 ≤ R.frames ∧ 8 + (mly + 11) + rm.locals ≤ R.locals) (hrc : rm.cells = mc) (hrs : rm.slots = ms) (hnA : As.length = n) (hlm : ls.size = ml) {st : List Value} (hst : st = As.reverse ++ .ref q :: rest) (hsum : (rest.map fun v => v.category).sum ≤ 8) (hdg : decode cc pc = .ok (.invokespecial idx, 3)) (hfit : cells + mc ≤ R.cells ∧ slots + ms ≤ R.slots)
    (kk : ∀ (u : kc_S) (H1 : Heap) (locs1 : List Loc), kc_St D A H0 (ws ++ shape q u) H1 locs1 → W p l e R s m args below meth c H1 locs1 (cells + mc) (slots + ms) Q (F0 m (pc + 3) ls rest)) : W p l e R s m args below meth c H locs cells slots Q (F0 m pc ls st) := by
  obtain ⟨hx, hb, hml, hown, hts, hK, hA, hNW⟩ := h
  obtain ⟨hP, hD, hSS⟩ := hS
  have hq : (ws ++ [(q, (.inr (t', kc_fs t') : va_E))])[ws.length]? = some (q, .inr (t', kc_fs t')) := by simp
  have hP1 : va_P D vwCl [(q, .inr (t', kc_fs t'))] H := fun k x hk => by
    have h1 : k < 1 := (List.getElem?_eq_some_iff.mp hk).1
    rw [show k = 0 by omega] at hk
    cases hk
    exact hP _ _ hq
  have hF : ∀ z, va_A [(q, .inr (t', kc_fs t'))] H.size z → A z := fun z hz => by
    rcases hz with ⟨k, x, hk⟩ | hz
    · have h1 : k < 1 := (List.getElem?_eq_some_iff.mp hk).1
      rw [show k = 0 by omega] at hk
      cases hk
      exact hD.2 _ _ hq
    · exact hA z (Nat.le_trans hSS.1 hz)
  have hpre : PreS s H (va_Pc (.ref q :: As) (fun U => U.heap.size = H.size ∧ va_P D vwCl [(q, .inr (t', kc_fs t'))] U.heap ∧ va_K D vwCl (pd_tys cA) U ∧ kc_NW U)) (.ref q :: As) :=
    ⟨fun a U g mk z => by obtain ⟨z0, z1, zP, zK, zN⟩ := z; exact ⟨z0, z1, zP, va_K.moved (u := U) (U := U.calling g mk a) (Vm.Alike.refl U.vm) zK, kc_NW.same (U := U) (V := U.calling g mk a) rfl zN⟩, fun U hU hW => ⟨rfl, by rw [hU], by rw [hU]; exact hP1, va_K.moved hW.alike hK, kc_NW.warm hW hNW⟩⟩
  have hend : ∀ (u : kc_S) (t1 : State) (H1 : Heap) (locs1 : List Loc), t1.heap = H1 → (va_P D vwCl (shape q u) t1.heap ∧ va_D (va_A [(q, .inr (t', kc_fs t'))] H.size) (shape q u)) → (∀ z : Nat, z < H.size → ¬ va_A [(q, .inr (t', kc_fs t'))] H.size z → H1[z]? = H[z]?) → va_S A H0 H1 locs1 → W p l e R s m args below meth c H1 locs1 (cells + mc) (slots + ms) Q (F0 m (pc + 3) ls rest) := fun u t1 H1 locs1 ht hB hk1 hS1 => by
    obtain ⟨hB1, hB2⟩ := hB
    rw [ht] at hB1
    have hj := kc_join hP hD hk1 hF hB1 hB2
    exact kk u H1 locs1 ⟨hj.1, hj.2, hS1⟩
  rcases hlk with hlk | hlk
  · exact va_callv (va_runI (Ts := pd_W) (nL := ml) ⟨hx, hb, hml, hown, hts⟩ (hM q H.size) ⟨callB_of n hts (kc_good hy.1) rfl hrc hrs (hts _ hy.2.1) (hts _ hlk) ⟨hy.2.2.2.2.2.2.1.1, hy.2.2.2.2.2.2.1.2, hy.2.2.2.2.2.2.2⟩ hR, hy.2.2.2.1, hts _ hy.2.2.1⟩ hpre rfl hnA hlm hst (lv_room hsum) hdg hfit) hSS (fun z _ h => hF z h) hF (fun u t1 H1 locs1 ht hvm _ hB hz1 hk1 hS1 => hend u t1 H1 locs1 ht hB hk1 hS1)
  · exact va_callv (va_runIN (Ts := pd_W) (nL := ml) (host := RX9) ⟨hx, hb, hml, hown, hts⟩ (hM q H.size) ⟨va_cnB n hts (kc_good hy.1) rfl hrc hrs (hNW.1 _ hlk) (hts _ hy.2.1) ⟨hy.2.2.2.2.2.2.1.1, hy.2.2.2.2.2.2.1.2, hy.2.2.2.2.2.2.2⟩ hR, hy.2.2.2.1, hts _ hy.2.2.1⟩ hpre rfl hnA hlm hst (lv_room hsum) hdg hfit) hSS (fun z _ h => hF z h) hF (fun u t1 H1 locs1 ht hvm _ hB hz1 hk1 hS1 => hend u t1 H1 locs1 ht hB hk1 hS1)
end KC
theorem kc_of {l : Launch} {D : va_G} {cA : Nat → ClassId} {t : Nat} {y : MethodName} {cy : ByteArray} {ml n : Nat} {rm : Room} {As : List Value} {shape : Nat → kc_S → va_W} {mc ms oi : Nat} (hy : kc_Y t y cy ml n) (hobj : Jvm.Cond.methodLink (pd_cn t) oi objectInit ∈ pd_W) (ho1 : Jvm.Cond.instanceMethod objectInit ∈ pd_W) (ho2 : Jvm.Cond.code objectInit ⟨#[0xb1]⟩ 1 none ∈ pd_W) (hd0 : decode cy 0 = .ok (.aload_n 0, 1)) (hd1 : decode cy 1 = .ok (.invokespecial oi, 3)) (hfr : 1 ≤ rm.frames) (hlo : 12 ≤ rm.locals) (hml0 : ∀ h0, (lg_sl (.ref h0 :: As)).length ≤ ml)
    (body : ∀ (p : Program) (e : Env) (s : State) (m : MethodId) (args : Array Value) (below : List Frame) (meth : Method) (c : Code) (h0 : Nat) (A : Nat → Prop) (Q : State → Prop) (ls : Array Slot), kc_Cx p s m args c cy ml t D cA A s.heap → meth.name = "<init>" → kc_St D A s.heap [(h0, .inr (t, kc_fs t))] s.heap [] → lv_has ls ml (lv_args 0 (.ref h0 :: As)) →
      (∀ (pc : Nat) (ls : Array Slot) (H : Heap) (locs : List Loc) (u : kc_S), decode cy pc = .ok (.return_, 1) → kc_St D A s.heap (shape h0 u) H locs → W p l e rm s m args below meth c H locs mc ms Q (F0 m pc ls [])) → W p l e rm s m args below meth c s.heap [] 0 0 Q (F0 m 4 ls [])) : kc_Met l D cA t y cy ml rm As shape mc ms := by
  intro h0 sz
  refine pd_ofW (cc := cy) (maxL := ml) (ret := none) hy.2.2.2.2.1 rfl ?_
  intro p e s m args below meth c s₁ B hml hv
  obtain ⟨rfl, hsz, hP, hK, hNW⟩ := hv
  have hts : ∀ w ∈ pd_W, w.before (.ref h0 :: As).toArray s = true := fun w hw => atoms_spec (ws := Jvm.Cond.code y cy ml none :: pd_W) B.pre w (List.mem_cons_of_mem _ hw)
  have hown : s.vm.findClass (pd_cn t) = some m.cls := by rw [← hy.2.2.2.2.2.1]; exact findClass_of_methodNamed B.named
  have hin : meth.name = "<init>" := by rw [← hy.2.2.2.1]; exact (name_of_methodNamed B.named B.method).1
  have hlocks := B.notSynchronized
  subst hsz
  have hD0 : va_D (fun _ => True) [(h0, (.inr (t, kc_fs t) : va_E))] := kc_one trivial
  have hD : va_D (va_A [(h0, .inr (t, kc_fs t))] s.heap.size) [(h0, .inr (t, kc_fs t))] := hD0.self
  have hA : ∀ q : Nat, s.heap.size ≤ q → va_A [(h0, .inr (t, kc_fs t))] s.heap.size q := fun q h => Or.inr h
  have hl := lv_entry (.ref h0 :: As) (hml0 h0)
  rw [lg_entry_eq]
  generalize (lg_sl (.ref h0 :: As) ++ List.replicate (ml - (lg_sl (.ref h0 :: As)).length) Slot.unset).toArray = ls at hl ⊢
  refine lv_aload_n B.exec B.bytes hd0 rfl (lv_at hl 0 rfl) ?_
  refine W.objInit B.exec B.bytes hown (hts _ hobj) (hts _ ho1) (hts _ ho2) rfl (by rw [hml]; exact hl.1) rfl hd1 hfr hlo ?_
  refine W.eq (g2 := F0 m 4 ls []) rfl ?_
  refine body p e s m _ below meth c h0 _ _ ls ⟨B.exec, B.bytes, hml, hown, hts, hK, hA, hNW⟩ hin ⟨hP, hD, va_S.rf⟩ hl (fun pc ls H locs u hd hSt => ?_)
  exact W.vret B.exec B.bytes B.returns (fun t1 ht hW => ⟨⟨u, rfl, trivial, by rw [ht]; exact hSt.1, hSt.2.1⟩, hSt.2.2.F ht⟩) hSt.2.2.2.2 hd hlocks
