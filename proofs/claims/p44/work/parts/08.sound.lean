/-! The machine follows the abstract machine. -/
def pd_W : List Jvm.Cond := lw_tbl.filter goodWord
theorem pd_W_in {w : Jvm.Cond} (h : w ∈ lw_tbl) (g : goodWord w = true) : w ∈ pd_W := List.mem_filter.mpr ⟨h, g⟩
theorem pd_W_tab {i : Nat} {w : Jvm.Cond} (h : tables_1[i]? = some w) (g : goodWord w = true) : w ∈ pd_W := pd_W_in (List.mem_append_right _ (List.mem_of_getElem? h)) g
def pd_wd (k : Nat) : List Jvm.Cond := Jvm.Cond.code (pd_y k) (pd_b k) (pd_ml k) (pd_rt k) :: pd_W
def pd_rm (k : Nat) : Room := { frames := pd_fr k, cells := 0, slots := 0, locals := pd_lo k }
/-- all that the tables say of a call of k -/
def pd_CW (k : Nat) : Prop := Jvm.Cond.code (pd_y k) (pd_b k) (pd_ml k) (pd_rt k) ∈ pd_W ∧ (cond (Nat.beq (pd_mt k).1 1) (Jvm.Cond.static (pd_y k)) (Jvm.Cond.instanceMethod (pd_y k))) ∈ pd_W ∧ ((pd_mt k).1 = 0 → Jvm.Cond.selects (pd_y k).cls (pd_y k) (pd_y k) ∈ pd_W) ∧ Jvm.Cond.initialized (pd_y k).cls ∈ pd_W ∧ (pd_y k).cls = pd_cn (pd_oc k) ∧ plainFor (pd_y k) = true ∧ ((pd_y k).cls ≠ "java/lang/invoke/MethodHandle" ∧ (pd_y k).cls ≠ "java/lang/invoke/VarHandle") ∧ (parseMethodDescriptor (pd_y k).desc).map (fun d => d.parameters.length) = some (pd_pn k)
/-- the links to nest mates' methods hold -/
def pd_NW (U : State) : Prop := ∀ e ∈ pd_CL, e.2.2.2.1 = 1 → va_Nw (.methodLinkNest (pd_cn e.1) e.2.1 (pd_y e.2.2.1) RX9) U
theorem pd_NW.warm {s U : State} (hW : s.WarmedH U.vm) (h : pd_NW s) : pd_NW U := fun e he h1 => va_Nw.warmM hW (h e he h1)
theorem pd_NW.same {s U : State} (hv : s.vm = U.vm) (h : pd_NW s) : pd_NW U := fun e he h1 => va_Nw.same rfl hv (h e he h1)
/-- the facts by tables -/
def pd_TF : Prop := (∀ m i op, m < 90 → pd_cd m i = some op → pd_ck m i op = true) ∧ (∀ k, k < 89 → pd_CW k) ∧
  (∀ e ∈ pd_FL, Jvm.Cond.fieldLink (pd_cn e.1) e.2.1 (pd_cn e.2.2.1) ((vwCl.getD e.2.2.1 (RL, TX0, 0)).2.1 e.2.2.2.1).2.1 ((vwCl.getD e.2.2.1 (RL, TX0, 0)).2.1 e.2.2.2.1).2.2.1 ∈ pd_W) ∧
  (∀ e ∈ pd_CI, Jvm.Cond.constant (pd_cn e.1) e.2.1 e.2.2.1 ∈ pd_W) ∧ (∀ e ∈ pd_CJ, Jvm.Cond.constantLong (pd_cn e.1) e.2.1 e.2.2.1 ∈ pd_W) ∧
  (∀ e ∈ pd_CL, e.2.2.2.1 = 0 → Jvm.Cond.methodLink (pd_cn e.1) e.2.1 (pd_y e.2.2.1) ∈ pd_W) ∧
  (∀ t, t < 10 → ∀ w ∈ u_ws (pd_cn t) ((vwCl.getD t (RL, TX0, 0)).2.1) (pd_nf t), w ∈ pd_W)
/-- a class by its tag -/
theorem pd_cls_at {t : Nat} (h : t < 10) : vwCl[t]? = some (pd_cn t, (vwCl.getD t (RL, TX0, 0)).2.1, pd_nf t) := by
  match t, h with
  | 0, _ => rfl | 1, _ => rfl | 2, _ => rfl | 3, _ => rfl | 4, _ => rfl | 5, _ => rfl | 6, _ => rfl | 7, _ => rfl | 8, _ => rfl | 9, _ => rfl
def pd_tyk (t : Nat) : Nat → FieldType := [tyX0, tyX1, tyX2, tyX3, tyX4, tyX5, tyX6, tyX7, tyX8, tyX9].getD t tyX0
theorem pd_tyk_ok {t : Nat} (h : t < 10) : ∀ k, k < pd_nf t → parseFieldDescriptor ((vwCl.getD t (RL, TX0, 0)).2.1 k).2.2.1 = some (pd_tyk t k) := by
  match t, h with
  | 0, _ => exact tyX0_ok | 1, _ => exact tyX1_ok | 2, _ => exact tyX2_ok | 3, _ => exact tyX3_ok | 4, _ => exact tyX4_ok | 5, _ => exact tyX5_ok | 6, _ => exact tyX6_ok | 7, _ => exact tyX7_ok | 8, _ => exact tyX8_ok | 9, _ => exact tyX9_ok
theorem pd_nmk_ok {t : Nat} (h : t < 10) : ∀ a, a < pd_nf t → ∀ b, b < pd_nf t → a ≠ b → ((vwCl.getD t (RL, TX0, 0)).2.1 a).2.1 ≠ ((vwCl.getD t (RL, TX0, 0)).2.1 b).2.1 := by
  match t, h with
  | 0, _ => exact nmX0 | 1, _ => exact nmX1 | 2, _ => exact nmX2 | 3, _ => exact nmX3 | 4, _ => exact nmX4 | 5, _ => exact nmX5 | 6, _ => exact nmX6 | 7, _ => exact nmX7 | 8, _ => exact nmX8 | 9, _ => exact nmX9
theorem pd_cn_own : ∀ t, t < 10 → ∀ k, k < pd_nf t → ((vwCl.getD t (RL, TX0, 0)).2.1 k).1 = pd_cn t := by decide +kernel
/-- contracts -/
def pd_Pc (ad : Nat → Nat) (D : va_G) (cA : Nat → ClassId) (xs : Nat → Int32) (b L : Nat) (av : List pd_V) (σ : pd_H) : Array Value → State → Prop := fun v U => v = (av.map (pd_cv ad)).toArray ∧ pd_Wd ad D cA xs L σ U U.heap ∧ va_X b L xs U U.heap ∧ b < U.heap.size ∧ pd_NW U
def pd_Qc (ad : Nat → Nat) (D : va_G) (cA : Nat → ClassId) (xs : Nat → Int32) (A : Nat → Prop) (L : Nat) (r : pd_R) : Array Value → State → Outcome → State → Prop := fun _ st oc t => oc = .returned (r.2.map (pd_cv ad)) ∧ (∀ v, r.2 = some v → pd_okv v) ∧ pd_Wd ad D cA xs L r.1 t t.heap ∧ va_F A st t
theorem pd_Wd.moved {ad : Nat → Nat} {D : va_G} {cA : Nat → ClassId} {xs : Nat → Int32} {L : Nat} {σ : pd_H} {u U : State} {H : Heap} (hvm : u.vm.Alike U.vm) (h : pd_Wd ad D cA xs L σ u H) : pd_Wd ad D cA xs L σ U H := ⟨h.1, va_K.moved hvm h.2.1, h.2.2⟩
theorem pd_Pc_blind {ad : Nat → Nat} {D : va_G} {cA : Nat → ClassId} {xs : Nat → Int32} {b L : Nat} {av : List pd_V} {σ : pd_H} : FrameBlind (pd_Pc ad D cA xs b L av σ) := by
  intro a U g mk h
  obtain ⟨h1, h2, h3, h4, h5⟩ := h
  exact ⟨h1, h2.moved (u := U) (U := U.calling g mk a) (Vm.Alike.refl U.vm), va_X.moved (u := U) (U := U.calling g mk a) (Vm.Alike.refl U.vm) h3, h4, pd_NW.same (s := U) (U := U.calling g mk a) rfl h5⟩
def pd_Con (l : Launch) (ad : Nat → Nat) (D : va_G) (cA : Nat → ClassId) (xs : Nat → Int32) (A : Nat → Prop) (b L : Nat) (n : Nat) : Prop :=
  ∀ (k : Nat) (av : List pd_V) (σ : pd_H) (r : pd_R), k < 89 → (∀ v ∈ av, pd_okv v) → pd_cats av ≤ pd_ml k → p4_ex pd_cd n (k, 0, pd_en av (pd_ml k), [], σ) = some r →
    Met l (pd_y k) (pd_wd k) (pd_rm k) (pd_Pc ad D cA xs b L av σ) (pd_Qc ad D cA xs A L r) 0 0 A
/-- Met.ofW, a JDK's method too -/
theorem pd_ofW {l : Launch} {y : MethodName} {ws ws' : List Jvm.Cond} {rm : Room} {Pc : Array Value → State → Prop} {Qc : Array Value → State → Outcome → State → Prop} {mc ms : Nat} {free : Addr → Prop} {cc : ByteArray} {maxL : Nat} {ret : Option FieldType}
    (hy : plainFor y = true) (hw : ws = Jvm.Cond.code y cc maxL ret :: ws')
    (body : ∀ p e s m args below meth c s₁, BodyLoose p l y (headSpec ws rm) cc maxL ret e s m args below meth c s₁ → c.maxLocals = maxL → Pc args s →
      W p l e (headSpec ws rm).room s m args below meth c s.heap [] 0 0 (MQ below Qc args s mc ms free) (entryFrame m args maxL)) : Met l y ws rm Pc Qc mc ms free := by
  refine MetFree.of_bodySF (code := cc) (maxLocals := maxL) (ret := ret) hy ?_ ?_
  · intro args s m h hn
    obtain ⟨meth, c, h1, h2, h3, h4, h5, h6, -, -⟩ := Cond.code_spec hn (atoms_spec (ws := ws) h _ (by rw [hw]; exact List.mem_cons_self))
    exact ⟨meth, c, h1, h2, h3, h4, h5, h6⟩
  · intro p e s m args below meth c s₁ B hml hP _
    have hh0 : s₁.heap = s.heap := by rw [B.state]; rfl
    obtain ⟨t, a1, o, b1, b2, b3⟩ := body p e s m args below meth c s₁ B hml hP s₁ hh0 (Stand.of_body B)
    exact ⟨t, o, a1, b1, b2, ⟨b3.1, b3.2⟩⟩
section PDW
variable {p : Program} {l : Launch} {e : Env} {R : Room} {s : State} {m : MethodId} {args : Array Value} {below : List Frame} {meth : Method} {c : Code} {cells slots : Nat} {Q : State → Prop}
variable {ad : Nat → Nat} {D : va_G} {cA : Nat → ClassId} {xs : Nat → Int32} {A : Nat → Prop} {b L mi : Nat} {H0 : Heap}
/-- where the walk stands: what doesn't change -/
def pd_Cx (p : Program) (R : Room) (s : State) (m : MethodId) (args : Array Value) (c : Code) (cells slots : Nat) (ad : Nat → Nat) (xs : Nat → Int32) (A : Nat → Prop) (b L mi : Nat) (H0 : Heap) : Prop :=
  p.tables.exec = Jvm.exec ∧ c.code = pd_b mi ∧ c.maxLocals = pd_ml mi ∧ s.vm.findClass (pd_cn (pd_oc mi)) = some m.cls ∧ (∀ w ∈ pd_W, w.before args s = true) ∧ pd_fr mi ≤ R.frames ∧ pd_lo mi ≤ R.locals ∧ cells ≤ R.cells ∧ slots ≤ R.slots ∧ pd_E ad A b L ∧ va_X b L xs s H0 ∧ b < H0.size ∧ mi < 90 ∧ pd_NW s
/-- what changes -/
def pd_Rl (s : State) (ad : Nat → Nat) (D : va_G) (cA : Nat → ClassId) (xs : Nat → Int32) (A : Nat → Prop) (L mi : Nat) (H0 : Heap) (ls : pd_L) (st : List pd_V) (σ : pd_H) (lsM : Array Slot) (H : Heap) (locs : List Loc) : Prop :=
  pd_lok ad lsM (pd_ml mi) ls ∧ (∀ k v, pd_nth ls k = some v → pd_okv v) ∧ (∀ v ∈ st, pd_okv v) ∧ pd_Wd ad D cA xs L σ s H ∧ va_S A H0 H locs
/-- from a place of the abstract machine the machine comes to Q -/
def pd_K (p : Program) (l : Launch) (e : Env) (R : Room) (s : State) (m : MethodId) (args : Array Value) (below : List Frame) (meth : Method) (c : Code) (cells slots : Nat) (Q : State → Prop) (ad : Nat → Nat) (D : va_G) (cA : Nat → ClassId) (xs : Nat → Int32) (A : Nat → Prop) (L mi : Nat) (H0 : Heap) (cf : pd_C) : Prop :=
  ∀ (lsM : Array Slot) (H : Heap) (locs : List Loc), pd_Rl s ad D cA xs A L mi H0 cf.2.2.1 cf.2.2.2.1 cf.2.2.2.2 lsM H locs → W p l e R s m args below meth c H locs cells slots Q (F0 m cf.2.1 lsM (cf.2.2.2.1.map (pd_cv ad)))
/-- the method's ends -/
def pd_end (mi : Nat) (ins : Instr) (v : Option pd_V) : Prop := match v, ins with
  | some (.inl (.inl x)), .ireturn => pd_rt mi = some .int ∨ (pd_rt mi = some .boolean ∧ (x = 0 ∨ x = 1))
  | some (.inl (.inr _)), .lreturn => pd_rt mi = some .long
  | some (.inr (.inr _)), .areturn => pd_rt mi = some (.object RX1)
  | none, .return_ => pd_rt mi = none
  | _, _ => False
def pd_Rt (p : Program) (l : Launch) (e : Env) (R : Room) (s : State) (m : MethodId) (args : Array Value) (below : List Frame) (meth : Method) (c : Code) (cells slots : Nat) (Q : State → Prop) (ad : Nat → Nat) (D : va_G) (cA : Nat → ClassId) (xs : Nat → Int32) (A : Nat → Prop) (L mi : Nat) (H0 : Heap) (r : pd_R) : Prop :=
  ∀ (ins : Instr) (pc : Nat) (lsM : Array Slot) (H : Heap) (locs : List Loc), decode (pd_b mi) pc = .ok (ins, 1) → pd_end mi ins r.2 → (∀ v, r.2 = some v → pd_okv v) → pd_Wd ad D cA xs L r.1 s H → va_S A H0 H locs → W p l e R s m args below meth c H locs cells slots Q (F0 m pc lsM (r.2.toList.map (pd_cv ad)))
abbrev pd_Goal (p : Program) (l : Launch) (e : Env) (R : Room) (s : State) (m : MethodId) (args : Array Value) (below : List Frame) (meth : Method) (c : Code) (cells slots : Nat) (Q : State → Prop) (ad : Nat → Nat) (D : va_G) (cA : Nat → ClassId) (xs : Nat → Int32) (A : Nat → Prop) (b L mi : Nat) (H0 : Heap) (n : Nat) (r : pd_R) (cf : pd_C) (S : pd_S) : Prop :=
  pd_Cx p R s m args c cells slots ad xs A b L mi H0 → pd_TF → pd_Con l ad D cA xs A b L n →
  (∀ c' : pd_C, c'.1 = mi → p4_ex pd_cd n c' = some r → pd_K p l e R s m args below meth c cells slots Q ad D cA xs A L mi H0 c') → pd_Rt p l e R s m args below meth c cells slots Q ad D cA xs A L mi H0 r →
  pd_F (p4_ex pd_cd n) (p4_ex pd_cd n) S = some r → pd_K p l e R s m args below meth c cells slots Q ad D cA xs A L mi H0 cf
variable {n : Nat} {r : pd_R} {pc : Nat} {ls : pd_L} {st : List pd_V} {σ : pd_H}
theorem pd_push {v : pd_V} {lsM : Array Slot} {H : Heap} {locs : List Loc} (h : pd_Rl s ad D cA xs A L mi H0 ls st σ lsM H locs) (hv : pd_okv v) : pd_Rl s ad D cA xs A L mi H0 ls (v :: st) σ lsM H locs :=
  ⟨h.1, h.2.1, fun w hw => by rcases List.mem_cons.mp hw with rfl | hw; exact hv; exact h.2.2.1 w hw, h.2.2.2⟩
theorem pd_pops {st' : List pd_V} {lsM : Array Slot} {H : Heap} {locs : List Loc} (h : pd_Rl s ad D cA xs A L mi H0 ls st σ lsM H locs) (hs : ∀ v ∈ st', v ∈ st) : pd_Rl s ad D cA xs A L mi H0 ls st' σ lsM H locs :=
  ⟨h.1, h.2.1, fun w hw => h.2.2.1 w (hs w hw), h.2.2.2⟩
end PDW
