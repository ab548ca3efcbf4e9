section PDW
variable {p : Program} {l : Launch} {e : Env} {R : Room} {s : State} {m : MethodId} {args : Array Value} {below : List Frame} {meth : Method} {c : Code} {cells slots : Nat} {Q : State → Prop}
variable {ad : Nat → Nat} {D : va_G} {cA : Nat → ClassId} {xs : Nat → Int32} {A : Nat → Prop} {b L mi : Nat} {H0 : Heap}
variable {n : Nat} {r : pd_R} {pc : Nat} {ls : pd_L} {st : List pd_V} {σ : pd_H}
theorem pd_tag_huge {k : Nat} (h : 923 ≤ k) : 99 ≤ p4_tag k := by
  rcases p4_hi (k := k) (by omega) with ⟨q, _⟩ | ⟨q, _⟩ | ⟨q, _⟩ | ⟨_, q⟩ <;> omega
theorem pd_i32_toInt {a : Int} (h : -2147483648 ≤ a ∧ a ≤ 2147483647) : (Int32.ofInt a).toInt = a := by
  rw [Int32.toInt_ofInt_of_le] <;> omega
theorem pd_tb_go {x : Int32} {k : Nat} {offs : List Int} {tb : List (Int32 × Nat)} {lo : Int} (ht : pd_tb pc lo offs tb = true) (hF : pd_sw (p4_ex pd_cd n) x tb (mi, k, ls, st, σ) = some r) :
    (∃ (j : Nat) (off : Int) (tgt : Nat), offs[j]? = some off ∧ x.toInt = lo + j ∧ (pc : Int) + off = tgt ∧ p4_ex pd_cd n (mi, tgt, ls, st, σ) = some r) ∨ ((x.toInt < lo ∨ lo + offs.length - 1 < x.toInt) ∧ p4_ex pd_cd n (mi, k, ls, st, σ) = some r) := by
  induction offs generalizing lo tb with
  | nil =>
    cases tb with
    | nil => exact Or.inr ⟨by simp only [List.length_nil]; omega, hF⟩
    | cons q t => simp [pd_tb] at ht
  | cons o rest ih =>
    cases tb with
    | nil => simp [pd_tb] at ht
    | cons q t =>
      simp only [pd_tb, Bool.and_eq_true, decide_eq_true_eq] at ht
      obtain ⟨⟨⟨h1, h2⟩, h3⟩, h4⟩ := ht
      unfold pd_sw at hF
      by_cases hx : x = q.1
      · rw [decide_eq_true hx] at hF
        exact Or.inl ⟨0, o, q.2, rfl, by rw [hx, h1, pd_i32_toInt h3]; simp, h2, hF⟩
      · rw [decide_eq_false hx] at hF
        have hne : x.toInt ≠ lo := fun z => hx (by rw [h1, ← z, Int32.ofInt_toInt])
        rcases ih h4 hF with ⟨j, off, tgt, a1, a2, a3, a4⟩ | ⟨a1, a2⟩
        · exact Or.inl ⟨j + 1, off, tgt, a1, by rw [a2]; push_cast; omega, a3, a4⟩
        · exact Or.inr ⟨by simp only [List.length_cons]; push_cast; omega, a2⟩
theorem pd_lk_go {x : Int32} {k : Nat} {ps : List (Int × Int)} {tb : List (Int32 × Nat)} {d : Int} (hd : (pc : Int) + d = k) (ht : pd_lk pc ps tb = true) (hF : pd_sw (p4_ex pd_cd n) x tb (mi, k, ls, st, σ) = some r) :
    ∃ tgt : Nat, (pc : Int) + Op.lookupswitch.offset ps d x.toInt = tgt ∧ p4_ex pd_cd n (mi, tgt, ls, st, σ) = some r := by
  induction ps generalizing tb with
  | nil =>
    cases tb with
    | nil => exact ⟨k, hd, hF⟩
    | cons q t => simp [pd_lk] at ht
  | cons o rest ih =>
    cases tb with
    | nil => simp [pd_lk] at ht
    | cons q t =>
      simp only [pd_lk, Bool.and_eq_true, decide_eq_true_eq] at ht
      obtain ⟨⟨⟨h1, h2⟩, h3⟩, h4⟩ := ht
      unfold pd_sw at hF
      obtain ⟨a, b⟩ := o
      rw [Op.lookupswitch.offset_cons]
      by_cases hx : x = q.1
      · rw [decide_eq_true hx] at hF
        rw [if_pos (by rw [hx, h1, pd_i32_toInt h3])]
        exact ⟨q.2, h2, hF⟩
      · rw [decide_eq_false hx] at hF
        have hne : x.toInt ≠ a := fun z => hx (by rw [h1, ← z, Int32.ofInt_toInt])
        rw [if_neg (fun z => hne z.symm)]
        exact ih h4 hF
theorem pd_s_table {d lo hi : Int} {offs : Array Int} {len k : Nat} {tb : List (Int32 × Nat)} {x : Int32} (hdg : decode (pd_b mi) pc = .ok (.tableswitch d lo hi offs, len)) (hd : (pc : Int) + d = (k : Int)) (ht : pd_tb pc lo offs.toList tb = true) (hh : hi = lo + offs.size - 1) : pd_Goal p l e R s m args below meth c cells slots Q ad D cA xs A b L mi H0 n r (mi, pc, ls, pd_i x :: st, σ) (.inr (.inr (.inl (x, tb, (mi, k, ls, st, σ))))) := by
  intro hC hT hCon hK hRt hF lsM H locs hR
  have hR' := pd_pops (st' := st) hR (fun v h => List.mem_cons_of_mem _ h)
  rcases pd_tb_go ht hF with ⟨j, off, tgt, a1, a2, a3, a4⟩ | ⟨a1, a2⟩
  · have hj : j < offs.size := by
      have := (List.getElem?_eq_some_iff.mp a1).1
      simpa using this
    refine lv_tableIn hC.1 hC.2.1 hdg (by omega) (by omega) (off := off) ?_ a3 (hK _ rfl a4 lsM H locs hR')
    rw [show (x.toInt - lo).toNat = j by omega, ← Array.getElem?_toList]
    exact a1
  · refine lv_tableOut hC.1 hC.2.1 hdg ?_ hd (hK _ rfl a2 lsM H locs hR')
    rw [Array.length_toList] at a1
    rw [hh]
    exact a1
theorem pd_s_lookup {d : Int} {ps : Array (Int × Int)} {len k : Nat} {tb : List (Int32 × Nat)} {x : Int32} (hdg : decode (pd_b mi) pc = .ok (.lookupswitch d ps, len)) (hd : (pc : Int) + d = (k : Int)) (ht : pd_lk pc ps.toList tb = true) (hp : (ps.toList.zip (ps.toList.drop 1)).all (fun q => decide (q.1.1 < q.2.1)) = true) : pd_Goal p l e R s m args below meth c cells slots Q ad D cA xs A b L mi H0 n r (mi, pc, ls, pd_i x :: st, σ) (.inr (.inr (.inl (x, tb, (mi, k, ls, st, σ))))) := by
  intro hC hT hCon hK hRt hF lsM H locs hR
  have hR' := pd_pops (st' := st) hR (fun v h => List.mem_cons_of_mem _ h)
  obtain ⟨tgt, a1, a2⟩ := pd_lk_go hd ht hF
  exact lv_lookup hC.1 hC.2.1 hdg hp rfl a1 (hK _ rfl a2 lsM H locs hR')
theorem pd_s_iaload (hdg : decode (pd_b mi) pc = .ok (.iaload, 1)) : pd_Goal p l e R s m args below meth c cells slots Q ad D cA xs A b L mi H0 n r (mi, pc, ls, st, σ) (p4_ald mi (pc + 1) ls st σ) := by
  intro hC hT hCon hK hRt hF lsM H locs hR
  unfold p4_ald at hF
  have hW := hR.2.2.2.1
  split at hF
  · next i t o ts =>
    have ok := hR.2.2.1 _ (List.mem_cons_of_mem _ List.mem_cons_self)
    split at hF
    · obtain ⟨g1, g2⟩ := pd_arr ok (by decide)
      cases h1 : pd_ob i (p4_len o) with
      | true => rw [h1] at hF; cases hF
      | false =>
        rw [h1] at hF
        have he := pd_ws_at ad cA σ g1
        rw [g2] at he
        exact va_iald hC.1 hC.2.1 hW.2.1 hW.1 o 0 he rfl (pd_ob_in h1) hdg (hK _ rfl hF lsM H locs (pd_push (pd_pops hR (fun v h => List.mem_cons_of_mem _ (List.mem_cons_of_mem _ h))) trivial))
    · have hb0 : ad o = b := by rw [pd_tag_30 ok.1]; exact hC.2.2.2.2.2.2.2.2.2.1.2.2.1
      cases h1 : pd_ob i (σ.1 923 0).toNatClampNeg with
      | true => rw [h1] at hF; cases hF
      | false =>
        rw [h1] at hF
        have hL : (σ.1 923 0).toNatClampNeg = L := by rw [hW.2.2.2.2]; exact nI_clamp hC.2.2.2.2.2.2.2.2.2.1.2.2.2.2
        rw [hL] at h1
        have hxs : σ.1 922 = xs := hW.2.2.2.1
        rw [hxs] at hF
        have k1 := hK _ rfl hF lsM H locs (pd_push (pd_pops hR (fun v h => List.mem_cons_of_mem _ (List.mem_cons_of_mem _ h))) trivial)
        show W p l e R s m args below meth c H locs cells slots Q (F0 m pc lsM (.int i :: .ref (ad o) :: ts.map (pd_cv ad)))
        rw [hb0]
        exact va_sld hC.1 hC.2.1 hC.2.2.2.2.2.2.2.2.2.2.1 hC.2.2.2.2.2.2.2.2.2.2.2.1 hC.2.2.2.2.2.2.2.2.2.1.2.2.2.1 hR.2.2.2.2 (pd_ob_in h1) hdg k1
    · cases hF
  · cases hF
theorem pd_s_baload (hdg : decode (pd_b mi) pc = .ok (.baload, 1)) : pd_Goal p l e R s m args below meth c cells slots Q ad D cA xs A b L mi H0 n r (mi, pc, ls, st, σ) (p4_bld mi (pc + 1) ls st σ) := by
  intro hC hT hCon hK hRt hF lsM H locs hR
  unfold p4_bld at hF
  have hW := hR.2.2.2.1
  split at hF
  · next i t o ts =>
    have ok := hR.2.2.1 _ (List.mem_cons_of_mem _ List.mem_cons_self)
    split at hF
    · obtain ⟨g1, g2⟩ := pd_arr ok (by decide)
      cases h1 : pd_ob i (p4_len o) with
      | true => rw [h1] at hF; cases hF
      | false =>
        rw [h1] at hF
        have he := pd_ws_at ad cA σ g1
        rw [g2] at he
        exact va_zald hC.1 hC.2.1 hW.2.1 hW.1 o 2 he rfl (pd_ob_in h1) hdg (hK _ rfl hF lsM H locs (pd_push (pd_pops hR (fun v h => List.mem_cons_of_mem _ (List.mem_cons_of_mem _ h))) trivial))
    · cases hF
  · cases hF
theorem pd_s_laload (hdg : decode (pd_b mi) pc = .ok (.laload, 1)) : pd_Goal p l e R s m args below meth c cells slots Q ad D cA xs A b L mi H0 n r (mi, pc, ls, st, σ) (p4_lld mi (pc + 1) ls st σ) := by
  intro hC hT hCon hK hRt hF lsM H locs hR
  unfold p4_lld at hF
  have hW := hR.2.2.2.1
  split at hF
  · next i t o ts =>
    have ok := hR.2.2.1 _ (List.mem_cons_of_mem _ List.mem_cons_self)
    split at hF
    · obtain ⟨g1, g2⟩ := pd_arr ok (by decide)
      cases h1 : pd_ob i (p4_len o) with
      | true => rw [h1] at hF; cases hF
      | false =>
        rw [h1] at hF
        have he := pd_ws_at ad cA σ g1
        rw [g2] at he
        exact va_lald hC.1 hC.2.1 hW.2.1 hW.1 o 1 he rfl (pd_ob_in h1) hdg (hK _ rfl hF lsM H locs (pd_push (pd_pops hR (fun v h => List.mem_cons_of_mem _ (List.mem_cons_of_mem _ h))) trivial))
    · cases hF
  · cases hF
theorem pd_s_aaload (hdg : decode (pd_b mi) pc = .ok (.aaload, 1)) : pd_Goal p l e R s m args below meth c cells slots Q ad D cA xs A b L mi H0 n r (mi, pc, ls, st, σ) (p4_qld mi (pc + 1) ls st σ) := by
  intro hC hT hCon hK hRt hF lsM H locs hR
  unfold p4_qld at hF
  have hW := hR.2.2.2.1
  split at hF
  · next i t o ts =>
    have ok := hR.2.2.1 _ (List.mem_cons_of_mem _ List.mem_cons_self)
    split at hF
    · obtain ⟨g1, g2⟩ := pd_arr ok (by decide)
      cases h1 : pd_ob i (p4_len o) with
      | true => rw [h1] at hF; cases hF
      | false =>
        rw [h1] at hF
        have he := pd_ws_at ad cA σ g1
        rw [g2] at he
        have hi : i.toNatClampNeg < p4_len o := Nat.not_le.mp fun q => pd_ob_in h1 (Or.inr q)
        rw [pd_tag23 o g1 g2] at hi
        exact va_aldq hC.1 hC.2.1 hW.2.1 hW.1 o 3 he rfl (pd_ob_in h1) hdg (hK _ rfl hF lsM H locs (pd_push (pd_pops hR (fun v h => List.mem_cons_of_mem _ (List.mem_cons_of_mem _ h))) ⟨pd_tag_chg (p4_tag_22 (by omega) (by omega)) _ hi, by decide⟩))
    · obtain ⟨g1, g2⟩ := pd_arr ok (by decide)
      cases h1 : pd_ob i (p4_len o) with
      | true => rw [h1] at hF; cases hF
      | false =>
        rw [h1] at hF
        have he := pd_ws_at ad cA σ g1
        rw [g2] at he
        have hi : i.toNatClampNeg < p4_len o := Nat.not_le.mp fun q => pd_ob_in h1 (Or.inr q)
        rw [pd_tag24 o g1 g2] at hi
        exact va_aldq hC.1 hC.2.1 hW.2.1 hW.1 o 4 he rfl (pd_ob_in h1) hdg (hK _ rfl hF lsM H locs (pd_push (pd_pops hR (fun v h => List.mem_cons_of_mem _ (List.mem_cons_of_mem _ h))) ⟨pd_tag_seq (p4_tag_22 (by omega) (by omega)) _ hi, by decide⟩))
    · cases hF
  · cases hF
theorem pd_s_iastore (hdg : decode (pd_b mi) pc = .ok (.iastore, 1)) : pd_Goal p l e R s m args below meth c cells slots Q ad D cA xs A b L mi H0 n r (mi, pc, ls, st, σ) (p4_ast mi (pc + 1) ls st σ) := by
  intro hC hT hCon hK hRt hF lsM H locs hR
  unfold p4_ast at hF
  have hW := hR.2.2.2.1
  split at hF
  · next v i t o ts =>
    have ok := hR.2.2.1 _ (List.mem_cons_of_mem _ (List.mem_cons_of_mem _ List.mem_cons_self))
    split at hF
    · obtain ⟨g1, g2⟩ := pd_arr ok (by decide)
      cases h1 : pd_ob i (p4_len o) with
      | true => rw [h1] at hF; cases hF
      | false =>
        rw [h1] at hF
        have he := pd_ws_at ad cA σ g1
        rw [g2] at he
        have hE : pd_E ad A b L := hC.2.2.2.2.2.2.2.2.2.1
        refine va_iast hC.1 hC.2.1 hW.2.1 hW.1 (hE.D cA σ) hR.2.2.2.2 o 0 he rfl (pd_ob_in h1) hdg (fun H1 locs1 hP1 hD1 hS1 => ?_)
        refine hK _ rfl hF lsM H1 locs1 (pd_stored (σ' := pd_upI σ o i.toNatClampNeg v) hR (fun w h => List.mem_cons_of_mem _ (List.mem_cons_of_mem _ (List.mem_cons_of_mem _ h))) g1 g2 ?_ (fun j _ hj => pd_el_upI ad cA σ _ hj) rfl (pd_sc_upI g1) hP1 hS1)
        show _ = pd_el ad cA (pd_upI σ o i.toNatClampNeg v) o 20
        show (_ : va_E) = .inl (cA 0, p4_len o, .inl (if o = o then upd (σ.1 o) i.toNatClampNeg v else σ.1 o))
        rw [if_pos rfl]
    · cases hF
  · cases hF
theorem pd_s_bastore (hdg : decode (pd_b mi) pc = .ok (.bastore, 1)) : pd_Goal p l e R s m args below meth c cells slots Q ad D cA xs A b L mi H0 n r (mi, pc, ls, st, σ) (p4_bst mi (pc + 1) ls st σ) := by
  intro hC hT hCon hK hRt hF lsM H locs hR
  unfold p4_bst at hF
  have hW := hR.2.2.2.1
  split at hF
  · next v i t o ts =>
    have ok := hR.2.2.1 _ (List.mem_cons_of_mem _ (List.mem_cons_of_mem _ List.mem_cons_self))
    split at hF
    · obtain ⟨g1, g2⟩ := pd_arr ok (by decide)
      cases h1 : pd_ob i (p4_len o) with
      | true => rw [h1] at hF; cases hF
      | false =>
        rw [h1] at hF
        have he := pd_ws_at ad cA σ g1
        rw [g2] at he
        have hE : pd_E ad A b L := hC.2.2.2.2.2.2.2.2.2.1
        refine va_zast hC.1 hC.2.1 hW.2.1 hW.1 (hE.D cA σ) hR.2.2.2.2 o 2 he rfl (pd_ob_in h1) hdg (fun H1 locs1 hP1 hD1 hS1 => ?_)
        refine hK _ rfl hF lsM H1 locs1 (pd_stored (σ' := pd_upI σ o i.toNatClampNeg (vp_nar .boolean v)) hR (fun w h => List.mem_cons_of_mem _ (List.mem_cons_of_mem _ (List.mem_cons_of_mem _ h))) g1 g2 ?_ (fun j _ hj => pd_el_upI ad cA σ _ hj) rfl (pd_sc_upI g1) hP1 hS1)
        show _ = pd_el ad cA (pd_upI σ o i.toNatClampNeg (vp_nar .boolean v)) o 22
        show (_ : va_E) = .inl (cA 2, p4_len o, .inl (if o = o then upd (σ.1 o) i.toNatClampNeg (vp_nar .boolean v) else σ.1 o))
        rw [if_pos rfl]
    · cases hF
  · cases hF
theorem pd_s_lastore (hdg : decode (pd_b mi) pc = .ok (.lastore, 1)) : pd_Goal p l e R s m args below meth c cells slots Q ad D cA xs A b L mi H0 n r (mi, pc, ls, st, σ) (p4_lst mi (pc + 1) ls st σ) := by
  intro hC hT hCon hK hRt hF lsM H locs hR
  unfold p4_lst at hF
  have hW := hR.2.2.2.1
  split at hF
  · next v i t o ts =>
    have ok := hR.2.2.1 _ (List.mem_cons_of_mem _ (List.mem_cons_of_mem _ List.mem_cons_self))
    split at hF
    · obtain ⟨g1, g2⟩ := pd_arr ok (by decide)
      cases h1 : pd_ob i (p4_len o) with
      | true => rw [h1] at hF; cases hF
      | false =>
        rw [h1] at hF
        have he := pd_ws_at ad cA σ g1
        rw [g2] at he
        have hE : pd_E ad A b L := hC.2.2.2.2.2.2.2.2.2.1
        refine va_last hC.1 hC.2.1 hW.2.1 hW.1 (hE.D cA σ) hR.2.2.2.2 o 1 he rfl (pd_ob_in h1) hdg (fun H1 locs1 hP1 hD1 hS1 => ?_)
        refine hK _ rfl hF lsM H1 locs1 (pd_stored (σ' := pd_upJ σ o i.toNatClampNeg v) hR (fun w h => List.mem_cons_of_mem _ (List.mem_cons_of_mem _ (List.mem_cons_of_mem _ h))) g1 g2 ?_ (fun j _ hj => pd_el_upJ ad cA σ _ hj) rfl (⟨rfl, rfl⟩) hP1 hS1)
        show _ = pd_el ad cA (pd_upJ σ o i.toNatClampNeg v) o 21
        show (_ : va_E) = .inl (cA 1, p4_len o, .inr (.inl (if o = o then vp_updL (σ.2.1 o) i.toNatClampNeg v else σ.2.1 o)))
        rw [if_pos rfl]
    · cases hF
  · cases hF
theorem pd_s_arraylength (hdg : decode (pd_b mi) pc = .ok (.arraylength, 1)) : pd_Goal p l e R s m args below meth c cells slots Q ad D cA xs A b L mi H0 n r (mi, pc, ls, st, σ) (p4_aln mi (pc + 1) ls st σ) := by
  intro hC hT hCon hK hRt hF lsM H locs hR
  unfold p4_aln at hF
  have hW := hR.2.2.2.1
  split at hF
  · next t o ts =>
    have ok := hR.2.2.1 _ List.mem_cons_self
    split at hF
    · have hb0 : ad o = b := by rw [pd_tag_30 ok.1]; exact hC.2.2.2.2.2.2.2.2.2.1.2.2.1
      have hL : σ.1 923 0 = Int32.ofNat L := hW.2.2.2.2
      rw [hL] at hF
      have k1 := hK _ rfl hF lsM H locs (pd_push (pd_pops hR (fun v h => List.mem_cons_of_mem _ h)) trivial)
      show W p l e R s m args below meth c H locs cells slots Q (F0 m pc lsM (.ref (ad o) :: ts.map (pd_cv ad)))
      rw [hb0]
      exact va_slen hC.1 hC.2.1 hC.2.2.2.2.2.2.2.2.2.2.1 hC.2.2.2.2.2.2.2.2.2.2.2.1 hC.2.2.2.2.2.2.2.2.2.1.2.2.2.1 hR.2.2.2.2 hdg k1
    · next n30 =>
      cases h1 : Nat.ble 20 t with
      | false => rw [h1] at hF; cases hF
      | true =>
        rw [h1, cond_true] at hF
        have h20 := Nat.le_of_ble_eq_true h1
        have ht : p4_tag o = t := ok.1
        have g1 : o < 922 := by
          rcases Nat.lt_or_ge o 922 with q | q
          · exact q
          · exfalso
            have b1 := pd_tag_big q
            have ht40 : t < 40 := ok.2
            rcases Nat.lt_or_ge o 923 with q2 | q2
            · exact n30 (by rw [← ht, show o = 922 by omega]; rfl)
            · exact absurd (pd_tag_huge q2) (by rw [ht]; omega)
        have he := pd_ws_at ad cA σ g1
        rw [ht] at he
        have h25 : t < 25 := by rcases pd_tags o g1 with q | q <;> omega
        have k1 := hK _ rfl hF lsM H locs (pd_push (pd_pops hR (fun v h => List.mem_cons_of_mem _ h)) trivial)
        rcases (show t = 20 ∨ t = 21 ∨ t = 22 ∨ t = 23 ∨ t = 24 by omega) with rfl | rfl | rfl | rfl | rfl
        · exact va_alen hC.1 hC.2.1 hW.2.1 hW.1 o 0 he rfl rfl hdg k1
        · exact va_alen hC.1 hC.2.1 hW.2.1 hW.1 o 1 he rfl rfl hdg k1
        · exact va_alen hC.1 hC.2.1 hW.2.1 hW.1 o 2 he rfl rfl hdg k1
        · exact va_alen hC.1 hC.2.1 hW.2.1 hW.1 o 3 he rfl rfl hdg k1
        · exact va_alen hC.1 hC.2.1 hW.2.1 hW.1 o 4 he rfl rfl hdg k1
  · cases hF
end PDW
