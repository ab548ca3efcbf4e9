/-! The machine over the things of all four does on one desk what the machine of one desk does. -/
/-- four desks (and the law's own, the fifth) side by side -/
def p4_jn (s : Nat → pd_H) : pd_H := (fun o => (s (o / 230)).1 (o % 230), fun o => (s (o / 230)).2.1 (o % 230), fun o => 230 * (o / 230) + (s (o / 230)).2.2 (o % 230))
def p4_pt (s : Nat → pd_H) (d : Nat) (S : pd_H) : Nat → pd_H := fun q => if q = d then S else s q
def p4_sh (d : Nat) : pd_V → pd_V
  | .inr (.inr (t, k)) => .inr (.inr (t, 230 * d + k))
  | .inr (.inl x) => .inr (.inl x)
  | .inl x => .inl x
def p4_eL (d : Nat) (ls : pd_L) : pd_L := ls.map (Option.map (p4_sh d))
def p4_eS (d : Nat) (st : List pd_V) : List pd_V := st.map (p4_sh d)
def p4_eC (s : Nat → pd_H) (d : Nat) (c : pd_C) : pd_C := (c.1, c.2.1, p4_eL d c.2.2.1, p4_eS d c.2.2.2.1, p4_jn (p4_pt s d c.2.2.2.2))
def p4_eR (s : Nat → pd_H) (d : Nat) (r : pd_R) : pd_R := (p4_jn (p4_pt s d r.1), r.2.map (p4_sh d))
def p4_gv (v : pd_V) : Prop := match v with
  | .inr (.inr (t, k)) => k < 230 ∧ pd_tag k = t
  | _ => True
def p4_gL (ls : pd_L) : Prop := ∀ o ∈ ls, ∀ v, o = some v → p4_gv v
def p4_gS (st : List pd_V) : Prop := ∀ v ∈ st, p4_gv v
def p4_gH (S : pd_H) : Prop := ∀ y, y < 2 → S.2.2 y < 230 ∧ pd_tag (S.2.2 y) = 2
def p4_gC (c : pd_C) : Prop := c.1 < 90 ∧ p4_gL c.2.2.1 ∧ p4_gS c.2.2.2.1 ∧ p4_gH c.2.2.2.2
def p4_gR (r : pd_R) : Prop := p4_gH r.1 ∧ ∀ v, r.2 = some v → p4_gv v
section SIM
variable {s : Nat → pd_H} {d m pc q k x y z n : Nat} {ls : pd_L} {st r : List pd_V} {S : pd_H} {v : pd_V}
theorem p4_ptd : p4_pt s d S d = S := if_pos rfl
theorem p4_jn1 (h : k < 230) : (p4_jn (p4_pt s d S)).1 (230 * d + k) = S.1 k := by
  show (p4_pt s d S ((230 * d + k) / 230)).1 ((230 * d + k) % 230) = _
  rw [show (230 * d + k) / 230 = d by omega, show (230 * d + k) % 230 = k by omega, p4_ptd]
theorem p4_jn2 (h : k < 230) : (p4_jn (p4_pt s d S)).2.1 (230 * d + k) = S.2.1 k := by
  show (p4_pt s d S ((230 * d + k) / 230)).2.1 ((230 * d + k) % 230) = _
  rw [show (230 * d + k) / 230 = d by omega, show (230 * d + k) % 230 = k by omega, p4_ptd]
theorem p4_jn3 (h : k < 230) : (p4_jn (p4_pt s d S)).2.2 (230 * d + k) = 230 * d + S.2.2 k := by
  show 230 * ((230 * d + k) / 230) + (p4_pt s d S ((230 * d + k) / 230)).2.2 ((230 * d + k) % 230) = _
  rw [show (230 * d + k) / 230 = d by omega, show (230 * d + k) % 230 = k by omega, p4_ptd]
theorem p4_bsd (h : k < 230) : p4_bs (230 * d + k) = 230 * d := by unfold p4_bs; omega
theorem p4_tagd (hd : d < 4) (h : k < 230) : p4_tag (230 * d + k) = pd_tag k := by
  rw [p4_tagL (by omega), show (230 * d + k) % 230 = k by omega]
theorem p4_lend (hd : d < 4) (h : k < 230) : p4_len (230 * d + k) = pd_len k := by
  rw [p4_lenL (by omega), show (230 * d + k) % 230 = k by omega]
theorem p4_at230 {o : Nat} (h : k < 230) : (o = 230 * d + k) ↔ (o / 230 = d ∧ o % 230 = k) := by omega
theorem p4_ptn {S' : pd_H} {o : Nat} (h : o ≠ d) : p4_pt s d S o = p4_pt s d S' o := by
  unfold p4_pt
  rw [if_neg h, if_neg h]
theorem p4_upI {i : Nat} {w : Int32} (h : k < 230) : pd_upI (p4_jn (p4_pt s d S)) (230 * d + k) i w = p4_jn (p4_pt s d (pd_upI S k i w)) := by
  refine Prod.ext (funext fun o => ?_) (Prod.ext (funext fun o => ?_) (funext fun o => ?_))
  · show (if o = 230 * d + k then upd ((p4_jn (p4_pt s d S)).1 (230 * d + k)) i w else (p4_jn (p4_pt s d S)).1 o) = (p4_pt s d (pd_upI S k i w) (o / 230)).1 (o % 230)
    by_cases hd : o / 230 = d
    · rw [hd, p4_ptd]
      show _ = (if o % 230 = k then upd (S.1 k) i w else S.1 (o % 230))
      by_cases hk : o % 230 = k
      · rw [if_pos ((p4_at230 h).mpr ⟨hd, hk⟩), if_pos hk, p4_jn1 h]
      · rw [if_neg (fun z => hk ((p4_at230 h).mp z).2), if_neg hk]
        show (p4_pt s d S (o / 230)).1 (o % 230) = _
        rw [hd, p4_ptd]
    · rw [if_neg (fun z => hd ((p4_at230 h).mp z).1), p4_ptn (S' := S) hd]
      rfl
  · show (p4_pt s d S (o / 230)).2.1 (o % 230) = (p4_pt s d (pd_upI S k i w) (o / 230)).2.1 (o % 230)
    unfold p4_pt
    split <;> rfl
  · show 230 * (o / 230) + (p4_pt s d S (o / 230)).2.2 (o % 230) = 230 * (o / 230) + (p4_pt s d (pd_upI S k i w) (o / 230)).2.2 (o % 230)
    unfold p4_pt
    split <;> rfl
theorem p4_upJ {i : Nat} {w : Int64} (h : k < 230) : pd_upJ (p4_jn (p4_pt s d S)) (230 * d + k) i w = p4_jn (p4_pt s d (pd_upJ S k i w)) := by
  refine Prod.ext (funext fun o => ?_) (Prod.ext (funext fun o => ?_) (funext fun o => ?_))
  · show (p4_pt s d S (o / 230)).1 (o % 230) = (p4_pt s d (pd_upJ S k i w) (o / 230)).1 (o % 230)
    unfold p4_pt
    split <;> rfl
  · show (if o = 230 * d + k then vp_updL ((p4_jn (p4_pt s d S)).2.1 (230 * d + k)) i w else (p4_jn (p4_pt s d S)).2.1 o) = (p4_pt s d (pd_upJ S k i w) (o / 230)).2.1 (o % 230)
    by_cases hd : o / 230 = d
    · rw [hd, p4_ptd]
      show _ = (if o % 230 = k then vp_updL (S.2.1 k) i w else S.2.1 (o % 230))
      by_cases hk : o % 230 = k
      · rw [if_pos ((p4_at230 h).mpr ⟨hd, hk⟩), if_pos hk, p4_jn2 h]
      · rw [if_neg (fun z => hk ((p4_at230 h).mp z).2), if_neg hk]
        show (p4_pt s d S (o / 230)).2.1 (o % 230) = _
        rw [hd, p4_ptd]
    · rw [if_neg (fun z => hd ((p4_at230 h).mp z).1), p4_ptn (S' := S) hd]
      rfl
  · show 230 * (o / 230) + (p4_pt s d S (o / 230)).2.2 (o % 230) = 230 * (o / 230) + (p4_pt s d (pd_upJ S k i w) (o / 230)).2.2 (o % 230)
    unfold p4_pt
    split <;> rfl
theorem p4_upR {w : Nat} (h : k < 230) : pd_upR (p4_jn (p4_pt s d S)) (230 * d + k) (230 * d + w) = p4_jn (p4_pt s d (pd_upR S k w)) := by
  refine Prod.ext (funext fun o => ?_) (Prod.ext (funext fun o => ?_) (funext fun o => ?_))
  · show (p4_pt s d S (o / 230)).1 (o % 230) = (p4_pt s d (pd_upR S k w) (o / 230)).1 (o % 230)
    unfold p4_pt
    split <;> rfl
  · show (p4_pt s d S (o / 230)).2.1 (o % 230) = (p4_pt s d (pd_upR S k w) (o / 230)).2.1 (o % 230)
    unfold p4_pt
    split <;> rfl
  · show (if o = 230 * d + k then 230 * d + w else (p4_jn (p4_pt s d S)).2.2 o) = 230 * (o / 230) + (p4_pt s d (pd_upR S k w) (o / 230)).2.2 (o % 230)
    by_cases hd : o / 230 = d
    · rw [hd, p4_ptd]
      show _ = 230 * d + (if o % 230 = k then w else S.2.2 (o % 230))
      by_cases hk : o % 230 = k
      · rw [if_pos ((p4_at230 h).mpr ⟨hd, hk⟩), if_pos hk]
      · rw [if_neg (fun z => hk ((p4_at230 h).mp z).2), if_neg hk]
        show 230 * (o / 230) + (p4_pt s d S (o / 230)).2.2 (o % 230) = _
        rw [hd, p4_ptd]
    · rw [if_neg (fun z => hd ((p4_at230 h).mp z).1), p4_ptn (S' := S) hd]
      rfl
/-- what the steps of the two are to each other -/
def p4_ss (s : Nat → pd_H) (d : Nat) (a b : pd_S) : Prop := match a with
  | .inl (.inl none) => True
  | .inl (.inl (some r)) => b = .inl (.inl (some (p4_eR s d r))) ∧ p4_gR r
  | .inl (.inr c) => b = .inl (.inr (p4_eC s d c)) ∧ p4_gC c
  | .inr (.inl (true, o1, _)) => ∃ o2, b = .inr (.inl (true, o1.map (p4_eC s d), o2)) ∧ ∀ c, o1 = some c → p4_gC c
  | .inr (.inl (false, _, o2)) => ∃ o1, b = .inr (.inl (false, o1, o2.map (p4_eC s d))) ∧ ∀ c, o2 = some c → p4_gC c
  | .inr (.inr (.inl (x, tb, c))) => b = .inr (.inr (.inl (x, tb, p4_eC s d c))) ∧ p4_gC c
  | .inr (.inr (.inr (cc, z, t, c))) => b = .inr (.inr (.inr (p4_eC s d cc, z, t, p4_eC s d c))) ∧ p4_gC cc ∧ p4_gC c
def p4_sim1 (s : Nat → pd_H) (d : Nat) (g g' : pd_C → Option pd_R) : Prop := ∀ c, p4_gC c → ∀ r, g c = some r → g' (p4_eC s d c) = some (p4_eR s d r) ∧ p4_gR r
section FS
variable {g g' h h' : pd_C → Option pd_R}
theorem p4_simO (H : p4_sim1 s d h h') {o : Option pd_C} (ho : ∀ c, o = some c → p4_gC c) {w : pd_R} (e : pd_ho h o = some w) : pd_ho h' (o.map (p4_eC s d)) = some (p4_eR s d w) ∧ p4_gR w := by
  cases o with
  | none => cases e
  | some c => exact H c (ho c rfl) w e
theorem p4_simW (H : p4_sim1 s d h h') {a : Int32} {tb : List (Int32 × Nat)} {c : pd_C} (hc : p4_gC c) {w : pd_R} (e : pd_sw h a tb c = some w) : pd_sw h' a tb (p4_eC s d c) = some (p4_eR s d w) ∧ p4_gR w := by
  induction tb with
  | nil => exact H c hc w e
  | cons p t ih =>
    unfold pd_sw at e ⊢
    cases hq : decide (a = p.1) with
    | true =>
      rw [hq] at e
      exact H (c.1, p.2, c.2.2) hc w e
    | false =>
      rw [hq] at e
      exact ih e
theorem p4_simL (G : p4_sim1 s d g g') (H : p4_sim1 s d h h') {cc c : pd_C} {t : Nat} (hcc : p4_gC cc) (hc : p4_gC c) {w : pd_R} (e : pd_cl h (g cc) z t c = some w) : pd_cl h' (g' (p4_eC s d cc)) z t (p4_eC s d c) = some (p4_eR s d w) ∧ p4_gR w := by
  obtain ⟨m, pc, ls, st, σ0⟩ := c
  unfold pd_cl at e
  dsimp only at e
  split at e
  · obtain ⟨σ, e1, e2⟩ := pd_bV_some e
    obtain ⟨f1, f2⟩ := G cc hcc _ e1
    rw [f1]
    exact H (m, pc, ls, st, σ) ⟨hc.1, hc.2.1, hc.2.2.1, f2.1⟩ w e2
  · obtain ⟨σ, a, e1, e2⟩ := pd_bI_some e
    obtain ⟨f1, f2⟩ := G cc hcc _ e1
    rw [f1]
    exact H (m, pc, ls, pd_i a :: st, σ) ⟨hc.1, hc.2.1, fun v hv => by rcases List.mem_cons.mp hv with q | q; · subst q; trivial
                                                                       · exact hc.2.2.1 v q, f2.1⟩ w e2
  · obtain ⟨σ, a, e1, e2⟩ := pd_bJ_some e
    obtain ⟨f1, f2⟩ := G cc hcc _ e1
    rw [f1]
    exact H (m, pc, ls, pd_j a :: st, σ) ⟨hc.1, hc.2.1, fun v hv => by rcases List.mem_cons.mp hv with q | q; · subst q; trivial
                                                                       · exact hc.2.2.1 v q, f2.1⟩ w e2
  · obtain ⟨σ, o, e1, e2⟩ := pd_bR_some e
    obtain ⟨f1, f2⟩ := G cc hcc _ e1
    rw [f1]
    have k1 := H (m, pc, ls, pd_r t o :: st, σ) ⟨hc.1, hc.2.1, fun v hv => by rcases List.mem_cons.mp hv with q | q; · subst q; exact f2.2 _ rfl
                                                                              · exact hc.2.2.1 v q, f2.1⟩ w e2
    unfold pd_cl
    dsimp only [p4_eC]
    split
    · contradiction
    · contradiction
    · contradiction
    · show pd_bR (some (p4_jn (p4_pt s d σ), some (pd_r t (230 * d + o)))) t _ = _ ∧ _
      rw [pd_bR_of]
      exact k1
theorem p4_simF (G : p4_sim1 s d g g') (H : p4_sim1 s d h h') {a b : pd_S} (hs : p4_ss s d a b) {w : pd_R} (e : pd_F g h a = some w) : pd_F g' h' b = some (p4_eR s d w) ∧ p4_gR w := by
  match a, hs, e with
  | .inl (.inl none), _, e => cases e
  | .inl (.inl (some p)), hs, e =>
    cases e
    rw [hs.1]
    exact ⟨rfl, hs.2⟩
  | .inl (.inr c), hs, e =>
    rw [hs.1]
    exact H c hs.2 w e
  | .inr (.inl (true, o1, _)), hs, e =>
    obtain ⟨o2, h1, h2⟩ := hs
    rw [h1]
    exact p4_simO H h2 e
  | .inr (.inl (false, _, o2)), hs, e =>
    obtain ⟨o1, h1, h2⟩ := hs
    rw [h1]
    exact p4_simO H h2 e
  | .inr (.inr (.inl (x, tb, c))), hs, e =>
    rw [hs.1]
    exact p4_simW H hs.2 e
  | .inr (.inr (.inr (cc, z, t, c))), hs, e =>
    rw [hs.1]
    exact p4_simL G H hs.2.1 hs.2.2 e
end FS
/-! what a step does to values and locals -/
theorem p4_gSt (h : p4_gS (v :: st)) : p4_gS st := fun w hw => h w (List.mem_cons_of_mem _ hw)
theorem p4_gSh (h : p4_gS (v :: st)) : p4_gv v := h v List.mem_cons_self
theorem p4_gSc (hv : p4_gv v) (h : p4_gS st) : p4_gS (v :: st) := fun w hw => by
  rcases List.mem_cons.mp hw with q | q
  · subst q; exact hv
  · exact h w q
theorem p4_twod : pd_two (p4_sh d v) = pd_two v := by
  rcases v with (x | x) | ((x | x) | ⟨t, o⟩) <;> rfl
theorem p4_is2d {o : Option pd_V} : pd_is2 (o.map (p4_sh d)) = pd_is2 o := by
  cases o with
  | none => rfl
  | some v => exact p4_twod
theorem p4_nthd : ∀ (ls : pd_L) (k : Nat), pd_nth (p4_eL d ls) k = (pd_nth ls k).map (p4_sh d)
  | [], _ => rfl
  | _ :: _, 0 => rfl
  | _ :: t, k + 1 => p4_nthd t k
theorem p4_set1d : ∀ (ls : pd_L) (k : Nat) (v : pd_V), pd_set1 (p4_eL d ls) k (p4_sh d v) = p4_eL d (pd_set1 ls k v)
  | [], _, _ => rfl
  | _ :: _, 0, _ => rfl
  | a :: t, 1, v => by
    show cond (pd_is2 (a.map (p4_sh d))) none (a.map (p4_sh d)) :: pd_set1 (p4_eL d t) 0 (p4_sh d v) = (cond (pd_is2 a) none a).map (p4_sh d) :: p4_eL d (pd_set1 t 0 v)
    rw [p4_is2d, p4_set1d t 0 v]
    cases pd_is2 a <;> rfl
  | a :: t, k + 2, v => congrArg (a.map (p4_sh d) :: ·) (p4_set1d t (k + 1) v)
theorem p4_clrd (ls : pd_L) : pd_clr (p4_eL d ls) = p4_eL d (pd_clr ls) := by cases ls <;> rfl
theorem p4_set2d : ∀ (ls : pd_L) (k : Nat) (v : pd_V), pd_set2 (p4_eL d ls) k (p4_sh d v) = p4_eL d (pd_set2 ls k v)
  | [], _, _ => rfl
  | _ :: t, 0, v => by
    show some (p4_sh d v) :: pd_clr (p4_eL d t) = some (p4_sh d v) :: p4_eL d (pd_clr t)
    rw [p4_clrd]
  | a :: t, 1, v => by
    show cond (pd_is2 (a.map (p4_sh d))) none (a.map (p4_sh d)) :: pd_set2 (p4_eL d t) 0 (p4_sh d v) = (cond (pd_is2 a) none a).map (p4_sh d) :: p4_eL d (pd_set2 t 0 v)
    rw [p4_is2d, p4_set2d t 0 v]
    cases pd_is2 a <;> rfl
  | a :: t, k + 2, v => congrArg (a.map (p4_sh d) :: ·) (p4_set2d t (k + 1) v)
theorem p4_noned : ∀ n, p4_eL d (pd_none n) = pd_none n
  | 0 => rfl
  | n + 1 => congrArg (none :: ·) (p4_noned n)
theorem p4_end : ∀ (av : List pd_V) (n : Nat), pd_en (p4_eS d av) n = p4_eL d (pd_en av n)
  | [], n => (p4_noned n).symm
  | v :: r, n => by
    show cond (pd_two (p4_sh d v)) (some (p4_sh d v) :: none :: pd_en (p4_eS d r) (n - 2)) (some (p4_sh d v) :: pd_en (p4_eS d r) (n - 1)) = p4_eL d (cond (pd_two v) _ _)
    rw [p4_twod, p4_end r, p4_end r]
    cases pd_two v <;> rfl
theorem p4_catsd : ∀ (st : List pd_V), pd_cats (p4_eS d st) = pd_cats st
  | [] => rfl
  | v :: r => by
    show cond (pd_two (p4_sh d v)) 2 1 + pd_cats (p4_eS d r) = cond (pd_two v) 2 1 + pd_cats r
    rw [p4_twod, p4_catsd r]
theorem p4_gLnth : ∀ {ls : pd_L} {k : Nat}, p4_gL ls → pd_nth ls k = some v → p4_gv v
  | [], _, _, h => by cases h
  | a :: _, 0, g, h => g a List.mem_cons_self v h
  | _ :: t, k + 1, g, h => p4_gLnth (ls := t) (k := k) (fun o ho => g o (List.mem_cons_of_mem _ ho)) h
theorem p4_gLc {o : Option pd_V} (ho : ∀ w, o = some w → p4_gv w) (h : p4_gL ls) : p4_gL (o :: ls) := fun p hp => by
  rcases List.mem_cons.mp hp with q | q
  · subst q; exact ho
  · exact h p q
theorem p4_gLt {o : Option pd_V} (h : p4_gL (o :: ls)) : p4_gL ls := fun p hp => h p (List.mem_cons_of_mem _ hp)
theorem p4_gLh {o : Option pd_V} (h : p4_gL (o :: ls)) : ∀ w, o = some w → p4_gv w := h o List.mem_cons_self
theorem p4_gcd {o : Option pd_V} {b : Bool} (h : ∀ w, o = some w → p4_gv w) : ∀ w, cond b none o = some w → p4_gv w := by
  cases b
  · exact h
  · intro w hw; cases hw
theorem p4_gL1 (hv : p4_gv v) : ∀ (ls : pd_L) (k : Nat), p4_gL ls → p4_gL (pd_set1 ls k v)
  | [], _, h => h
  | _ :: t, 0, h => p4_gLc (fun w hw => by cases hw; exact hv) (p4_gLt h)
  | a :: t, 1, h => p4_gLc (p4_gcd (p4_gLh h)) (p4_gL1 hv t 0 (p4_gLt h))
  | a :: t, k + 2, h => p4_gLc (p4_gLh h) (p4_gL1 hv t (k + 1) (p4_gLt h))
theorem p4_gL2 (hv : p4_gv v) : ∀ (ls : pd_L) (k : Nat), p4_gL ls → p4_gL (pd_set2 ls k v)
  | [], _, h => h
  | [_], 0, h => p4_gLc (fun w hw => by cases hw; exact hv) (p4_gLt h)
  | _ :: _ :: t, 0, h => p4_gLc (fun w hw => by cases hw; exact hv) (p4_gLc (fun w hw => by cases hw) (p4_gLt (p4_gLt h)))
  | a :: t, 1, h => p4_gLc (p4_gcd (p4_gLh h)) (p4_gL2 hv t 0 (p4_gLt h))
  | a :: t, k + 2, h => p4_gLc (p4_gLh h) (p4_gL2 hv t (k + 1) (p4_gLt h))
theorem p4_gLn : ∀ n, p4_gL (pd_none n)
  | 0 => fun o ho => absurd ho List.not_mem_nil
  | n + 1 => p4_gLc (fun w hw => by cases hw) (p4_gLn n)
theorem p4_gLe : ∀ (av : List pd_V) (n : Nat), p4_gS av → p4_gL (pd_en av n)
  | [], n, _ => p4_gLn n
  | v :: r, n, h => by
    unfold pd_en
    cases pd_two v with
    | true => exact p4_gLc (fun w hw => by cases hw; exact p4_gSh h) (p4_gLc (fun w hw => by cases hw) (p4_gLe r _ (p4_gSt h)))
    | false => exact p4_gLc (fun w hw => by cases hw; exact p4_gSh h) (p4_gLe r _ (p4_gSt h))
/-! one lemma for each kind of step -/
theorem p4_tcs {t o : Nat} (h : p4_gv (pd_r t o)) : o < 230 ∧ pd_tag o = t ∧ (t = 0 ∨ t = 1 ∨ t = 2 ∨ t = 3 ∨ t = 4 ∨ t = 5 ∨ t = 6 ∨ t = 7 ∨ t = 8 ∨ t = 9 ∨ t = 20 ∨ t = 21 ∨ t = 22 ∨ t = 23 ∨ t = 24) := by
  obtain ⟨h1, h2⟩ : o < 230 ∧ pd_tag o = t := h
  have f : ∀ j, j < 230 → pd_tag j < 10 ∨ (20 ≤ pd_tag j ∧ pd_tag j < 25) := by decide +kernel
  have := f o h1
  exact ⟨h1, h2, by omega⟩
theorem p4_f23 : ∀ j, j < 230 → pd_tag j = 23 → pd_len j = 150 := by decide +kernel
theorem p4_f24 : ∀ j, j < 230 → pd_tag j = 24 → pd_len j = 6 := by decide +kernel
theorem p4_fchg : ∀ i, i < 150 → 80 + i < 230 ∧ pd_tag (80 + i) = 1 := by decide +kernel
theorem p4_fseq : ∀ i, i < 6 → 20 + 2 * i < 230 ∧ pd_tag (20 + 2 * i) = 4 := by decide +kernel
theorem ss_push (h : p4_gC (m, q, ls, st, S)) (hv : p4_sh d v = v) (g : p4_gv v) : p4_ss s d (pd_go (m, pc, ls, v :: st, S)) (pd_go (m, pc, p4_eL d ls, v :: p4_eS d st, p4_jn (p4_pt s d S))) := by
  refine ⟨?_, h.1, h.2.1, p4_gSc g h.2.2.1, h.2.2.2⟩
  show _ = (Sum.inl (Sum.inr (m, pc, p4_eL d ls, p4_sh d v :: p4_eS d st, _)) : pd_S)
  rw [hv]
theorem ss_gd {b : Bool} {c : pd_C} (hc : b = false → p4_gC c) : p4_ss s d (pd_gd b c) (pd_gd b (p4_eC s d c)) := by
  cases b with
  | false => exact ⟨none, rfl, fun c' e => by cases e; exact hc rfl⟩
  | true => exact ⟨some (p4_eC s d c), rfl, fun c' e => by cases e⟩
theorem ss_cd {b : Bool} {c1 c2 : pd_C} (h1 : p4_gC c1) (h2 : p4_gC c2) : p4_ss s d (.inr (.inl (b, some c1, some c2))) (.inr (.inl (b, some (p4_eC s d c1), some (p4_eC s d c2)))) := by
  cases b with
  | false => exact ⟨_, rfl, fun c' e => by cases e; exact h2⟩
  | true => exact ⟨_, rfl, fun c' e => by cases e; exact h1⟩
theorem ss_br {cc : ClassFile.Cond} {a b : Int32} {c1 c2 : pd_C} (h1 : p4_gC c1) (h2 : p4_gC c2) : p4_ss s d (pd_br cc a b c1 c2) (pd_br cc a b (p4_eC s d c1) (p4_eC s d c2)) := by
  cases cc <;> first | exact ss_cd h1 h2 | exact ss_cd h2 h1

theorem ss_ii {f : Int32 → Int32 → Int32} (h : p4_gC (m, q, ls, st, S)) : p4_ss s d (pd_ii f m pc ls st S) (pd_ii f m pc (p4_eL d ls) (p4_eS d st) (p4_jn (p4_pt s d S))) := by
  rcases st with _ | ⟨(a | a) | ((a | a) | ⟨a, a'⟩), _ | ⟨(b | b) | ((b | b) | ⟨b, b'⟩), r⟩⟩ <;> first | exact trivial | exact ⟨rfl, h.1, h.2.1, p4_gSc trivial (p4_gSt (p4_gSt (h.2.2.1))), h.2.2.2⟩
theorem ss_jj {f : Int64 → Int64 → Int64} (h : p4_gC (m, q, ls, st, S)) : p4_ss s d (pd_jj f m pc ls st S) (pd_jj f m pc (p4_eL d ls) (p4_eS d st) (p4_jn (p4_pt s d S))) := by
  rcases st with _ | ⟨(a | a) | ((a | a) | ⟨a, a'⟩), _ | ⟨(b | b) | ((b | b) | ⟨b, b'⟩), r⟩⟩ <;> first | exact trivial | exact ⟨rfl, h.1, h.2.1, p4_gSc trivial (p4_gSt (p4_gSt (h.2.2.1))), h.2.2.2⟩
theorem ss_ji {f : Int64 → Int32 → Int64} (h : p4_gC (m, q, ls, st, S)) : p4_ss s d (pd_ji f m pc ls st S) (pd_ji f m pc (p4_eL d ls) (p4_eS d st) (p4_jn (p4_pt s d S))) := by
  rcases st with _ | ⟨(a | a) | ((a | a) | ⟨a, a'⟩), _ | ⟨(b | b) | ((b | b) | ⟨b, b'⟩), r⟩⟩ <;> first | exact trivial | exact ⟨rfl, h.1, h.2.1, p4_gSc trivial (p4_gSt (p4_gSt (h.2.2.1))), h.2.2.2⟩
theorem ss_cv1 {f : Int32 → Int32} (h : p4_gC (m, q, ls, st, S)) : p4_ss s d (pd_cv1 f m pc ls st S) (pd_cv1 f m pc (p4_eL d ls) (p4_eS d st) (p4_jn (p4_pt s d S))) := by
  rcases st with _ | ⟨(a | a) | ((a | a) | ⟨a, a'⟩), r⟩ <;> first | exact trivial | exact ⟨rfl, h.1, h.2.1, p4_gSc trivial (p4_gSt (h.2.2.1)), h.2.2.2⟩
theorem ss_ldi (h : p4_gC (m, q, ls, st, S)) : p4_ss s d (pd_ldi m pc ls st S k) (pd_ldi m pc (p4_eL d ls) (p4_eS d st) (p4_jn (p4_pt s d S)) k) := by
  unfold pd_ldi
  rw [p4_nthd]
  cases hq : pd_nth ls k with
  | none => exact trivial
  | some v =>
    have gv := p4_gLnth h.2.1 hq
    rcases v with (x | x) | ((x | x) | ⟨t, o⟩) <;> first | exact trivial | exact ⟨rfl, h.1, h.2.1, p4_gSc gv h.2.2.1, h.2.2.2⟩
theorem ss_ldj (h : p4_gC (m, q, ls, st, S)) : p4_ss s d (pd_ldj m pc ls st S k) (pd_ldj m pc (p4_eL d ls) (p4_eS d st) (p4_jn (p4_pt s d S)) k) := by
  unfold pd_ldj
  rw [p4_nthd]
  cases hq : pd_nth ls k with
  | none => exact trivial
  | some v =>
    have gv := p4_gLnth h.2.1 hq
    rcases v with (x | x) | ((x | x) | ⟨t, o⟩) <;> first | exact trivial | exact ⟨rfl, h.1, h.2.1, p4_gSc gv h.2.2.1, h.2.2.2⟩
theorem ss_lda (h : p4_gC (m, q, ls, st, S)) : p4_ss s d (pd_lda m pc ls st S k) (pd_lda m pc (p4_eL d ls) (p4_eS d st) (p4_jn (p4_pt s d S)) k) := by
  unfold pd_lda
  rw [p4_nthd]
  cases hq : pd_nth ls k with
  | none => exact trivial
  | some v =>
    have gv := p4_gLnth h.2.1 hq
    rcases v with (x | x) | ((x | x) | ⟨t, o⟩) <;> first | exact trivial | exact ⟨rfl, h.1, h.2.1, p4_gSc gv h.2.2.1, h.2.2.2⟩
theorem ss_sti (h : p4_gC (m, q, ls, st, S)) : p4_ss s d (pd_sti m pc ls st S k) (pd_sti m pc (p4_eL d ls) (p4_eS d st) (p4_jn (p4_pt s d S)) k) := by
  rcases st with _ | ⟨v, r⟩
  · exact trivial
  · have e := p4_set1d (d := d) ls k v
    have gl := p4_gL1 (p4_gSh h.2.2.1) ls k h.2.1
    rcases v with (x | x) | ((x | x) | ⟨t, o⟩) <;> first | exact trivial | (refine ⟨?_, h.1, gl, p4_gSt h.2.2.1, h.2.2.2⟩; exact congrArg (fun l => (Sum.inl (Sum.inr (m, pc, l, p4_eS d r, p4_jn (p4_pt s d S))) : pd_S)) e)
theorem ss_stj (h : p4_gC (m, q, ls, st, S)) : p4_ss s d (pd_stj m pc ls st S k) (pd_stj m pc (p4_eL d ls) (p4_eS d st) (p4_jn (p4_pt s d S)) k) := by
  rcases st with _ | ⟨v, r⟩
  · exact trivial
  · have e := p4_set2d (d := d) ls k v
    have gl := p4_gL2 (p4_gSh h.2.2.1) ls k h.2.1
    rcases v with (x | x) | ((x | x) | ⟨t, o⟩) <;> first | exact trivial | (refine ⟨?_, h.1, gl, p4_gSt h.2.2.1, h.2.2.2⟩; exact congrArg (fun l => (Sum.inl (Sum.inr (m, pc, l, p4_eS d r, p4_jn (p4_pt s d S))) : pd_S)) e)
theorem ss_sta (h : p4_gC (m, q, ls, st, S)) : p4_ss s d (pd_sta m pc ls st S k) (pd_sta m pc (p4_eL d ls) (p4_eS d st) (p4_jn (p4_pt s d S)) k) := by
  rcases st with _ | ⟨v, r⟩
  · exact trivial
  · have e := p4_set1d (d := d) ls k v
    have gl := p4_gL1 (p4_gSh h.2.2.1) ls k h.2.1
    rcases v with (x | x) | ((x | x) | ⟨t, o⟩) <;> first | exact trivial | (refine ⟨?_, h.1, gl, p4_gSt h.2.2.1, h.2.2.2⟩; exact congrArg (fun l => (Sum.inl (Sum.inr (m, pc, l, p4_eS d r, p4_jn (p4_pt s d S))) : pd_S)) e)
theorem ss_inc {w : Int32} (h : p4_gC (m, q, ls, st, S)) : p4_ss s d (pd_inc m pc ls st S k w) (pd_inc m pc (p4_eL d ls) (p4_eS d st) (p4_jn (p4_pt s d S)) k w) := by
  unfold pd_inc
  rw [p4_nthd]
  cases hq : pd_nth ls k with
  | none => exact trivial
  | some v =>
    rcases v with (x | x) | ((x | x) | ⟨t, o⟩) <;> first | exact trivial | (refine ⟨?_, h.1, p4_gL1 (v := pd_i (x + w)) trivial ls k h.2.1, h.2.2.1, h.2.2.2⟩; exact congrArg (fun l => (Sum.inl (Sum.inr (m, pc, l, p4_eS d st, p4_jn (p4_pt s d S))) : pd_S)) (p4_set1d (d := d) ls k (pd_i (x + w))))
theorem ss_gf (hx11 : x < 10) {s0 : Nat} (hs0 : s0 < pd_nf x) (hk : pd_fkd x s0 = (k, y, z)) (h : p4_gC (m, q, ls, st, S)) : p4_ss s d (pd_gf m pc ls st S k x y z) (p4_gf m pc (p4_eL d ls) (p4_eS d st) (p4_jn (p4_pt s d S)) k x y z) := by
  rcases st with _ | ⟨(v | v) | ((v | v) | ⟨t, o⟩), r⟩ <;> first | exact trivial | skip
  have gv := p4_gSh h.2.2.1
  obtain ⟨g1, g2⟩ : o < 230 ∧ pd_tag o = t := gv
  have hr := p4_gSt h.2.2.1
  show p4_ss s d (cond (Nat.beq t x) _ pd_no) (cond (Nat.beq t x) _ pd_no)
  cases h1 : Nat.beq t x with
  | false => exact trivial
  | true =>
    have := Nat.eq_of_beq_eq_true h1
    subst this
    rw [cond_true, cond_true]
    have hmx := pd_fk_max t hx11 _ hs0
    rw [hk] at hmx
    match k, hk, hmx with
    | 0, hk, _ =>
      refine ⟨?_, h.1, h.2.1, p4_gSc trivial hr, h.2.2.2⟩
      show (Sum.inl (Sum.inr (m, pc, p4_eL d ls, pd_i ((p4_jn (p4_pt s d S)).1 (230 * d + o) y) :: p4_eS d r, _)) : pd_S) = _
      rw [p4_jn1 g1]
      rfl
    | 1, hk, _ =>
      refine ⟨?_, h.1, h.2.1, p4_gSc trivial hr, h.2.2.2⟩
      show (Sum.inl (Sum.inr (m, pc, p4_eL d ls, pd_j ((p4_jn (p4_pt s d S)).2.1 (230 * d + o) y) :: p4_eS d r, _)) : pd_S) = _
      rw [p4_jn2 g1]
      rfl
    | 2, hk, _ =>
      have h5 := pd_fk_rel1 o g1 s0 (by rw [g2]; exact hs0) (by rw [g2]; exact hx11)
      rw [g2, hk] at h5
      have h6 := (h5 rfl).1
      refine ⟨?_, h.1, h.2.1, p4_gSc (v := pd_r z (o + y)) h6 hr, h.2.2.2⟩
      show (Sum.inl (Sum.inr (m, pc, p4_eL d ls, pd_r z (230 * d + o + y) :: p4_eS d r, _)) : pd_S) = _
      rw [Nat.add_assoc]
      rfl
    | 3, hk, _ =>
      have h5 := pd_fk_abs1 t hx11 _ hs0
      rw [hk] at h5
      have h6 := (h5 rfl).1
      refine ⟨?_, h.1, h.2.1, p4_gSc (v := pd_r z y) h6 hr, h.2.2.2⟩
      show (Sum.inl (Sum.inr (m, pc, p4_eL d ls, pd_r z (p4_bs (230 * d + o) + y) :: p4_eS d r, _)) : pd_S) = _
      rw [p4_bsd g1]
      rfl
    | 4, hk, hmx =>
      obtain ⟨e1, e2⟩ : y < 2 ∧ z = 2 := hmx.2 rfl
      subst e2
      refine ⟨?_, h.1, h.2.1, p4_gSc (v := pd_r 2 (S.2.2 y)) (h.2.2.2 y e1) hr, h.2.2.2⟩
      show (Sum.inl (Sum.inr (m, pc, p4_eL d ls, pd_r 2 ((p4_jn (p4_pt s d S)).2.2 (p4_bs (230 * d + o) + y)) :: p4_eS d r, _)) : pd_S) = _
      rw [p4_bsd g1, p4_jn3 (by omega)]
      rfl
    | k + 5, _, hmx => exact absurd hmx.1 (by show ¬ k + 5 ≤ 4; omega)
theorem p4_gHR {o2 : Nat} (h : p4_gH S) (h2 : o2 < 230 ∧ pd_tag o2 = 2) : p4_gH (pd_upR S y o2) := by
  intro y' hy'
  show (if y' = y then o2 else S.2.2 y') < 230 ∧ pd_tag (if y' = y then o2 else S.2.2 y') = 2
  by_cases e : y' = y
  · rw [if_pos e]; exact h2
  · rw [if_neg e]; exact h y' hy'
theorem ss_pf (h4 : k = 4 → y ≤ 1 ∧ z = 2) (h : p4_gC (m, q, ls, st, S)) : p4_ss s d (pd_pf m pc ls st S k x y z) (p4_pf m pc (p4_eL d ls) (p4_eS d st) (p4_jn (p4_pt s d S)) k x y z) := by
  rcases st with _ | ⟨(v | v) | ((v | v) | ⟨t2, o2⟩), _ | ⟨(w | w) | ((w | w) | ⟨t, o⟩), r⟩⟩ <;> first | exact trivial | skip
  · obtain ⟨g1, g2⟩ : o < 230 ∧ pd_tag o = t := p4_gSh (p4_gSt h.2.2.1)
    have hr := p4_gSt (p4_gSt h.2.2.1)
    show p4_ss s d (cond (Nat.beq t x) _ pd_no) (cond (Nat.beq t x) _ pd_no)
    cases h1 : Nat.beq t x with
    | false => exact trivial
    | true =>
      rw [cond_true, cond_true]
      rcases k with _ | _ | _ | _ | _ | _ | k <;> first | exact trivial | skip
      · refine ⟨?_, h.1, h.2.1, hr, h.2.2.2⟩
        show (Sum.inl (Sum.inr (m, pc, p4_eL d ls, p4_eS d r, pd_upI (p4_jn (p4_pt s d S)) (230 * d + o) y v)) : pd_S) = _
        rw [p4_upI g1]
        rfl
      · show p4_ss s d (.inr (.inl (decide (v = 0 ∨ v = 1), some (m, pc, ls, r, pd_upI S o y v), none))) (.inr (.inl (decide (v = 0 ∨ v = 1), some (m, pc, p4_eL d ls, p4_eS d r, pd_upI (p4_jn (p4_pt s d S)) (230 * d + o) y v), none)))
        rw [p4_upI g1]
        cases decide (v = 0 ∨ v = 1) with
        | true => exact ⟨none, rfl, fun c e => by cases e; exact ⟨h.1, h.2.1, hr, h.2.2.2⟩⟩
        | false => exact ⟨_, rfl, fun c e => by cases e⟩
  · obtain ⟨g1, g2⟩ : o < 230 ∧ pd_tag o = t := p4_gSh (p4_gSt h.2.2.1)
    have hr := p4_gSt (p4_gSt h.2.2.1)
    show p4_ss s d (cond (Nat.beq t x) _ pd_no) (cond (Nat.beq t x) _ pd_no)
    cases h1 : Nat.beq t x with
    | false => exact trivial
    | true =>
      rw [cond_true, cond_true]
      rcases k with _ | _ | k <;> first | exact trivial | skip
      refine ⟨?_, h.1, h.2.1, hr, h.2.2.2⟩
      show (Sum.inl (Sum.inr (m, pc, p4_eL d ls, p4_eS d r, pd_upJ (p4_jn (p4_pt s d S)) (230 * d + o) y v)) : pd_S) = _
      rw [p4_upJ g1]
      rfl
  · obtain ⟨g1, g2⟩ : o < 230 ∧ pd_tag o = t := p4_gSh (p4_gSt h.2.2.1)
    obtain ⟨g3, g4⟩ : o2 < 230 ∧ pd_tag o2 = t2 := p4_gSh h.2.2.1
    have hr := p4_gSt (p4_gSt h.2.2.1)
    show p4_ss s d (cond (Nat.beq t x) _ pd_no) (cond (Nat.beq t x) _ pd_no)
    cases h1 : Nat.beq t x with
    | false => exact trivial
    | true =>
      rw [cond_true, cond_true]
      cases h2 : Nat.beq t2 z with
      | false => exact trivial
      | true =>
        have e2 := Nat.eq_of_beq_eq_true h2
        rw [cond_true, cond_true]
        rcases k with _ | _ | _ | _ | _ | k <;> first | exact trivial | skip
        obtain ⟨e3, e4⟩ := h4 rfl
        refine ⟨?_, h.1, h.2.1, hr, p4_gHR h.2.2.2 ⟨g3, by omega⟩⟩
        show (Sum.inl (Sum.inr (m, pc, p4_eL d ls, p4_eS d r, pd_upR (p4_jn (p4_pt s d S)) (p4_bs (230 * d + o) + y) (230 * d + o2))) : pd_S) = _
        rw [p4_bsd g1, p4_upR (by omega)]
        rfl
theorem ss_ri (h : p4_gC (m, q, ls, st, S)) : p4_ss s d (pd_ri st S k) (pd_ri (p4_eS d st) (p4_jn (p4_pt s d S)) k) := by
  rcases st with _ | ⟨(v | v) | ((v | v) | ⟨t2, o2⟩), _ | ⟨w, r⟩⟩ <;> first | exact trivial | skip
  have g : p4_gR (S, some (pd_i v)) := ⟨h.2.2.2, fun w e => by cases e; exact trivial⟩
  cases k with
  | zero => exact ⟨rfl, g⟩
  | succ k =>
    show p4_ss s d (.inl (.inl (cond (decide (v = 0 ∨ v = 1)) (some (S, some (pd_i v))) none))) (.inl (.inl (cond (decide (v = 0 ∨ v = 1)) (some (p4_jn (p4_pt s d S), some (pd_i v))) none)))
    cases decide (v = 0 ∨ v = 1) with
    | true => exact ⟨rfl, g⟩
    | false => exact trivial
theorem p4_eSt (n : Nat) : (p4_eS d st).take n = p4_eS d (st.take n) := (List.map_take ..).symm
theorem p4_eSd (n : Nat) : (p4_eS d st).drop n = p4_eS d (st.drop n) := (List.map_drop ..).symm
theorem p4_eSr : (p4_eS d st).reverse = p4_eS d st.reverse := (List.map_reverse ..).symm
theorem ss_ca (hk : k < 90) (h : p4_gC (m, q, ls, st, S)) : p4_ss s d (pd_ca m pc ls st S k x y z) (pd_ca m pc (p4_eL d ls) (p4_eS d st) (p4_jn (p4_pt s d S)) k x y z) := by
  unfold pd_ca
  rw [p4_eSt, p4_eSd, p4_eSr, p4_catsd, p4_catsd, p4_end, show (p4_eS d st).length = st.length from List.length_map ..]
  cases Nat.ble x st.length with
  | false => exact trivial
  | true =>
    cases Nat.ble (pd_cats (st.drop x)) 8 with
    | false => exact trivial
    | true =>
      cases Nat.ble (pd_cats (st.take x)) y with
      | false => exact trivial
      | true => exact ⟨rfl, ⟨hk, p4_gLe _ _ (fun v hv => h.2.2.1 v (List.mem_of_mem_take (List.mem_reverse.mp hv))), fun v hv => absurd hv List.not_mem_nil, h.2.2.2⟩, ⟨h.1, h.2.1, fun v hv => h.2.2.1 v (List.mem_of_mem_drop hv), h.2.2.2⟩⟩
theorem ss_cav (hk : k < 90) (h : p4_gC (m, q, ls, st, S)) : p4_ss s d (pd_cav m pc ls st S k x y z) (pd_cav m pc (p4_eL d ls) (p4_eS d st) (p4_jn (p4_pt s d S)) k x y z) := by
  unfold pd_cav
  rw [p4_eSt, p4_eSr]
  rcases (st.take x).reverse with _ | ⟨(v | v) | ((v | v) | ⟨t, o⟩), r⟩ <;> first | exact trivial | skip
  show p4_ss s d (cond (Nat.beq t (z / 256)) _ pd_no) (cond (Nat.beq t (z / 256)) _ pd_no)
  cases Nat.beq t (z / 256) with
  | false => exact trivial
  | true => exact ss_ca hk h
theorem ss_ald (hd : d < 4) (h : p4_gC (m, q, ls, st, S)) : p4_ss s d (pd_ald m pc ls st S) (p4_ald m pc (p4_eL d ls) (p4_eS d st) (p4_jn (p4_pt s d S))) := by
  rcases st with _ | ⟨(i | i) | ((i | i) | ⟨i, i'⟩), _ | ⟨(w | w) | ((w | w) | ⟨t, o⟩), r⟩⟩ <;> first | exact trivial | skip
  obtain ⟨g1, g2, g3⟩ := p4_tcs (p4_gSh (p4_gSt h.2.2.1))
  have hr := p4_gSt (p4_gSt h.2.2.1)
  rcases g3 with rfl | rfl | rfl | rfl | rfl | rfl | rfl | rfl | rfl | rfl | rfl | rfl | rfl | rfl | rfl <;> first | exact trivial | skip
  show p4_ss s d (pd_gd _ (m, pc, ls, pd_i (S.1 o i.toNatClampNeg) :: r, S)) (pd_gd (pd_ob i (p4_len (230 * d + o))) (m, pc, p4_eL d ls, pd_i ((p4_jn (p4_pt s d S)).1 (230 * d + o) i.toNatClampNeg) :: p4_eS d r, p4_jn (p4_pt s d S)))
  rw [p4_lend hd g1, p4_jn1 g1]
  exact ss_gd (c := (m, pc, ls, pd_i (S.1 o i.toNatClampNeg) :: r, S)) (fun _ => ⟨h.1, h.2.1, p4_gSc trivial hr, h.2.2.2⟩)
theorem ss_bld (hd : d < 4) (h : p4_gC (m, q, ls, st, S)) : p4_ss s d (pd_bld m pc ls st S) (p4_bld m pc (p4_eL d ls) (p4_eS d st) (p4_jn (p4_pt s d S))) := by
  rcases st with _ | ⟨(i | i) | ((i | i) | ⟨i, i'⟩), _ | ⟨(w | w) | ((w | w) | ⟨t, o⟩), r⟩⟩ <;> first | exact trivial | skip
  obtain ⟨g1, g2, g3⟩ := p4_tcs (p4_gSh (p4_gSt h.2.2.1))
  have hr := p4_gSt (p4_gSt h.2.2.1)
  rcases g3 with rfl | rfl | rfl | rfl | rfl | rfl | rfl | rfl | rfl | rfl | rfl | rfl | rfl | rfl | rfl <;> first | exact trivial | skip
  show p4_ss s d (pd_gd _ (m, pc, ls, pd_i (S.1 o i.toNatClampNeg) :: r, S)) (pd_gd (pd_ob i (p4_len (230 * d + o))) (m, pc, p4_eL d ls, pd_i ((p4_jn (p4_pt s d S)).1 (230 * d + o) i.toNatClampNeg) :: p4_eS d r, p4_jn (p4_pt s d S)))
  rw [p4_lend hd g1, p4_jn1 g1]
  exact ss_gd (c := (m, pc, ls, pd_i (S.1 o i.toNatClampNeg) :: r, S)) (fun _ => ⟨h.1, h.2.1, p4_gSc trivial hr, h.2.2.2⟩)
theorem ss_lld (hd : d < 4) (h : p4_gC (m, q, ls, st, S)) : p4_ss s d (pd_lld m pc ls st S) (p4_lld m pc (p4_eL d ls) (p4_eS d st) (p4_jn (p4_pt s d S))) := by
  rcases st with _ | ⟨(i | i) | ((i | i) | ⟨i, i'⟩), _ | ⟨(w | w) | ((w | w) | ⟨t, o⟩), r⟩⟩ <;> first | exact trivial | skip
  obtain ⟨g1, g2, g3⟩ := p4_tcs (p4_gSh (p4_gSt h.2.2.1))
  have hr := p4_gSt (p4_gSt h.2.2.1)
  rcases g3 with rfl | rfl | rfl | rfl | rfl | rfl | rfl | rfl | rfl | rfl | rfl | rfl | rfl | rfl | rfl <;> first | exact trivial | skip
  show p4_ss s d (pd_gd _ (m, pc, ls, pd_j (S.2.1 o i.toNatClampNeg) :: r, S)) (pd_gd (pd_ob i (p4_len (230 * d + o))) (m, pc, p4_eL d ls, pd_j ((p4_jn (p4_pt s d S)).2.1 (230 * d + o) i.toNatClampNeg) :: p4_eS d r, p4_jn (p4_pt s d S)))
  rw [p4_lend hd g1, p4_jn2 g1]
  exact ss_gd (c := (m, pc, ls, pd_j (S.2.1 o i.toNatClampNeg) :: r, S)) (fun _ => ⟨h.1, h.2.1, p4_gSc trivial hr, h.2.2.2⟩)
theorem p4_obN {i : Int32} (h : pd_ob i n = false) : i.toNatClampNeg < n := Nat.not_le.mp fun w => of_decide_eq_false h (Or.inr w)
theorem ss_qld (hd : d < 4) (h : p4_gC (m, q, ls, st, S)) : p4_ss s d (pd_qld m pc ls st S) (p4_qld m pc (p4_eL d ls) (p4_eS d st) (p4_jn (p4_pt s d S))) := by
  rcases st with _ | ⟨(i | i) | ((i | i) | ⟨i, i'⟩), _ | ⟨(w | w) | ((w | w) | ⟨t, o⟩), r⟩⟩ <;> first | exact trivial | skip
  obtain ⟨g1, g2, g3⟩ := p4_tcs (p4_gSh (p4_gSt h.2.2.1))
  have hr := p4_gSt (p4_gSt h.2.2.1)
  rcases g3 with rfl | rfl | rfl | rfl | rfl | rfl | rfl | rfl | rfl | rfl | rfl | rfl | rfl | rfl | rfl <;> first | exact trivial | skip
  · show p4_ss s d (pd_gd _ (m, pc, ls, pd_r 1 (80 + i.toNatClampNeg) :: r, S)) (pd_gd (pd_ob i (p4_len (230 * d + o))) (m, pc, p4_eL d ls, pd_r 1 (p4_bs (230 * d + o) + 80 + i.toNatClampNeg) :: p4_eS d r, p4_jn (p4_pt s d S)))
    rw [p4_lend hd g1, p4_bsd g1, Nat.add_assoc]
    refine ss_gd (c := (m, pc, ls, pd_r 1 (80 + i.toNatClampNeg) :: r, S)) (fun e => ⟨h.1, h.2.1, p4_gSc (v := pd_r 1 (80 + i.toNatClampNeg)) (p4_fchg _ ?_) hr, h.2.2.2⟩)
    have := p4_obN e
    rwa [p4_f23 o g1 g2] at this
  · show p4_ss s d (pd_gd _ (m, pc, ls, pd_r 4 (20 + 2 * i.toNatClampNeg) :: r, S)) (pd_gd (pd_ob i (p4_len (230 * d + o))) (m, pc, p4_eL d ls, pd_r 4 (p4_bs (230 * d + o) + 20 + 2 * i.toNatClampNeg) :: p4_eS d r, p4_jn (p4_pt s d S)))
    rw [p4_lend hd g1, p4_bsd g1, Nat.add_assoc]
    refine ss_gd (c := (m, pc, ls, pd_r 4 (20 + 2 * i.toNatClampNeg) :: r, S)) (fun e => ⟨h.1, h.2.1, p4_gSc (v := pd_r 4 (20 + 2 * i.toNatClampNeg)) (p4_fseq _ ?_) hr, h.2.2.2⟩)
    have := p4_obN e
    rwa [p4_f24 o g1 g2] at this
theorem ss_ast (hd : d < 4) (h : p4_gC (m, q, ls, st, S)) : p4_ss s d (pd_ast m pc ls st S) (p4_ast m pc (p4_eL d ls) (p4_eS d st) (p4_jn (p4_pt s d S))) := by
  rcases st with _ | ⟨(v | v) | ((v | v) | ⟨v, v'⟩), _ | ⟨(i | i) | ((i | i) | ⟨i, i'⟩), _ | ⟨(w | w) | ((w | w) | ⟨t, o⟩), r⟩⟩⟩ <;> first | exact trivial | skip
  obtain ⟨g1, g2, g3⟩ := p4_tcs (p4_gSh (p4_gSt (p4_gSt h.2.2.1)))
  have hr := p4_gSt (p4_gSt (p4_gSt h.2.2.1))
  rcases g3 with rfl | rfl | rfl | rfl | rfl | rfl | rfl | rfl | rfl | rfl | rfl | rfl | rfl | rfl | rfl <;> first | exact trivial | skip
  show p4_ss s d (pd_gd _ (m, pc, ls, r, pd_upI S o i.toNatClampNeg v)) (pd_gd (pd_ob i (p4_len (230 * d + o))) (m, pc, p4_eL d ls, p4_eS d r, pd_upI (p4_jn (p4_pt s d S)) (230 * d + o) i.toNatClampNeg v))
  rw [p4_lend hd g1, p4_upI g1]
  exact ss_gd (c := (m, pc, ls, r, pd_upI S o i.toNatClampNeg v)) (fun _ => ⟨h.1, h.2.1, hr, h.2.2.2⟩)
theorem ss_bst (hd : d < 4) (h : p4_gC (m, q, ls, st, S)) : p4_ss s d (pd_bst m pc ls st S) (p4_bst m pc (p4_eL d ls) (p4_eS d st) (p4_jn (p4_pt s d S))) := by
  rcases st with _ | ⟨(v | v) | ((v | v) | ⟨v, v'⟩), _ | ⟨(i | i) | ((i | i) | ⟨i, i'⟩), _ | ⟨(w | w) | ((w | w) | ⟨t, o⟩), r⟩⟩⟩ <;> first | exact trivial | skip
  obtain ⟨g1, g2, g3⟩ := p4_tcs (p4_gSh (p4_gSt (p4_gSt h.2.2.1)))
  have hr := p4_gSt (p4_gSt (p4_gSt h.2.2.1))
  rcases g3 with rfl | rfl | rfl | rfl | rfl | rfl | rfl | rfl | rfl | rfl | rfl | rfl | rfl | rfl | rfl <;> first | exact trivial | skip
  show p4_ss s d (pd_gd _ (m, pc, ls, r, pd_upI S o i.toNatClampNeg (vp_nar .boolean v))) (pd_gd (pd_ob i (p4_len (230 * d + o))) (m, pc, p4_eL d ls, p4_eS d r, pd_upI (p4_jn (p4_pt s d S)) (230 * d + o) i.toNatClampNeg (vp_nar .boolean v)))
  rw [p4_lend hd g1, p4_upI g1]
  exact ss_gd (c := (m, pc, ls, r, pd_upI S o i.toNatClampNeg (vp_nar .boolean v))) (fun _ => ⟨h.1, h.2.1, hr, h.2.2.2⟩)
theorem ss_lst (hd : d < 4) (h : p4_gC (m, q, ls, st, S)) : p4_ss s d (pd_lst m pc ls st S) (p4_lst m pc (p4_eL d ls) (p4_eS d st) (p4_jn (p4_pt s d S))) := by
  rcases st with _ | ⟨(v | v) | ((v | v) | ⟨v, v'⟩), _ | ⟨(i | i) | ((i | i) | ⟨i, i'⟩), _ | ⟨(w | w) | ((w | w) | ⟨t, o⟩), r⟩⟩⟩ <;> first | exact trivial | skip
  obtain ⟨g1, g2, g3⟩ := p4_tcs (p4_gSh (p4_gSt (p4_gSt h.2.2.1)))
  have hr := p4_gSt (p4_gSt (p4_gSt h.2.2.1))
  rcases g3 with rfl | rfl | rfl | rfl | rfl | rfl | rfl | rfl | rfl | rfl | rfl | rfl | rfl | rfl | rfl <;> first | exact trivial | skip
  show p4_ss s d (pd_gd _ (m, pc, ls, r, pd_upJ S o i.toNatClampNeg v)) (pd_gd (pd_ob i (p4_len (230 * d + o))) (m, pc, p4_eL d ls, p4_eS d r, pd_upJ (p4_jn (p4_pt s d S)) (230 * d + o) i.toNatClampNeg v))
  rw [p4_lend hd g1, p4_upJ g1]
  exact ss_gd (c := (m, pc, ls, r, pd_upJ S o i.toNatClampNeg v)) (fun _ => ⟨h.1, h.2.1, hr, h.2.2.2⟩)
theorem ss_aln (hd : d < 4) (h : p4_gC (m, q, ls, st, S)) : p4_ss s d (pd_aln m pc ls st S) (p4_aln m pc (p4_eL d ls) (p4_eS d st) (p4_jn (p4_pt s d S))) := by
  rcases st with _ | ⟨(w | w) | ((w | w) | ⟨t, o⟩), r⟩ <;> first | exact trivial | skip
  obtain ⟨g1, g2, g3⟩ := p4_tcs (p4_gSh h.2.2.1)
  have hr := p4_gSt h.2.2.1
  have e : (Sum.inl (Sum.inr (m, pc, p4_eL d ls, pd_i (Int32.ofNat (p4_len (230 * d + o))) :: p4_eS d r, p4_jn (p4_pt s d S))) : pd_S) = Sum.inl (Sum.inr (m, pc, p4_eL d ls, pd_i (Int32.ofNat (pd_len o)) :: p4_eS d r, p4_jn (p4_pt s d S))) := by rw [p4_lend hd g1]
  rcases g3 with rfl | rfl | rfl | rfl | rfl | rfl | rfl | rfl | rfl | rfl | rfl | rfl | rfl | rfl | rfl <;> first | exact trivial | exact ⟨e, h.1, h.2.1, p4_gSc trivial hr, h.2.2.2⟩
set_option maxHeartbeats 4000000 in
theorem ss_op (hd : d < 4) {op : pd_O} (hck : pd_ck m q op = true) (h : p4_gC (m, q, ls, st, S)) : p4_ss s d (pd_op m q ls st S op) (p4_op m q (p4_eL d ls) (p4_eS d st) (p4_jn (p4_pt s d S)) op) := by
  obtain ⟨i, n, ⟨k, x, y, z⟩, v, w, tb⟩ := op
  unfold pd_ck at hck
  rw [Bool.and_eq_true] at hck
  obtain ⟨-, hck⟩ := hck
  cases i with
  | iconst a =>
    exact ss_push h rfl trivial
  | bipush a =>
    exact ss_push h rfl trivial
  | sipush a =>
    exact ss_push h rfl trivial
  | ldc a =>
    exact ss_push h rfl trivial
  | ldc_w a =>
    exact ss_push h rfl trivial
  | lconst a =>
    exact ss_push h rfl trivial
  | ldc2_w a =>
    exact ss_push h rfl trivial
  | iload a =>
    exact ss_ldi h
  | iload_n a =>
    exact ss_ldi h
  | lload a =>
    exact ss_ldj h
  | lload_n a =>
    exact ss_ldj h
  | aload a =>
    exact ss_lda h
  | aload_n a =>
    exact ss_lda h
  | istore a =>
    exact ss_sti h
  | istore_n a =>
    exact ss_sti h
  | lstore a =>
    exact ss_stj h
  | lstore_n a =>
    exact ss_stj h
  | astore a =>
    exact ss_sta h
  | astore_n a =>
    exact ss_sta h
  | iinc a b =>
    exact ss_inc h
  | dup =>
    rcases st with _ | ⟨a, r⟩
    · exact trivial
    · show p4_ss s d (cond (pd_two a) pd_no _) (cond (pd_two (p4_sh d a)) pd_no _)
      rw [p4_twod]
      cases pd_two a with
      | true => exact trivial
      | false => exact ⟨rfl, h.1, h.2.1, p4_gSc (p4_gSh h.2.2.1) h.2.2.1, h.2.2.2⟩
  | dup2 =>
    rcases st with _ | ⟨a, _ | ⟨b, r⟩⟩
    · exact trivial
    · exact trivial
    · show p4_ss s d (cond (pd_two a) pd_no (cond (pd_two b) pd_no _)) (cond (pd_two (p4_sh d a)) pd_no (cond (pd_two (p4_sh d b)) pd_no _))
      rw [p4_twod, p4_twod]
      cases pd_two a with
      | true => exact trivial
      | false =>
        cases pd_two b with
        | true => exact trivial
        | false => exact ⟨rfl, h.1, h.2.1, p4_gSc (p4_gSh h.2.2.1) (p4_gSc (p4_gSh (p4_gSt h.2.2.1)) h.2.2.1), h.2.2.2⟩
  | pop =>
    rcases st with _ | ⟨a, r⟩
    · exact trivial
    · show p4_ss s d (cond (pd_two a) pd_no _) (cond (pd_two (p4_sh d a)) pd_no _)
      rw [p4_twod]
      cases pd_two a with
      | true => exact trivial
      | false => exact ⟨rfl, h.1, h.2.1, p4_gSt h.2.2.1, h.2.2.2⟩
  | iadd =>
    exact ss_ii h
  | isub =>
    exact ss_ii h
  | imul =>
    exact ss_ii h
  | iand =>
    exact ss_ii h
  | ior =>
    exact ss_ii h
  | ishl =>
    exact ss_ii h
  | ishr =>
    exact ss_ii h
  | iushr =>
    exact ss_ii h
  | ladd =>
    exact ss_jj h
  | lsub =>
    exact ss_jj h
  | lmul =>
    exact ss_jj h
  | land =>
    exact ss_jj h
  | lor =>
    exact ss_jj h
  | lshl =>
    exact ss_ji h
  | lshr =>
    exact ss_ji h
  | idiv =>
    rcases st with _ | ⟨(a | a) | ((a | a) | ⟨a, a'⟩), _ | ⟨(b | b) | ((b | b) | ⟨b, b'⟩), r⟩⟩ <;> first | exact trivial | exact ss_gd (fun _ => ⟨h.1, h.2.1, p4_gSc trivial (p4_gSt (p4_gSt h.2.2.1)), h.2.2.2⟩)
  | irem =>
    rcases st with _ | ⟨(a | a) | ((a | a) | ⟨a, a'⟩), _ | ⟨(b | b) | ((b | b) | ⟨b, b'⟩), r⟩⟩ <;> first | exact trivial | exact ss_gd (fun _ => ⟨h.1, h.2.1, p4_gSc trivial (p4_gSt (p4_gSt h.2.2.1)), h.2.2.2⟩)
  | ldiv =>
    rcases st with _ | ⟨(a | a) | ((a | a) | ⟨a, a'⟩), _ | ⟨(b | b) | ((b | b) | ⟨b, b'⟩), r⟩⟩ <;> first | exact trivial | exact ss_gd (fun _ => ⟨h.1, h.2.1, p4_gSc trivial (p4_gSt (p4_gSt h.2.2.1)), h.2.2.2⟩)
  | lrem =>
    rcases st with _ | ⟨(a | a) | ((a | a) | ⟨a, a'⟩), _ | ⟨(b | b) | ((b | b) | ⟨b, b'⟩), r⟩⟩ <;> first | exact trivial | exact ss_gd (fun _ => ⟨h.1, h.2.1, p4_gSc trivial (p4_gSt (p4_gSt h.2.2.1)), h.2.2.2⟩)
  | lcmp =>
    rcases st with _ | ⟨(a | a) | ((a | a) | ⟨a, a'⟩), _ | ⟨(b | b) | ((b | b) | ⟨b, b'⟩), r⟩⟩ <;> first | exact trivial | exact ⟨rfl, h.1, h.2.1, p4_gSc trivial (p4_gSt (p4_gSt h.2.2.1)), h.2.2.2⟩
  | lneg =>
    rcases st with _ | ⟨(a | a) | ((a | a) | ⟨a, a'⟩), r⟩ <;> first | exact trivial | exact ⟨rfl, h.1, h.2.1, p4_gSc trivial (p4_gSt h.2.2.1), h.2.2.2⟩
  | i2l =>
    rcases st with _ | ⟨(a | a) | ((a | a) | ⟨a, a'⟩), r⟩ <;> first | exact trivial | exact ⟨rfl, h.1, h.2.1, p4_gSc trivial (p4_gSt h.2.2.1), h.2.2.2⟩
  | l2i =>
    rcases st with _ | ⟨(a | a) | ((a | a) | ⟨a, a'⟩), r⟩ <;> first | exact trivial | exact ⟨rfl, h.1, h.2.1, p4_gSc trivial (p4_gSt h.2.2.1), h.2.2.2⟩
  | i2f =>
    rcases st with _ | ⟨(a | a) | ((a | a) | ⟨a, a'⟩), r⟩ <;> first | exact trivial | exact ⟨rfl, h.1, h.2.1, p4_gSc trivial (p4_gSt h.2.2.1), h.2.2.2⟩
  | l2f =>
    rcases st with _ | ⟨(a | a) | ((a | a) | ⟨a, a'⟩), r⟩ <;> first | exact trivial | exact ⟨rfl, h.1, h.2.1, p4_gSc trivial (p4_gSt h.2.2.1), h.2.2.2⟩
  | f2l =>
    rcases st with _ | ⟨(a | a) | ((a | a) | ⟨a, a'⟩), r⟩ <;> first | exact trivial | exact ⟨rfl, h.1, h.2.1, p4_gSc trivial (p4_gSt h.2.2.1), h.2.2.2⟩
  | l2d =>
    rcases st with _ | ⟨(a | a) | ((a | a) | ⟨a, a'⟩), r⟩ <;> first | exact trivial | exact ⟨rfl, h.1, h.2.1, p4_gSc trivial (p4_gSt h.2.2.1), h.2.2.2⟩
  | d2l =>
    rcases st with _ | ⟨(a | a) | ((a | a) | ⟨a, a'⟩), r⟩ <;> first | exact trivial | exact ⟨rfl, h.1, h.2.1, p4_gSc trivial (p4_gSt h.2.2.1), h.2.2.2⟩
  | i2b =>
    exact ss_cv1 h
  | i2c =>
    exact ss_cv1 h
  | i2s =>
    exact ss_cv1 h
  | ifCond cc a =>
    rcases st with _ | ⟨(w | w) | ((w | w) | ⟨a, a'⟩), r⟩ <;> first | exact trivial | exact ss_br (c1 := (m, k, ls, r, S)) (c2 := (m, q + n, ls, r, S)) ⟨h.1, h.2.1, p4_gSt h.2.2.1, h.2.2.2⟩ ⟨h.1, h.2.1, p4_gSt h.2.2.1, h.2.2.2⟩
  | if_icmp cc a =>
    rcases st with _ | ⟨(w | w) | ((w | w) | ⟨a, a'⟩), _ | ⟨(b | b) | ((b | b) | ⟨b, b'⟩), r⟩⟩ <;> first | exact trivial | exact ss_br (c1 := (m, k, ls, r, S)) (c2 := (m, q + n, ls, r, S)) ⟨h.1, h.2.1, p4_gSt (p4_gSt h.2.2.1), h.2.2.2⟩ ⟨h.1, h.2.1, p4_gSt (p4_gSt h.2.2.1), h.2.2.2⟩
  | goto a =>
    exact ⟨rfl, h.1, h.2.1, h.2.2.1, h.2.2.2⟩
  | tableswitch a b c e =>
    rcases st with _ | ⟨(w | w) | ((w | w) | ⟨a, a'⟩), r⟩ <;> first | exact trivial | exact ⟨rfl, h.1, h.2.1, p4_gSt h.2.2.1, h.2.2.2⟩
  | lookupswitch a b =>
    rcases st with _ | ⟨(w | w) | ((w | w) | ⟨a, a'⟩), r⟩ <;> first | exact trivial | exact ⟨rfl, h.1, h.2.1, p4_gSt h.2.2.1, h.2.2.2⟩
  | getfield a =>
    have hck : (Nat.beq n 3 && Nat.beq (pd_fs (pd_oc m) a).1 x && Nat.ble (x + 1) 10 && Nat.ble ((pd_fs (pd_oc m) a).2 + 1) (vwCl.getD x (RL, TX0, 0)).2.2 && decide (pd_fkd x (pd_fs (pd_oc m) a).2 = (k, y, z))) = true := hck
    simp only [Bool.and_eq_true] at hck
    exact ss_gf (Nat.le_of_ble_eq_true hck.1.1.2) (Nat.le_of_ble_eq_true hck.1.2) (of_decide_eq_true hck.2) h
  | putfield a =>
    have hck : (Nat.beq n 3 && Nat.beq (pd_fs (pd_oc m) a).1 x && Nat.ble (x + 1) 10 && Nat.ble ((pd_fs (pd_oc m) a).2 + 1) (vwCl.getD x (RL, TX0, 0)).2.2 && decide (pd_fkd x (pd_fs (pd_oc m) a).2 = (cond (Nat.beq k 5) 0 k, y, z)) && decide (((vwCl.getD x (RL, TX0, 0)).2.1 (pd_fs (pd_oc m) a).2).2.2.2 = false) && decide (pd_ty x (pd_fs (pd_oc m) a).2 = pd_pty k) && (!Nat.beq k 4 || (Nat.ble y 1 && Nat.beq z 2))) = true := hck
    rw [Bool.and_eq_true] at hck
    obtain ⟨-, e8⟩ := hck
    refine ss_pf (fun hk => ?_) h
    subst hk
    have e8 : (Nat.ble y 1 && Nat.beq z 2) = true := e8
    rw [Bool.and_eq_true] at e8
    exact ⟨Nat.le_of_ble_eq_true e8.1, Nat.eq_of_beq_eq_true e8.2⟩
  | iaload =>
    exact ss_ald hd h
  | baload =>
    exact ss_bld hd h
  | laload =>
    exact ss_lld hd h
  | aaload =>
    exact ss_qld hd h
  | iastore =>
    exact ss_ast hd h
  | bastore =>
    exact ss_bst hd h
  | lastore =>
    exact ss_lst hd h
  | arraylength =>
    exact ss_aln hd h
  | invokevirtual a =>
    have hck : (Nat.beq n 3 && pd_cl2 (pd_oc m) a k 0 && pd_ce m k x y (z % 256) 0 && Nat.beq (z / 256) (pd_oc k) && Nat.ble (pd_oc k + 1) 10) = true := hck
    simp only [Bool.and_eq_true] at hck
    have := (pd_ce_ok hck.1.1.2).1
    exact ss_cav (by omega) h
  | invokestatic a =>
    have hck : (Nat.beq n 3 && (pd_cl2 (pd_oc m) a k 0 || pd_cl2 (pd_oc m) a k 1) && pd_ce m k x y z 1) = true := hck
    rw [Bool.and_eq_true] at hck
    have := (pd_ce_ok hck.2).1
    exact ss_ca (by omega) h
  | ireturn =>
    exact ss_ri h
  | lreturn =>
    rcases st with _ | ⟨(v | v) | ((v | v) | ⟨t2, o2⟩), _ | ⟨w, r⟩⟩ <;> first | exact trivial | exact ⟨rfl, h.2.2.2, fun w e => by cases e; exact trivial⟩
  | areturn =>
    rcases st with _ | ⟨(v | v) | ((v | v) | ⟨t2, o2⟩), _ | ⟨w, r⟩⟩ <;> first | exact trivial | exact ⟨rfl, h.2.2.2, fun w e => by cases e; exact p4_gSh h.2.2.1⟩
  | return_ =>
    rcases st with _ | ⟨w, r⟩ <;> first | exact trivial | exact ⟨rfl, h.2.2.2, fun w e => by cases e⟩
  | _ => exact trivial
theorem ss_st (hT : pd_TF) (hd : d < 4) {c : pd_C} (h : p4_gC c) : p4_ss s d (pd_st pd_cd c) (p4_st pd_cd (p4_eC s d c)) := by
  obtain ⟨m, q, ls, st, S⟩ := c
  show p4_ss s d (match pd_cd m q with | some op => pd_op m q ls st S op | none => pd_no) (match pd_cd m q with | some op => p4_op m q (p4_eL d ls) (p4_eS d st) (p4_jn (p4_pt s d S)) op | none => pd_no)
  cases ho : pd_cd m q with
  | none => exact trivial
  | some op => exact ss_op hd (hT.1 m q op h.1 ho) h
/-- what one desk's machine comes to, the machine of all comes to on that desk -/
theorem p4_sim (hT : pd_TF) (hd : d < 4) : ∀ n, p4_sim1 s d (pd_ex pd_cd n) (p4_ex pd_cd n)
  | 0 => fun c _ w e => by cases e
  | n + 1 => fun c h w e => p4_simF (p4_sim hT hd n) (p4_sim hT hd n) (ss_st hT hd h) e
theorem p4_run_on (hT : pd_TF) (hd : d < 4) {c : pd_C} (h : p4_gC c) {w : pd_R} (e : pd_run pd_cd c = some w) : p4_run pd_cd (p4_eC s d c) = some (p4_eR s d w) ∧ p4_gR w := by
  obtain ⟨n, hn⟩ := pd_run_iff.mp e
  obtain ⟨e1, e2⟩ := p4_sim (s := s) hT hd n c h w hn
  exact ⟨p4_run_iff.mpr ⟨n, e1⟩, e2⟩
end SIM
