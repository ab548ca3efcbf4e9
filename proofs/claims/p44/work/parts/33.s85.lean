/-! (whole, 85.row) -/
section ROW
variable {kd sz kd' sz' : Nat → Int32} {chg : Nat → cC}
/-- a change that has nothing to do with a slot -/
def c_off (j : Nat) (c : cC) : Prop := c.2.2.2.1 ≠ nI j ∧ c.1 ≠ nI j
theorem c_sl_ne {s : Int32} (hs : pu_sl s) {j : Nat} (hj : j < 6) (h : s ≠ nI j) : s.toNatClampNeg ≠ j := by
  obtain ⟨x, x1, rfl⟩ := pu_sl_nI hs
  rw [nI_clamp (by omega)]
  exact fun q => h (by rw [q])
theorem c_rdF_kd {s w i : Int32} (h1 : kd s.toNatClampNeg = kd' s.toNatClampNeg) (h2 : sz s.toNatClampNeg = sz' s.toNatClampNeg) : c_rdF kd sz s w i = c_rdF kd' sz' s w i := by
  unfold c_rdF c_arrF c_idxF
  rw [h1, h2]
theorem c_wrF_kd {s w i : Int32} (h1 : kd s.toNatClampNeg = kd' s.toNatClampNeg) (h2 : sz s.toNatClampNeg = sz' s.toNatClampNeg) : c_wrF kd sz s w i = c_wrF kd' sz' s w i := by
  unfold c_wrF c_arrF c_idxF
  rw [h1, h2]
variable {j : Nat} (hj : j < 6) (hk : ∀ x, x ≠ j → kd x = kd' x ∧ sz x = sz' x)
theorem c_f1_kd (hj : j < 6) (hk : ∀ x, x ≠ j → kd x = kd' x ∧ sz x = sz' x) {c : cC} (hc : c_ok c) (ho : c_off j c) : c_f1 kd sz c = c_f1 kd' sz' c := by
  unfold c_f1
  by_cases q : c.1 = -1
  · rw [decide_eq_true q, cond_true, cond_true]
  · have h := hk _ (c_sl_ne (hc.1.resolve_left q) hj ho.2)
    rw [decide_eq_false q, cond_false, cond_false]
    exact c_rdF_kd h.1 h.2
theorem c_fd_kd (hj : j < 6) (hk : ∀ x, x ≠ j → kd x = kd' x ∧ sz x = sz' x) {c : cC} (hc : c_ok c) (ho : c_off j c) (R : cR) : c_fd kd sz R c = c_fd kd' sz' R c := by
  have h := hk _ (c_sl_ne hc.2 hj ho.1)
  unfold c_fd c_f2
  rw [c_f1_kd hj hk hc ho, c_wrF_kd h.1 h.2]
theorem c_one_kd (hj : j < 6) (hk : ∀ x, x ≠ j → kd x = kd' x ∧ sz x = sz' x) {c : cC} (hc : c_ok c) (ho : c_off j c) (R : cR) (p : Int32) (a : Nat) : c_one kd p a c R = c_one kd' p a c R := by
  have h := hk _ (c_sl_ne hc.2 hj ho.1)
  unfold c_one c_nt c_nn
  rw [h.1]
theorem c_ply_kd (hj : j < 6) (hk : ∀ x, x ≠ j → kd x = kd' x ∧ sz x = sz' x) : ∀ {t : List Nat} {R : cR}, (∀ a ∈ t, c_ok (chg a) ∧ c_off j (chg a)) → c_ply kd sz chg t R = c_ply kd' sz' chg t R := by
  intro t
  induction t with
  | nil => intro R _; rfl
  | cons a t ih =>
    intro R h
    obtain ⟨h1, h2⟩ := h a List.mem_cons_self
    have hf := c_fd_kd hj hk h1 h2 R
    by_cases h0 : c_fd kd sz R (chg a) = 0
    · rw [c_ply_ok h0, c_ply_ok (by rw [← hf]; exact h0), c_one_kd hj hk h1 h2]
      exact ih (fun b hb => h b (List.mem_cons_of_mem _ hb))
    · rw [c_ply_bad h0, c_ply_bad (by rw [← hf]; exact h0), hf]
/-- the cells of a slot -/
def c_in_s (j c : Nat) : Prop := 12 * j ≤ c ∧ c < 12 * j + 12
theorem c_fd_wr {R : cR} {c : cC} (h : c_fd kd sz R c = 0) : c_wrF kd sz c.2.2.2.1 (c_ww R c) c.2.2.2.2.1 = 0 := by
  unfold c_fd at h
  by_cases q : c_f1 kd sz c = 0
  · rw [decide_eq_true q, cond_true] at h; exact h
  · rw [decide_eq_false q, cond_false] at h; exact absurd h q
theorem c_wrF_0 {s w i : Int32} (h : c_wrF kd sz s w i = 0) : c_arrF kd s = 0 ∧ c_idxF sz s i = 0 := by
  unfold c_wrF at h
  by_cases q : c_arrF kd s = 0
  · refine ⟨q, ?_⟩
    rw [decide_eq_true q, cond_true] at h
    by_cases q7 : kd s.toNatClampNeg ≤ 7
    · rw [decide_eq_true q7, cond_true] at h
      by_cases q3 : c_tak (kd s.toNatClampNeg) (c_tyW w) = 0
      · rw [decide_eq_true q3] at h; exact absurd (show (4 : Int32) = 0 from h) (by decide)
      · rw [decide_eq_false q3, cond_false] at h; exact h
    · rw [decide_eq_false q7, cond_false] at h
      by_cases q8 : 8 ≤ w
      · rw [decide_eq_true q8, cond_true] at h
        by_cases q3 : c_tak (kd s.toNatClampNeg) (c_tyW w) = 0
        · rw [decide_eq_true q3] at h; exact absurd (show (4 : Int32) = 0 from h) (by decide)
        · rw [decide_eq_false q3, cond_false] at h; exact h
      · rw [decide_eq_false q8] at h; exact absurd (show (3 : Int32) = 0 from h) (by decide)
  · rw [decide_eq_false q, cond_false] at h; exact absurd h q
theorem c_ply_out (hj : j < 6) (hz : c_szok sz) : ∀ {t : List Nat} {R : cR}, (∀ a ∈ t, c_ok (chg a) ∧ c_off j (chg a)) → ∀ c, c_in_s j c → (c_ply kd sz chg t R).2.1 c = R.1 c ∧ (c_ply kd sz chg t R).2.2.1 c = R.2.1 c ∧ (c_ply kd sz chg t R).2.2.2.1 c = R.2.2.1 c := by
  intro t
  induction t with
  | nil => intro R _ c _; exact ⟨rfl, rfl, rfl⟩
  | cons a t ih =>
    intro R h c hc
    obtain ⟨h1, h2⟩ := h a List.mem_cons_self
    by_cases h0 : c_fd kd sz R (chg a) = 0
    · rw [c_ply_ok h0]
      obtain ⟨g1, g2, g3⟩ := ih (R := c_one kd (nI (a / 6)) a (chg a) R) (fun b hb => h b (List.mem_cons_of_mem _ hb)) c hc
      have hne : c ≠ c_tc (chg a) := by
        obtain ⟨-, e2⟩ := c_wrF_0 (c_fd_wr h0)
        obtain ⟨i, i1, i2, -⟩ := c_idxF_0 hz h1.2 e2
        obtain ⟨x, x1, x2⟩ := pu_sl_nI h1.2
        unfold c_tc
        rw [i2, x2, c_cell_eq x1 i1]
        have : x ≠ j := fun q => h2.1 (by rw [x2, q])
        have hc1 := hc.1
        have hc2 := hc.2
        omega
      rw [g1, g2, g3]
      exact ⟨pk_un hne, pk_uLn hne, pk_un hne⟩
    · rw [c_ply_bad h0]; exact ⟨rfl, rfl, rfl⟩
end ROW
/-! (whole, 86.rows) -/
section ROWS
variable {σ τ : pd_H} {S : cS} {j : Nat}
def c_plI (f : Nat → Int32) (j : Nat) (ty : Int32) : Nat → Nat → Int32
  | 0 => f
  | m + 1 => upd (c_plI f j ty m) (12 * j + m) ty
def c_plJ (f : Nat → Int64) (j : Nat) : Nat → Nat → Int64
  | 0 => f
  | m + 1 => vp_updL (c_plJ f j m) (12 * j + m) 0
theorem c_plI_in {f : Nat → Int32} {ty : Int32} {i : Nat} : ∀ {m : Nat}, i < m → c_plI f j ty m (12 * j + i) = ty := by
  intro m
  induction m with
  | zero => intro h; omega
  | succ m ih =>
    intro h
    show upd (c_plI f j ty m) (12 * j + m) ty (12 * j + i) = ty
    by_cases e : i = m
    · rw [e, pk_us]
    · rw [pk_un (by omega)]; exact ih (by omega)
theorem c_plJ_in {f : Nat → Int64} {i : Nat} : ∀ {m : Nat}, i < m → c_plJ f j m (12 * j + i) = 0 := by
  intro m
  induction m with
  | zero => intro h; omega
  | succ m ih =>
    intro h
    show vp_updL (c_plJ f j m) (12 * j + m) 0 (12 * j + i) = 0
    by_cases e : i = m
    · rw [e, pk_uLs]
    · rw [pk_uLn (by omega)]; exact ih (by omega)
theorem c_plI_out {f : Nat → Int32} {ty : Int32} {c : Nat} : ∀ {m : Nat}, m ≤ 12 → ¬ c_in_s j c → c_plI f j ty m c = f c := by
  intro m
  induction m with
  | zero => intro _ _; rfl
  | succ m ih =>
    intro hm h
    show upd (c_plI f j ty m) (12 * j + m) ty c = f c
    unfold c_in_s at h
    rw [pk_un (by omega)]; exact ih (by omega) h
theorem c_plJ_out {f : Nat → Int64} {c : Nat} : ∀ {m : Nat}, m ≤ 12 → ¬ c_in_s j c → c_plJ f j m c = f c := by
  intro m
  induction m with
  | zero => intro _ _; rfl
  | succ m ih =>
    intro hm h
    show vp_updL (c_plJ f j m) (12 * j + m) 0 c = f c
    unfold c_in_s at h
    rw [pk_uLn (by omega)]; exact ih (by omega) h
def s_rw (S : cS) (j : Nat) (kind : Int32) (m : Nat) (ty : Int32) : cS := (upd (s_kd S) j kind, upd (s_sz S) j (nI m), c_plI (s_bt S) j ty m, c_plJ (s_bn S) j m, s_ch S, s_ln S, s_pc S, s_or S, s_un S, s_vr S, s_tp S, s_fl S, s_mt S)
theorem s_off (hw : s_wf S) (hu : s_us S (nI j) = false) : ∀ a ∈ c_line (s_ln S) (s_or S), c_ok (s_ch S a) ∧ c_off j (s_ch S a) := fun a ha => by
  refine ⟨s_ok hw hw.2.2.1.1 a ha, ?_⟩
  unfold s_us at hu
  have := List.any_eq_false.mp hu a ha
  unfold c_tch at this
  rw [Bool.not_eq_true, Bool.or_eq_false_iff, decide_eq_false_iff_not, decide_eq_false_iff_not] at this
  exact this
variable {kind : Int32} {m : Nat} {ty : Int32}
/-- what comes of the order -/
theorem s_rw_play (hw : s_wf S) (hj : j < 6) (hm : m ≤ 12) (hu : s_us S (nI j) = false) : (s_play (s_rw S j kind m ty) (s_or S)).1 = none ∧ c_agr (fun c => c < 72 ∧ ¬ c_in_s j c) (fun a => a ∈ c_line (s_ln S) (s_or S)) (s_play (s_rw S j kind m ty) (s_or S)).2 (s_play S (s_or S)).2 ∧ ∀ c, c_in_s j c → (s_play (s_rw S j kind m ty) (s_or S)).2.1 c = c_plI (s_bt S) j ty m c ∧ (s_play (s_rw S j kind m ty) (s_or S)).2.2.1 c = c_plJ (s_bn S) j m c ∧ (s_play (s_rw S j kind m ty) (s_or S)).2.2.2.1 c = -1 ∧ (s_play S (s_or S)).2.2.2.1 c = -1 := by
  have hoff := s_off hw hu
  have hz := hw.1.2.1.sz
  have hz' : c_szok (upd (s_sz S) j (nI m)) := fun x hx => by
    by_cases e : x = j
    · rw [e, pk_us]; exact nI_le hm (by decide)
    · rw [pk_un e]; exact hz x hx
  have e1 : s_play S (s_or S) = c_ply (upd (s_kd S) j (-1)) (s_sz S) (s_ch S) (c_line (s_ln S) (s_or S)) (c_r0 (s_bt S) (s_bn S)) := c_ply_kd hj (fun x hx => ⟨(pk_un hx).symm, rfl⟩) hoff
  have e2 : s_play (s_rw S j kind m ty) (s_or S) = c_ply (upd (s_kd S) j (-1)) (s_sz S) (s_ch S) (c_line (s_ln S) (s_or S)) (c_r0 (c_plI (s_bt S) j ty m) (c_plJ (s_bn S) j m)) := c_ply_kd hj (fun x hx => ⟨(pk_un hx).trans (pk_un hx).symm, pk_un hx⟩) hoff
  have hA := c_ply_agr (kd := upd (s_kd S) j (-1)) (sz := s_sz S) (kd' := upd (s_kd S) j (-1)) (sz' := s_sz S) (V := fun c => c < 72 ∧ ¬ c_in_s j c) c_kz.rf (fun c hc => by
    refine ⟨c_vc_72 hc, fun q => ?_⟩
    obtain ⟨x, i, x1, i1, x2, -, x4⟩ := hc
    have : x = j := by have := q.1; have := q.2; omega
    subst this
    unfold c_arrF at x2
    rw [nI_clamp (by omega), pk_us] at x2
    exact absurd (show (1 : Int32) = 0 from x2) (by decide)) hz (chg := s_ch S) (chg' := s_ch S) (t := c_line (s_ln S) (s_or S)) (D := fun _ => False) (R := c_r0 (c_plI (s_bt S) j ty m) (c_plJ (s_bn S) j m)) (T := c_r0 (s_bt S) (s_bn S)) ⟨fun c hc => ⟨c_plI_out hm hc.2, c_plJ_out hm hc.2, rfl⟩, fun a ha => ha.elim⟩ (fun a ha => ⟨(hoff a ha).1, rfl⟩)
  rw [← e1, ← e2] at hA
  have hn := hA.1.trans hw.2.2.2.1
  refine ⟨hn, (hA.2 hn).mono (fun _ h => h) (fun a ha => Or.inr ha), fun c hc => ?_⟩
  have g1 := c_ply_out (kd := upd (s_kd S) j (-1)) (sz := s_sz S) (chg := s_ch S) hj hz (t := c_line (s_ln S) (s_or S)) (R := c_r0 (c_plI (s_bt S) j ty m) (c_plJ (s_bn S) j m)) hoff c hc
  have g2 := c_ply_out (kd := upd (s_kd S) j (-1)) (sz := s_sz S) (chg := s_ch S) hj hz (t := c_line (s_ln S) (s_or S)) (R := c_r0 (s_bt S) (s_bn S)) hoff c hc
  rw [← e2] at g1
  rw [← e1] at g2
  exact ⟨g1.1, g1.2.1, g1.2.2, g2.2.2⟩
/-- a kind as it may be, and the type of its elements -/
def c_kt (kind : Int32) (m : Nat) (ty : Int32) : Prop := m ≤ 12 ∧ ((kind = -1 ∧ m = 0) ∨ ∃ k : Nat, k < 15 ∧ kind = nI k ∧ (k < 8 → ty = nI k) ∧ (8 ≤ k → ty = 11))
theorem s_rw_wf (hw : s_wf S) (hj : j < 6) (hk : c_kt kind m ty) (hu : s_us S (nI j) = false) : s_wf (s_rw S j kind m ty) := by
  obtain ⟨hm, hk⟩ := hk
  refine ⟨⟨fun s hs => ?_, fun s hs => ?_, fun x hx ha i hi hs => ?_⟩, hw.2.1, hw.2.2.1, (s_rw_play hw hj hm hu).1, hw.2.2.2.2⟩
  · show upd (s_kd S) j kind s = -1 ∨ ∃ k : Nat, k < 15 ∧ upd (s_kd S) j kind s = nI k
    by_cases e : s = j
    · rw [e, pk_us]
      rcases hk with ⟨q, -⟩ | ⟨k, k1, k2, -⟩
      · exact Or.inl q
      · exact Or.inr ⟨k, k1, k2⟩
    · rw [pk_un e]; exact hw.1.1 s hs
  · show ∃ n : Nat, n ≤ 12 ∧ upd (s_sz S) j (nI m) s = nI n
    by_cases e : s = j
    · rw [e, pk_us]; exact ⟨m, hm, rfl⟩
    · rw [pk_un e]; exact hw.1.2.1 s hs
  · have ha : c_arrF (upd (s_kd S) j kind) (nI x) = 0 := ha
    have hs : nI i < upd (s_sz S) j (nI m) x := hs
    show c_okv (c_plI (s_bt S) j ty m (12 * x + i)) (c_plJ (s_bn S) j m (12 * x + i)) ∧ (upd (s_kd S) j kind x ≤ 7 → c_plI (s_bt S) j ty m (12 * x + i) = upd (s_kd S) j kind x)
    by_cases e : x = j
    · subst e
      rw [pk_us] at hs ⊢
      have him : i < m := by
        rw [Int32.lt_iff_toInt_lt, nI_toInt (by omega), nI_toInt (by omega)] at hs; omega
      rw [c_plI_in him, c_plJ_in him]
      rcases hk with ⟨-, q⟩ | ⟨k, k1, k2, k3, k4⟩
      · omega
      · have z : c_btw 0 2147483648 := ⟨by decide, by decide⟩
        have ok : ∀ t : Nat, t < 12 → c_okv (nI t) 0 := fun t ht => ⟨⟨t, ht, rfl⟩, fun _ => z, fun _ => z.mono (by decide), z.mono (by decide)⟩
        rcases Nat.lt_or_ge k 8 with q | q
        · rw [k3 q, k2]; exact ⟨ok k (by omega), fun _ => rfl⟩
        · refine ⟨by rw [k4 q]; exact ok 11 (by decide), fun q7 => ?_⟩
          rw [k2, show (7 : Int32) = nI 7 from rfl, nI_leI (by omega) (by decide)] at q7
          omega
    · have ho : ¬ c_in_s j (12 * x + i) := fun q => by have := q.1; have := q.2; omega
      rw [c_plI_out hm ho, c_plJ_out hm ho]
      rw [pk_un e] at hs ⊢
      refine hw.1.2.2 x hx ?_ i hi hs
      unfold c_arrF at ha ⊢
      rw [nI_clamp (by omega), pk_un e] at ha
      rw [nI_clamp (by omega)]
      exact ha
/-- the desk's shelf -/
theorem X_place_s (hj : j < 6) (hm : m ≤ 12) (kind : Int32) (σ : pd_H) : ∃ τ, Shelf_place (nI j) kind (nI m) σ = some (τ, none) ∧ τ.1 2 = upd (σ.1 2) j kind ∧ τ.1 3 = upd (σ.1 3) j (nI m) ∧ τ.1 5 = c_plI (σ.1 5) j (cond (decide ((7 : Int32) < kind)) 11 kind) m ∧ τ.2.1 6 = c_plJ (σ.2.1 6) j m ∧ pu_fr (fun k => k = 2 ∨ k = 3 ∨ k = 5 ∨ k = 6) σ τ := by
  have loop : ∀ (ty : Int32) (d2 : Option pd_V) (d k : Nat) (ρ : pd_H), k + d = m → ρ.1 5 = c_plI (σ.1 5) j ty k → ρ.2.1 6 = c_plJ (σ.2.1 6) j k → ∃ τ, Shelf_place_L31 (nI j) d2 (nI m) ty (nI k) ρ = some (τ, none) ∧ τ.1 5 = c_plI (σ.1 5) j ty m ∧ τ.2.1 6 = c_plJ (σ.2.1 6) j m ∧ pu_fr (fun k => k = 5 ∨ k = 6) ρ τ := by
    intro ty d2 d
    induction d with
    | zero =>
      intro k ρ hk h5 h6
      refine ⟨ρ, ?_, by rw [h5, show k = m by omega], by rw [h6, show k = m by omega], pu_fr.rf⟩
      rw [Shelf_place_L31_eq, decide_eq_true (nI_le (show m ≤ k by omega) (by omega)), cond_true]
    | succ d ih =>
      intro k ρ hk h5 h6
      obtain ⟨τ, t1, t2, t3, t4⟩ := ih (k + 1) (pd_upJ (pd_upI ρ 5 (12 * j + k) ty) 6 (12 * j + k) 0) (by omega) (by rw [pu_j1, pu_u1s, h5]; rfl) (by rw [pu_j2s, pu_u2, h6]; rfl)
      refine ⟨τ, ?_, t2, t3, ((pu_fr.upI (Or.inl rfl)).tr (pu_fr.upJ (Or.inr rfl))).tr t4⟩
      rw [Shelf_place_L31_eq, decide_eq_false (nI_ge (show k < m by omega) (by omega)), cond_false, X_cellOf_s, c_cell_nI hj (by omega), pd_bI_of, Values_put_s (o := 4) (N := 72) ρ rfl rfl (show 12 * j + k < 72 by omega) (by decide), pd_bV_of, ← nI_succ]
      exact t1
  have o6 : pd_ob (nI j) 6 = false := pu_obN hj (by decide)
  obtain ⟨τ, t1, t2, t3, t4⟩ := loop (cond (decide ((7 : Int32) < kind)) 11 kind) (some (pd_i kind)) m 0 (pd_upI (pd_upI σ 2 j kind) 3 j (nI m)) (Nat.zero_add _) (by rw [pu_u1n (by decide), pu_u1n (by decide)]; rfl) rfl
  refine ⟨τ, ?_, ?_, ?_, t2, t3, ((pu_fr.upI (Or.inl rfl)).tr (pu_fr.upI (Or.inr (Or.inl rfl)))).tr (t4.mono fun k hk => by omega)⟩
  · rw [Shelf_place_eq, show pd_len 2 = 6 from rfl, show pd_len 3 = 6 from rfl, o6, cond_false, cond_false, nI_clamp (by omega)]
    cases hd : decide ((7 : Int32) < kind) with
    | true => rw [hd] at t1; exact t1
    | false => rw [hd] at t1; exact t1
  · rw [t4.1 2 (by decide), pu_u1n (by decide), pu_u1s]
  · rw [t4.1 3 (by decide), pu_u1s, pu_u1n (by decide)]
/-- the desk places and plays -/
theorem X_placed (hw : s_wf S) (h : RX σ S) (hj : j < 6) (hk : c_kt kind m (cond (decide ((7 : Int32) < kind)) 11 kind)) (hu : s_us S (nI j) = false) : ∃ ρ τ, Shelf_place (nI j) kind (nI m) σ = some (ρ, none) ∧ Run_play (ρ.2.2 0) ρ = some (τ, none) ∧ RX τ (s_rw S j kind m (cond (decide ((7 : Int32) < kind)) 11 kind)) ∧ XF σ τ := by
  obtain ⟨ρ, r1, r2, r3, r5, r6, rf⟩ := X_place_s hj hk.1 kind σ
  have hw' := s_rw_wf hw hj hk hu
  obtain ⟨⟨a1, a2, a3, a4⟩, ⟨b1, b2, b3⟩, hrt, ⟨c1, c2, c3⟩, ⟨d1, d2, d3⟩, d4, d5, d6⟩ := h
  have e22 := rf.2.2
  have hr : σ.2.2 0 = 32 ∨ σ.2.2 0 = 48 := by rcases hrt with q | q <;> omega
  have hsh : x_sh ρ (s_rw S j kind m (cond (decide ((7 : Int32) < kind)) 11 kind)) := ⟨by rw [r2, a1]; rfl, by rw [r3, a2]; rfl, by rw [r5, a3]; rfl, by rw [r6, a4]; rfl⟩
  have hbk : x_bk ρ (s_rw S j kind m (cond (decide ((7 : Int32) < kind)) 11 kind)) := ⟨fun p k hp hk => by
    have hx : x_chg ρ (6 * p + k) = x_chg σ (6 * p + k) := by unfold x_chg; rw [rf.1 _ (by omega)]
    rw [hx]; exact b1 p k hp hk, fun p hp => by rw [rf.1 9 (by omega)]; exact b2 p hp, by rw [rf.1 7 (by omega)]; exact b3⟩
  have hor : pu_seq ρ (σ.2.2 0 + 1) (s_or S) := c1.of (by rw [rf.1 _ (by omega)]) (rf.1 _ (by omega))
  obtain ⟨τ, t1, t2, -, t4, -⟩ := x_play (r := σ.2.2 0) hw' hsh hbk (by omega) hor hw'.2.2.1.1
  obtain ⟨u1, -, u3⟩ := t4 hw'.2.2.2.1
  have fr2 : pu_fr (fun j => σ.2.2 0 ≤ j ∧ j < σ.2.2 0 + 16) ρ τ := t2.mono fun j hj => x_plK_in j hj
  have e1 : ∀ k, ¬ (σ.2.2 0 ≤ k ∧ k < σ.2.2 0 + 16) → τ.1 k = ρ.1 k := fr2.1
  have e1' : ∀ k, ¬ (σ.2.2 0 ≤ k ∧ k < σ.2.2 0 + 16) → ¬ (k = 2 ∨ k = 3 ∨ k = 5 ∨ k = 6) → τ.1 k = σ.1 k := fun k h1 h2 => (e1 k h1).trans (rf.1 k h2)
  have ee : τ.2.2 = σ.2.2 := fr2.2.2.trans e22
  have hseq : ∀ o l, 10 < o → o + 1 < 32 → pu_seq σ o l → pu_seq τ o l := fun o l h1 h2 q => q.of (by rw [e1' o (by omega) (by omega)]) (e1' (o + 1) (by omega) (by omega))
  refine ⟨ρ, τ, r1, by rw [e22]; exact t1, ⟨⟨?_, ?_, ?_, ?_⟩, ⟨?_, ?_, ?_⟩, ?_, ⟨?_, ?_, ?_⟩, ⟨?_, ?_, ?_⟩, ?_, ?_, ?_⟩, (XF.of rf (fun k hk => by omega)).tr (XF.of fr2 (fun k hk => by omega))⟩
  · rw [e1 2 (by omega)]; exact hsh.1
  · rw [e1 3 (by omega)]; exact hsh.2.1
  · rw [e1 5 (by omega)]; exact hsh.2.2.1
  · rw [fr2.2.1 6 (by omega)]; exact hsh.2.2.2
  · intro p k hp hk
    have hx : x_chg τ (6 * p + k) = x_chg ρ (6 * p + k) := by unfold x_chg; rw [e1 _ (by omega)]
    rw [hx]; exact hbk.1 p k hp hk
  · intro p hp; rw [e1 9 (by omega)]; exact hbk.2.1 p hp
  · rw [e1 7 (by omega)]; exact hbk.2.2
  · rw [ee]; exact hrt
  · rw [ee]; exact hor.of (by rw [t2.1 _ (by unfold x_plK x_stK x_ddK; omega)]) (by rw [t2.1 _ (by unfold x_plK x_stK x_ddK; omega)])
  · rw [ee]; exact x_rw_of (S := s_rw S j kind m (cond (decide (7 < kind)) 11 kind)) u1
  · rw [ee]; exact u3
  · exact hseq _ _ (by omega) (by omega) d1
  · rw [e1' 0 (by omega) (by omega)]; exact d2
  · intro v l hv
    have hv1 : v < (s_vr S).length := (List.getElem?_eq_some_iff.mp hv).1
    have hv6 := hw.2.2.1.2.2.2.1
    exact hseq _ _ (by omega) (by omega) (d3 v l hv)
  · rw [e1' 10 (by omega) (by omega), e1' 11 (by omega) (by omega)]; exact d4
  · rw [e1' 0 (by omega) (by omega)]; exact d5
  · rw [e1' 16 (by omega) (by omega)]; exact d6
end ROWS
/-! (whole, 87.rowj) -/
section ROWJ
variable {σ τ : pd_H} {S : cS}
def c_ty8 (k : Nat) : Int32 := cond (decide ((7 : Int32) < nI k)) 11 (nI k)
theorem c_ty8_s {k : Nat} (hk : k < 15) : c_ty8 k = cond (decide ((8 : Int32) ≤ nI k)) 11 (nI k) ∧ (k < 8 → c_ty8 k = nI k) ∧ (8 ≤ k → c_ty8 k = 11) := by
  have : ∀ k, k < 15 → c_ty8 k = cond (decide ((8 : Int32) ≤ nI k)) 11 (nI k) ∧ (k < 8 → c_ty8 k = nI k) ∧ (8 ≤ k → c_ty8 k = 11) := by decide +kernel
  exact this k hk
theorem c_kt_k {k m : Nat} (hk : k < 15) (hm : m ≤ 12) : c_kt (nI k) m (c_ty8 k) := ⟨hm, Or.inr ⟨k, hk, rfl, (c_ty8_s hk).2.1, (c_ty8_s hk).2.2⟩⟩
end ROWJ
