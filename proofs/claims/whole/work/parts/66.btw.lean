/-! Between: the desk. -/
section BTW
variable {σ : pd_H} {S : cS}
/-- over all slots, between any two -/
def s_al (S : cS) (t t' : Nat → Int32) (n n' : Nat → Int64) : Nat → Nat → Int32 → Int32
  | 0, _, s => s
  | d + 1, j, s => s_al S t t' n n' d (j + 1) (cond (decide (c_arrF (s_kd S) (nI j) = 0)) (s + c_mvb t t' n n' (c_cels j 0 (s_n S j)) 0) s)
theorem X_al_s (hw : s_wf S) (h : RX σ S) {o q : Nat} (h1 : pd_len (o + 1) = 72) (h2 : pd_len (o + 2) = 72) (g1 : pd_len (q + 1) = 72) (g2 : pd_len (q + 2) = 72) : X_allDifferences o q σ = some (σ, some (pd_i (s_al S (σ.1 (o + 1)) (σ.1 (q + 1)) (σ.2.1 (o + 2)) (σ.2.1 (q + 2)) 6 0 0))) := by
  have loop : ∀ (d j : Nat) (s : Int32), j + d = 6 → X_allDifferences_L5 o q s (nI j) σ = some (σ, some (pd_i (s_al S (σ.1 (o + 1)) (σ.1 (q + 1)) (σ.2.1 (o + 2)) (σ.2.1 (q + 2)) d j s))) := by
    intro d
    induction d with
    | zero =>
      intro j s hj
      have hj : j = 6 := hj
      rw [X_allDifferences_L5_eq, hj]; rfl
    | succ d ih =>
      intro j s hj
      have hj6 : j < 6 := by omega
      obtain ⟨n1, n2⟩ := s_n_ok hw hj6
      rw [X_allDifferences_L5_eq, show (6 : Int32) = nI 6 from rfl, decide_eq_false (nI_ge hj6 (by decide)), cond_false, x_arrF h (pu_sl_j hj6), pd_bI_of, X_differences_s hj6 n2 (by rw [h.1.2.1]; exact n1) h1 h2 g1 g2, pd_bI_of, nI_1, ih (j + 1) _ (by omega), ih (j + 1) _ (by omega)]
      show _ = some (σ, some (pd_i (s_al S _ _ _ _ d (j + 1) (cond (decide (c_arrF (s_kd S) (nI j) = 0)) (s + c_mvb (σ.1 (o + 1)) (σ.1 (q + 1)) (σ.2.1 (o + 2)) (σ.2.1 (q + 2)) (c_cels j 0 (s_n S j)) 0) s))))
      cases decide (c_arrF (s_kd S) (nI j) = 0) <;> rfl
  rw [X_allDifferences_eq]
  exact loop 6 0 0 rfl
theorem s_al_congr (hw : s_wf S) {t t' u u' : Nat → Int32} {n n' v v' : Nat → Int64} (e : ∀ c, c < 72 → t c = u c ∧ t' c = u' c ∧ n c = v c ∧ n' c = v' c) : ∀ (d j : Nat) (s : Int32), j + d = 6 → s_al S t t' n n' d j s = s_al S u u' v v' d j s := by
  intro d
  induction d with
  | zero => intro j s _; rfl
  | succ d ih =>
    intro j s hj
    obtain ⟨n1, n2⟩ := s_n_ok hw (show j < 6 by omega)
    show s_al S t t' n n' d (j + 1) _ = s_al S u u' v v' d (j + 1) _
    rw [c_mvb_congr (u := u) (u' := u') (v := v) (v' := v') (fun c hc => by
      obtain ⟨k, k1, k2, rfl⟩ := c_cels_mem hc
      exact e _ (by omega))]
    exact ih (j + 1) _ (by omega)
/-- what lies between two orders -/
def s_bw (S : cS) (l m : List Nat) : Int32 := match (s_play S l).1 with
  | some (_, f) => -10 - f
  | none => match (s_play S m).1 with
    | some (_, f) => -10 - f
    | none => s_al S (s_play S l).2.1 (s_play S m).2.1 (s_play S l).2.2.1 (s_play S m).2.2.1 6 0 0
theorem s_bw_1 {l m : List Nat} {a : Nat} {f : Int32} (h : (s_play S l).1 = some (a, f)) : s_bw S l m = -10 - f := by unfold s_bw; rw [h]
theorem s_bw_2 {l m : List Nat} {a : Nat} {f : Int32} (h0 : (s_play S l).1 = none) (h : (s_play S m).1 = some (a, f)) : s_bw S l m = -10 - f := by unfold s_bw; rw [h0, h]
theorem s_bw_3 {l m : List Nat} (h0 : (s_play S l).1 = none) (h : (s_play S m).1 = none) : s_bw S l m = s_al S (s_play S l).2.1 (s_play S m).2.1 (s_play S l).2.2.1 (s_play S m).2.2.1 6 0 0 := by unfold s_bw; rw [h0, h]
theorem X_btw_s (hw : s_wf S) (h : RX σ S) {v w : Nat} {l m : List Nat} (hl : (s_vr S)[v]? = some l) (hm : (s_vr S)[w]? = some m) : ∃ τ, X_between (nI v) (nI w) σ = some (τ, some (pd_i (s_bw S l m))) ∧ RX τ S ∧ XF σ τ := by
  have hv : v < (s_vr S).length := (List.getElem?_eq_some_iff.mp hl).1
  have hwl : w < (s_vr S).length := (List.getElem?_eq_some_iff.mp hm).1
  have hv6 := hw.2.2.1.2.2.2.1
  have ho := hw.2.2.1.2.2.2.2 l (List.mem_of_getElem? hl)
  have hom := hw.2.2.1.2.2.2.2 m (List.mem_of_getElem? hm)
  have hL : ∀ v, v < 6 → pd_len (20 + 2 * v + 1) = 24 := by decide +kernel
  obtain ⟨τ1, t1, t2, t3, t4, t5⟩ := X_tr_like hw h (h.2.2.2.2.1.2.2 v l hl) (hL v (by omega)) (Or.inl (by omega))
  have hr := x_run t3
  obtain ⟨τ2, v1, v2, v3, v4, v5⟩ := x_play hw t3.1 t3.2.1 (x_tr3 t3) t2 ho
  have frK : pu_fr (x_frK (τ1.2.2 1)) τ1 τ2 := v2.mono (fun k hk => by have := x_plK_in k hk; unfold x_frK; omega)
  have hX2 := RX_frK hw t3 frK
  have e22 : τ2.2.2 = τ1.2.2 := v2.2.2
  have xf2 : XF σ τ2 := t4.tr (fun k hk => ⟨v2.1 k (fun q => by have := x_plK_in k q; omega), v2.2.1 k (fun q => by have := x_plK_in k q; omega)⟩)
  have e0 : X_between (nI v) (nI w) σ = cond (decide ((τ2.1 (τ1.2.2 1) 10) = 0)) (pd_bV (Seq_becomeLike 65 (20 + 2 * w) τ2) fun s7 => pd_bV (Run_play 64 s7) fun s8 => cond (decide ((s8.1 64 10) = 0)) (pd_bI (X_allDifferences ((s8.2.2 1) + 3) 67 s8) fun s9 v10 => some (s9, some (pd_i v10))) (pd_bI (X_findingCode (s8.1 64 10) s8) fun s11 v12 => some (s11, some (pd_i v12)))) (pd_bI (X_findingCode (τ2.1 (τ1.2.2 1) 10) τ2) fun s13 v14 => some (s13, some (pd_i v14))) := by
    rw [X_between_eq, X_ver_1 hw h hv, pd_bI_of, decide_eq_false (by decide : ¬ (1 : Int32) = 0), cond_false, X_ver_1 hw h hwl, pd_bI_of, decide_eq_false (by decide : ¬ (1 : Int32) = 0), cond_false, show pd_len 19 = 6 from rfl, pu_obN (show v < 6 by omega) (by decide), cond_false, nI_clamp (show v < 2 ^ 31 by omega), t1, pd_bV_of, v1, pd_bV_of, e22, pu_obN (show w < 6 by omega) (by decide), cond_false, nI_clamp (show w < 2 ^ 31 by omega)]
  cases hp : (s_play S l).1 with
  | some q =>
    obtain ⟨w1, -, -⟩ := v5 q.1 q.2 hp
    obtain ⟨hne, -, -⟩ := c_ply_ne (a := q.1) (f := q.2) hp
    exact ⟨τ2, by rw [s_bw_1 (a := q.1) (f := q.2) hp, e0, w1, decide_eq_false hne, cond_false, X_findingCode_s, pd_bI_of], hX2, xf2⟩
  | none =>
    obtain ⟨w1, w2, -⟩ := v4 hp
    obtain ⟨τ3, a1, a2, a3⟩ := Seq_becomeLike_s (σ := τ2) (o := 65) (a := 20 + 2 * w) (hX2.2.2.2.2.1.2.2 w m hm) rfl (hL w (by omega)) (by omega) (by omega)
    have hr2 := x_run hX2
    have fr3 : pu_fr (x_frK (τ2.2.2 1)) τ2 τ3 := a3.mono (fun k hk => by unfold x_frK; omega)
    have hX3 := RX_frK hw hX2 fr3
    obtain ⟨τ4, b1, b2, b3, b4, b5⟩ := x_play hw hX3.1 hX3.2.1 (show (64 : Nat) = 32 ∨ (64 : Nat) = 48 ∨ (64 : Nat) = 64 from Or.inr (Or.inr rfl)) a2 hom
    have fr4 : pu_fr (x_frK (τ3.2.2 1)) τ3 τ4 := b2.mono (fun k hk => by have := x_plK_in k hk; unfold x_frK; omega)
    have hX4 := RX_frK hw hX3 fr4
    have e44 : τ4.2.2 = τ1.2.2 := by rw [b2.2.2, a3.2.2, e22]
    have xf4 : XF σ τ4 := (xf2.tr (XF.of a3 (fun k hk => by omega))).tr (fun k hk => ⟨b2.1 k (fun q => by have := x_plK_in k q; omega), b2.2.1 k (fun q => by have := x_plK_in k q; omega)⟩)
    have e1 : X_between (nI v) (nI w) σ = cond (decide ((τ4.1 64 10) = 0)) (pd_bI (X_allDifferences (τ1.2.2 1 + 3) 67 τ4) fun s9 v10 => some (s9, some (pd_i v10))) (pd_bI (X_findingCode (τ4.1 64 10) τ4) fun s11 v12 => some (s11, some (pd_i v12))) := by
      rw [e0, w2, decide_eq_true (rfl : (0 : Int32) = 0), cond_true, a1, pd_bV_of, b1, pd_bV_of, e44]
    refine ⟨τ4, ?_, hX4, xf4⟩
    cases hq : (s_play S m).1 with
    | some q =>
      obtain ⟨c1, -, -⟩ := b5 q.1 q.2 hq
      obtain ⟨hne, -, -⟩ := c_ply_ne (a := q.1) (f := q.2) hq
      rw [s_bw_2 (a := q.1) (f := q.2) hp hq, e1, c1, decide_eq_false hne, cond_false, X_findingCode_s, pd_bI_of]
    | none =>
      obtain ⟨c1, c2, -⟩ := b4 hq
      have hlen4 : pd_len (τ1.2.2 1 + 3 + 1) = 72 := by rcases hr with q | q <;> rw [q.2] <;> rfl
      have hlen5 : pd_len (τ1.2.2 1 + 3 + 2) = 72 := by rcases hr with q | q <;> rw [q.2] <;> rfl
      rw [s_bw_3 hp hq, e1, c2, decide_eq_true (rfl : (0 : Int32) = 0), cond_true, X_al_s hw hX4 hlen4 hlen5 rfl rfl, pd_bI_of]
      refine congrArg (fun v => some (τ4, some (pd_i v))) (s_al_congr hw (fun c hc => ?_) 6 0 0 rfl)
      obtain ⟨x1, x2, -⟩ := w1.1 c hc
      obtain ⟨y1, y2, -⟩ := c1.1 c hc
      refine ⟨?_, y1, ?_, y2⟩
      · rw [b2.1 _ (fun q => by have := x_plK_in _ q; omega), a3.1 _ (by omega)]; exact x1
      · rw [b2.2.1 _ (fun q => by have := x_plK_in _ q; omega), a3.2.1 _ (by omega)]; exact x2
end BTW
