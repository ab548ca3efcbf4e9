/-! Read: the desk. -/
section READX
variable {σ₀ σ : pd_H} {S : cS} {L l : List Nat}
theorem c_tw_ok {s : Nat} (hs : pu_sl (nI (s - 48))) {l r : List Nat} {c : cC} (h : c_tw s l = (some c, r)) : c_chok c ∧ c_nrm c := by
  unfold c_tw at h
  split at h
  · cases h
  · rename_i w l1 hp
    split at h
    · cases h
    · split at h
      · cases h
      · split at h
        · cases h
        · rename_i v l4 _
          have h : (some ((-1 : Int32), (0 : Int32), nI (w - 97), nI (s - 48), _, v), l4) = (some c, r) := h
          obtain ⟨p1, p2, p3⟩ := c_pb_some hp
          cases h
          exact ⟨⟨⟨Or.inl rfl, hs⟩, w - 97, rfl, fun _ => by omega, fun q => absurd rfl q⟩, fun _ => rfl, fun q => absurd rfl q⟩
theorem c_tcp_ok {s : Nat} (hs : pu_sl (nI (s - 48))) (hn : nI (s - 48) ≠ -1) {l r : List Nat} {c : cC} (h : c_tcp s l = (some c, r)) : c_chok c ∧ c_nrm c := by
  unfold c_tcp at h
  split at h
  · cases h
  · split at h
    · cases h
    · rename_i w l2 hp
      split at h
      · cases h
      · rename_i g l3 hq
        split at h
        · cases h
        · split at h
          · cases h
          · rename_i j l5 _
            have h : (some (nI (s - 48), _, nI (w - 97), nI (g - 48), j, (0 : Int32)), l5) = (some c, r) := h
            obtain ⟨p1, p2, p3⟩ := c_pb_some hp
            obtain ⟨q1, q2, q3⟩ := c_pb_some hq
            cases h
            exact ⟨⟨⟨Or.inr hs, pu_sl_of (by omega)⟩, w - 97, rfl, fun q => absurd q hn, fun _ => by omega⟩, fun q => absurd q hn, fun _ => rfl⟩
theorem c_tcg_ok {l r : List Nat} {c : cC} (h : c_tcg l = (some c, r)) : c_chok c ∧ c_nrm c := by
  unfold c_tcg at h
  split at h
  · cases h
  · rename_i s l1 hp
    obtain ⟨p1, p2, p3⟩ := c_pb_some hp
    have hs : pu_sl (nI (s - 48)) := pu_sl_of (by omega)
    have hn : nI (s - 48) ≠ -1 := by
      have : ∀ k, k < 6 → nI k ≠ -1 := by decide
      exact this _ (by omega)
    split at h
    · exact c_tw_ok hs h
    · exact c_tcp_ok hs hn h
/-- what follows from a text that is one -/
theorem c_prs_one {f : Nat} {l : List Nat} (h : (c_prs (f + 1) l).1 = true) : ∃ c, (c_tcg l = (some c, []) ∧ c_prs (f + 1) l = (true, [c], [])) ∨ ∃ r, c_tcg l = (some c, 59 :: r) ∧ (c_prs f r).1 = true ∧ c_prs (f + 1) l = (true, c :: (c_prs f r).2.1, (c_prs f r).2.2) := by
  rw [c_prs_tail] at h ⊢
  rcases hr : c_tcg l with ⟨_ | c, _ | ⟨b, r⟩⟩
  · rw [hr] at h; cases h
  · rw [hr] at h; cases h
  · exact ⟨c, Or.inl ⟨rfl, rfl⟩⟩
  · rw [hr] at h
    have h : (bif Nat.beq b 59 then (let q := c_prs f r; (q.1, c :: q.2.1, q.2.2)) else (false, [c], b :: r) : Bool × List cC × List Nat).1 = true := h
    cases hb : Nat.beq b 59 with
    | false => rw [hb] at h; cases h
    | true =>
      rw [hb] at h
      have h2 : (c_prs f r).1 = true := h
      have e := Nat.eq_of_beq_eq_true hb
      subst e
      refine ⟨c, Or.inr ⟨r, rfl, h2, ?_⟩⟩
      show ((c_prs f r).1, c :: (c_prs f r).2.1, (c_prs f r).2.2) = _
      rw [h2]
theorem c_prs_ok : ∀ {f : Nat} {l : List Nat}, (c_prs f l).1 = true → ∀ c ∈ (c_prs f l).2.1, c_chok c ∧ c_nrm c := by
  intro f
  induction f with
  | zero => intro l h; cases h
  | succ f ih =>
    intro l h c hc
    rcases c_prs_one h with ⟨d, ⟨g1, g2⟩ | ⟨r, g1, g2, g3⟩⟩
    · rw [g2] at hc
      rw [List.mem_singleton.mp hc]
      exact c_tcg_ok g1
    · rw [g3] at hc
      rcases List.mem_cons.mp hc with q | q
      · rw [q]; exact c_tcg_ok g1
      · exact ih g2 c q
def s_addL (S : cS) : List cC → cS
  | [] => S
  | c :: cs => s_addL (s_add S c) cs
theorem s_add_ln {c : cC} : s_ln (s_add S c) 24 = s_ln S 24 + 1 := by
  show c_updN (s_ln S) 24 (s_ln S 24 + 1) 24 = _
  exact c_updN_s
theorem s_addL_wf : ∀ {cs : List cC} {S : cS}, s_wf S → s_ln S 24 + cs.length ≤ 6 → (∀ c ∈ cs, c_chok c ∧ c_nrm c) → s_wf (s_addL S cs) := by
  intro cs
  induction cs with
  | nil => intro S h _ _; exact h
  | cons c cs ih =>
    intro S h h6 hc
    rw [List.length_cons] at h6
    have hc1 := hc c List.mem_cons_self
    exact ih (s_dr_wf h (s_addK h (by omega) hc1.1 hc1.2)) (by rw [s_add_ln]; omega) (fun d hd => hc d (List.mem_cons_of_mem _ hd))
/-- what is read is in the draft, the tape is empty -/
def s_rd1 (S : cS) (cs : List cC) : cS := s_ot (s_addL S cs) (s_un S) (s_vr S) [] (s_fl S) (s_mt S)
theorem X_read_loop : ∀ (f : Nat) (l : List Nat) (S : cS) (σ : pd_H) (k n : Nat) (y : Int32), s_wf S → RX σ S → tS σ (s_tp S) y l σ → (c_prs f l).1 = true → s_ln S 24 + (c_prs f l).2.1.length ≤ 6 → n = k + (c_prs f l).2.1.length → n < 100 → ∃ τ, X_read_L58 (nI n) (nI k) σ = some (τ, some (pd_i (nI (s_ln S 24 + (c_prs f l).2.1.length)))) ∧ RX τ (s_rd1 S (c_prs f l).2.1) ∧ XF σ τ := by
  intro f
  induction f with
  | zero => intro l S σ k n y _ _ _ h; cases h
  | succ f ih =>
    intro l S σ k n y hw h ht hp h6 hn hn1
    have hT := x_tT hw h
    obtain ⟨c, hcase⟩ := c_prs_one hp
    have hcg : (c_tcg l).1 = some c := by rcases hcase with ⟨g1, -⟩ | ⟨r, g1, -⟩ <;> rw [g1]
    obtain ⟨hc, hm⟩ : c_chok c ∧ c_nrm c := by rcases hcase with ⟨g1, -⟩ | ⟨r, g1, -⟩ <;> exact c_tcg_ok g1
    have hlen : 1 ≤ (c_prs (f + 1) l).2.1.length := by
      rcases hcase with ⟨-, g2⟩ | ⟨r, -, -, g2⟩ <;> (rw [g2]; exact Nat.succ_le_succ (Nat.zero_le _))
    have hk : k < n := by omega
    have h24 : s_ln S 24 < 6 := by omega
    obtain ⟨σ1, a1, a2, a3⟩ := Tape_tcg hT ht
    have a3 := a3 c hcg
    -- the separator
    obtain ⟨σ2, v2, b1, b2, b3⟩ : ∃ σ2 v2, Tape_passByte 59 59 σ1 = some (σ2, some (pd_i v2)) ∧ σ2.1 12 = σ1.1 12 ∧ (tS σ (s_tp S) y (match (c_tcg l).2 with | [] => [] | _ :: r => r) σ2) := by
      rw [show (59 : Int32) = nI 59 from rfl]
      rcases hcase with ⟨g1, -⟩ | ⟨r, g1, -⟩
      · rw [g1] at a2 ⊢
        rcases Tape_pb hT a2 (show 59 < 256 by decide) (show 59 < 256 by decide) with ⟨e1, e2⟩ | ⟨b', r', σ3, e1, e2, e3, -, -, -⟩
        · exact ⟨σ1, 0, e2, rfl, a2⟩
        · cases e1
      · rw [g1] at a2 ⊢
        rcases Tape_pb hT a2 (show 59 < 256 by decide) (show 59 < 256 by decide) with ⟨e1, e2⟩ | ⟨b', r', σ3, e1, e2, e3, -, -, e4⟩
        · exact absurd ⟨by decide, by decide⟩ (c_pb_none e1)
        · obtain ⟨p1, -, -⟩ := c_pb_some e1
          cases p1
          exact ⟨σ3, 1, e2, e4, e3⟩
    have hX2 : RX σ2 S := RX_tS hw h b3
    obtain ⟨ρ, r1, r2, e0, e1, e2, e3, e4, e5⟩ := Change_become_s (224 + s_ln S 24) c.1 c.2.1 c.2.2.1 c.2.2.2.1 c.2.2.2.2.1 c.2.2.2.2.2 σ2
    have h9 : ρ.1 9 24 = nI (s_ln S 24) := by rw [r2.1 9 (by omega)]; exact x_len24 hX2
    have f1 : pu_fr x_drK σ2 ρ := r2.mono (fun k hk => by unfold x_drK; omega)
    have f2 : pu_fr x_drK σ2 (pd_upI ρ 9 24 (nI (s_ln S 24 + 1))) := f1.tr (pu_fr.upI (Or.inl rfl))
    have hX3 : RX (pd_upI ρ 9 24 (nI (s_ln S 24 + 1))) (s_add S c) := x_add hw hX2 h24 hc hm f2 (fun k h1 h2 => by rw [pu_u1n h2, r2.1 k h1]) (by
      unfold x_chg
      rw [pu_u1n (by omega), show 80 + (144 + s_ln S 24) = 224 + s_ln S 24 by omega, e0, e1, e2, e3, e4, e5]) (by rw [pu_u1s, r2.1 9 (by omega)])
    have hw3 := s_dr_wf hw (s_addK hw h24 hc hm)
    have step : X_read_L58 (nI n) (nI k) σ = X_read_L58 (nI n) (nI (k + 1)) (pd_upI ρ 9 24 (nI (s_ln S 24 + 1))) := by
      have a1 : Tape_passChange σ = some (σ1, some (pd_i 1)) := by rw [a1, hcg]; rfl
      have ep : ∀ j, σ2.1 12 j = σ1.1 12 j := fun j => by rw [b2]
      have q0 : σ2.1 12 0 = c.1 := by rw [ep, ← a3]; rfl
      have q1 : σ2.1 12 1 = c.2.1 := by rw [ep, ← a3]; rfl
      have q2 : σ2.1 12 2 = c.2.2.1 := by rw [ep, ← a3]; rfl
      have q3 : σ2.1 12 3 = c.2.2.2.1 := by rw [ep, ← a3]; rfl
      have q4 : σ2.1 12 4 = c.2.2.2.2.1 := by rw [ep, ← a3]; rfl
      have q5 : σ2.1 12 5 = c.2.2.2.2.2 := by rw [ep, ← a3]; rfl
      rw [X_read_L58_eq, decide_eq_false (nI_ge hk (by omega)), cond_false, a1, pd_bI_of, b1, pd_bI_of, Book_nextOfDraft_s hX2 h24, pd_bR_of, Change_becomeLike_eq, q0, q1, q2, q3, q4, q5, r1, pd_bV_of, pd_bV_of, h9, nI_1, nI_1]
    rw [step]
    have hXF2 : XF σ σ2 := XF.of b3.2.2.2 (fun k hk => by omega)
    have hXF3 : XF σ2 (pd_upI ρ 9 24 (nI (s_ln S 24 + 1))) := XF.of f2 (fun k hk => by unfold x_drK at hk; omega)
    rcases hcase with ⟨g1, g2⟩ | ⟨r, g1, g2, g3⟩
    · rw [g2] at hn h6 ⊢
      have hn : n = k + 1 := hn
      subst hn
      rw [X_read_L58_eq, decide_eq_true (nI_le (Nat.le_refl _) (by omega)), cond_true]
      refine ⟨pd_upI (pd_upI ρ 9 24 (nI (s_ln S 24 + 1))) 10 2 0, ?_, ?_, (hXF2.tr hXF3).tr (XF.of (pu_fr.upI (K := fun k => k = 10) rfl) (fun k hk => by omega))⟩
      · rw [pu_u1n (by decide), pu_u1s, pk_us]; rfl
      · obtain ⟨d1, d2, d3, d4⟩ := hX3.2.2.2.2
        have fr : pu_fr (fun k => k = 10) (pd_upI ρ 9 24 (nI (s_ln S 24 + 1))) (pd_upI (pd_upI ρ 9 24 (nI (s_ln S 24 + 1))) 10 2 0) := pu_fr.upI rfl
        refine RX_ot hX3 (fr.mono fun k hk => Or.inr (Or.inl hk)) ?_
        refine ⟨⟨d1.1.of (by rw [fr.1 17 (by decide)]) (fr.1 18 (by decide)), by rw [fr.1 0 (by decide)]; exact d1.2.1, fun v l hv => (d1.2.2 v l hv).of (by rw [fr.1 _ (by omega)]) (fr.1 _ (by omega))⟩, ⟨?_, fun i b hb => by cases hb⟩, ?_, ?_⟩
        · rw [pu_u1s, pk_us]; rfl
        · rw [fr.1 0 (by decide)]; exact d3
        · rw [fr.1 16 (by decide)]; exact d4
    · rw [g3] at hn h6 ⊢
      have hn : n = k + ((c_prs f r).2.1.length + 1) := hn
      have h6 : s_ln S 24 + ((c_prs f r).2.1.length + 1) ≤ 6 := h6
      have ht3 : tS (pd_upI ρ 9 24 (nI (s_ln S 24 + 1))) (s_tp (s_add S c)) y r (pd_upI ρ 9 24 (nI (s_ln S 24 + 1))) := by
        rw [g1] at b3
        obtain ⟨⟨u, t1, t2⟩, t3, t4, -⟩ := b3
        have e10 : (pd_upI ρ 9 24 (nI (s_ln S 24 + 1))).1 10 = σ2.1 10 := f2.1 10 (by unfold x_drK; omega)
        exact ⟨⟨u, t1, by rw [e10]; exact t2⟩, by rw [e10]; exact t3, by rw [e10]; exact t4, pu_fr.rf⟩
      obtain ⟨τ, k1, k2, k3⟩ := ih r (s_add S c) _ (k + 1) n y hw3 hX3 ht3 g2 (by rw [s_add_ln]; omega) (by omega) hn1
      refine ⟨τ, ?_, k2, (hXF2.tr hXF3).tr k3⟩
      rw [k1, s_add_ln]
      show some (τ, some (pd_i (nI (s_ln S 24 + 1 + (c_prs f r).2.1.length)))) = some (τ, some (pd_i (nI (s_ln S 24 + ((c_prs f r).2.1.length + 1)))))
      rw [Nat.add_assoc, Nat.add_comm 1]
end READX
