/-! The calls, one by one: what only tells, what is simple. -/
def c_slv (a : Int32) : Int32 := cond (decide (a < 0)) 0 (cond (decide (6 ≤ a)) 0 1)
theorem c_slv_cases (a : Int32) : (pu_sl a ∧ c_slv a = 1) ∨ (c_slv a = 0 ∧ ¬ pu_sl a) := by
  unfold c_slv
  by_cases h0 : a < 0
  · rw [decide_eq_true h0]; exact Or.inr ⟨rfl, fun h => h.1 h0⟩
  · rw [decide_eq_false h0, cond_false]
    by_cases h1 : 6 ≤ a
    · rw [decide_eq_true h1]; exact Or.inr ⟨rfl, fun h => h.2 h1⟩
    · rw [decide_eq_false h1]; exact Or.inl ⟨⟨h0, h1⟩, rfl⟩
theorem X_slot (a : Int32) (σ : pd_H) : X_isSlot a σ = some (σ, some (pd_i (c_slv a))) := X_isSlot_s a σ
theorem M_slot (a : Int32) (σ : pd_H) : M_isSlot a σ = some (σ, some (pd_i (c_slv a))) := M_isSlot_s a σ
theorem c_in_at {j n : Nat} (h : j < n) (hn : n < 2 ^ 31) : c_in (nI j) 0 (nI n - 1) = 1 := by
  obtain ⟨k, rfl⟩ : ∃ k, n = k + 1 := ⟨n - 1, by omega⟩
  unfold c_in
  rw [nI_pred, decide_eq_false (nI_pos (by omega)), decide_eq_false (nI_nlt (by omega) (by omega))]
  rfl
theorem c_in_out {a : Int32} {n : Nat} (hn : n < 2 ^ 31) (h : a < 0 ∨ nI n ≤ a) : c_in a 0 (nI n - 1) = 0 := by
  unfold c_in
  by_cases h0 : a < 0
  · rw [decide_eq_true h0]; rfl
  · have h1 := h.resolve_left h0
    obtain ⟨j, h2, rfl⟩ := nI_of h0
    rw [nI_leI hn h2] at h1
    rw [decide_eq_false h0, cond_false]
    cases n with
    | zero =>
      rw [decide_eq_true (show nI 0 - 1 < nI j by rw [Int32.lt_iff_toInt_lt, nI_toInt h2]; show (-1 : Int) < _; omega)]
      rfl
    | succ n =>
      rw [nI_pred, decide_eq_true (nI_lt (by omega) h2)]
      rfl
theorem pu_out {a : Int32} {n : Nat} {α : Type} (h : a < 0 ∨ nI n ≤ a) (A B : α) : cond (decide (a < 0)) A (cond (decide (nI n ≤ a)) A B) = A := by
  rcases h with h | h
  · rw [decide_eq_true h]; rfl
  · rw [decide_eq_true h, cond_true, Bool.cond_self]
theorem pu_out2 {a : Int32} {n : Nat} {α : Type} (h : a < 0 ∨ nI n ≤ a) (A B : α) : cond (decide (a < 0)) A (cond (decide (a < nI n)) B A) = A := by
  rcases h with h | h
  · rw [decide_eq_true h]; rfl
  · rw [decide_eq_false (Int32.not_lt.mpr h), cond_false, Bool.cond_self]
theorem pu_at {j n : Nat} {α : Type} (h : j < n) (hn : n < 2 ^ 31) (A B : α) : cond (decide (nI j < 0)) A (cond (decide (nI n ≤ nI j)) A B) = B := by
  rw [decide_eq_false (nI_pos (by omega)), cond_false, decide_eq_false (nI_ge h hn)]; rfl
theorem pu_at2 {j n : Nat} {α : Type} (h : j < n) (hn : n < 2 ^ 31) (A B : α) : cond (decide (nI j < 0)) A (cond (decide (nI j < nI n)) B A) = B := by
  rw [decide_eq_false (nI_pos (by omega)), cond_false, decide_eq_true (nI_lt h hn)]; rfl
section CALLS1
variable {σ : pd_H} {S : cS}
theorem JR.kok (h : JR σ S) : c_kok (s_kd S) := h.1.1.1
theorem s_kokM (hw : s_wf S) (h : RM σ S) : c_kok (σ.1 231) := fun s hs => by rw [← (h.1.1 s hs).1]; exact hw.1.1 s hs
theorem s_arr (h : RM σ S) {a : Int32} (ha : pu_sl a) : c_arrF (σ.1 231) a = c_arrF (s_kd S) a := (c_kz_arr h.1.1 ha).symm
theorem s_kdM (h : RM σ S) {a : Int32} (ha : pu_sl a) : σ.1 231 a.toNatClampNeg = s_kd S a.toNatClampNeg := (c_kz_kd h.1.1 ha).symm
theorem s_eltM (h : RM σ S) {a : Int32} (ha : pu_sl a) (i : Int32) : c_eltF (σ.1 231) (σ.1 232) a i = c_eltF (s_kd S) (s_sz S) a i := (c_kz_elt h.1.1 ha i).symm
theorem x_arrF (h : RX σ S) {a : Int32} (ha : pu_sl a) : Shelf_arrayFinding a σ = some (σ, some (pd_i (c_arrF (s_kd S) a))) := by rw [Shelf_arrayFinding_s ha, h.1.1]
theorem x_eltF (h : RX σ S) {a : Int32} (ha : pu_sl a) (i : Int32) : Shelf_elementFinding a i σ = some (σ, some (pd_i (c_eltF (s_kd S) (s_sz S) a i))) := by rw [Shelf_elementFinding_s ha, h.1.1, h.1.2.1]
theorem x_rdF (h : RX σ S) {a : Int32} (ha : pu_sl a) (w i : Int32) : Shelf_readingFinding a w i σ = some (σ, some (pd_i (c_rdF (s_kd S) (s_sz S) a w i))) := by rw [Shelf_readingFinding_s ha, h.1.1, h.1.2.1]
theorem x_sz (h : RX σ S) {a : Int32} : σ.1 3 a.toNatClampNeg = s_sz S a.toNatClampNeg := by rw [h.1.2.1]
theorem m_arrF (hw : s_wf S) (h : RM σ S) {a : Int32} (ha : pu_sl a) : M_lacksRow a σ = some (σ, some (pd_i (c_arrF (s_kd S) a))) := by rw [M_lacksRow_s ha (s_kokM hw h), s_arr h ha]
theorem m_eltF (hw : s_wf S) (h : RM σ S) {a : Int32} (ha : pu_sl a) (i : Int32) : M_lacksCell a i σ = some (σ, some (pd_i (c_eltF (s_kd S) (s_sz S) a i))) := by rw [M_lacksCell_s ha i (s_kokM hw h) h.1.2.1, s_eltM h ha]
def c_kind (S : cS) (a : Int32) : Int32 := cond (decide (s_kd S a.toNatClampNeg = (-1 : Int32))) (-10 - 1) (s_kd S a.toNatClampNeg)
theorem X_kind_s (h : RX σ S) {a : Int32} (ha : pu_sl a) : X_kind a σ = some (σ, some (pd_i (c_kind S a))) := by
  rw [X_kind_eq, X_slot]
  rcases c_slv_cases a with ⟨-, e⟩ | ⟨-, e⟩
  · rw [e]
    simp only [pd_bI_of, pd_bJ_of, pd_bV_of, pd_bR_of, cond_true, cond_false, show decide ((1 : Int32) = 0) = false from rfl, show pd_len 2 = 6 from rfl, pu_sl_ob ha, h.1.1, X_findingCode_s, pu_cs]
    rfl
  · exact absurd ha e
theorem M_kind_s (h : RM σ S) {a : Int32} (ha : pu_sl a) : M_kind a σ = some (σ, some (pd_i (c_kind S a))) := by
  rw [M_kind_eq, M_slot]
  rcases c_slv_cases a with ⟨-, e⟩ | ⟨-, e⟩
  · rw [e]
    simp only [pd_bI_of, pd_bJ_of, pd_bV_of, pd_bR_of, cond_true, cond_false, show decide ((1 : Int32) = 0) = false from rfl, show pd_len 231 = 6 from rfl, pu_sl_ob ha, s_kdM h ha, M_refused_s, pu_cs]
    rfl
  · exact absurd ha e
theorem J_kind (h : JR σ S) (a : Int32) : JI (X_kind a) (M_kind a) σ := by
  rcases c_slv_cases a with ⟨ha, -⟩ | ⟨e, -⟩
  · exact JI.same h (X_kind_s h.2.1 ha) (fun g => M_kind_s g ha)
  · exact JI.same (v := -2) h (by rw [X_kind_eq, X_slot, e]; rfl) (fun g => by rw [M_kind_eq, M_slot, e]; rfl)
def c_size (S : cS) (a : Int32) : Int32 := cond (decide (c_arrF (s_kd S) a = 0)) (s_sz S a.toNatClampNeg) (-10 - c_arrF (s_kd S) a)
theorem X_size_s (h : RX σ S) {a : Int32} (ha : pu_sl a) : X_size a σ = some (σ, some (pd_i (c_size S a))) := by
  rw [X_size_eq, X_slot]
  rcases c_slv_cases a with ⟨-, e⟩ | ⟨-, e⟩
  · rw [e]
    simp only [pd_bI_of, pd_bJ_of, pd_bV_of, pd_bR_of, cond_true, cond_false, show decide ((1 : Int32) = 0) = false from rfl, show pd_len 3 = 6 from rfl, pu_sl_ob ha, x_arrF h ha, x_sz h, X_findingCode_s, pu_cs]
    unfold c_size
    cases decide (c_arrF (s_kd S) a = 0) <;> simp only [pd_bI_of, pd_bJ_of, pd_bV_of, pd_bR_of, cond_true, cond_false]
  · exact absurd ha e
theorem c_arr_le {kd : Nat → Int32} {a : Int32} : decide (c_arrF kd a ≤ 0) = decide (c_arrF kd a = 0) := c_rng_le (c_arrF_rng kd a)
theorem M_size_s (hw : s_wf S) (h : RM σ S) {a : Int32} (ha : pu_sl a) : M_size a σ = some (σ, some (pd_i (c_size S a))) := by
  rw [M_size_eq, M_slot]
  rcases c_slv_cases a with ⟨-, e⟩ | ⟨-, e⟩
  · rw [e]
    simp only [pd_bI_of, pd_bJ_of, pd_bV_of, pd_bR_of, cond_true, cond_false, show decide ((1 : Int32) = 0) = false from rfl, show pd_len 232 = 6 from rfl, pu_sl_ob ha, m_arrF hw h ha, c_arr_le, M_refused_s, pu_cs]
    unfold c_size
    by_cases h0 : c_arrF (s_kd S) a = 0
    · rw [decide_eq_true h0, cond_true, cond_true, c_kz_sz h.1.1 ha h0]
    · rw [decide_eq_false h0, cond_false, cond_false]
  · exact absurd ha e
theorem J_size (h : JR σ S) (a : Int32) : JI (X_size a) (M_size a) σ := by
  rcases c_slv_cases a with ⟨ha, -⟩ | ⟨e, -⟩
  · exact JI.same h (X_size_s h.2.1 ha) (fun g => M_size_s h.1 g ha)
  · exact JI.same (v := -2) h (by rw [X_size_eq, X_slot, e]; rfl) (fun g => by rw [M_size_eq, M_slot, e]; rfl)
/-! elements -/
theorem x_run3 (h : RX σ S) : σ.2.2 0 = 32 ∨ σ.2.2 0 = 48 ∨ σ.2.2 0 = 64 := by rcases h.2.2.1 with q | q <;> omega
theorem X_elementError_s (h : RX σ S) {a : Int32} (ha : pu_sl a) (i : Int32) : X_elementError a i σ = some (σ, some (pd_i (cond (decide (c_eltF (s_kd S) (s_sz S) a i = 0)) 0 (-10 - c_eltF (s_kd S) (s_sz S) a i)))) := by
  rw [X_elementError_eq, X_slot]
  rcases c_slv_cases a with ⟨-, e⟩ | ⟨-, e⟩
  · rw [e]
    simp only [pd_bI_of, pd_bJ_of, pd_bV_of, pd_bR_of, cond_true, cond_false, show decide ((1 : Int32) = 0) = false from rfl, x_eltF h ha, X_findingCode_s, pu_cs]
  · exact absurd ha e
theorem X_elementError_0 (h : RX σ S) {a : Int32} (ha : pu_sl a) {i : Int32} (h0 : c_eltF (s_kd S) (s_sz S) a i = 0) : X_elementError a i σ = some (σ, some (pd_i 0)) := by
  rw [X_elementError_s h ha, decide_eq_true h0, cond_true]
theorem X_elementError_1 (h : RX σ S) {a : Int32} (ha : pu_sl a) {i : Int32} (h0 : c_eltF (s_kd S) (s_sz S) a i ≠ 0) : X_elementError a i σ = some (σ, some (pd_i (-10 - c_eltF (s_kd S) (s_sz S) a i))) := by
  rw [X_elementError_s h ha, decide_eq_false h0, cond_false]
theorem X_elementError_n {a : Int32} (e : c_slv a = 0) (i : Int32) : X_elementError a i σ = some (σ, some (pd_i (-2))) := by
  rw [X_elementError_eq, X_slot, e]; rfl
theorem c_eltF_rng (kd sz : Nat → Int32) (s i : Int32) : c_rng (c_eltF kd sz s i) := by
  unfold c_eltF
  exact c_rng_cond (c_idxF_rng _ _ _) (c_arrF_rng _ _)
theorem c_elt_ne {kd sz : Nat → Int32} {s i : Int32} (h : c_eltF kd sz s i ≠ 0) : -10 - c_eltF kd sz s i ≠ 0 := by
  obtain ⟨g, h1, h2⟩ := c_eltF_rng kd sz s i
  rw [h2]
  have : ∀ g, g < 6 → (-10 : Int32) - nI g ≠ 0 := by decide +kernel
  exact this g h1
theorem c_elt_0 {kd sz : Nat → Int32} {s i : Int32} (h : c_eltF kd sz s i = 0) : c_arrF kd s = 0 ∧ c_idxF sz s i = 0 := by
  unfold c_eltF at h
  by_cases h0 : c_arrF kd s = 0
  · rw [decide_eq_true h0] at h; exact ⟨h0, h⟩
  · rw [decide_eq_false h0, cond_false] at h; exact absurd h h0
/-- the now run's cells -/
theorem x_cell (h : RX σ S) {c : Nat} (hc : c < 72) : σ.1 (σ.2.2 0 + 4) c = (s_play S (s_or S)).2.1 c ∧ σ.2.1 (σ.2.2 0 + 5) c = (s_play S (s_or S)).2.2.1 c ∧ (¬ s_no S → σ.1 (σ.2.2 0 + 6) c = (s_play S (s_or S)).2.2.2.1 c) := ⟨(h.2.2.2.1.2.1.1 c hc).1, (h.2.2.2.1.2.1.1 c hc).2.1, fun q => by
  have g := (h.2.2.2.1.2.1.1 c hc).2.2
  rw [show (x_rw S σ (σ.2.2 0)).2.2.1 = σ.1 (σ.2.2 0 + 6) from s_wr_ne q _] at g
  exact g⟩
theorem m_cell (h : RM σ S) {c : Nat} (hc : c_vc (s_kd S) (s_sz S) c) : σ.1 233 c = (s_play S (s_or S)).2.1 c ∧ σ.2.1 234 c = (s_play S (s_or S)).2.2.1 c ∧ σ.1 237 c = (s_play S (s_or S)).2.2.2.1 c := h.2.2.1.2.1 c hc
def c_what (S : cS) (a i : Int32) : Int32 := cond (decide (c_eltF (s_kd S) (s_sz S) a i = 0)) ((s_play S (s_or S)).2.1 (c_cell a i)) (-10 - c_eltF (s_kd S) (s_sz S) a i)
theorem X_what_s (hw : s_wf S) (h : RX σ S) {a : Int32} (ha : pu_sl a) (i : Int32) : X_what a i σ = some (σ, some (pd_i (c_what S a i))) := by
  obtain ⟨L2, L4, L5, L6, L7, L9, L10, L12, L13, L14, L15⟩ := pu_len_run (x_run3 h)
  unfold c_what
  rw [X_what_eq]
  by_cases h0 : c_eltF (s_kd S) (s_sz S) a i = 0
  · obtain ⟨q1, q2⟩ := c_elt_0 h0
    obtain ⟨e1, e2⟩ := c_cell_ok hw.1.2.1.sz ha q2
    rw [X_elementError_0 h ha h0, decide_eq_true h0, cond_true, pd_bI_of, decide_eq_true (rfl : (0 : Int32) = 0), cond_true, X_cellOf_s, pd_bI_of, e1]
    rw [show σ.2.2 0 + 3 + 1 = σ.2.2 0 + 4 from rfl, L4, pu_obN e2 (by decide), cond_false, nI_clamp (by omega), (x_cell h e2).1]
  · rw [X_elementError_1 h ha h0, decide_eq_false h0, cond_false, pd_bI_of, decide_eq_false (c_elt_ne h0), cond_false]
theorem M_what_s (hw : s_wf S) (h : RM σ S) {a : Int32} (ha : pu_sl a) (i : Int32) : M_what a i σ = some (σ, some (pd_i (c_what S a i))) := by
  rw [M_what_eq, M_slot]
  rcases c_slv_cases a with ⟨-, e⟩ | ⟨-, e⟩
  · rw [e]
    simp only [pd_bI_of, pd_bJ_of, pd_bV_of, pd_bR_of, cond_true, cond_false, show decide ((1 : Int32) = 0) = false from rfl, m_eltF hw h ha, c_rng_le (c_eltF_rng _ _ _ _), M_refused_s, m_cell_comm]
    unfold c_what
    by_cases h0 : c_eltF (s_kd S) (s_sz S) a i = 0
    · obtain ⟨q1, q2⟩ := c_elt_0 h0
      obtain ⟨e1, e2⟩ := c_cell_ok hw.1.2.1.sz ha q2
      rw [decide_eq_true h0, cond_true, cond_true, e1, show pd_len 233 = 72 from rfl, pu_obN e2 (by decide), cond_false, nI_clamp (by omega), (m_cell h (c_vc_at hw.1.2.1.sz ha q1 q2)).1]
    · rw [decide_eq_false h0, cond_false, cond_false]
  · exact absurd ha e
theorem J_what (h : JR σ S) (a i : Int32) : JI (X_what a i) (M_what a i) σ := by
  rcases c_slv_cases a with ⟨ha, -⟩ | ⟨e, -⟩
  · exact JI.same h (X_what_s h.1 h.2.1 ha i) (fun g => M_what_s h.1 g ha i)
  · exact JI.same (v := -2) h (by rw [X_what_eq, X_elementError_n e]; rfl) (fun g => by rw [M_what_eq, M_slot, e]; rfl)
/-! blame -/
def c_blame (S : cS) (a i : Int32) : Int32 := cond (decide (c_eltF (s_kd S) (s_sz S) a i = 0)) ((s_play S (s_or S)).2.2.2.1 (c_cell a i)) (-10 - c_eltF (s_kd S) (s_sz S) a i)
theorem X_blame_s (hw : s_wf S) (h : RX σ S) {a : Int32} (ha : pu_sl a) (i : Int32) : X_blame a i σ = some (σ, some (pd_i (c_blame S a i))) := by
  obtain ⟨L2, L4, L5, L6, L7, L9, L10, L12, L13, L14, L15⟩ := pu_len_run (x_run3 h)
  unfold c_blame
  rw [X_blame_eq]
  by_cases h0 : c_eltF (s_kd S) (s_sz S) a i = 0
  · obtain ⟨q1, q2⟩ := c_elt_0 h0
    obtain ⟨e1, e2⟩ := c_cell_ok hw.1.2.1.sz ha q2
    rw [X_elementError_0 h ha h0, decide_eq_true h0, cond_true, pd_bI_of, decide_eq_true (rfl : (0 : Int32) = 0), cond_true, X_cellOf_s, pd_bI_of, e1]
    rw [L6, pu_obN e2 (by decide), cond_false, nI_clamp (by omega), (x_cell h e2).2.2 (s_no_arr ha q1)]
  · rw [X_elementError_1 h ha h0, decide_eq_false h0, cond_false, pd_bI_of, decide_eq_false (c_elt_ne h0), cond_false]
theorem M_blame_s (hw : s_wf S) (h : RM σ S) {a : Int32} (ha : pu_sl a) (i : Int32) : M_blame a i σ = some (σ, some (pd_i (c_blame S a i))) := by
  rw [M_blame_eq, M_slot]
  rcases c_slv_cases a with ⟨-, e⟩ | ⟨-, e⟩
  · rw [e]
    simp only [pd_bI_of, pd_bJ_of, pd_bV_of, pd_bR_of, cond_true, cond_false, show decide ((1 : Int32) = 0) = false from rfl, m_eltF hw h ha, c_rng_le (c_eltF_rng _ _ _ _), M_refused_s, m_cell_comm]
    unfold c_blame
    by_cases h0 : c_eltF (s_kd S) (s_sz S) a i = 0
    · obtain ⟨q1, q2⟩ := c_elt_0 h0
      obtain ⟨e1, e2⟩ := c_cell_ok hw.1.2.1.sz ha q2
      rw [decide_eq_true h0, cond_true, cond_true, e1, show pd_len 237 = 72 from rfl, pu_obN e2 (by decide), cond_false, nI_clamp (by omega), (m_cell h (c_vc_at hw.1.2.1.sz ha q1 q2)).2.2]
    · rw [decide_eq_false h0, cond_false, cond_false]
  · exact absurd ha e
theorem J_blame (h : JR σ S) (a i : Int32) : JI (X_blame a i) (M_blame a i) σ := by
  rcases c_slv_cases a with ⟨ha, -⟩ | ⟨e, -⟩
  · exact JI.same h (X_blame_s h.1 h.2.1 ha i) (fun g => M_blame_s h.1 g ha i)
  · exact JI.same (v := -2) h (by rw [X_blame_eq, X_elementError_n e]; rfl) (fun g => by rw [M_blame_eq, M_slot, e]; rfl)
end CALLS1
