set_option linter.unusedVariables false
set_option linter.unusedSimpArgs false
set_option maxHeartbeats 1000000 in
theorem l_stepN {N : Mem} {n : Nat} {a b c d s : Int} (hn : 10 ≤ n) (hs : N 802 0 = s) (s0 : 0 ≤ s) (s1 : s < 9) (ha : 1 ≤ a ∧ a ≤ 99) (hb : 0 ≤ b ∧ b ≤ 99) (hc : 0 ≤ c ∧ c ≤ 999) (hd : 0 ≤ d ∧ d ≤ 999) :
    ∃ N', f_X12_step n a b c d N = some (s, N') ∧ (∀ x, x ≠ 802 → ∀ i, N' x i = N x i) ∧ N' 802 0 = s + 1 ∧ (∀ j, j ≠ 0 → ¬ (16 + 8 * s ≤ j ∧ j < 24 + 8 * s) → N' 802 j = N 802 j)
      ∧ N' 802 (16 + 8 * s + 0) = a ∧ N' 802 (16 + 8 * s + 1) = b ∧ N' 802 (16 + 8 * s + 2) = c ∧ N' 802 (16 + 8 * s + 3) = d ∧ N' 802 (16 + 8 * s + 4) = 0 ∧ N' 802 (16 + 8 * s + 5) = b ∧ N' 802 (16 + 8 * s + 6) = c ∧ N' 802 (16 + 8 * s + 7) = d := by
  obtain ⟨m, rfl⟩ : ∃ m, n = m + 6 := ⟨n - 6, by omega⟩
  unfold f_X12_step
  rw [p_isIn, p_isIn, p_isIn, p_isIn, hs]
  simp (disch := omega) only [if_pos, if_neg, p_put, p_at, f_X12_step_L108, p_wI, Option.bind_some, p_lt, Int.reduceAdd, up_nei, up_eq, hs]
  refine ⟨_, rfl, fun x hx i => ?_, ?_, fun j j0 j1 => ?_, ?_, ?_, ?_, ?_, ?_, ?_, ?_, ?_⟩
  · simp (disch := omega) only [up_nex]
  · simp (disch := omega) only [up_eq]
  · simp (disch := omega) only [up_nei]
  all_goals simp (disch := omega) only [up_nei, up_eq]
theorem pRel_newStep {M N M' N' : Mem} {a b c d s : Int} (h : pRel M N) (hs : N 802 0 = s) (s1 : s < 9) (ha : 1 ≤ a ∧ a ≤ 99) (hb : 0 ≤ b ∧ b ≤ 99) (hc : 0 ≤ c ∧ c ≤ 999) (hd : 0 ≤ d ∧ d ≤ 999)
    (m0 : ∀ x, ¬ (3 ≤ x ∧ x ≤ 8) → ∀ i, M' x i = M x i) (m1 : M' 3 0 = s + 1) (m2 : ∀ i, i ≠ 0 → M' 3 i = M 3 i) (m4 : ∀ i, M' 4 i = if i = s then a else M 4 i) (m5 : ∀ i, M' 5 i = if i = s then b else M 5 i) (m6 : ∀ i, M' 6 i = if i = s then c else M 6 i) (m7 : ∀ i, M' 7 i = if i = s then d else M 7 i) (m8 : ∀ i, M' 8 i = if i = s then 0 else M 8 i)
    (n2 : ∀ x, x ≠ 802 → ∀ i, N' x i = N x i) (n3 : N' 802 0 = s + 1) (n4 : ∀ j, j ≠ 0 → ¬ (16 + 8 * s ≤ j ∧ j < 24 + 8 * s) → N' 802 j = N 802 j)
    (n5 : N' 802 (16 + 8 * s + 0) = a ∧ N' 802 (16 + 8 * s + 1) = b ∧ N' 802 (16 + 8 * s + 2) = c ∧ N' 802 (16 + 8 * s + 3) = d ∧ N' 802 (16 + 8 * s + 4) = 0 ∧ N' 802 (16 + 8 * s + 5) = b ∧ N' 802 (16 + 8 * s + 6) = c ∧ N' 802 (16 + 8 * s + 7) = d) : pRel M' N' := by
  have h1 := pR_num h
  have hS := pR_step h
  have hH := pR_ship h
  obtain ⟨q0, q1, q2, q3, q4, q5, q6, q7⟩ := n5
  have i0 : N' 802 (16 + 8 * s) = a := by rw [← q0]; congr 1; omega
  have i1 : N' 802 (17 + 8 * s) = b := by rw [← q1]; congr 1; omega
  have i2 : N' 802 (18 + 8 * s) = c := by rw [← q2]; congr 1; omega
  have i3 : N' 802 (19 + 8 * s) = d := by rw [← q3]; congr 1; omega
  have i4 : N' 802 (20 + 8 * s) = 0 := by rw [← q4]; congr 1; omega
  have i5 : N' 802 (21 + 8 * s) = b := by rw [← q5]; congr 1; omega
  have i6 : N' 802 (22 + 8 * s) = c := by rw [← q6]; congr 1; omega
  have i7 : N' 802 (23 + 8 * s) = d := by rw [← q7]; congr 1; omega
  clear q0 q1 q2 q3 q4 q5 q6 q7
  obtain ⟨a1, a2, a3, a4, a5, a6, a7, a8, a9, a10⟩ := h.1
  have v : ∀ i, 0 ≤ i → i < s → N' 802 (16 + 8 * i) = N 802 (16 + 8 * i) ∧ N' 802 (17 + 8 * i) = N 802 (17 + 8 * i) ∧ N' 802 (18 + 8 * i) = N 802 (18 + 8 * i) ∧ N' 802 (19 + 8 * i) = N 802 (19 + 8 * i) ∧ N' 802 (20 + 8 * i) = N 802 (20 + 8 * i) := fun i i0 i1 => ⟨n4 _ (by omega) (by omega), n4 _ (by omega) (by omega), n4 _ (by omega) (by omega), n4 _ (by omega) (by omega), n4 _ (by omega) (by omega)⟩
  have u : ∀ i, 0 ≤ i → i < N 802 1 → N' 802 (88 + 6 * i) = N 802 (88 + 6 * i) ∧ N' 802 (89 + 6 * i) = N 802 (89 + 6 * i) ∧ N' 802 (90 + 6 * i) = N 802 (90 + 6 * i) ∧ N' 802 (91 + 6 * i) = N 802 (91 + 6 * i) := fun i i0 i1 => ⟨n4 _ (by omega) (by omega), n4 _ (by omega) (by omega), n4 _ (by omega) (by omega), n4 _ (by omega) (by omega)⟩
  have z1 : N' 802 1 = N 802 1 := n4 1 (by omega) (by omega)
  have z8 : N' 802 8 = N 802 8 := n4 8 (by omega) (by omega)
  have z9 : N' 802 9 = N 802 9 := n4 9 (by omega) (by omega)
  have z10 : N' 802 10 = N 802 10 := n4 10 (by omega) (by omega)
  have z11 : N' 802 11 = N 802 11 := n4 11 (by omega) (by omega)
  have z12 : N' 802 12 = N 802 12 := n4 12 (by omega) (by omega)
  refine pRel_now h (m0 0 (by omega) 0) (fun x x0 x1 _ _ => m0 x (by omega)) ?_ (fun k hk k1 => ?_) ⟨?_, ?_, ?_, ?_, ?_, ?_, ?_, ?_, ?_, ?_⟩ (m0 2 (by omega) 3) (m0 2 (by omega) 4) (fun x x0 x1 => n2 x (by omega)) ⟨n2 801 (by omega) _, n2 801 (by omega) _, n2 801 (by omega) _, n2 801 (by omega) _⟩
  · rw [m0 762 (by omega), m0 762 (by omega), m0 762 (by omega)]
    exact h.2.2.1 762 (Or.inr (Or.inr (Or.inl rfl)))
  · by_cases q : k = 3
    · subst q
      rw [m1, m2 6 (by omega), m2 15 (by omega)]
      have := h.2.2.1 3 (Or.inl rfl)
      omega
    · have : ¬ (3 ≤ k ∧ k ≤ 8) := by rcases hk with r | r | r | ⟨j, r⟩ | ⟨j, r⟩ <;> omega
      rw [m0 k this, m0 k this, m0 k this]
      exact h.2.2.1 k hk
  · simp only [pOK, pvA]
    refine ⟨by omega, by omega, by omega, by omega, by omega, by omega, by omega, fun i g0 g1 => ?_, fun i g0 g1 => ?_⟩
    · by_cases q : i = s
      · subst q
        rw [i0, i1, i2, i3, i4]
        omega
      · have := hS i g0 (by omega)
        have := v i g0 (by omega)
        omega
    · have := hH i g0 (by omega)
      have := u i g0 (by omega)
      omega
  · simp only [pEq, pvA, pvM, Int.reduceAdd]
    rw [m1, m2 6 (by omega), m2 11 (by omega), m2 12 (by omega), m2 13 (by omega), m2 14 (by omega)]
    refine ⟨by omega, by omega, by omega, by omega, by omega, by omega, fun i g0 g1 => ?_, fun i g0 g1 => ?_⟩
    · rw [m5, m6, m7, m8]
      by_cases q : i = s
      · subst q
        rw [i1, i2, i3, i4, if_pos rfl, if_pos rfl, if_pos rfl, if_pos rfl]
        exact ⟨rfl, rfl, rfl, rfl⟩
      · have := hS i g0 (by omega)
        have := v i g0 (by omega)
        rw [if_neg q, if_neg q, if_neg q, if_neg q]
        omega
    · have := hH i g0 (by omega)
      have := u i g0 (by omega)
      rw [m0 10 (by omega), m0 11 (by omega), m0 12 (by omega)]
      omega
  · simp only [pEqS, pvA, pvM, Int.reduceAdd]
    refine ⟨fun i g0 g1 => ?_, fun i g0 g1 => ?_⟩
    · rw [m4]
      by_cases q : i = s
      · subst q
        rw [i0, if_pos rfl]
      · have := hS i g0 (by omega)
        have := v i g0 (by omega)
        rw [if_neg q]
        omega
    · have := hH i g0 (by omega)
      have := u i g0 (by omega)
      rw [m0 9 (by omega)]
      omega
  · rw [z12]
    obtain ⟨b1, b2, b3⟩ := a4
    refine ⟨by show M' 3 15 = _; rw [m2 15 (by omega)]; exact b1, b2, fun i g0 g1 => ?_⟩
    show pPg (M' 13 i) _
    rw [m0 13 (by omega), n4 _ (by omega) (by omega)]
    exact b3 i g0 g1
  · refine pActs_told a5 a1 (fun x x0 x1 => m0 x (by omega)) (by omega) (by omega) (fun i hi => n4 i (by omega) (by omega)) (fun i g0 g1 => n4 i (by omega) (by omega)) (fun i g0 g1 => n4 i (by omega) (by omega)) (fun i g0 g1 => ?_) (fun i g0 g1 => by omega)
    have : i = s := by omega
    subst this
    rw [i1, i2, i3, i4, i5, i6, i7]
    exact ⟨rfl, rfl, rfl, rfl⟩
  · exact pTold_same (fun x h0 h1 h2 => m0 x (by omega)) (fun i hi => n4 i (by omega) (by omega)) a6
  · rw [m0 2 (by omega), n4 2 (by omega) (by omega)]; exact a7
  · rw [n4 2 (by omega) (by omega)]; exact a8
  · rw [m0 2 (by omega), n4 3 (by omega) (by omega)]; exact a9
  · rw [n4 3 (by omega) (by omega), n4 2 (by omega) (by omega)]; exact a10
theorem t_step {M N : Mem} {n : Nat} {a b c d : Int} (h : pRel M N) (hn : 10 ≤ n) : pSimT (fun v => -1 ≤ v) (f_X11_step a b c d M) (f_X12_step n a b c d N) N := by
  have h1 := pR_num h
  by_cases ha : 1 ≤ a ∧ a ≤ 99
  · by_cases hb : 0 ≤ b ∧ b ≤ 99
    · by_cases hc : 0 ≤ c ∧ c ≤ 999
      · by_cases hd : 0 ≤ d ∧ d ≤ 999
        · by_cases hs : N 802 0 < 9
          · obtain ⟨N', n1, n2, n3, n4, n5, n6, n7, n8, n9, n10, n11, n12⟩ := l_stepN (N := N) (n := n) (s := N 802 0) hn rfl h1.1.2.1 hs ha hb hc hd
            rw [n1]
            have hS := pR_step h
            have hH := pR_ship h
            generalize hs2 : N 802 0 = s at *
            unfold f_X11_step f_X5_addStep
            rw [p_isB, p_isB, p_isB, p_isB, h1.1.1]
            have e0 : M 3 0 = s := h1.1.1
            simp (disch := omega) only [if_pos, if_neg, p_ck, p_wI, Option.bind_some, p_lt, Int.reduceAdd, up_nei, up_nex, up_eq, e0]
            rw [show s + 1 - 1 = s by omega]
            refine ⟨s, _, _, rfl, rfl, ?_, n4 2 (by omega) (by omega), by show -1 ≤ s; omega⟩
            refine pRel_newStep h hs2 hs ha hb hc hd (fun x hx i => ?_) up_eq (fun i hi => ?_) (fun i => ?_) (fun i => ?_) (fun i => ?_) (fun i => ?_) (fun i => ?_) n2 n3 n4 ⟨n5, n6, n7, n8, n9, n10, n11, n12⟩
            · simp (disch := omega) only [up_nex]
            · simp (disch := omega) only [up_nex, up_nei]
            all_goals simp (disch := omega) only [up_nex]
            all_goals simp [upM]
          · unfold f_X11_step f_X12_step
            rw [p_isB, p_isB, p_isB, p_isB, p_isIn, p_isIn, p_isIn, p_isIn]
            simp (disch := omega) only [if_pos, if_neg]
            exact ⟨-1, M, N, rfl, rfl, h, rfl, Int.le_refl _⟩
        · unfold f_X11_step f_X12_step
          rw [p_isB, p_isB, p_isB, p_isB, p_isIn, p_isIn, p_isIn, p_isIn]
          simp (disch := omega) only [if_pos, if_neg]
          exact ⟨-1, M, N, rfl, rfl, h, rfl, Int.le_refl _⟩
      · unfold f_X11_step f_X12_step
        rw [p_isB, p_isB, p_isB, p_isB, p_isIn, p_isIn, p_isIn, p_isIn]
        simp (disch := omega) only [if_pos, if_neg]
        exact ⟨-1, M, N, rfl, rfl, h, rfl, Int.le_refl _⟩
    · unfold f_X11_step f_X12_step
      rw [p_isB, p_isB, p_isB, p_isB, p_isIn, p_isIn, p_isIn, p_isIn]
      simp (disch := omega) only [if_pos, if_neg]
      exact ⟨-1, M, N, rfl, rfl, h, rfl, Int.le_refl _⟩
  · unfold f_X11_step f_X12_step
    rw [p_isB, p_isB, p_isB, p_isB, p_isIn, p_isIn, p_isIn, p_isIn]
    simp (disch := omega) only [if_pos, if_neg]
    exact ⟨-1, M, N, rfl, rfl, h, rfl, Int.le_refl _⟩
