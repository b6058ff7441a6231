set_option linter.unusedVariables false
set_option linter.unusedSimpArgs false
theorem p_isW {p : Int} : f_X11_isWeight p = if 1 ≤ p ∧ p ≤ 99 then 1 else 0 := by unfold f_X11_isWeight; exact p_isB _ _ _
theorem pRel_newShip {M N M' N' : Mem} {a b c s : Int} (h : pRel M N) (hs : N 802 1 = s) (s1 : s < 7) (ha : 1 ≤ a ∧ a ≤ 99) (hb : 0 ≤ b ∧ b < N 802 0) (hc : 0 ≤ c ∧ c < N 802 0)
    (m0 : ∀ x, ¬ (x = 3 ∨ (9 ≤ x ∧ x ≤ 12)) → ∀ i, M' x i = M x i) (m1 : M' 3 6 = s + 1) (m2 : ∀ i, i ≠ 6 → M' 3 i = M 3 i) (m4 : ∀ i, M' 9 i = if i = s then a else M 9 i) (m5 : ∀ i, M' 10 i = if i = s then b else M 10 i) (m6 : ∀ i, M' 11 i = if i = s then c else M 11 i) (m7 : ∀ i, M' 12 i = if i = s then 0 else M 12 i)
    (n2 : ∀ x, x ≠ 802 → ∀ i, N' x i = N x i) (n3 : N' 802 1 = s + 1) (n4 : ∀ j, j ≠ 1 → ¬ (88 + 6 * s ≤ j ∧ j < 94 + 6 * s) → N' 802 j = N 802 j)
    (n5 : N' 802 (88 + 6 * s + 0) = a ∧ N' 802 (88 + 6 * s + 1) = b ∧ N' 802 (88 + 6 * s + 2) = c ∧ N' 802 (88 + 6 * s + 3) = 0 ∧ N' 802 (88 + 6 * s + 4) = b ∧ N' 802 (88 + 6 * s + 5) = c) : pRel M' N' := by
  have h1 := pR_num h
  have hS := pR_step h
  have hH := pR_ship h
  obtain ⟨q0, q1, q2, q3, q4, q5⟩ := n5
  have i0 : N' 802 (88 + 6 * s) = a := by rw [← q0]; congr 1; omega
  have i1 : N' 802 (89 + 6 * s) = b := by rw [← q1]; congr 1; omega
  have i2 : N' 802 (90 + 6 * s) = c := by rw [← q2]; congr 1; omega
  have i3 : N' 802 (91 + 6 * s) = 0 := by rw [← q3]; congr 1; omega
  have i4 : N' 802 (92 + 6 * s) = b := by rw [← q4]; congr 1; omega
  have i5 : N' 802 (93 + 6 * s) = c := by rw [← q5]; congr 1; omega
  clear q0 q1 q2 q3 q4 q5
  obtain ⟨a1, a2, a3, a4, a5, a6, a7, a8, a9, a10⟩ := h.1
  have v : ∀ i, 0 ≤ i → i < N 802 0 → N' 802 (16 + 8 * i) = N 802 (16 + 8 * i) ∧ N' 802 (17 + 8 * i) = N 802 (17 + 8 * i) ∧ N' 802 (18 + 8 * i) = N 802 (18 + 8 * i) ∧ N' 802 (19 + 8 * i) = N 802 (19 + 8 * i) ∧ N' 802 (20 + 8 * i) = N 802 (20 + 8 * i) := fun i i0 i1 => ⟨n4 _ (by omega) (by omega), n4 _ (by omega) (by omega), n4 _ (by omega) (by omega), n4 _ (by omega) (by omega), n4 _ (by omega) (by omega)⟩
  have u : ∀ i, 0 ≤ i → i < s → N' 802 (88 + 6 * i) = N 802 (88 + 6 * i) ∧ N' 802 (89 + 6 * i) = N 802 (89 + 6 * i) ∧ N' 802 (90 + 6 * i) = N 802 (90 + 6 * i) ∧ N' 802 (91 + 6 * i) = N 802 (91 + 6 * i) := fun i i0 i1 => ⟨n4 _ (by omega) (by omega), n4 _ (by omega) (by omega), n4 _ (by omega) (by omega), n4 _ (by omega) (by omega)⟩
  have z0 : N' 802 0 = N 802 0 := n4 0 (by omega) (by omega)
  have z8 : N' 802 8 = N 802 8 := n4 8 (by omega) (by omega)
  have z9 : N' 802 9 = N 802 9 := n4 9 (by omega) (by omega)
  have z10 : N' 802 10 = N 802 10 := n4 10 (by omega) (by omega)
  have z11 : N' 802 11 = N 802 11 := n4 11 (by omega) (by omega)
  have z12 : N' 802 12 = N 802 12 := n4 12 (by omega) (by omega)
  refine pRel_now h (m0 0 (by omega) 0) (fun x x0 x1 _ _ => m0 x (by omega)) ?_ (fun k hk k1 => ?_) ⟨?_, ?_, ?_, ?_, ?_, ?_, ?_, ?_, ?_, ?_⟩ (m0 2 (by omega) 3) (m0 2 (by omega) 4) (fun x x0 x1 => n2 x (by omega)) ⟨n2 801 (by omega) _, n2 801 (by omega) _, n2 801 (by omega) _, n2 801 (by omega) _⟩
  · rw [m0 762 (by omega), m0 762 (by omega), m0 762 (by omega)]
    exact h.2.2.1 762 (Or.inr (Or.inr (Or.inl rfl)))
  · by_cases q : k = 3
    · subst q
      rw [m1, m2 0 (by omega), m2 15 (by omega)]
      have := h.2.2.1 3 (Or.inl rfl)
      omega
    · have : ¬ (k = 3 ∨ (9 ≤ k ∧ k ≤ 12)) := by rcases hk with r | r | r | ⟨j, r⟩ | ⟨j, r⟩ <;> omega
      rw [m0 k this, m0 k this, m0 k this]
      exact h.2.2.1 k hk
  · simp only [pOK, pvA]
    refine ⟨by omega, by omega, by omega, by omega, by omega, by omega, by omega, fun i g0 g1 => ?_, fun i g0 g1 => ?_⟩
    · have := hS i g0 (by omega)
      have := v i g0 (by omega)
      omega
    · by_cases q : i = s
      · subst q
        rw [i0, i1, i2, i3]
        omega
      · have := hH i g0 (by omega)
        have := u i g0 (by omega)
        omega
  · simp only [pEq, pvA, pvM, Int.reduceAdd]
    rw [m1, m2 0 (by omega), m2 11 (by omega), m2 12 (by omega), m2 13 (by omega), m2 14 (by omega)]
    refine ⟨by omega, by omega, by omega, by omega, by omega, by omega, fun i g0 g1 => ?_, fun i g0 g1 => ?_⟩
    · have := hS i g0 (by omega)
      have := v i g0 (by omega)
      rw [m0 5 (by omega), m0 6 (by omega), m0 7 (by omega), m0 8 (by omega)]
      omega
    · rw [m5, m6, m7]
      by_cases q : i = s
      · subst q
        rw [i1, i2, i3, if_pos rfl, if_pos rfl, if_pos rfl]
        exact ⟨rfl, rfl, rfl⟩
      · have := hH i g0 (by omega)
        have := u i g0 (by omega)
        rw [if_neg q, if_neg q, if_neg q]
        omega
  · simp only [pEqS, pvA, pvM, Int.reduceAdd]
    refine ⟨fun i g0 g1 => ?_, fun i g0 g1 => ?_⟩
    · have := hS i g0 (by omega)
      have := v i g0 (by omega)
      rw [m0 4 (by omega)]
      omega
    · rw [m4]
      by_cases q : i = s
      · subst q
        rw [i0, if_pos rfl]
      · have := hH i g0 (by omega)
        have := u i g0 (by omega)
        rw [if_neg q]
        omega
  · rw [z12]
    obtain ⟨b1, b2, b3⟩ := a4
    refine ⟨by show M' 3 15 = _; rw [m2 15 (by omega)]; exact b1, b2, fun i g0 g1 => ?_⟩
    show pPg (M' 13 i) _
    rw [m0 13 (by omega), n4 _ (by omega) (by omega)]
    exact b3 i g0 g1
  · refine pActs_told a5 a1 (fun x x0 x1 => m0 x (by omega)) (by omega) (by omega) (fun i hi => n4 i (by omega) (by omega)) (fun i g0 g1 => n4 i (by omega) (by omega)) (fun i g0 g1 => n4 i (by omega) (by omega)) (fun i g0 g1 => by omega) (fun i g0 g1 => ?_)
    have : i = s := by omega
    subst this
    rw [i1, i2, i3, i4, i5]
    exact ⟨rfl, rfl, rfl⟩
  · exact pTold_same (fun x h0 h1 h2 => m0 x (by omega)) (fun i hi => n4 i (by omega) (by omega)) a6
  · rw [m0 2 (by omega), n4 2 (by omega) (by omega)]; exact a7
  · rw [n4 2 (by omega) (by omega)]; exact a8
  · rw [m0 2 (by omega), n4 3 (by omega) (by omega)]; exact a9
  · rw [n4 3 (by omega) (by omega), n4 2 (by omega) (by omega)]; exact a10
set_option maxHeartbeats 1000000 in
theorem t_ship {M N : Mem} {a b c : Int} (h : pRel M N) : pSimT (fun v => -1 ≤ v) (f_X11_ship a b c M) (f_X12_ship a b c N) N := by
  have h1 := pR_num h
  unfold f_X11_ship f_X12_ship f_X5_addShip
  rw [p_isW, p_isIn, p_isStepM h, p_isStepN h, p_isStepM h, p_isStepN h]
  by_cases ha : 1 ≤ a ∧ a ≤ 99
  · by_cases hb : 0 ≤ b ∧ b < N 802 0
    · by_cases hc : 0 ≤ c ∧ c < N 802 0
      · by_cases hs : N 802 1 < 7
        · have e0 : M 3 6 = N 802 1 := h1.2.1.1
          generalize hs2 : N 802 1 = s at *
          simp (disch := omega) only [if_pos, if_neg, p_ck, p_set, p_wI, Option.bind_some, p_lt, Int.reduceAdd, up_nei, up_nex, up_eq, e0, hs2]
          rw [show s + 1 - 1 = s by omega]
          refine ⟨s, _, _, rfl, rfl, ?_, by simp (disch := omega) only [up_nei], by show -1 ≤ s; omega⟩
          refine pRel_newShip h hs2 hs ha hb hc (fun x hx i => ?_) up_eq (fun i hi => ?_) (fun i => ?_) (fun i => ?_) (fun i => ?_) (fun i => ?_) (fun x hx i => ?_) ?_ (fun j j0 j1 => ?_) ⟨?_, ?_, ?_, ?_, ?_, ?_⟩
          · simp (disch := omega) only [up_nex]
          · simp (disch := omega) only [up_nex, up_nei]
          · simp [upM]
          · simp [upM]
          · simp [upM]
          · simp [upM]
          · simp (disch := omega) only [up_nex]
          · simp (disch := omega) only [up_eq]
          · simp (disch := omega) only [up_nei]
          all_goals simp (disch := omega) only [up_nei, up_eq]
        · simp (disch := omega) only [if_pos, if_neg]
          exact ⟨-1, M, N, rfl, rfl, h, rfl, Int.le_refl _⟩
      · simp (disch := omega) only [if_pos, if_neg]
        exact ⟨-1, M, N, rfl, rfl, h, rfl, Int.le_refl _⟩
    · simp (disch := omega) only [if_pos, if_neg]
      exact ⟨-1, M, N, rfl, rfl, h, rfl, Int.le_refl _⟩
  · simp (disch := omega) only [if_pos, if_neg]
    exact ⟨-1, M, N, rfl, rfl, h, rfl, Int.le_refl _⟩
