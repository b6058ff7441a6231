set_option linter.unusedVariables false
set_option linter.unusedSimpArgs false
theorem s_wreck {M N : Mem} {p : Int} (h : pRel M N) : pSim (f_X11_wreck p M) (f_X12_wreck p N) N := by
  have h1 := pR_told h
  have ht : pTold M 346 (N 802) := h.1.2.2.2.2.2.1
  unfold f_X11_wreck f_X12_wreck f_X7_addWreck
  rw [p_isB, p_isIn]
  have e0 := h1.2.1.1
  by_cases hp : p = -1
  · subst hp
    refine ⟨0, upM M 346 3 0, upM N 802 6 0, by simp [lt], by simp [lt], pRel_told h (fun x hx i => up_nex (by omega)) (fun x hx i => up_nex (by omega)) (fun i i0 i1 => up_nei (by omega)) ?_⟩
    clear h
    obtain ⟨t1, t2, t3, t4, t5, t6, t7, t8, t9⟩ := ht
    unfold pTold
    simp (disch := omega) only [up_nei, up_nex, up_eq]
    exact ⟨t1, t2, fun i i0 i1 => by simp (disch := omega) only [up_nei, up_nex, up_eq]; exact t3 i i0 i1, trivial, by omega, fun i i0 i1 => by omega, t7, t8, fun i i0 i1 => by simp (disch := omega) only [up_nei, up_nex, up_eq]; exact t9 i i0 i1⟩
  · by_cases hp1 : 0 ≤ p ∧ p ≤ 99
    · by_cases hc : N 802 6 < 10
      · simp (disch := omega) only [p_lt, up_nei, up_nex, up_eq, p_wI, p_ck, if_pos, if_neg, Option.bind_some, e0]
        refine ⟨_, _, _, rfl, rfl, ?_⟩
        refine pRel_told h (fun x hx i => ?_) (fun x hx i => ?_) (fun i i0 i1 => ?_) ?_
        · rw [up_nex (by omega), up_nex (by omega)]
        · rw [up_nex (by omega), up_nex (by omega)]
        · rw [up_nei (by omega), up_nei (by omega)]
        · clear h
          obtain ⟨t1, t2, t3, t4, t5, t6, t7, t8, t9⟩ := ht
          unfold pTold
          simp (disch := omega) only [up_nei, up_nex, up_eq]
          refine ⟨t1, t2, fun i i0 i1 => ?_, trivial, by omega, fun i i0 i1 => ?_, t7, t8, fun i i0 i1 => ?_⟩
          · simp (disch := omega) only [up_nei, up_nex, up_eq]
            exact t3 i i0 i1
          · have := t6 i i0
            by_cases hi : i = N 802 6
            · subst hi
              simp (disch := omega) only [up_nei, up_nex, up_eq]
              exact ⟨trivial, hp1.1, hp1.2⟩
            · simp (disch := omega) only [up_nei, up_nex, up_eq]
              exact this (by omega)
          · simp (disch := omega) only [up_nei, up_nex, up_eq]
            exact t9 i i0 i1
      · simp (disch := omega) only [if_pos, if_neg]
        exact ⟨-2, M, N, rfl, rfl, h⟩
    · simp (disch := omega) only [if_pos, if_neg]
      exact ⟨-2, M, N, rfl, rfl, h⟩
theorem s_misheard {M N : Mem} {p q : Int} (h : pRel M N) : pSim (f_X11_misheard p q M) (f_X12_misheard p q N) N := by
  have h1 := pR_told h
  have ht : pTold M 346 (N 802) := h.1.2.2.2.2.2.1
  unfold f_X11_misheard f_X12_misheard f_X7_addMisheard
  rw [p_isB, p_isIn, p_isB, p_isIn]
  have e0 := h1.2.2.1
  by_cases hp : p = -1
  · subst hp
    refine ⟨0, upM M 346 6 0, upM N 802 7 0, by simp [lt], by simp [lt], pRel_told h (fun x hx i => up_nex (by omega)) (fun x hx i => up_nex (by omega)) (fun i i0 i1 => up_nei (by omega)) ?_⟩
    clear h
    obtain ⟨t1, t2, t3, t4, t5, t6, t7, t8, t9⟩ := ht
    unfold pTold
    simp (disch := omega) only [up_nei, up_nex, up_eq]
    exact ⟨t1, t2, fun i i0 i1 => by simp (disch := omega) only [up_nei, up_nex, up_eq]; exact t3 i i0 i1, t4, t5, fun i i0 i1 => by simp (disch := omega) only [up_nei, up_nex, up_eq]; exact t6 i i0 i1, trivial, by omega, fun i i0 i1 => by omega⟩
  · by_cases hp1 : 0 ≤ p ∧ p ≤ 9
    · by_cases hq : 0 ≤ q ∧ q ≤ 9
      · by_cases hpq : p = q
        · simp (disch := omega) only [if_pos, if_neg]
          exact ⟨-2, M, N, rfl, rfl, h⟩
        · by_cases hc : N 802 7 < 15
          · simp (disch := omega) only [p_lt, up_nei, up_nex, up_eq, p_wI, p_ck, if_pos, if_neg, Option.bind_some, e0]
            refine ⟨_, _, _, rfl, rfl, ?_⟩
            refine pRel_told h (fun x hx i => ?_) (fun x hx i => ?_) (fun i i0 i1 => ?_) ?_
            · rw [up_nex (by omega), up_nex (by omega)]
            · rw [up_nex (by omega), up_nex (by omega), up_nex (by omega)]
            · rw [up_nei (by omega), up_nei (by omega), up_nei (by omega)]
            · clear h
              obtain ⟨t1, t2, t3, t4, t5, t6, t7, t8, t9⟩ := ht
              unfold pTold
              simp (disch := omega) only [up_nei, up_nex, up_eq]
              refine ⟨t1, t2, fun i i0 i1 => ?_, t4, t5, fun i i0 i1 => ?_, trivial, by omega, fun i i0 i1 => ?_⟩
              · simp (disch := omega) only [up_nei, up_nex, up_eq]
                exact t3 i i0 i1
              · simp (disch := omega) only [up_nei, up_nex, up_eq]
                exact t6 i i0 i1
              · have := t9 i i0
                by_cases hi : i = N 802 7
                · subst hi
                  have z : 156 + 2 * N 802 7 + 1 = 157 + 2 * N 802 7 := by omega
                  rw [z]
                  simp (disch := omega) only [up_nei, up_nex, up_eq]
                  exact ⟨trivial, hp1.1, hp1.2, hq.1, hq.2⟩
                · simp (disch := omega) only [up_nei, up_nex, up_eq]
                  exact this (by omega)
          · simp (disch := omega) only [if_pos, if_neg]
            exact ⟨-2, M, N, rfl, rfl, h⟩
      · simp (disch := omega) only [if_pos, if_neg]
        exact ⟨-2, M, N, rfl, rfl, h⟩
    · simp (disch := omega) only [if_pos, if_neg]
      exact ⟨-2, M, N, rfl, rfl, h⟩
