set_option linter.unusedVariables false
set_option linter.unusedSimpArgs false
theorem pRel_now {M M' N N' : Mem} (h : pRel M N) (h0 : M' 0 0 = M 0 0) (h1 : ∀ x, 352 ≤ x → x < 801 → ¬ (713 ≤ x ∧ x < 773) → x ≠ 700 → ∀ i, M' x i = M x i)
    (h2 : (0 ≤ M' 762 0 ∧ M' 762 0 ≤ 9) ∧ (0 ≤ M' 762 6 ∧ M' 762 6 ≤ 7) ∧ (0 ≤ M' 762 15 ∧ M' 762 15 ≤ 40))
    (hS : ∀ s, isSea s → s < 352 → (0 ≤ M' s 0 ∧ M' s 0 ≤ 9) ∧ (0 ≤ M' s 6 ∧ M' s 6 ≤ 7) ∧ (0 ≤ M' s 15 ∧ M' s 15 ≤ 40))
    (hw : pWhole M' 2 (N' 802)) (hq : M' 2 3 = M 2 3) (hr : M' 2 4 = M 2 4)
    (hN : ∀ x, 803 ≤ x → x < 806 → ∀ i, N' x i = N x i) (h3 : N' 801 4 = N 801 4 ∧ N' 801 5 = N 801 5 ∧ N' 801 6 = N 801 6 ∧ N' 801 28 = N 801 28) : pRel M' N' := by
  obtain ⟨a1, a2, a3, a4, a5, a6, a7, a8, a9⟩ := h
  obtain ⟨n1, n2, n3, n4⟩ := h3
  have e3 : N' 803 = N 803 := funext (hN 803 (by omega) (by omega))
  refine ⟨hw, ?_, ?_, ?_, ?_, ?_, ?_, ?_, ?_⟩
  · rw [e3]; exact pWhole_same (fun x y z q => h1 x (by omega) (by omega) (by omega) (by omega)) a2
  · intro s hs
    by_cases q : s = 762
    · subst q; exact h2
    · by_cases q2 : s < 352
      · exact hS s hs q2
      · have hq : 352 ≤ s ∧ s < 713 ∧ s ≠ 700 := by rcases hs with r | r | r | ⟨j, r⟩ | ⟨j, r⟩ <;> omega
        have := h1 s hq.1 (by omega) (by omega) hq.2.2
        rw [this, this, this]
        exact a3 s hs
  · intro i i0 i1
    rw [hq] at i1
    have ht : M 2 3 ≤ 4 := by have := a1.2.2.2.2.2.2; omega
    exact pText_same (fun y y0 y1 => h1 y (by omega) (by omega) (by omega) (by omega)) (fun j _ _ => hN 804 (by omega) (by omega) j) (a4 i i0 i1)
  · obtain ⟨b1, b2, b3⟩ := a5
    unfold pTape
    rw [n1, h1 703 (by omega) (by omega) (by omega) (by omega)]
    refine ⟨b1, b2, fun i i0 i1 => ?_⟩
    rw [h1 704 (by omega) (by omega) (by omega) (by omega), hN 805 (by omega) (by omega)]
    exact b3 i i0 i1
  · unfold pFault
    rw [n2, n3, h1 703 (by omega) (by omega) (by omega) (by omega), h1 703 (by omega) (by omega) (by omega) (by omega)]
    exact a6
  · unfold pRul
    rw [h0, hr]
    refine ⟨a7.1, fun i i0 i1 => ?_⟩
    rw [h1 712 (by omega) (by omega) (by omega) (by omega), h1 711 (by omega) (by omega) (by omega) (by omega)]
    exact a7.2 i i0 i1
  · rw [n4]; exact a8
  · rw [hq, h1 352 (by omega) (by omega) (by omega) (by omega)]
    exact a9
theorem pR_seaR {M N : Mem} (h : pRel M N) : pSeas M := h.2.2.1
theorem up_ne {M : Mem} {x i v y j : Int} (h : ¬ (y = x ∧ j = i)) : upM M x i v y j = M y j := if_neg h
theorem up_nei {M : Mem} {x i v j : Int} (h : ¬ j = i) : upM M x i v x j = M x j := if_neg (fun q => h q.2)
theorem up_nex {M : Mem} {x i v y j : Int} (h : ¬ y = x) : upM M x i v y j = M y j := if_neg (fun q => h q.1)
theorem up_eq {M : Mem} {x i v : Int} : upM M x i v x i = v := if_pos ⟨rfl, rfl⟩
/-- only told words change -/
theorem pRel_told {M M' N N' : Mem} (h : pRel M N) (hM : ∀ x, ¬ (346 ≤ x ∧ x < 352) → ∀ i, M' x i = M x i) (hN : ∀ x, x ≠ 802 → ∀ i, N' x i = N x i) (hA : ∀ i, ¬ (5 ≤ i ∧ i ≤ 7) → ¬ (130 ≤ i ∧ i < 186) → N' 802 i = N 802 i) (ht : pTold M' 346 (N' 802)) : pRel M' N' := by
  refine pRel_now h (hM 0 (by omega) 0) (fun x x0 x1 _ _ => hM x (by omega)) ?_ (fun s hs s1 => ?_) (pWhole_told (fun x x0 x1 => hM x (by omega)) hA h.1 ht) (hM 2 (by omega) 3) (hM 2 (by omega) 4) (fun x x0 x1 => hN x (by omega)) ⟨hN 801 (by omega) _, hN 801 (by omega) _, hN 801 (by omega) _, hN 801 (by omega) _⟩
  · rw [hM 762 (by omega), hM 762 (by omega), hM 762 (by omega)]
    exact h.2.2.1 762 (Or.inr (Or.inr (Or.inl rfl)))
  · have : ¬ (346 ≤ s ∧ s < 352) := by rcases hs with r | r | r | ⟨j, r⟩ | ⟨j, r⟩ <;> omega
    rw [hM s this, hM s this, hM s this]
    exact h.2.2.1 s hs
theorem s_sound {M N : Mem} {p q : Int} (h : pRel M N) : pSim (f_X11_sound p q M) (f_X12_sound p q N) N := by
  have h1 := pR_told h
  obtain ⟨t1, t2, t3, t4, t5, t6, t7, t8, t9⟩ := h.1.2.2.2.2.2.1
  unfold f_X11_sound f_X12_sound f_X7_addSound
  by_cases hp : p = -1
  · subst hp
    refine ⟨0, upM M 346 0 0, upM N 802 5 0, by simp [lt], by simp [lt], pRel_told h (fun x hx i => up_ne (by omega)) (fun x hx i => up_ne (by omega)) (fun i i0 i1 => up_ne (by omega)) ?_⟩
    refine ⟨by rw [up_eq, up_eq], by rw [up_eq]; omega, fun i i0 i1 => ?_, ?_, ?_, fun i i0 i1 => ?_, ?_, ?_, fun i i0 i1 => ?_⟩
    · rw [up_eq] at i1; omega
    · rw [up_ne (by omega), up_ne (by omega)]; exact t4
    · rw [up_ne (by omega)]; exact t5
    · rw [up_ne (by omega)] at i1; rw [up_ne (by omega), up_ne (by omega)]; exact t6 i i0 i1
    · rw [up_ne (by omega), up_ne (by omega)]; exact t7
    · rw [up_ne (by omega)]; exact t8
    · rw [up_ne (by omega)] at i1; rw [up_ne (by omega), up_ne (by omega), up_ne (by omega)]; exact t9 i i0 i1
  · rw [if_pos hp, if_pos hp, p_isB, p_isB, p_isIn, p_isIn]
    by_cases hp1 : 0 ≤ p ∧ p ≤ 8
    · by_cases hq : 0 ≤ q ∧ q ≤ 99
      · rw [if_pos hp1, if_pos hq]
        simp only [if_neg (show ¬ (1 : Int) = 0 by decide)]
        by_cases hc : N 802 5 < 8
        · have e0 := h1.1.1
          simp (disch := omega) only [p_lt, up_nei, up_nex, up_eq, p_wI, p_ck, if_pos, if_neg, Option.bind_some, e0]
          refine ⟨_, _, _, rfl, rfl, ?_⟩
          refine pRel_told h (fun x hx i => ?_) (fun x hx i => ?_) (fun i i0 i1 => ?_) ?_
          · rw [up_ne (by omega), up_ne (by omega), up_ne (by omega)]
          · rw [up_ne (by omega), up_ne (by omega), up_ne (by omega)]
          · rw [up_ne (by omega), up_ne (by omega), up_ne (by omega)]
          · unfold pTold
            simp only [upM]
            refine ⟨by grind, by grind, fun i i0 i1 => ?_, by grind, by grind, fun i i0 i1 => ?_, by grind, by grind, fun i i0 i1 => ?_⟩
            · have := t3 i i0
              clear t1 t2 t3 t4 t5 t6 t7 t8 t9 h
              grind
            · have := t6 i i0
              clear t1 t2 t3 t4 t5 t6 t7 t8 t9 h
              grind
            · have := t9 i i0
              clear t1 t2 t3 t4 t5 t6 t7 t8 t9 h
              grind
        · rw [if_neg (by omega), if_neg (by omega)]
          exact ⟨_, _, _, rfl, rfl, h⟩
      · rw [if_pos hp1, if_neg hq]
        exact ⟨-2, M, N, by simp, by simp, h⟩
    · rw [if_neg hp1]
      exact ⟨-2, M, N, by simp, by simp, h⟩
