set_option linter.unusedVariables false
set_option linter.unusedSimpArgs false
theorem pRel_same {M M' N N' : Mem} (h : pRel M N) (h0 : M' 0 0 = M 0 0) (h1 : ∀ x, 2 ≤ x → x < 801 → ¬ (713 ≤ x ∧ x < 773) → x ≠ 350 → x ≠ 700 → ∀ i, M' x i = M x i)
    (h2 : (0 ≤ M' 762 0 ∧ M' 762 0 ≤ 9) ∧ (0 ≤ M' 762 6 ∧ M' 762 6 ≤ 7) ∧ (0 ≤ M' 762 15 ∧ M' 762 15 ≤ 40))
    (hN : ∀ x, 802 ≤ x → x < 806 → ∀ i, N' x i = N x i) (h3 : N' 801 4 = N 801 4 ∧ N' 801 5 = N 801 5 ∧ N' 801 6 = N 801 6 ∧ N' 801 28 = N 801 28) : pRel M' N' := by
  obtain ⟨a1, a2, a3, a4, a5, a6, a7, a8, a9⟩ := h
  obtain ⟨n1, n2, n3, n4⟩ := h3
  have e2 : N' 802 = N 802 := funext (hN 802 (by omega) (by omega))
  have e3 : N' 803 = N 803 := funext (hN 803 (by omega) (by omega))
  have g : ∀ x, 2 ≤ x → x < 713 → x ≠ 350 → x ≠ 700 → ∀ i, M' x i = M x i := fun x y z q r => h1 x y (by omega) (by omega) q r
  have hr : M' 2 3 = M 2 3 := g 2 (by omega) (by omega) (by omega) (by omega) 3
  refine ⟨?_, ?_, ?_, ?_, ?_, ?_, ?_, ?_, ?_⟩
  · rw [e2]; exact pWhole_same (fun x y z q => g x (by omega) (by omega) (by omega) (by omega)) a1
  · rw [e3]; exact pWhole_same (fun x y z q => g x (by omega) (by omega) (by omega) (by omega)) a2
  · intro s hs
    by_cases q : s = 762
    · subst q; exact h2
    · have hq : 2 ≤ s ∧ s < 713 ∧ s ≠ 350 ∧ s ≠ 700 := by rcases hs with r | r | r | ⟨j, r⟩ | ⟨j, r⟩ <;> omega
      have := g s hq.1 hq.2.1 hq.2.2.1 hq.2.2.2
      rw [this, this, this]
      exact a3 s hs
  · intro i i0 i1
    rw [hr] at i1
    have ht : M 2 3 ≤ 4 := by have := a1.2.2.2.2.2.2; omega
    exact pText_same (fun y y0 y1 => h1 y (by omega) (by omega) (by omega) (by omega) (by omega)) (fun j _ _ => hN 804 (by omega) (by omega) j) (a4 i i0 i1)
  · obtain ⟨b1, b2, b3⟩ := a5
    unfold pTape
    rw [n1, g 703 (by omega) (by omega) (by omega) (by omega)]
    refine ⟨b1, b2, fun i i0 i1 => ?_⟩
    rw [g 704 (by omega) (by omega) (by omega) (by omega), hN 805 (by omega) (by omega)]
    exact b3 i i0 i1
  · unfold pFault
    rw [n2, n3, g 703 (by omega) (by omega) (by omega) (by omega), g 703 (by omega) (by omega) (by omega) (by omega)]
    exact a6
  · unfold pRul
    rw [h0, g 2 (by omega) (by omega) (by omega) (by omega)]
    refine ⟨a7.1, fun i i0 i1 => ?_⟩
    rw [g 712 (by omega) (by omega) (by omega) (by omega), g 711 (by omega) (by omega) (by omega) (by omega)]
    exact a7.2 i i0 i1
  · rw [n4]; exact a8
  · rw [hr, g 352 (by omega) (by omega) (by omega) (by omega)]
    exact a9
/-- the live sea's single numbers -/
theorem pR_num {M N : Mem} (h : pRel M N) : (M 3 0 = N 802 0 ∧ 0 ≤ N 802 0 ∧ N 802 0 ≤ 9) ∧ (M 3 6 = N 802 1 ∧ 0 ≤ N 802 1 ∧ N 802 1 ≤ 7) ∧ (M 3 11 = N 802 8 ∧ 0 ≤ N 802 8 ∧ N 802 8 ≤ 9999)
    ∧ (M 3 12 = N 802 9 ∧ 0 ≤ N 802 9 ∧ N 802 9 ≤ 99999999) ∧ (M 3 13 = N 802 10 ∧ 0 ≤ N 802 10 ∧ N 802 10 ≤ 99999999) ∧ (M 3 14 = N 802 11 ∧ 0 ≤ N 802 11 ∧ N 802 11 ≤ 30312) ∧ (M 3 15 = min (N 802 12) 40 ∧ 0 ≤ N 802 12 ∧ N 802 12 ≤ 7 * N 802 8) :=
  ⟨⟨h.1.2.1.1, h.1.1.1⟩, ⟨h.1.2.1.2.1, h.1.1.2.1⟩, ⟨h.1.2.1.2.2.1, h.1.1.2.2.1⟩, ⟨h.1.2.1.2.2.2.1, h.1.1.2.2.2.1⟩, ⟨h.1.2.1.2.2.2.2.1, h.1.1.2.2.2.2.1⟩, ⟨h.1.2.1.2.2.2.2.2.1, h.1.1.2.2.2.2.2.1⟩, ⟨h.1.2.2.2.1.1, h.1.1.2.2.2.2.2.2.1⟩⟩
theorem pR_step {M N : Mem} (h : pRel M N) (i : Int) (h0 : 0 ≤ i) (h1 : i < N 802 0) : (M 4 i = N 802 (16 + 8 * i) ∧ 1 ≤ N 802 (16 + 8 * i) ∧ N 802 (16 + 8 * i) ≤ 99) ∧ (M 5 i = N 802 (17 + 8 * i) ∧ 0 ≤ N 802 (17 + 8 * i) ∧ N 802 (17 + 8 * i) ≤ 99) ∧ (M 6 i = N 802 (18 + 8 * i) ∧ 0 ≤ N 802 (18 + 8 * i) ∧ N 802 (18 + 8 * i) ≤ 999)
    ∧ (M 7 i = N 802 (19 + 8 * i) ∧ 0 ≤ N 802 (19 + 8 * i) ∧ N 802 (19 + 8 * i) ≤ 999) ∧ (M 8 i = N 802 (20 + 8 * i) ∧ 0 ≤ N 802 (20 + 8 * i) ∧ N 802 (20 + 8 * i) ≤ 100) := by
  have a := h.1.1.2.2.2.2.2.2.2.1 i h0 h1
  have b := h.1.2.1.2.2.2.2.2.2.1 i h0 h1
  exact ⟨⟨h.1.2.2.1.1 i h0 h1, a.2.2.2.2⟩, ⟨b.1, a.1⟩, ⟨b.2.1, a.2.1⟩, ⟨b.2.2.1, a.2.2.1⟩, ⟨b.2.2.2, a.2.2.2.1⟩⟩
theorem pR_ship {M N : Mem} (h : pRel M N) (i : Int) (h0 : 0 ≤ i) (h1 : i < N 802 1) : (M 9 i = N 802 (88 + 6 * i) ∧ 1 ≤ N 802 (88 + 6 * i) ∧ N 802 (88 + 6 * i) ≤ 99) ∧ (M 10 i = N 802 (89 + 6 * i) ∧ 0 ≤ N 802 (89 + 6 * i) ∧ N 802 (89 + 6 * i) < N 802 0) ∧ (M 11 i = N 802 (90 + 6 * i) ∧ 0 ≤ N 802 (90 + 6 * i) ∧ N 802 (90 + 6 * i) < N 802 0)
    ∧ (M 12 i = N 802 (91 + 6 * i) ∧ 0 ≤ N 802 (91 + 6 * i) ∧ N 802 (91 + 6 * i) ≤ 99999) := by
  have a := h.1.1.2.2.2.2.2.2.2.2 i h0 h1
  have b := h.1.2.1.2.2.2.2.2.2.2 i h0 h1
  exact ⟨⟨h.1.2.2.1.2 i h0 h1, a.2.2.2⟩, ⟨b.1, a.1⟩, ⟨b.2.1, a.2.1⟩, ⟨b.2.2, a.2.2.1⟩⟩
theorem pR_told {M N : Mem} (h : pRel M N) : (M 346 0 = N 802 5 ∧ 0 ≤ N 802 5 ∧ N 802 5 ≤ 8) ∧ (M 346 3 = N 802 6 ∧ 0 ≤ N 802 6 ∧ N 802 6 ≤ 10) ∧ (M 346 6 = N 802 7 ∧ 0 ≤ N 802 7 ∧ N 802 7 ≤ 15) :=
  ⟨⟨h.1.2.2.2.2.2.1.1, h.1.2.2.2.2.2.1.2.1⟩, ⟨h.1.2.2.2.2.2.1.2.2.2.1, h.1.2.2.2.2.2.1.2.2.2.2.1⟩, ⟨h.1.2.2.2.2.2.1.2.2.2.2.2.2.1, h.1.2.2.2.2.2.1.2.2.2.2.2.2.2.1⟩⟩
theorem pR_ctl {M N : Mem} (h : pRel M N) : (M 14 2 = N 802 4 ∧ 0 ≤ N 802 4 ∧ N 802 4 ≤ 30 ∧ 0 ≤ M 14 1 ∧ M 14 1 < 30) ∧ (M 2 3 = N 802 2 ∧ 0 ≤ N 802 2 ∧ N 802 2 ≤ 4) ∧ (M 2 4 = N 802 3 ∧ -1 ≤ N 802 3 ∧ N 802 3 < N 802 2) ∧ (M 703 1 = N 801 4 ∧ 0 ≤ N 801 4 ∧ N 801 4 ≤ 300) ∧ M 703 2 = N 801 5 ∧ M 703 3 = N 801 6 :=
  ⟨⟨h.1.2.2.2.2.1.2.1, h.1.2.2.2.2.1.2.2.1.1, h.1.2.2.2.2.1.2.2.1.2, h.1.2.2.2.2.1.1⟩, ⟨h.1.2.2.2.2.2.2.1, h.1.2.2.2.2.2.2.2.1⟩, ⟨h.1.2.2.2.2.2.2.2.2.1, h.1.2.2.2.2.2.2.2.2.2⟩, ⟨h.2.2.2.2.1.1, h.2.2.2.2.1.2.1⟩, h.2.2.2.2.2.1⟩
/-! the answers that change nothing -/
theorem s_about {M N : Mem} {p : Int} (h : pRel M N) : f_X12_about p N = some (f_X11_about p M) := by
  have h1 := pR_num h
  have h2 := pR_told h
  have h3 := pR_ctl h
  unfold f_X12_about f_X11_about
  rw [p_isIn]
  by_cases hp : 0 ≤ p ∧ p ≤ 7
  · rw [if_pos hp, if_neg (by omega), p_ck (by omega)]
    grind
  · rw [if_neg hp, if_pos rfl]
    grind
theorem s_is {M N : Mem} {p : Int} (h : pRel M N) : f_X12_is p N = some (f_X11_is p M) := by
  have h1 := pR_num h
  unfold f_X12_is f_X11_is
  rw [p_isIn]
  by_cases hp : 0 ≤ p ∧ p ≤ 3
  · rw [if_pos hp, if_neg (by omega), p_wI (by omega) (by omega), p_ck (by omega)]
    grind
  · rw [if_neg hp, if_pos rfl]
    grind
theorem s_fault {M N : Mem} {p : Int} (h : pRel M N) : f_X12_fault p N = f_X11_fault p M := by
  have h3 := pR_ctl h
  unfold f_X12_fault f_X11_fault
  grind
theorem p_isStepN {M N : Mem} {p : Int} (h : pRel M N) : f_X12_isStep p N = if 0 ≤ p ∧ p < N 802 0 then 1 else 0 := by
  have h1 := pR_num h
  unfold f_X12_isStep
  rw [p_isIn, p_wI (by omega) (by omega)]
  grind
theorem p_isStepM {M N : Mem} {p : Int} (h : pRel M N) : f_X11_isStep p M = if 0 ≤ p ∧ p < N 802 0 then 1 else 0 := by
  have h1 := pR_num h
  unfold f_X11_isStep
  rw [p_isB, p_wI (by omega) (by omega)]
  grind
theorem p_isShipN {M N : Mem} {p : Int} (h : pRel M N) : f_X12_isShip p N = if 0 ≤ p ∧ p < N 802 1 then 1 else 0 := by
  have h1 := pR_num h
  unfold f_X12_isShip
  rw [p_isIn, p_wI (by omega) (by omega)]
  grind
theorem p_isShipM {M N : Mem} {p : Int} (h : pRel M N) : f_X11_isShip p M = if 0 ≤ p ∧ p < N 802 1 then 1 else 0 := by
  have h1 := pR_num h
  unfold f_X11_isShip
  rw [p_isB, p_wI (by omega) (by omega)]
  grind
theorem p_riserN {M N : Mem} {p : Int} (h : pRel M N) : f_X12_isRiser p N = if 0 ≤ p ∧ p < N 802 0 - 1 then 1 else 0 := by
  have h1 := pR_num h
  unfold f_X12_isRiser
  rw [p_isIn, p_wI (by omega) (by omega)]
  grind
theorem p_riserM {M N : Mem} {p : Int} (h : pRel M N) : f_X11_hasRiser p M = if 0 ≤ p ∧ p < N 802 0 - 1 then 1 else 0 := by
  have h1 := pR_num h
  unfold f_X11_hasRiser
  rw [p_isB, p_wI (by omega) (by omega)]
  grind
theorem s_ofShip {M N : Mem} {p q : Int} (h : pRel M N) : ∃ v, f_X11_ofShip p q M = some v ∧ f_X12_ofShip p q N = some v := by
  have h1 := pR_num h
  unfold f_X11_ofShip f_X12_ofShip
  rw [p_isShipM h, p_isShipN h, p_isIn]
  by_cases hp : 0 ≤ p ∧ p < N 802 1
  · have h2 := pR_ship h p hp.1 hp.2
    rw [if_pos hp]
    by_cases hq : 0 ≤ q ∧ q ≤ 3
    · rw [if_pos hq, p_get (by omega) (by omega) (by omega) (by omega)]
      have : q = 0 ∨ q = 1 ∨ q = 2 ∨ q = 3 := by omega
      simp only [p_ck (show 0 ≤ p ∧ p < 7 by omega)]
      rcases this with r | r | r | r <;> subst r <;> simp <;> grind
    · rw [if_neg hq]
      simp only [p_ck (show 0 ≤ p ∧ p < 7 by omega)]
      grind
  · rw [if_neg hp]
    simp
