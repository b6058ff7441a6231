set_option linter.unusedVariables false
set_option linter.unusedSimpArgs false
theorem l_hoursAhead {M0 N0 : Mem} (h : pRel M0 N0) {p w : Int} (hp : p ≤ 60) : ∀ (k nA nB : Nat) (i : Int) (M N : Mem), p - i < k → k + 700 ≤ nA → k + 700 ≤ nB → 0 ≤ i → i ≤ p → pAh M0 N0 M N → N 802 8 ≤ 9999 + i →
    ∃ M' N', f_X11_lookAhead_L13 nA p i M = some M' ∧ f_X12_behindHours_L6 nB p w i N = some N' ∧ pAh M0 N0 M' N' := by
  intro k
  induction k with
  | zero => intro nA nB i M N h0; omega
  | succ k ih =>
    intro nA nB i M N h0 h1 h2 i0 i1 a hh
    obtain ⟨nA, rfl⟩ : ∃ m, nA = m + 1 := ⟨nA - 1, by omega⟩
    obtain ⟨nB, rfl⟩ : ∃ m, nB = m + 1 := ⟨nB - 1, by omega⟩
    rw [f_X11_lookAhead_L13, f_X12_behindHours_L6]
    by_cases c : p ≤ i
    · rw [if_pos c, if_pos c]
      exact ⟨M, N, rfl, rfl, a⟩
    · obtain ⟨v, M1, N1, a1, a2, a3, a4, -⟩ := l_ahPass (nA := nA) (nB := nB) h a (by omega) (by omega) (by omega)
      rw [if_neg c, if_neg c, a1, a2, Option.bind_some, Option.bind_some, p_wI (x := i + 1) (by omega) (by omega)]
      exact ih nA nB (i + 1) M1 N1 (by omega) (by omega) (by omega) (by omega) (by omega) a3 (by omega)
/-- both look n hours ahead, and the reference at one number of it -/
theorem l_behind {M N : Mem} {nA nB : Nat} {p w : Int} (h : pRel M N) (p0 : 0 ≤ p) (hp : p ≤ 60) (w0 : 0 ≤ w) (w1 : w < 10606) (hA : 1000 ≤ nA) (hB : 1000 ≤ nB) :
    ∃ M' N1 N', f_X11_lookAhead nA p M = some M' ∧ f_X12_behindHours nB p w N = some (N1 802 w, N') ∧ pLv M' N1 762 10099 ∧ N1 802 0 = N 802 0 ∧ N1 802 1 = N 802 1 ∧ pRel M' N' := by
  have h8 := (pR_num h).2.2.1
  obtain ⟨M1, N1, a1, a2, a3, a4⟩ := l_ahead (nB := nB) h (by omega)
  obtain ⟨M2, N2, b1, b2, b3⟩ := l_hoursAhead (w := w) h hp 70 nA nB 0 M1 N1 (by omega) (by omega) (by omega) (by omega) (by omega) a3 (by rw [a4]; omega)
  obtain ⟨N3, c1, c2, -⟩ := l_ahBack (nB := nB) h b3.2.2.1 b3.2.2.2 (by omega)
  unfold f_X11_lookAhead f_X12_behindHours
  rw [a1, a2, Option.bind_some, Option.bind_some, b1, b2, Option.bind_some, Option.bind_some, p_ck ⟨w0, w1⟩, c1, Option.bind_some]
  exact ⟨M2, N2, N3, rfl, rfl, b3.1, b3.2.2.2.2.2.2.2 0 (by decide), b3.2.2.2.2.2.2.2 1 (by decide), c2⟩
theorem s_foretoldShip {M N : Mem} {nA nB : Nat} {p q r : Int} (h : pRel M N) (hA : 1000 ≤ nA) (hB : 1000 ≤ nB) : pSim (f_X11_foretoldShip nA p q r M) (f_X12_foretoldShip nB p q r N) N := by
  have n1 : (1 : Int) ≠ 0 := by decide
  have n10 : ¬ (1 : Int) = 0 := by decide
  have n0 : ¬ (0 : Int) ≠ 0 := by decide
  have h1 := pR_num h
  unfold f_X11_foretoldShip f_X12_foretoldShip f_X12_foretoldShip_J45
  rw [p_isB, p_isB, p_isIn, p_isIn, p_isShipM h, p_isShipN h]
  by_cases hp : 1 ≤ p ∧ p ≤ 60
  · by_cases hq : 0 ≤ q ∧ q < N 802 1
    · by_cases hr : 0 ≤ r ∧ r ≤ 1
      · rw [if_pos hp, if_pos hq, if_pos hr, if_neg n10, if_neg n10, if_pos n1, if_neg n10, if_neg n10, if_neg n10, p_wI (x := 6 * q) (by omega) (by omega), p_wI (x := 88 + 6 * q) (by omega) (by omega), p_wI (x := 88 + 6 * q + 3) (by omega) (by omega), p_wI (x := 88 + 6 * q + 1) (by omega) (by omega)]
        have k7 : 0 ≤ q ∧ q < 7 := by omega
        by_cases c : r = 0
        · obtain ⟨M', N1, N', a1, a2, a3, a4, a5, a6⟩ := l_behind (p := p) (w := 88 + 6 * q + 1) (nA := nA) (nB := nB) h (by omega) hp.2 (by omega) (by omega) hA hB
          have g := a3.2.1.2 q hq.1 (by omega)
          rw [a1, Option.bind_some, if_neg (fun z => z c), if_neg (fun z => z c), p_ck k7, a2, Option.bind_some]
          refine ⟨_, M', N', rfl, ?_, a6⟩
          have e := g.2.1.1
          rw [show (762 : Int) + 7 = 769 by decide] at e
          rw [e, show 88 + 6 * q + 1 = 89 + 6 * q by omega]
        · obtain ⟨M', N1, N', a1, a2, a3, a4, a5, a6⟩ := l_behind (p := p) (w := 88 + 6 * q + 3) (nA := nA) (nB := nB) h (by omega) hp.2 (by omega) (by omega) hA hB
          have g := a3.2.1.2 q hq.1 (by omega)
          rw [a1, Option.bind_some, if_pos c, if_pos c, p_ck k7, a2, Option.bind_some]
          refine ⟨_, M', N', rfl, ?_, a6⟩
          have e := g.2.2.2.1
          rw [show (762 : Int) + 9 = 771 by decide] at e
          rw [e, show 88 + 6 * q + 3 = 91 + 6 * q by omega]
      · rw [if_pos hp, if_pos hq, if_neg hr, if_neg n10, if_neg n10, if_neg n0, if_neg n10, if_neg n10, if_pos rfl]
        exact ⟨-1, M, N, rfl, rfl, h⟩
    · rw [if_pos hp, if_neg hq, if_neg n10, if_pos rfl, if_neg n10, if_pos rfl]
      exact ⟨-1, M, N, rfl, rfl, h⟩
  · rw [if_neg hp, if_pos rfl, if_pos rfl]
    exact ⟨-1, M, N, rfl, rfl, h⟩
theorem s_foretoldStep {M N : Mem} {nA nB : Nat} {p q r : Int} (h : pRel M N) (hA : 1000 ≤ nA) (hB : 1000 ≤ nB) : pSim (f_X11_foretoldStep nA p q r M) (f_X12_foretoldStep nB p q r N) N := by
  have n1 : (1 : Int) ≠ 0 := by decide
  have n10 : ¬ (1 : Int) = 0 := by decide
  have n0 : ¬ (0 : Int) ≠ 0 := by decide
  have h1 := pR_num h
  unfold f_X11_foretoldStep f_X12_foretoldStep
  rw [p_isB, p_isB, p_isIn, p_isIn, p_isStepM h, p_isStepN h]
  by_cases hp : 1 ≤ p ∧ p ≤ 60
  · by_cases hq : 0 ≤ q ∧ q < N 802 0
    · by_cases hr : 0 ≤ r ∧ r ≤ 1
      · rw [if_pos hp, if_pos hq, if_pos hr, if_neg n10, if_neg n10, if_pos n1, if_neg n10, if_neg n10, if_neg n10, p_wI (x := 8 * q) (by omega) (by omega), p_wI (x := 16 + 8 * q) (by omega) (by omega), p_wI (x := 16 + 8 * q + 2) (by omega) (by omega), p_wI (x := 16 + 8 * q + 2 + r) (by omega) (by omega)]
        have k9 : 0 ≤ q ∧ q < 9 := by omega
        obtain ⟨M', N1, N', a1, a2, a3, a4, a5, a6⟩ := l_behind (p := p) (w := 16 + 8 * q + 2 + r) (nA := nA) (nB := nB) h (by omega) hp.2 (by omega) (by omega) hA hB
        have g := a3.1.2 q hq.1 (by omega)
        rw [a1, Option.bind_some, a2, Option.bind_some]
        by_cases c : r = 0
        · rw [if_neg (fun z => z c), p_ck k9]
          refine ⟨_, M', N', rfl, ?_, a6⟩
          have e := g.2.2.1.1
          rw [show (762 : Int) + 3 = 765 by decide] at e
          rw [e, show 16 + 8 * q + 2 + r = 18 + 8 * q by omega]
        · rw [if_pos c, p_ck k9]
          refine ⟨_, M', N', rfl, ?_, a6⟩
          have e := g.2.2.2.1.1
          rw [show (762 : Int) + 4 = 766 by decide] at e
          rw [e, show 16 + 8 * q + 2 + r = 19 + 8 * q by omega]
      · rw [if_pos hp, if_pos hq, if_neg hr, if_neg n10, if_neg n10, if_neg n0, if_neg n10, if_neg n10, if_pos rfl]
        exact ⟨-1, M, N, rfl, rfl, h⟩
    · rw [if_pos hp, if_neg hq, if_neg n10, if_pos rfl, if_neg n10, if_pos rfl]
      exact ⟨-1, M, N, rfl, rfl, h⟩
  · rw [if_neg hp, if_pos rfl, if_pos rfl]
    exact ⟨-1, M, N, rfl, rfl, h⟩
theorem l_comes {M0 N0 : Mem} (h : pRel M0 N0) {p : Int} (p0 : 0 ≤ p) (p1 : p < N0 802 1) : ∀ (k nA nB : Nat) (i : Int) (M N : Mem), 61 - i < k → k + 700 ≤ nA → k + 700 ≤ nB → 0 ≤ i → i ≤ 61 → pAh M0 N0 M N → N 802 8 ≤ 9999 + i →
    ∃ v M' N', f_X11_comes_L17 nA p i M = some (v, M') ∧ f_X12_comes_L18 nB p (-1) i N = some (v, N') ∧ pAhM M0 M' ∧ pAhN N0 N' := by
  have h7 := (pR_num h).2.1
  intro k
  induction k with
  | zero => intro nA nB i M N h0; omega
  | succ k ih =>
    intro nA nB i M N h0 h1 h2 i0 i1 a hh
    obtain ⟨nA, rfl⟩ : ∃ m, nA = m + 1 := ⟨nA - 1, by omega⟩
    obtain ⟨nB, rfl⟩ : ∃ m, nB = m + 1 := ⟨nB - 1, by omega⟩
    rw [f_X11_comes_L17, f_X12_comes_L18]
    by_cases c : 60 < i
    · rw [if_pos c, if_pos c]
      exact ⟨-1, M, N, rfl, rfl, a.2.2.1, a.2.2.2⟩
    · have e1 : N 802 1 = N0 802 1 := a.2.2.2.2.2.2.2 1 (by decide)
      have g := a.1.2.1.2 p p0 (by omega)
      have g1 : M 769 p = N 802 (89 + 6 * p) := g.2.1.1
      have g2 : M 770 p = N 802 (90 + 6 * p) := g.2.2.1.1
      obtain ⟨v, M1, N1, a1, a2, a3, a4, -⟩ := l_ahPass (nA := nA) (nB := nB) h a (by omega) (by omega) (by omega)
      rw [if_neg c, if_neg c, p_ck (show 0 ≤ p ∧ p < 7 by omega), g1, g2, if_neg (show ¬ (-1 : Int) ≠ -1 by decide), p_get p0 (by omega) (by decide) (by decide), p_get p0 (by omega) (by decide) (by decide), Option.bind_some, Option.bind_some, show 88 + 6 * p + 1 = 89 + 6 * p by omega, show 88 + 6 * p + 2 = 90 + 6 * p by omega]
      unfold f_X12_comes_L18_J46
      rw [a2, Option.bind_some, p_wI (x := i + 1) (by omega) (by omega)]
      by_cases d : N 802 (89 + 6 * p) = N 802 (90 + 6 * p)
      · rw [if_neg (fun z => z d), if_neg (fun z => z d)]
        obtain ⟨nB, rfl⟩ : ∃ m, nB = m + 1 := ⟨nB - 1, by omega⟩
        have e : f_X12_comes_L18 (nB + 1) p i (i + 1) N1 = some (i, N1) := by
          rw [f_X12_comes_L18]
          by_cases c2 : 60 < i + 1
          · rw [if_pos c2]
          · rw [if_neg c2, if_pos (by omega)]
        exact ⟨i, M, N1, rfl, e, a.2.2.1, a3.2.2.2⟩
      · rw [if_pos d, if_pos d, a1, Option.bind_some]
        exact ih nA nB (i + 1) M1 N1 (by omega) (by omega) (by omega) (by omega) (by omega) a3 (by omega)
theorem s_comes {M N : Mem} {nA nB : Nat} {p : Int} (h : pRel M N) (hA : 1000 ≤ nA) (hB : 1000 ≤ nB) : pSim (f_X11_comes nA p M) (f_X12_comes nB p N) N := by
  have n1 : (1 : Int) ≠ 0 := by decide
  have n0 : ¬ (0 : Int) ≠ 0 := by decide
  have h8 := (pR_num h).2.2.1
  unfold f_X11_comes f_X12_comes
  rw [p_isShipM h, p_isShipN h]
  by_cases hp : 0 ≤ p ∧ p < N 802 1
  · obtain ⟨M1, N1, a1, a2, a3, a4⟩ := l_ahead (nB := nB) h (by omega)
    obtain ⟨v, M2, N2, b1, b2, b3, b4⟩ := l_comes h hp.1 hp.2 70 nA nB 0 M1 N1 (by omega) (by omega) (by omega) (by omega) (by omega) a3 (by rw [a4]; omega)
    obtain ⟨N3, c1, c2, -⟩ := l_ahBack (nB := nB) h b3 b4 (by omega)
    obtain ⟨nA, rfl⟩ : ∃ m, nA = m + 1 := ⟨nA - 1, by omega⟩
    unfold f_X11_lookAhead f_X12_comes_J56
    rw [if_pos hp, if_pos n1, if_pos n1, a1, Option.bind_some, f_X11_lookAhead_L13, if_pos (by decide), Option.bind_some, Option.bind_some, b1, a2, Option.bind_some, b2, Option.bind_some, c1, Option.bind_some]
    exact ⟨v, M2, N3, rfl, rfl, c2⟩
  · rw [if_neg hp, if_neg n0, if_neg n0]
    exact ⟨-1, M, N, rfl, rfl, h⟩
