set_option linter.unusedVariables false
set_option linter.unusedSimpArgs false
/-- from an act to now -/
theorem pChain {M : Mem} {w : Int} {A : Int → Int} (ha : pActs M w A) : ∀ (k : Nat) (j : Int), 0 ≤ j → j < A 4 → A 4 - j ≤ k → A (186 + 64 * j) ≤ A 0 ∧ A (186 + 64 * j + 1) ≤ A 1 ∧ A (186 + 64 * j + 6) ≤ A 12 ∧ A 12 ≤ A (186 + 64 * j + 6) + 280 * (A 4 - j) := by
  obtain ⟨a1, a2, a3, a4, a5, a6⟩ := ha
  intro k
  induction k with
  | zero => intro j h0 h1 h2; omega
  | succ k ih =>
    intro j h0 h1 h2
    by_cases q : j + 1 = A 4
    · obtain ⟨b1, b2, b3, b4, -⟩ := a6 (by omega)
      rw [show A 4 - 1 = j by omega] at b1 b2 b3 b4
      change A (186 + 64 * j) ≤ A 0 at b1
      change A (186 + 64 * j + 1) ≤ A 1 at b2
      change A (186 + 64 * j + 6) ≤ A 12 at b3
      change A 12 ≤ A (186 + 64 * j + 6) + 280 at b4
      omega
    · obtain ⟨c1, c2, c3, c4⟩ := ih (j + 1) (by omega) (by omega) (by omega)
      obtain ⟨b1, b2, b3, b4, -⟩ := a5 j h0 (by omega)
      change A (186 + 64 * j) ≤ A (186 + 64 * (j + 1)) at b1
      change A (186 + 64 * j + 1) ≤ A (186 + 64 * (j + 1) + 1) at b2
      change A (186 + 64 * j + 6) ≤ A (186 + 64 * (j + 1) + 6) at b3
      change A (186 + 64 * (j + 1) + 6) ≤ A (186 + 64 * j + 6) + 280 at b4
      omega
/-- a step or a ship more: the acts stand -/
theorem pActs_told {M M' : Mem} {w : Int} {A A' : Int → Int} (ha : pActs M w A) (hA : pOK 9999 (pvA A)) (hM : ∀ x, w + 12 ≤ x → x < w + 344 → ∀ i, M' x i = M x i)
    (h0 : A 0 ≤ A' 0 ∧ A' 0 ≤ 9) (h1 : A 1 ≤ A' 1 ∧ A' 1 ≤ 7) (h2 : ∀ i, (2 ≤ i ∧ i ≤ 15) ∨ 130 ≤ i → A' i = A i)
    (h3 : ∀ i, 16 ≤ i → i < 16 + 8 * A 0 → A' i = A i) (h4 : ∀ i, 88 ≤ i → i < 88 + 6 * A 1 → A' i = A i)
    (h5 : ∀ i, A 0 ≤ i → i < A' 0 → A' (17 + 8 * i) = A' (21 + 8 * i) ∧ A' (18 + 8 * i) = A' (22 + 8 * i) ∧ A' (19 + 8 * i) = A' (23 + 8 * i) ∧ A' (20 + 8 * i) = 0)
    (h6 : ∀ i, A 1 ≤ i → i < A' 1 → A' (89 + 6 * i) = A' (92 + 6 * i) ∧ A' (90 + 6 * i) = A' (93 + 6 * i) ∧ A' (91 + 6 * i) = 0) : pActs M' w A' := by
  have ch := pChain ha 30
  obtain ⟨a1, a2, a3, a4, a5, a6⟩ := ha
  have hn : 0 ≤ A 0 ∧ A 0 ≤ 9 := hA.1
  have hs : 0 ≤ A 1 ∧ A 1 ≤ 7 := hA.2.1
  have k4 : A' 4 = A 4 := h2 4 (by omega)
  have e14 : ∀ i, M' (w + 12) i = M (w + 12) i := hM _ (by omega) (by omega)
  have sR : ∀ j, 0 ≤ j → j < A 4 → pSame (pvR A' (186 + 64 * j)) (pvR A (186 + 64 * j)) := by
    intro j j0 j1
    have q := ch j j0 j1 (by omega)
    have g := (a4 j j0 j1).1
    have g0 : 0 ≤ A (186 + 64 * j) ∧ A (186 + 64 * j) ≤ 9 := g.1
    have g1 : 0 ≤ A (186 + 64 * j + 1) ∧ A (186 + 64 * j + 1) ≤ 7 := g.2.1
    refine ⟨⟨h2 _ (by omega), h2 _ (by omega), h2 _ (by omega), h2 _ (by omega), h2 _ (by omega), h2 _ (by omega), h2 _ (by omega)⟩, fun i i0 i1 => ?_, fun i i0 i1 => ?_⟩
    · change i < A (186 + 64 * j) at i1
      exact ⟨h2 _ (by omega), h2 _ (by omega), h2 _ (by omega), h2 _ (by omega), h3 _ (by omega) (by omega)⟩
    · change i < A (186 + 64 * j + 1) at i1
      exact ⟨h2 _ (by omega), h2 _ (by omega), h2 _ (by omega), h4 _ (by omega) (by omega)⟩
  refine ⟨by rw [e14]; exact a1, by rw [e14, k4]; exact a2, by rw [k4]; exact a3, fun j j0 j1 => ?_, fun j j0 j1 => ?_, fun j0 => ?_⟩
  · rw [k4] at j1
    obtain ⟨b1, b2, b3⟩ := a4 j j0 j1
    have ec : pActAt M' w A' j = pActAt M w A j := by unfold pActAt; rw [e14, k4]
    have ne : ∀ x, pActAt M w A j ≤ x → x < pActAt M w A j + 11 → ∀ i, M' x i = M x i := by
      intro x x0 x1
      unfold pActAt at x0 x1
      exact hM x (by omega) (by omega)
    unfold pAct
    rw [ec, pvM_same ne, h2 (186 + 64 * j + 6) (by omega)]
    exact ⟨pOK_same (sR j j0 j1) b1, pEq_same (sR j j0 j1) b2, pBook_same ne (fun i hi => h2 i (by omega)) b3⟩
  · rw [k4] at j1
    have q := ch (j + 1) (by omega) j1 (by omega)
    obtain ⟨b1, b2, b3, b4, b5, b6⟩ := a5 j j0 j1
    obtain ⟨⟨d0, d1, d2, d3, d4, d5, d6⟩, df, dg⟩ := sR j j0 (by omega)
    obtain ⟨⟨e0, e1, e2, e3, e4, e5, e6⟩, ef, eg⟩ := sR (j + 1) (by omega) j1
    have g := (a4 j j0 (by omega)).1
    have g0 : 0 ≤ pvR A (186 + 64 * j) 0 0 := g.1.1
    have g1 : 0 ≤ pvR A (186 + 64 * j) 1 0 := g.2.1.1
    have q0 : pvR A (186 + 64 * (j + 1)) 0 0 ≤ A 0 := q.1
    have q1 : pvR A (186 + 64 * (j + 1)) 1 0 ≤ A 1 := q.2.1
    refine ⟨by omega, by omega, by omega, by omega, fun i i0 i1 => ?_, fun i i0 i1 => ?_⟩
    · obtain ⟨p, q, r, s, t⟩ := ef i (by omega) (by omega)
      rw [p, q, r, s, h3 (21 + 8 * i) (by omega) (by omega), h3 (22 + 8 * i) (by omega) (by omega), h3 (23 + 8 * i) (by omega) (by omega)]
      exact b5 i (by omega) (by omega)
    · obtain ⟨p, q, r, s⟩ := eg i (by omega) (by omega)
      rw [p, q, r, h4 (92 + 6 * i) (by omega) (by omega), h4 (93 + 6 * i) (by omega) (by omega)]
      exact b6 i (by omega) (by omega)
  · rw [k4] at j0
    rw [k4]
    have q := ch (A 4 - 1) (by omega) (by omega) (by omega)
    obtain ⟨b1, b2, b3, b4, b5, b6⟩ := a6 j0
    obtain ⟨⟨d0, d1, d2, d3, d4, d5, d6⟩, df, dg⟩ := sR (A 4 - 1) (by omega) (by omega)
    have g := (a4 (A 4 - 1) (by omega) (by omega)).1
    have g0 : 0 ≤ pvR A (186 + 64 * (A 4 - 1)) 0 0 := g.1.1
    have g1 : 0 ≤ pvR A (186 + 64 * (A 4 - 1)) 1 0 := g.2.1.1
    have q0 : pvR A (186 + 64 * (A 4 - 1)) 0 0 ≤ A 0 := q.1
    have q1 : pvR A (186 + 64 * (A 4 - 1)) 1 0 ≤ A 1 := q.2.1
    change _ ≤ A 12 at b3
    change A 12 ≤ _ at b4
    have k12 : A' 12 = A 12 := h2 12 (by omega)
    refine ⟨?_, ?_, ?_, ?_, fun i i0 i1 => ?_, fun i i0 i1 => ?_⟩
    · show _ ≤ A' 0; omega
    · show _ ≤ A' 1; omega
    · show _ ≤ A' 12; omega
    · show A' 12 ≤ _; omega
    · change i < A' 0 at i1
      by_cases c : i < A 0
      · show A' _ = _ ∧ A' _ = _ ∧ A' _ = _ ∧ A' _ = _
        rw [h3 (17 + 8 * i) (by omega) (by omega), h3 (18 + 8 * i) (by omega) (by omega), h3 (19 + 8 * i) (by omega) (by omega), h3 (20 + 8 * i) (by omega) (by omega), h3 (21 + 8 * i) (by omega) (by omega), h3 (22 + 8 * i) (by omega) (by omega), h3 (23 + 8 * i) (by omega) (by omega)]
        exact b5 i (by omega) c
      · exact h5 i (by omega) i1
    · change i < A' 1 at i1
      by_cases c : i < A 1
      · show A' _ = _ ∧ A' _ = _ ∧ A' _ = _
        rw [h4 (89 + 6 * i) (by omega) (by omega), h4 (90 + 6 * i) (by omega) (by omega), h4 (91 + 6 * i) (by omega) (by omega), h4 (92 + 6 * i) (by omega) (by omega), h4 (93 + 6 * i) (by omega) (by omega)]
        exact b6 i (by omega) c
      · exact h6 i (by omega) i1
