set_option linter.unusedVariables false
set_option linter.unusedSimpArgs false
/-- what no act changes -/
def pStat (A A' : Int → Int) : Prop := (∀ i, (0 ≤ i ∧ i ≤ 7) ∨ (130 ≤ i ∧ i < 2106) → A' i = A i)
  ∧ (∀ s, 0 ≤ s → s < 9 → A' (16 + 8 * s) = A (16 + 8 * s) ∧ A' (21 + 8 * s) = A (21 + 8 * s) ∧ A' (22 + 8 * s) = A (22 + 8 * s) ∧ A' (23 + 8 * s) = A (23 + 8 * s))
  ∧ (∀ s, 0 ≤ s → s < 7 → A' (88 + 6 * s) = A (88 + 6 * s) ∧ A' (92 + 6 * s) = A (92 + 6 * s) ∧ A' (93 + 6 * s) = A (93 + 6 * s))
theorem pSame_R2 {A A' : Int → Int} {x : Int} (hx : 186 ≤ x) (hx2 : x + 64 ≤ 2106) (hn : 0 ≤ A x ∧ A x ≤ 9) (hs : 0 ≤ A (x + 1) ∧ A (x + 1) ≤ 7) (h : pStat A A') : pSame (pvR A' x) (pvR A x) := by
  obtain ⟨h1, h2, h3⟩ := h
  refine ⟨⟨h1 _ (by omega), h1 _ (by omega), h1 _ (by omega), h1 _ (by omega), h1 _ (by omega), h1 _ (by omega), h1 _ (by omega)⟩, fun i i0 i1 => ?_, fun i i0 i1 => ?_⟩
  · change i < A x at i1
    exact ⟨h1 _ (by omega), h1 _ (by omega), h1 _ (by omega), h1 _ (by omega), (h2 i i0 (by omega)).1⟩
  · change i < A (x + 1) at i1
    exact ⟨h1 _ (by omega), h1 _ (by omega), h1 _ (by omega), (h3 i i0 (by omega)).1⟩
theorem pNext_same2 {A A' : Int → Int} {D D' E E' : pDv} (d : pSame D' D) (e : pSame E' E) (hE : E 0 0 ≤ 9 ∧ E 1 0 ≤ 7) (hD : 0 ≤ D 0 0 ∧ 0 ≤ D 1 0) (h : pStat A A') (hb : pNext A D E) : pNext A' D' E' := by
  obtain ⟨⟨d0, d1, d2, d3, d4, d5, d6⟩, df, dg⟩ := d
  obtain ⟨⟨e0, e1, e2, e3, e4, e5, e6⟩, ef, eg⟩ := e
  obtain ⟨b1, b2, b3, b4, b5, b6⟩ := hb
  obtain ⟨h1, h2, h3⟩ := h
  refine ⟨by omega, by omega, by omega, by omega, fun i i0 i1 => ?_, fun i i0 i1 => ?_⟩
  · obtain ⟨p, q, r, s, t⟩ := ef i (by omega) (by omega)
    obtain ⟨u1, u2, u3, u4⟩ := h2 i (by omega) (by omega)
    rw [p, q, r, s, u2, u3, u4]
    exact b5 i (by omega) (by omega)
  · obtain ⟨p, q, r, s⟩ := eg i (by omega) (by omega)
    obtain ⟨u1, u2, u3⟩ := h3 i (by omega) (by omega)
    rw [p, q, r, u2, u3]
    exact b6 i (by omega) (by omega)
/-- the live sea changes; the acts, what was told and the rest stand -/
theorem pRel_live {M M' N N' : Mem} (h : pRel M N) (hM : ∀ x, ¬ (3 ≤ x ∧ x < 14) → ¬ (713 ≤ x ∧ x < 773) → ∀ i, M' x i = M x i)
    (h2 : (0 ≤ M' 762 0 ∧ M' 762 0 ≤ 9) ∧ (0 ≤ M' 762 6 ∧ M' 762 6 ≤ 7) ∧ (0 ≤ M' 762 15 ∧ M' 762 15 ≤ 40))
    (hN : ∀ x, 803 ≤ x → x < 806 → ∀ i, N' x i = N x i) (h3 : N' 801 4 = N 801 4 ∧ N' 801 5 = N 801 5 ∧ N' 801 6 = N 801 6 ∧ N' 801 28 = N 801 28)
    (hA : pStat (N 802) (N' 802)) (o : pOK 9999 (pvA (N' 802))) (e : pEq (pvM M' 3) (pvA (N' 802))) (es : pEqS (pvM M' 3) (pvA (N' 802))) (b : pBook M' 3 (N' 802) (N' 802 12))
    (bk : ∀ j, 0 ≤ j → j < N 802 4 → pBook M (pActAt M 2 (N 802) j) (N 802) (N 802 (186 + 64 * j + 6)) → pBook M (pActAt M 2 (N 802) j) (N' 802) (N 802 (186 + 64 * j + 6)))
    (nx : 0 < N 802 4 → pNext (N' 802) (pvR (N' 802) (186 + 64 * (N 802 4 - 1))) (pvA (N' 802))) : pRel M' N' := by
  have hs1 := hA.1
  have k4 : N' 802 4 = N 802 4 := hs1 4 (by omega)
  obtain ⟨a1, a2, a3, a4, a5, a6, a7, a8, a9, a10⟩ := h.1
  obtain ⟨c1, c2, c3, c4, c5, c6⟩ := a5
  have e14 : ∀ i, M' (2 + 12) i = M (2 + 12) i := hM 14 (by omega) (by omega)
  refine pRel_now h (hM 0 (by omega) (by omega) 0) (fun x x0 x1 x2 _ => hM x (by omega) x2) h2 (fun s hs s1 => ?_) ⟨o, e, es, b, ?_, ?_, ?_, ?_, ?_, ?_⟩ (hM 2 (by omega) (by omega) 3) (hM 2 (by omega) (by omega) 4) hN h3
  · by_cases q : s = 3
    · subst q
      have r0 : M' 3 0 = N' 802 0 := e.1
      have r1 : M' 3 6 = N' 802 1 := e.2.1
      have r2 : M' 3 15 = min (N' 802 12) 40 := b.1
      have r3 := b.2.1
      have r4 := o.1
      have r5 := o.2.1
      change 0 ≤ N' 802 0 ∧ N' 802 0 ≤ 9 at r4
      change 0 ≤ N' 802 1 ∧ N' 802 1 ≤ 7 at r5
      rw [r0, r1, r2]
      omega
    · have : ¬ (3 ≤ s ∧ s < 14) ∧ ¬ (713 ≤ s ∧ s < 773) := by rcases hs with r | r | r | ⟨j, r⟩ | ⟨j, r⟩ <;> omega
      rw [hM s this.1 this.2, hM s this.1 this.2, hM s this.1 this.2]
      exact h.2.2.1 s hs
  · have sR : ∀ j, 0 ≤ j → j < N 802 4 → pSame (pvR (N' 802) (186 + 64 * j)) (pvR (N 802) (186 + 64 * j)) := fun j j0 j1 => pSame_R2 (by omega) (by omega) (c4 j j0 j1).1.1 (c4 j j0 j1).1.2.1 hA
    refine ⟨by rw [e14]; exact c1, by rw [e14, k4]; exact c2, by rw [k4]; exact c3, fun j j0 j1 => ?_, fun j j0 j1 => ?_, fun j0 => ?_⟩
    · rw [k4] at j1
      obtain ⟨b1, b2, b3⟩ := c4 j j0 j1
      have ec : pActAt M' 2 (N' 802) j = pActAt M 2 (N 802) j := by unfold pActAt; rw [e14, k4]
      have ne : ∀ x, pActAt M 2 (N 802) j ≤ x → x < pActAt M 2 (N 802) j + 11 → ∀ i, M' x i = M x i := by
        intro x x0 x1
        unfold pActAt at x0 x1
        exact hM x (by omega) (by omega)
      have e6 : N' 802 (186 + 64 * j + 6) = N 802 (186 + 64 * j + 6) := hs1 _ (by omega)
      unfold pAct
      rw [ec, pvM_same ne, e6]
      exact ⟨pOK_same (sR j j0 j1) b1, pEq_same (sR j j0 j1) b2, pBook_same ne (fun _ _ => rfl) (bk j j0 j1 b3)⟩
    · rw [k4] at j1
      have q1 := (c4 j j0 (by omega)).1
      have q2 := (c4 (j + 1) (by omega) (by omega)).1
      exact pNext_same2 (sR j j0 (by omega)) (sR (j + 1) (by omega) (by omega)) ⟨q2.1.2, q2.2.1.2⟩ ⟨q1.1.1, q1.2.1.1⟩ hA (c5 j j0 j1)
    · rw [k4] at j0
      rw [k4]
      exact nx j0
  · exact pTold_same (fun x h0 h1 h2 => hM x (by omega) (by omega)) (fun i hi => hs1 i (by omega)) a6
  · rw [hM 2 (by omega) (by omega), hs1 2 (by omega)]; exact a7
  · rw [hs1 2 (by omega)]; exact a8
  · rw [hM 2 (by omega) (by omega), hs1 3 (by omega)]; exact a9
  · rw [hs1 3 (by omega), hs1 2 (by omega)]; exact a10
