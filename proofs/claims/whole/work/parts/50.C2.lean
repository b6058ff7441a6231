set_option linter.unusedVariables false
set_option linter.unusedSimpArgs false
/-- what keep does to the reference's array: the new act stands at c, those ahead of it came from d further on -/
def pKeptN (A A' : Int → Int) (c d : Int) : Prop := A' 4 = c + 1 ∧ (∀ j, j ≠ 4 → ¬ (186 ≤ j ∧ j < 2106) → A' j = A j) ∧ (∀ j r, 0 ≤ j → j < c → 0 ≤ r → r < 64 → A' (186 + 64 * j + r) = A (186 + 64 * (j + d) + r))
  ∧ (A' (186 + 64 * c) = A 0 ∧ A' (186 + 64 * c + 1) = A 1) ∧ (∀ k, 0 ≤ k → k < 5 → A' (186 + 64 * c + 2 + k) = A (8 + k))
  ∧ (∀ t q, 0 ≤ t → t < 9 → 0 ≤ q → q < 4 → A' (186 + 64 * c + 7 + 4 * t + q) = A (17 + 8 * t + q)) ∧ (∀ t q, 0 ≤ t → t < 7 → 0 ≤ q → q < 3 → A' (186 + 64 * c + 43 + 3 * t + q) = A (89 + 6 * t + q))
theorem l_keepN {N : Mem} {n : Nat} (hn : 2000 ≤ n) (h0 : 0 ≤ N 802 4) (h1 : N 802 4 ≤ 30) : ∃ N' c d, f_X12_keep n N = some N' ∧ (∀ y, y ≠ 802 → ∀ j, N' y j = N y j) ∧ pKeptN (N 802) (N' 802) c d
    ∧ ((N 802 4 < 30 ∧ c = N 802 4 ∧ d = 0) ∨ (N 802 4 = 30 ∧ c = 29 ∧ d = 1)) := by
  unfold f_X12_keep
  by_cases q : N 802 4 = 30
  · rw [if_neg (by omega)]
    obtain ⟨N1, a1, a2, a3, a4⟩ := l_keep13 1900 n 0 N (by omega) (by omega) (by omega) (by omega)
    rw [a1, Option.bind_some]
    simp only [p_lt]
    rw [a3 4 (by omega), q, p_wI (by omega) (by omega)]
    obtain ⟨N2, b1, b2, b3, b4, b5, b6, b7, b8⟩ := l_keepJ (N := upM N1 802 4 (30 - 1)) (n := n) (by omega) (by rw [up_eq]; omega) (by rw [up_eq]; omega)
    rw [up_eq] at b3 b4 b5 b6 b7 b8
    rw [b1]
    refine ⟨N2, 29, 1, rfl, fun y hy j => by rw [b2 y hy, up_nex hy, a2 y hy], ⟨by rw [b3]; rfl, fun j j4 hj => ?_, fun j r j0 j1 r0 r1 => ?_, ⟨?_, ?_⟩, fun k k0 k1 => ?_, fun t q t0 t1 q0 q1 => ?_, fun t q t0 t1 q0 q1 => ?_⟩, Or.inr ⟨rfl, rfl, rfl⟩⟩
    · rw [b4 j j4 (by omega), up_nei j4, a3 j (by omega)]
    · rw [b4 _ (by omega) (by omega), up_nei (by omega), a4 _ (by omega) (by omega)]
      congr 1
      omega
    · have := b5.1
      rw [up_nei (by omega), a3 0 (by omega)] at this
      exact this
    · have := b5.2
      rw [up_nei (by omega), a3 1 (by omega)] at this
      exact this
    · have := b6 k k0 k1
      rw [up_nei (by omega), a3 _ (by omega)] at this
      exact this
    · have := b7 t q t0 t1 q0 q1
      rw [up_nei (by omega), a3 _ (by omega)] at this
      exact this
    · have := b8 t q t0 t1 q0 q1
      rw [up_nei (by omega), a3 _ (by omega)] at this
      exact this
  · rw [if_pos q]
    obtain ⟨N2, b1, b2, b3, b4, b5, b6, b7, b8⟩ := l_keepJ (N := N) (n := n) (by omega) h0 (by omega)
    exact ⟨N2, N 802 4, 0, b1, b2, ⟨b3, fun j j4 hj => b4 j j4 (by omega), fun j r j0 j1 r0 r1 => by rw [b4 _ (by omega) (by omega)]; congr 1; omega, b5, b6, b7, b8⟩, Or.inl ⟨by omega, rfl, rfl⟩⟩
theorem pEq_trans {D E F : pDv} (h : pEq D E) (g : pEq E F) : pEq D F := by
  obtain ⟨h0, h1, h2, h3, h4, h5, h6, h7⟩ := h
  obtain ⟨g0, g1, g2, g3, g4, g5, g6, g7⟩ := g
  refine ⟨h0.trans g0, h1.trans g1, h2.trans g2, h3.trans g3, h4.trans g4, h5.trans g5, fun i i0 i1 => ?_, fun i i0 i1 => ?_⟩
  · have a := h6 i i0 (by omega)
    have b := g6 i i0 i1
    exact ⟨a.1.trans b.1, a.2.1.trans b.2.1, a.2.2.1.trans b.2.2.1, a.2.2.2.trans b.2.2.2⟩
  · have a := h7 i i0 (by omega)
    have b := g7 i i0 i1
    exact ⟨a.1.trans b.1, a.2.1.trans b.2.1, a.2.2.trans b.2.2⟩
theorem p_ix {A B : Int → Int} {a b c d : Int} (h : A a = B c) (e : a = b) (f : c = d) : A b = B d := by subst e; subst f; exact h
/-- the acts after keep -/
theorem pActs_keep {M M' : Mem} {w : Int} {A A' : Int → Int} {c d : Int} (hA : pOK 9999 (pvA A)) (hE : pEq (pvM M (w + 1)) (pvA A)) (hB : pBook M (w + 1) A (A 12)) (ha : pActs M w A) (hk : pKeptN A A' c d) (hcd : (A 4 < 30 ∧ c = A 4 ∧ d = 0) ∨ (A 4 = 30 ∧ c = 29 ∧ d = 1))
    (h1 : ∀ x, w + 14 ≤ x → x < w + 344 → ¬ (w + 14 + 11 * M (w + 12) 1 ≤ x ∧ x < w + 25 + 11 * M (w + 12) 1) → ∀ i, M' x i = M x i) (h2 : M' (w + 12) 1 = (M (w + 12) 1 + 1) % 30) (h3 : M' (w + 12) 2 = c + 1)
    (h4 : pEq (pvM M' (w + 14 + 11 * M (w + 12) 1)) (pvM M (w + 1))) (h5 : M' (w + 14 + 11 * M (w + 12) 1) 15 = M (w + 1) 15) (h6 : ∀ i, 0 ≤ i → i < M (w + 1) 15 → M' (w + 14 + 11 * M (w + 12) 1 + 10) i = M (w + 1 + 10) i) : pActs M' w A' := by
  obtain ⟨a1, a2, a3, a4, a5, a6⟩ := ha
  obtain ⟨k1, k2, k3, k4, k5, k6, k7⟩ := hk
  have hc : 0 ≤ c ∧ c ≤ 29 ∧ c + d ≤ A 4 := by omega
  have hcd2 : c + d = A 4 ∧ 0 ≤ d ∧ d ≤ 1 := by omega
  have ix : ∀ {a b c d : Int}, A' a = A c → a = b → c = d → A' b = A d := fun h e f => p_ix h e f
  have hn := hA.1
  have hs := hA.2.1
  have sN : pSame (pvR A' (186 + 64 * c)) (pvA A) := by
    have hn2 : A 0 ≤ 9 := hn.2
    have hs2 : A 1 ≤ 7 := hs.2
    refine ⟨⟨k4.1, k4.2, ?_, ?_, ?_, ?_, ?_⟩, fun i i0 i1 => ?_, fun i i0 i1 => ?_⟩
    · exact ix (k5 0 (by omega) (by omega)) (by omega) (by omega)
    · exact ix (k5 1 (by omega) (by omega)) (by omega) (by omega)
    · exact ix (k5 2 (by omega) (by omega)) (by omega) (by omega)
    · exact ix (k5 3 (by omega) (by omega)) (by omega) (by omega)
    · exact ix (k5 4 (by omega) (by omega)) (by omega) (by omega)
    · change i < A 0 at i1
      exact ⟨ix (k6 i 0 i0 (by omega) (by omega) (by omega)) (by omega) (by omega), ix (k6 i 1 i0 (by omega) (by omega) (by omega)) (by omega) (by omega), ix (k6 i 2 i0 (by omega) (by omega) (by omega)) (by omega) (by omega), ix (k6 i 3 i0 (by omega) (by omega) (by omega)) (by omega) (by omega), k2 _ (by omega) (by omega)⟩
    · change i < A 1 at i1
      exact ⟨ix (k7 i 0 i0 (by omega) (by omega) (by omega)) (by omega) (by omega), ix (k7 i 1 i0 (by omega) (by omega) (by omega)) (by omega) (by omega), ix (k7 i 2 i0 (by omega) (by omega) (by omega)) (by omega) (by omega), k2 _ (by omega) (by omega)⟩
  have sR : ∀ j, 0 ≤ j → j < c → pSame (pvR A' (186 + 64 * j)) (pvR A (186 + 64 * (j + d))) := by
    intro j j0 j1
    have q := (a4 (j + d) (by omega) (by omega)).1
    have q1 : A (186 + 64 * (j + d)) ≤ 9 := q.1.2
    have q2 : A (186 + 64 * (j + d) + 1) ≤ 7 := q.2.1.2
    refine ⟨⟨?_, ?_, ?_, ?_, ?_, ?_, ?_⟩, fun i i0 i1 => ?_, fun i i0 i1 => ?_⟩
    · exact ix (k3 j 0 j0 j1 (by omega) (by omega)) (by omega) (by omega)
    · exact k3 j 1 j0 j1 (by omega) (by omega)
    · exact k3 j 2 j0 j1 (by omega) (by omega)
    · exact k3 j 3 j0 j1 (by omega) (by omega)
    · exact k3 j 4 j0 j1 (by omega) (by omega)
    · exact k3 j 5 j0 j1 (by omega) (by omega)
    · exact k3 j 6 j0 j1 (by omega) (by omega)
    · change i < A (186 + 64 * (j + d)) at i1
      exact ⟨ix (k3 j (7 + 4 * i) j0 j1 (by omega) (by omega)) (by omega) (by omega), ix (k3 j (8 + 4 * i) j0 j1 (by omega) (by omega)) (by omega) (by omega), ix (k3 j (9 + 4 * i) j0 j1 (by omega) (by omega)) (by omega) (by omega), ix (k3 j (10 + 4 * i) j0 j1 (by omega) (by omega)) (by omega) (by omega), k2 _ (by omega) (by omega)⟩
    · change i < A (186 + 64 * (j + d) + 1) at i1
      exact ⟨ix (k3 j (43 + 3 * i) j0 j1 (by omega) (by omega)) (by omega) (by omega), ix (k3 j (44 + 3 * i) j0 j1 (by omega) (by omega)) (by omega) (by omega), ix (k3 j (45 + 3 * i) j0 j1 (by omega) (by omega)) (by omega) (by omega), k2 _ (by omega) (by omega)⟩
  have sA : pSame (pvA A') (pvA A) := pSame_A hn hs (fun i hi => k2 i (by omega) (by omega))
  have kA : ∀ i, 16 ≤ i → i < 130 → A' i = A i := fun i i0 i1 => k2 i (by omega) (by omega)
  refine ⟨by rw [h2]; omega, by rw [h3, k1], by omega, fun j j0 j1 => ?_, fun j j0 j1 => ?_, fun _ => ?_⟩
  · rw [k1] at j1
    by_cases jc : j = c
    · subst jc
      have ec : pActAt M' w A' j = w + 14 + 11 * M (w + 12) 1 := by unfold pActAt; rw [h2, k1]; omega
      unfold pAct
      rw [ec]
      refine ⟨pOK_same sN hA, pEq_same sN (pEq_trans h4 hE), ?_⟩
      have e6 : A' (186 + 64 * j + 6) = A 12 := ix (k5 4 (by omega) (by omega)) (by omega) (by omega)
      rw [e6]
      obtain ⟨b1, b2, b3⟩ := hB
      refine ⟨by rw [h5]; exact b1, b2, fun i i0 i1 => ?_⟩
      rw [h6 i i0 (by rw [b1]; exact i1), k2 _ (by omega) (by omega)]
      exact b3 i i0 i1
    · obtain ⟨b1, b2, b3⟩ := a4 (j + d) (by omega) (by omega)
      have ec : pActAt M' w A' j = pActAt M w A (j + d) := by unfold pActAt; rw [h2, k1]; omega
      have ne : ∀ x, pActAt M w A (j + d) ≤ x → x < pActAt M w A (j + d) + 11 → ∀ i, M' x i = M x i := by
        intro x x0 x1
        unfold pActAt at x0 x1
        exact h1 x (by omega) (by omega) (by omega)
      unfold pAct
      rw [ec, pvM_same ne]
      have e6 : A' (186 + 64 * j + 6) = A (186 + 64 * (j + d) + 6) := k3 j 6 j0 (by omega) (by omega) (by omega)
      rw [e6]
      exact ⟨pOK_same (sR j j0 (by omega)) b1, pEq_same (sR j j0 (by omega)) b2, pBook_same ne (fun i hi => k2 i (by omega) (by omega)) b3⟩
  · rw [k1] at j1
    have q1 := (a4 (j + d) (by omega) (by omega)).1
    by_cases jc : j + 1 = c
    · have g := a6 (by omega)
      rw [show A 4 - 1 = j + d by omega] at g
      rw [jc]
      exact pNext_same (sR j j0 (by omega)) sN ⟨hn.2, hs.2⟩ ⟨q1.1.1, q1.2.1.1⟩ kA g
    · have g := a5 (j + d) (by omega) (by omega)
      have q2 := (a4 (j + 1 + d) (by omega) (by omega)).1
      rw [show j + d + 1 = j + 1 + d by omega] at g
      exact pNext_same (sR j j0 (by omega)) (sR (j + 1) (by omega) (by omega)) ⟨q2.1.2, q2.2.1.2⟩ ⟨q1.1.1, q1.2.1.1⟩ kA g
  · rw [k1, show c + 1 - 1 = c by omega]
    obtain ⟨n0, n1, n2, n3, n4, n5, n6⟩ := sN.1
    obtain ⟨m0, m1, m2, m3, m4, m5, m6⟩ := sA.1
    exact ⟨by omega, by omega, by omega, by omega, fun i i0 i1 => by omega, fun i i0 i1 => by omega⟩
