set_option linter.unusedVariables false
set_option linter.unusedSimpArgs false
/-! how much to raise -/
theorem l_raiseN {M1 N : Mem} {p : Int} (hL : pLaw M1 N) (hS : pSt M1 N 762) (p0 : 0 ≤ p) (p1 : p < N 802 0) (h11 : M1 762 11 = N 802 8) (h8 : 0 ≤ N 802 8 ∧ N 802 8 ≤ 9999) : ∀ (k nA nB : Nat) (x : Int) (M N2 : Mem), 100 - x < k → k + 500 ≤ nA → k + 500 ≤ nB → 0 ≤ x → x ≤ 100 → (∀ y, y ≠ 713 → y ≠ 764 → ∀ j, M y j = M1 y j) → (∀ j, j ≠ p → M 764 j = M1 764 j) → (∀ y, y ≠ 801 → y ≠ 802 → y ≠ 807 → y ≠ 808 → ∀ j, N2 y j = N y j) → (∀ j, ¬ (21 ≤ j ∧ j ≤ 24) → N2 801 j = N 801 j) → (∀ j, j ≠ 17 + 8 * p → N2 802 j = N 802 j) →
    ∃ v M' N', f_X11_toRaise_L25 nA p x M = some (v, M') ∧ (∀ had, f_X12_toRaise_L22 nB p had (-1) x N2 = some (v, N')) ∧ (∀ y, y ≠ 713 → y ≠ 764 → ∀ j, M' y j = M1 y j) ∧ (∀ y, y ≠ 801 → y ≠ 802 → y ≠ 807 → y ≠ 808 → ∀ j, N' y j = N y j) ∧ (∀ j, ¬ (21 ≤ j ∧ j ≤ 24) → N' 801 j = N 801 j) ∧ (∀ j, j ≠ 17 + 8 * p → N' 802 j = N 802 j) := by
  have n9 := hS.1
  intro k
  induction k with
  | zero => intro nA nB x M N2 h0; omega
  | succ k ih =>
    intro nA nB x M N2 h0 h1 h2 x0 x1 m1 m2 q1 q2 q3
    obtain ⟨nA, rfl⟩ : ∃ m, nA = m + 1 := ⟨nA - 1, by omega⟩
    obtain ⟨nB, rfl⟩ : ∃ m, nB = m + 1 := ⟨nB - 1, by omega⟩
    rw [f_X11_toRaise_L25]
    by_cases c : 99 < x
    · rw [if_pos c]
      exact ⟨-1, M, N2, rfl, fun had => by rw [f_X12_toRaise_L22, if_pos c], m1, q1, q2, q3⟩
    · have eM : ∀ y, y ≠ 713 → y ≠ 764 → ∀ j, upM M 764 p x y j = M1 y j := fun y y0 y1 j => by rw [up_nex y1]; exact m1 y y0 y1 j
      have eN : ∀ j, j ≠ 17 + 8 * p → upM N2 802 (17 + 8 * p) x 802 j = N 802 j := fun j hj => by rw [up_nei hj]; exact q3 j hj
      have S6 : pSt (upM M 764 p x) (upM N2 802 (17 + 8 * p) x) 762 := by
        refine ⟨?_, fun i i0 i1 => ?_⟩
        · rw [eM 762 (by decide) (by decide), eN 0 (by omega)]; exact hS.1
        · rw [eN 0 (by omega)] at i1
          have g := hS.2 i i0 i1
          rw [eM (762 + 1) (by decide) (by decide), eM (762 + 3) (by decide) (by decide), eM (762 + 4) (by decide) (by decide), eM (762 + 5) (by decide) (by decide), eN (16 + 8 * i) (by omega), eN (18 + 8 * i) (by omega), eN (19 + 8 * i) (by omega), eN (20 + 8 * i) (by omega)]
          refine ⟨g.1, ?_, g.2.2⟩
          rw [show (762 : Int) + 2 = 764 by decide, up_if, up_at]
          by_cases e : i = p
          · rw [if_pos e, if_pos (by omega)]
            exact ⟨rfl, by omega, by omega⟩
          · rw [if_neg e, if_neg (by omega), m2 i e, q3 _ (by omega)]
            exact g.2.1
      have L6 : pLaw (upM M 764 p x) (upM N2 802 (17 + 8 * p) x) := pLaw_same hL (eM 0 (by decide) (by decide) 0) (fun y hy => eM y (by omega) (by omega)) (eN 3 (by omega)) (fun j => by rw [up_nex (by decide)]; exact q1 804 (by decide) (by decide) (by decide) (by decide) j)
      obtain ⟨v, M7, N7, a1, a2, a3, a4, a5⟩ := s_flows (s := 762) (st := p) (hh := N 802 8) (n1 := nA) (n2 := nB) L6 S6 (by rw [eN 0 (by omega)]; exact ⟨p0, p1⟩) (by rw [eM 762 (by decide) (by decide)]; exact h11) (by omega) (eN 8 (by omega)) (by omega) (by omega) (by omega)
      have w1 : ∀ y, y ≠ 713 → y ≠ 764 → ∀ j, M7 y j = M1 y j := fun y y0 y1 j => by rw [a5.1 y y0, eM y y0 y1]
      have w2 : ∀ y, y ≠ 801 → y ≠ 802 → y ≠ 807 → y ≠ 808 → ∀ j, N7 y j = N y j := fun y y0 y1 y2 y3 j => by rw [a5.2.1 y y0 y2 y3, up_nex y1]; exact q1 y y0 y1 y2 y3 j
      have w3 : ∀ j, ¬ (21 ≤ j ∧ j ≤ 24) → N7 801 j = N 801 j := fun j hj => by rw [a5.2.2 j hj, up_nex (by decide)]; exact q2 j hj
      have w4 : ∀ j, j ≠ 17 + 8 * p → N7 802 j = N 802 j := fun j hj => by rw [a5.2.1 802 (by decide) (by decide) (by decide), eN j hj]
      have w5 : ∀ j, j ≠ p → M7 764 j = M1 764 j := fun j hj => by rw [a5.1 764 (by decide), up_nei hj]; exact m2 j hj
      rw [if_neg c, p_ck (by omega)]
      simp only [p_lt]
      rw [a1, Option.bind_some]
      dsimp only
      by_cases d : v = 0
      · rw [if_neg (fun z => z d)]
        refine ⟨x, M7, N7, rfl, fun had => ?_, w1, w2, w3, w4⟩
        obtain ⟨nB, rfl⟩ : ∃ m, nB = m + 1 := ⟨nB - 1, by omega⟩
        rw [f_X12_toRaise_L22, if_neg c, if_neg (show ¬ (-1 : Int) ≠ -1 by decide), p_put p0 (by omega) (by decide) (by decide), Option.bind_some, show 16 + 8 * p + 1 = 17 + 8 * p by omega, a2, Option.bind_some]
        dsimp only
        rw [if_neg (fun z => z d), p_wI (x := x + 1) (by omega) (by omega), f_X12_toRaise_L22]
        by_cases c2 : 99 < x + 1
        · rw [if_pos c2]
        · rw [if_neg c2, if_pos (by omega)]
      · rw [if_pos d, p_wI (x := x + 1) (by omega) (by omega)]
        obtain ⟨v', M', N', b1, b2, b3⟩ := ih nA nB (x + 1) M7 N7 (by omega) (by omega) (by omega) (by omega) (by omega) w1 w5 w2 w3 w4
        refine ⟨v', M', N', b1, fun had => ?_, b3⟩
        rw [f_X12_toRaise_L22, if_neg c, if_neg (show ¬ (-1 : Int) ≠ -1 by decide), p_put p0 (by omega) (by decide) (by decide), Option.bind_some, show 16 + 8 * p + 1 = 17 + 8 * p by omega, a2, Option.bind_some]
        dsimp only
        rw [if_pos d, p_wI (x := x + 1) (by omega) (by omega)]
        exact b2 had
theorem s_toRaise {M N : Mem} {nA nB : Nat} {p : Int} (h : pRel M N) (hA : 1000 ≤ nA) (hB : 1000 ≤ nB) : pSim (f_X11_toRaise nA p M) (f_X12_toRaise nB p N) N := by
  have n1 : (1 : Int) ≠ 0 := by decide
  have n0 : ¬ (0 : Int) ≠ 0 := by decide
  have h1 := (pR_num h).1
  have h8 := (pR_num h).2.2.1
  unfold f_X11_toRaise f_X12_toRaise
  rw [p_isStepM h, p_isStepN h]
  by_cases hp : 0 ≤ p ∧ p < N 802 0
  · obtain ⟨M1, N1, a1, a2, a3, a4⟩ := l_ahead (nB := nB) h (by omega)
    have hs := pR_step h p hp.1 hp.2
    obtain ⟨nA', hA'⟩ : ∃ m, nA = m + 1 := ⟨nA - 1, by omega⟩
    have e0 : f_X11_lookAhead nA 0 M = some M1 := by
      unfold f_X11_lookAhead
      rw [a1, Option.bind_some, hA', f_X11_lookAhead_L13, if_pos (by decide)]
      rfl
    have hS : pSt M1 N 762 := pSt_same a3.1.1 (fun _ _ _ _ => rfl) (fun j => (a4 j).symm)
    have hL : pLaw M1 N := pLaw_same (pLaw_of h) (a3.2.2.1.1 0 (by decide) (by decide) 0) (fun x hx => a3.2.2.1.1 x (by omega) (by omega)) rfl (fun _ => rfl)
    have h11 : M1 762 11 = N 802 8 := by rw [a3.1.2.2.1.1, a4]
    have e5 : M1 5 p = N 802 (17 + 8 * p) := by rw [a3.2.2.1.1 5 (by decide) (by decide)]; exact hs.2.1.1
    obtain ⟨v, M', N', b1, b2, b3, b4, b5, b6⟩ := l_raiseN hL hS hp.1 hp.2 h11 h8.2 110 nA nB (N 802 (17 + 8 * p)) M1 N (by omega) (by omega) (by omega) (by omega) (by omega) (fun _ _ _ _ => rfl) (fun _ _ => rfl) (fun _ _ _ _ _ _ => rfl) (fun _ _ => rfl) (fun _ _ => rfl)
    unfold f_X12_toRaise_J59
    rw [if_pos hp, if_pos n1, if_pos n1, e0, Option.bind_some, p_ck (by omega), e5, b1, p_at hp.1 (by omega) (by decide) (by decide), Option.bind_some, show 16 + 8 * p + 1 = 17 + 8 * p by omega, b2, Option.bind_some, p_put hp.1 (by omega) (by decide) (by decide), Option.bind_some, show 16 + 8 * p + 1 = 17 + 8 * p by omega]
    refine ⟨v, M', _, rfl, rfl, pRel_same h (by rw [b3 0 (by decide) (by decide)]; exact a3.2.2.1.1 0 (by decide) (by decide) 0) (fun x x0 x1 x2 _ _ j => by rw [b3 x (by omega) (by omega)]; exact a3.2.2.1.1 x (by omega) (by omega) j) ?_ (fun x x0 x1 j => ?_) ⟨?_, ?_, ?_, ?_⟩⟩
    · rw [b3 762 (by decide) (by decide), b3 762 (by decide) (by decide), b3 762 (by decide) (by decide)]
      exact a3.2.2.1.2
    · by_cases c : x = 802
      · subst c
        rw [up_at]
        by_cases d : j = 17 + 8 * p
        · rw [if_pos d, d]
        · rw [if_neg d]; exact b6 j d
      · rw [up_nex c]
        exact b4 x (by omega) c (by omega) (by omega) j
    all_goals (rw [up_nex (by decide)]; exact b5 _ (by decide))
  · rw [if_neg hp, if_neg n0, if_neg n0]
    exact ⟨-1, M, N, rfl, rfl, h⟩
