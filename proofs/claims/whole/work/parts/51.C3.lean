set_option linter.unusedVariables false
set_option linter.unusedSimpArgs false
/-- the latest act says what the sea says -/
def pAge (N : Mem) (k : Int) : Prop := 0 < N 802 4 ∧ N 802 (186 + 64 * (N 802 4 - 1)) = N 802 0 ∧ N 802 (186 + 64 * (N 802 4 - 1) + 1) = N 802 1 ∧ N 802 (186 + 64 * (N 802 4 - 1) + 6) ≤ N 802 12 ∧ N 802 12 ≤ N 802 (186 + 64 * (N 802 4 - 1) + 6) + k
abbrev pFresh (N : Mem) : Prop := pAge N 0
theorem s_keep {M N : Mem} {n : Nat} (h : pRel M N) (hn : 2000 ≤ n) : ∃ M' N', f_X0_keep 14 3 M = some M' ∧ f_X12_keep n N = some N' ∧ pRel M' N' ∧ (∀ x, ¬ (14 ≤ x ∧ x < 346) → ∀ i, M' x i = M x i) ∧ (∀ y, y ≠ 802 → ∀ j, N' y j = N y j) ∧ (∀ j, j ≠ 4 → ¬ (186 ≤ j ∧ j < 2106) → N' 802 j = N 802 j) ∧ pFresh N' := by
  have hc := (pR_ctl h).1
  have hnum := pR_num h
  obtain ⟨N', c, d, n1, n2, n3, n4⟩ := l_keepN (N := N) (n := n) hn hc.2.1 hc.2.2.1
  obtain ⟨M1, m1, m2, m3, m4, m5, m6⟩ := l_copySea (M := M) (k := 14 + 2 + 11 * M 14 1) (p := 3) (by omega) (by omega) (by omega) (by omega)
  have e14 : ∀ i, M1 14 i = M 14 i := m2 14 (by omega)
  refine ⟨upM (upM M1 14 1 ((M 14 1 + 1) % 30)) 14 2 (c + 1), N', ?_, n1, ?_, fun x hx i => ?_, n2, n3.2.1, ?_⟩
  · unfold f_X0_keep
    rw [p_ck (by omega), m1, Option.bind_some]
    simp only [p_lt]
    rw [e14, p_wI (x := M 14 1 + 1) (by omega) (by omega), p_iRem (by omega), up_nei (by omega), e14, p_wI (x := M 14 2 + 1) (by omega) (by omega)]
    congr 2
    omega
  · have hM' : ∀ x, ¬ (14 ≤ x ∧ x < 346) → ∀ i, upM (upM M1 14 1 ((M 14 1 + 1) % 30)) 14 2 (c + 1) x i = M x i := fun x hx i => by rw [up_nex (by omega), up_nex (by omega), m2 x (by omega)]
    have hW := h.1
    obtain ⟨a1, a2, a3, a4, a5, a6, a7, a8, a9, a10⟩ := hW
    have kA : ∀ i, i ≠ 4 → ¬ (186 ≤ i ∧ i < 2106) → N' 802 i = N 802 i := n3.2.1
    have sA : pSame (pvA (N' 802)) (pvA (N 802)) := pSame_A a1.1 a1.2.1 (fun i hi => kA i (by omega) (by omega))
    have e1 : pvM (upM (upM M1 14 1 ((M 14 1 + 1) % 30)) 14 2 (c + 1)) (2 + 1) = pvM M (2 + 1) := pvM_same (fun x h0 h1 => hM' x (by omega))
    have e2 : pvM (upM (upM M1 14 1 ((M 14 1 + 1) % 30)) 14 2 (c + 1)) (14 + 2 + 11 * M 14 1) = pvM M1 (14 + 2 + 11 * M 14 1) := pvM_same (fun x h0 h1 i => by rw [up_nex (by omega), up_nex (by omega)])
    refine pRel_now h (hM' 0 (by omega) 0) (fun x x0 x1 _ _ => hM' x (by omega)) ?_ (fun s hs s1 => ?_) ?_ (hM' 2 (by omega) 3) (hM' 2 (by omega) 4) (fun x x0 x1 => n2 x (by omega)) ⟨n2 801 (by omega) _, n2 801 (by omega) _, n2 801 (by omega) _, n2 801 (by omega) _⟩
    · rw [hM' 762 (by omega), hM' 762 (by omega), hM' 762 (by omega)]
      exact h.2.2.1 762 (Or.inr (Or.inr (Or.inl rfl)))
    · by_cases q : s = 14 + 2 + 11 * M 14 1
      · subst q
        rw [up_nex (by omega), up_nex (by omega), up_nex (by omega), up_nex (by omega), up_nex (by omega), up_nex (by omega), m5]
        have r0 : M1 (14 + 2 + 11 * M 14 1) 0 = M 3 0 := m3.1
        have r1 : M1 (14 + 2 + 11 * M 14 1) 6 = M 3 6 := m3.2.1
        rw [r0, r1]
        exact h.2.2.1 3 (Or.inl rfl)
      · have g : ∀ i, upM (upM M1 14 1 ((M 14 1 + 1) % 30)) 14 2 (c + 1) s i = M s i := by
          intro i
          have : s ≠ 14 ∧ ¬ (14 + 2 + 11 * M 14 1 ≤ s ∧ s < 14 + 2 + 11 * M 14 1 + 11) := by rcases hs with r | r | r | ⟨j, r⟩ | ⟨j, r⟩ <;> omega
          rw [up_nex (by omega), up_nex (by omega), m2 s (by omega)]
        rw [g, g, g]
        exact h.2.2.1 s hs
    · refine ⟨pOK_same sA a1, by rw [e1]; exact pEq_same sA a2, by rw [e1]; exact pEqS_same sA a3, ?_, ?_, ?_, ?_, ?_, ?_, ?_⟩
      · rw [kA 12 (by omega) (by omega)]
        exact pBook_same (fun x h0 h1 => hM' x (by omega)) (fun i hi => kA i (by omega) (by omega)) a4
      · refine pActs_keep (c := c) (d := d) a1 a2 a4 a5 n3 n4 (fun x x0 x1 x2 i => ?_) ?_ ?_ ?_ ?_ (fun i i0 i1 => ?_)
        · change ¬ (2 + 14 + 11 * M 14 1 ≤ x ∧ x < 2 + 25 + 11 * M 14 1) at x2
          rw [up_nex (by omega), up_nex (by omega), m2 x (by omega)]
        · exact (up_nei (by omega)).trans up_eq
        · exact up_eq
        · show pEq (pvM (upM (upM M1 14 1 ((M 14 1 + 1) % 30)) 14 2 (c + 1)) (14 + 2 + 11 * M 14 1)) (pvM M 3)
          rw [e2]
          exact m3
        · show upM (upM M1 14 1 ((M 14 1 + 1) % 30)) 14 2 (c + 1) (14 + 2 + 11 * M 14 1) 15 = M 3 15
          rw [up_nex (by omega), up_nex (by omega)]
          exact m5
        · show upM (upM M1 14 1 ((M 14 1 + 1) % 30)) 14 2 (c + 1) (14 + 2 + 11 * M 14 1 + 10) i = M (3 + 10) i
          rw [up_nex (by omega), up_nex (by omega)]
          exact m6 i i0 i1
      · exact pTold_same (fun x h0 h1 h2 => hM' x (by omega)) (fun i hi => kA i (by omega) (by omega)) a6
      · rw [hM' 2 (by omega), kA 2 (by omega) (by omega)]; exact a7
      · rw [kA 2 (by omega) (by omega)]; exact a8
      · rw [hM' 2 (by omega), kA 3 (by omega) (by omega)]; exact a9
      · rw [kA 3 (by omega) (by omega), kA 2 (by omega) (by omega)]; exact a10
  · rw [up_nex (by omega), up_nex (by omega), m2 x (by omega)]
  · obtain ⟨k1, k2, k3, k4, k5, k6, k7⟩ := n3
    have e6 : N' 802 (186 + 64 * c + 6) = N 802 12 := p_ix (k5 4 (by omega) (by omega)) (by omega) (by omega)
    unfold pFresh pAge
    rw [k1, show c + 1 - 1 = c by omega, k2 0 (by omega) (by omega), k2 1 (by omega) (by omega), k2 12 (by omega) (by omega)]
    exact ⟨by omega, k4.1, k4.2, by omega, by omega⟩
