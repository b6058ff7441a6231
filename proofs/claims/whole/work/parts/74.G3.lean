set_option linter.unusedVariables false
set_option linter.unusedSimpArgs false
/-! a text played -/
theorem p_numOf {M : Mem} {c i q : Int} (i0 : 0 ≤ i) (i1 : i < 24) (q0 : 0 ≤ q) (q1 : q < 4) : f_X6_numberOf c i q M = some (M (c + 2) (4 * i + q)) := by
  unfold f_X6_numberOf
  rw [p_wI (x := i * 4) (by omega) (by omega), p_wI (x := i * 4 + q) (by omega) (by omega), p_ck (by omega), show i * 4 + q = 4 * i + q by omega]
theorem l_played {p : Int} (p0 : 0 ≤ p) (p1 : p < 4) : ∀ (k nA nB : Nat) (i : Int) (M N : Mem), 24 - i < k → k + 6000 ≤ nA → k + 6000 ≤ nB → 0 ≤ i → i ≤ 24 → pRel M N → p < N 802 2 →
    pSim (f_X11_played_L20 nA (773 + 7 * p) i M) (f_X12_played_L21 nB p i N) N := by
  intro k
  induction k with
  | zero => intro nA nB i M N h0 h1 h2 h3 h4; omega
  | succ k ih =>
    intro nA nB i M N h0 h1 h2 i0 i1 R hp
    obtain ⟨nA, rfl⟩ : ∃ m, nA = m + 1 := ⟨nA - 1, by omega⟩
    obtain ⟨nB, rfl⟩ : ∃ m, nB = m + 1 := ⟨nB - 1, by omega⟩
    have hc := pR_ctl R
    have hT := R.2.2.2.1 p p0 (by omega)
    have hl := hT.2.1
    have hh := (pR_num R).2.2.1
    rw [f_X11_played_L20, f_X12_played_L21, p_wI (x := 729 * p) (by omega) (by omega), p_ck (show 0 ≤ 729 * p ∧ 729 * p < 2916 by omega), hT.1]
    by_cases c : N 804 (729 * p) ≤ i
    · rw [if_pos c, if_pos c]
      exact ⟨-1, M, N, rfl, rfl, R⟩
    · rw [if_neg c, if_neg c, p_wI (x := 729 * p + 1) (by omega) (by omega), p_wI (x := 5 * i) (by omega) (by omega), p_wI (x := 729 * p + 1 + 5 * i) (by omega) (by omega), p_wI (x := i + 1) (by omega) (by omega)]
      have g := hT.2.2.1 i i0 (by omega)
      obtain ⟨g1, g2, g3, g4⟩ := g
      -- one clause
      suffices one : ∃ v M' N', f_X11_playClause nA (773 + 7 * p) i M = some (v, M') ∧ f_X12_isPlayed nB (729 * p + 1 + 5 * i) N = some (v, N') ∧ pRel M' N' ∧ N' 802 2 = N 802 2 by
        obtain ⟨v, M', N', a1, a2, a3, a4⟩ := one
        rw [a1, a2, Option.bind_some, Option.bind_some]
        dsimp only
        by_cases d : v = 0
        · rw [if_neg (fun z => z d), if_neg (fun z => z d)]
          exact ⟨i, M', N', rfl, rfl, a3⟩
        · rw [if_pos d, if_pos d]
          obtain ⟨v2, M2, N2, b1, b2, b3⟩ := ih nA nB (i + 1) M' N' (by omega) (by omega) (by omega) (by omega) (by omega) a3 (by omega)
          exact ⟨v2, M2, N2, b1, b2, b3⟩
      unfold f_X11_playClause f_X12_isPlayed
      rw [p_numOf i0 (by omega) (by decide) (by decide), p_numOf i0 (by omega) (by decide) (by decide), p_numOf i0 (by omega) (by decide) (by decide), p_numOf i0 (by omega) (by decide) (by decide), Option.bind_some, Option.bind_some, Option.bind_some, Option.bind_some, p_ck (show 0 ≤ i ∧ i < 24 by omega), g2,
        p_wI (x := 729 * p + 1 + 5 * i + 1) (by omega) (by omega), p_wI (x := 729 * p + 1 + 5 * i + 2) (by omega) (by omega), p_wI (x := 729 * p + 1 + 5 * i + 3) (by omega) (by omega), p_wI (x := 729 * p + 1 + 5 * i + 4) (by omega) (by omega)]
      have k0 : 0 ≤ 729 * p + 1 + 5 * i ∧ 729 * p + 1 + 5 * i < 2916 := by omega
      have k1 : 0 ≤ 729 * p + 1 + 5 * i + 1 ∧ 729 * p + 1 + 5 * i + 1 < 2916 := by omega
      have k2 : 0 ≤ 729 * p + 1 + 5 * i + 2 ∧ 729 * p + 1 + 5 * i + 2 < 2916 := by omega
      have k3 : 0 ≤ 729 * p + 1 + 5 * i + 3 ∧ 729 * p + 1 + 5 * i + 3 < 2916 := by omega
      have k4 : 0 ≤ 729 * p + 1 + 5 * i + 4 ∧ 729 * p + 1 + 5 * i + 4 < 2916 := by omega
      rw [p_ck k1, p_ck k2, p_ck k0, p_ck k3, p_ck k4, p_ck k3]
      have num : ∀ q, 0 ≤ q → 5 ≤ N 804 (729 * p + 1 + 5 * i) → q < pNf (N 804 (729 * p + 1 + 5 * i)) → M (773 + 7 * p + 2) (4 * i + q) = N 804 (729 * p + 1 + 5 * i + 1 + q) ∧ 0 ≤ N 804 (729 * p + 1 + 5 * i + 1 + q) ∧ N 804 (729 * p + 1 + 5 * i + 1 + q) ≤ 999 := by
        intro q q0 q5 q1
        have := g4 q5 q q0 q1
        rw [show 729 * p + 2 + 5 * i + q = 729 * p + 1 + 5 * i + 1 + q by omega] at this
        exact this
      generalize hs : N 804 (729 * p + 1 + 5 * i) = s at *
      have n0 := num 0 (by decide)
      have n1 := num 1 (by decide)
      have n2 := num 2 (by decide)
      have n3 := num 3 (by decide)
      rw [show 729 * p + 1 + 5 * i + 1 + 0 = 729 * p + 1 + 5 * i + 1 by omega] at n0
      rw [show 729 * p + 1 + 5 * i + 1 + 1 = 729 * p + 1 + 5 * i + 2 by omega] at n1
      rw [show 729 * p + 1 + 5 * i + 1 + 2 = 729 * p + 1 + 5 * i + 3 by omega] at n2
      rw [show 729 * p + 1 + 5 * i + 1 + 3 = 729 * p + 1 + 5 * i + 4 by omega] at n3
      clear num g4 g3
      by_cases c5 : s = 5
      · subst c5
        rw [(n0 (by decide) (by decide)).1, (n1 (by decide) (by decide)).1, (n2 (by decide) (by decide)).1, (n3 (by decide) (by decide)).1]
        obtain ⟨v, M', N', a1, a2, a3, a4, a5⟩ := t_step (n := nB) (a := N 804 (729 * p + 1 + 5 * i + 1)) (b := N 804 (729 * p + 1 + 5 * i + 2)) (c := N 804 (729 * p + 1 + 5 * i + 3)) (d := N 804 (729 * p + 1 + 5 * i + 4)) R (by omega)
        rw [if_pos (by decide), if_pos rfl, a1, a2, Option.bind_some, Option.bind_some]
        dsimp only at a5 ⊢
        by_cases d : v = -1
        · rw [if_pos d, if_pos (by omega)]
          exact ⟨0, M', N', rfl, rfl, a3, a4⟩
        · rw [if_neg d, if_neg (by omega)]
          exact ⟨1, M', N', rfl, rfl, a3, a4⟩
      rw [if_neg (show ¬ 128 + s = 133 by omega), if_neg c5]
      by_cases c6 : s = 6
      · subst c6
        rw [(n0 (by decide) (by decide)).1, (n1 (by decide) (by decide)).1, (n2 (by decide) (by decide)).1]
        obtain ⟨v, M', N', a1, a2, a3, a4, a5⟩ := t_ship (a := N 804 (729 * p + 1 + 5 * i + 1)) (b := N 804 (729 * p + 1 + 5 * i + 2)) (c := N 804 (729 * p + 1 + 5 * i + 3)) R
        rw [if_pos (by decide), if_pos rfl, a1, a2, Option.bind_some, Option.bind_some]
        dsimp only at a5 ⊢
        by_cases d : v = -1
        · rw [if_pos d, if_pos (by omega)]
          exact ⟨0, M', N', rfl, rfl, a3, a4⟩
        · rw [if_neg d, if_neg (by omega)]
          exact ⟨1, M', N', rfl, rfl, a3, a4⟩
      rw [if_neg (show ¬ 128 + s = 134 by omega), if_neg c6]
      by_cases c7 : s = 7
      · subst c7
        have z := n0 (by decide) (by decide)
        rw [z.1, if_pos (by decide), if_pos rfl, hh.1, p_wI (x := 9999 - N 802 8) (by omega) (by omega)]
        unfold f_X11_passHours f_X12_arePassed
        obtain ⟨sum, M', N', a1, a2, a3, -, a5⟩ := l_hours (c := min (N 804 (729 * p + 1 + 5 * i + 1)) (9999 - N 802 8)) (p := N 804 (729 * p + 1 + 5 * i + 1)) (P0 := -1) (by omega) (by omega) (by omega) 1010 nA nB 0 0 M N (by omega) (by omega) (by omega) (by omega) (by omega) (by omega) (by omega) R (fun z => by omega) (by omega) (by omega)
        rw [a1, a2, Option.bind_some, Option.bind_some, Option.bind_some]
        dsimp only
        by_cases d : min (N 804 (729 * p + 1 + 5 * i + 1)) (9999 - N 802 8) = N 804 (729 * p + 1 + 5 * i + 1)
        · rw [if_neg (fun z => z d), if_pos d, p_ck (Or.inr rfl)]
          exact ⟨1, M', N', rfl, rfl, a3, a5⟩
        · rw [if_pos d, if_neg d, p_ck (Or.inl rfl)]
          exact ⟨0, M', N', rfl, rfl, a3, a5⟩
      rw [if_neg (show ¬ 128 + s = 135 by omega), if_neg c7]
      by_cases c8 : s = 8
      · subst c8
        rw [(n0 (by decide) (by decide)).1, (n1 (by decide) (by decide)).1]
        obtain ⟨v, M', N', a1, a2, a3, a4, a5⟩ := t_flood (n := nB) (p := N 804 (729 * p + 1 + 5 * i + 1)) (q := N 804 (729 * p + 1 + 5 * i + 2)) R (by omega)
        rw [if_pos (by decide), if_pos rfl, a1, a2, Option.bind_some, Option.bind_some]
        dsimp only at a5 ⊢
        by_cases d : v = -1
        · rw [if_pos d, if_pos (by omega)]
          exact ⟨0, M', N', rfl, rfl, a3, a4⟩
        · rw [if_neg d, if_neg (by omega)]
          exact ⟨1, M', N', rfl, rfl, a3, a4⟩
      rw [if_neg (show ¬ 128 + s = 136 by omega), if_neg c8]
      by_cases c9 : s = 9
      · subst c9
        rw [(n0 (by decide) (by decide)).1, (n1 (by decide) (by decide)).1]
        obtain ⟨v, M', N', a1, a2, a3, a4, a5⟩ := t_raise (n := nB) (p := N 804 (729 * p + 1 + 5 * i + 1)) (q := N 804 (729 * p + 1 + 5 * i + 2)) R (by omega)
        rw [if_pos (by decide), if_pos rfl, a1, a2, Option.bind_some, Option.bind_some, p_ck a5, p_ck a5]
        exact ⟨v, M', N', rfl, rfl, a3, a4⟩
      rw [if_neg (show ¬ 128 + s = 137 by omega), if_neg c9]
      by_cases c10 : s = 10
      · subst c10
        rw [(n0 (by decide) (by decide)).1]
        obtain ⟨v, M', N', a1, a2, a3, a4, a5⟩ := t_mend (n := nB) (p := N 804 (729 * p + 1 + 5 * i + 1)) R (by omega)
        rw [if_pos (by decide), if_pos rfl, a1, a2, Option.bind_some, Option.bind_some]
        dsimp only at a5 ⊢
        by_cases d : v = -1
        · rw [if_pos d, if_pos (by omega)]
          exact ⟨0, M', N', rfl, rfl, a3, a4⟩
        · rw [if_neg d, if_neg (by omega)]
          exact ⟨1, M', N', rfl, rfl, a3, a4⟩
      rw [if_neg (show ¬ 128 + s = 138 by omega), if_neg c10]
      by_cases c11 : s = 11
      · subst c11
        rw [(n0 (by decide) (by decide)).1, (n1 (by decide) (by decide)).1]
        obtain ⟨v, M', N', a1, a2, a3, a4, a5⟩ := t_bind (n := nB) (p := N 804 (729 * p + 1 + 5 * i + 1)) (q := N 804 (729 * p + 1 + 5 * i + 2)) R (by omega)
        rw [if_pos (by decide), if_pos rfl, a1, a2, Option.bind_some, Option.bind_some, p_ck a5, p_ck a5]
        exact ⟨v, M', N', rfl, rfl, a3, a4⟩
      rw [if_neg (show ¬ 128 + s = 139 by omega), if_neg c11]
      exact ⟨1, M, N, rfl, rfl, R, rfl⟩
theorem s_played {M N : Mem} {nA nB : Nat} {p : Int} (h : pRel M N) (hA : 8000 ≤ nA) (hB : 8000 ≤ nB) : pSim (f_X11_played nA p M) (f_X12_played nB p N) N := by
  have hc := pR_ctl h
  unfold f_X11_played f_X12_played f_X11_isText
  rw [p_isB, p_isIn, hc.2.1.1, p_wI (x := N 802 2 - 1) (by omega) (by omega)]
  by_cases c : 0 ≤ p ∧ p ≤ N 802 2 - 1
  · rw [if_pos c, if_pos (by decide), if_pos (by decide), p_ck (by omega)]
    exact l_played c.1 (by omega) 30 nA nB 0 M N (by omega) (by omega) (by omega) (by omega) (by omega) h (by omega)
  · rw [if_neg c, if_neg (fun z => z rfl), if_neg (fun z => z rfl)]
    exact ⟨-2, M, N, rfl, rfl, h⟩
