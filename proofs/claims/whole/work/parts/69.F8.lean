set_option linter.unusedVariables false
set_option linter.unusedSimpArgs false
theorem pLaw_F {M0 N0 M N : Mem} {s W0 : Int} {p : Nat} (h : pLaw M0 N0) (hs : s = 3 ∨ s = 762) (F : pFp M0 N0 M N s W0 p) : pLaw M N :=
  pLaw_same h (F.1 0 (by omega) (by decide) 0) (fun x hx => F.1 x (by omega) (by omega)) (F.2.2.2.1.1 3 (by omega)) (F.2.1 804 (by omega) (by omega))
section Rope2
variable {M N M0 N0 : Mem} {s H P0 W0 st q q2 q4 dw uw : Int} {p n nr : Nat}
theorem l_w1 (R : pSh M N s) (hq : q2 = -1 ∨ ∃ j : Nat, q2 = j ∧ (j : Int) < N 802 1) : ∃ dw, 0 ≤ dw ∧ dw ≤ 99 ∧ (∀ q4, f_X1_useRope_J46 n s st q2 q4 M = f_X1_useRope_J63 n s st q2 q4 dw M) ∧ (∀ q4, f_X12_rope_J38 nr st q2 q4 N = f_X12_rope_J53 nr st q2 q4 dw N) := by
  have n7 := R.1
  unfold f_X1_useRope_J46 f_X12_rope_J38
  rcases hq with hq | ⟨j, hj, hj1⟩
  · subst hq
    exact ⟨0, by decide, by decide, fun q4 => by rw [if_neg (by decide)], fun q4 => by rw [if_neg (by decide)]⟩
  · subst hj
    have g := (R.2 j (by omega) hj1).1
    refine ⟨N 802 (88 + 6 * j), by omega, by omega, fun q4 => ?_, fun q4 => ?_⟩
    · rw [if_pos (by omega), p_ck (by omega), g.1]
    · rw [if_pos (by omega), p_get (by omega) (by omega) (by omega) (by omega), show 88 + 6 * (j : Int) + 0 = 88 + 6 * j by omega]
      rfl
theorem l_w2 (R : pSh M N s) (hq : q4 = -1 ∨ ∃ j : Nat, q4 = j ∧ (j : Int) < N 802 1) : ∃ uw, 0 ≤ uw ∧ uw ≤ 99 ∧ (∀ q2 dw, f_X1_useRope_J63 n s st q2 q4 dw M = f_X1_useRope_J82 n s st q2 q4 dw uw M) ∧ (∀ q2 dw, f_X12_rope_J53 nr st q2 q4 dw N = f_X12_rope_J70 nr st q2 q4 dw uw N) := by
  have n7 := R.1
  unfold f_X1_useRope_J63 f_X12_rope_J53
  rcases hq with hq | ⟨j, hj, hj1⟩
  · subst hq
    exact ⟨0, by decide, by decide, fun q4 dw => by rw [if_neg (by decide)], fun q4 dw => by rw [if_neg (by decide)]⟩
  · subst hj
    have g := (R.2 j (by omega) hj1).1
    refine ⟨N 802 (88 + 6 * j), by omega, by omega, fun q4 dw => ?_, fun q4 dw => ?_⟩
    · rw [if_pos (by omega), p_ck (by omega), g.1]
    · rw [if_pos (by omega), p_get (by omega) (by omega) (by omega) (by omega), show 88 + 6 * (j : Int) + 0 = 88 + 6 * j by omega]
      rfl
theorem l_rope (R : pRp M N s H P0 W0 p) (F : pFp M0 N0 M N s W0 p) (hL0 : pLaw M0 N0) (hs : s = 3 ∨ s = 762) (hW : 0 ≤ W0 ∧ W0 ≤ 80000) (hH : H ≤ 10099) (hst : 0 ≤ st ∧ st + 1 < N 802 0) (hw : N 802 (20 + 8 * st) ≠ 100) (hn : 400 ≤ n) (hnr : 400 ≤ nr) :
    ∃ (x : Nat) (M' N' : Mem), f_X1_useRope n s st (p : Int) M = some ((x : Int), M') ∧ f_X12_rope nr st N = some N' ∧ x < 128 ∧ pRp M' N' s H P0 W0 (p ||| x) ∧ pFp M0 N0 M' N' s W0 (p ||| x) := by
  have hL := pLaw_F hL0 hs F
  have l := R.1
  have n9 := l.1.1
  obtain ⟨b, q2, d1, d2, d3, d4⟩ := l_waiter (st := st) (d := 1) (n := n) (nr := nr) l.2.1 R.2.1 R.2.2.1 (by omega) (by omega)
  obtain ⟨b', q4, u1, u2, u3, u4⟩ := l_waiter (st := st + 1) (d := 0) (n := n) (nr := nr) l.2.1 R.2.1 R.2.2.1 (by omega) (by omega)
  unfold f_X1_useRope f_X12_rope
  rw [d1, Option.bind_some, d2, Option.bind_some, p_wI (x := st + 1) (by omega) (by omega), u1, Option.bind_some, u2, Option.bind_some, d3, u3, p_at (by omega) (by omega) (by decide) (by decide), Option.bind_some, Option.bind_some, Option.bind_some, show 16 + 8 * st + 4 = 20 + 8 * st by omega, if_neg hw]
  by_cases c : q2 = -1 ∧ q4 = -1
  · rw [if_neg (fun z => z c.1), if_neg (fun z => z c.2), if_neg (fun z => z c.1), if_neg (fun z => z c.2)]
    exact ⟨0, M, N, rfl, rfl, by decide, by rw [Nat.or_zero]; exact R, by rw [Nat.or_zero]; exact F⟩
  · obtain ⟨dw, w0, w1, w2, w3⟩ := l_w1 (M := M) (N := N) (n := n) (nr := nr) (st := st) (q2 := q2) l.2.1 (by
      rcases d4 with z | ⟨j, z, z2, -⟩
      · exact Or.inl z
      · exact Or.inr ⟨j, z, z2⟩)
    obtain ⟨uw, y0, y1, y2, y3⟩ := l_w2 (M := M) (N := N) (n := n) (nr := nr) (st := st) (q4 := q4) l.2.1 (by
      rcases u4 with z | ⟨j, z, z2, -⟩
      · exact Or.inl z
      · exact Or.inr ⟨j, z, z2⟩)
    have eC : (if q2 ≠ -1 then f_X1_useRope_J46 n s st q2 q4 M else if q4 ≠ -1 then f_X1_useRope_J46 n s st q2 q4 M else some (0, M)) = f_X1_useRope_J82 n s st q2 q4 dw uw M := by
      rw [← y2, ← w2]
      by_cases z : q2 = -1
      · rw [if_neg (fun k => k z), if_pos (fun k => c ⟨z, k⟩)]
      · rw [if_pos z]
    have eR : (if q2 ≠ -1 then f_X12_rope_J38 nr st q2 q4 N else if q4 ≠ -1 then f_X12_rope_J38 nr st q2 q4 N else some N) = f_X12_rope_J70 nr st q2 q4 dw uw N := by
      rw [← y3, ← w3]
      by_cases z : q2 = -1
      · rw [if_neg (fun k => k z), if_pos (fun k => c ⟨z, k⟩)]
      · rw [if_pos z]
    rw [eC, eR]
    obtain ⟨x, v, M2, N1, a1, a2, a3, a4, a5, a6, a7, a8, a9⟩ := l_dn (nr := nr) (q4 := q4) (uw := uw) R F hL hs hW hH hst (by
      rcases d4 with z | ⟨j, z, z2, z3, z4, z5⟩
      · exact Or.inl z
      · exact Or.inr ⟨j, z, z2, z3, by rw [z4]; exact fun e => z5 e.symm⟩) ⟨w0, w1⟩ hn hnr
    have e8 : ∀ i, N1 802 i = N 802 i := a3.2.1 802 (by decide) (by decide) (by decide)
    obtain ⟨N4', c1, c2, c3, -⟩ := a9 N1 0 0 pFr_rfl
    have F1 := F.2.2.2.1.1
    have z1 : N4' 802 1 = N1 802 1 := by rw [e8, c3.2.2.2.1.1 1 (by omega), F1 1 (by omega)]
    have hx2 : q4 = -1 ∨ ∃ j : Nat, q4 = j ∧ (j : Int) < N1 802 1 ∧ (p ||| x).testBit j = false := by
      rcases u4 with z | ⟨j, z, z2, z3, z4, z5⟩
      · exact Or.inl z
      · refine Or.inr ⟨j, z, by rw [e8]; exact z2, ?_⟩
        rw [Nat.testBit_or, z3]
        rcases a8 with k | ⟨i, k1, k2⟩
        · rw [k]; simp
        · rw [k2, Nat.testBit_two_pow]
          have : i ≠ j := by
            intro e
            subst e
            rcases d4 with k3 | ⟨i', k3, k4, k5, k6, k7⟩
            · omega
            · have : i' = i := by omega
              subst this
              omega
          simp [this]
    obtain ⟨x', v2, M3, N2, b1, b2, b3, b4, b5, b6, b7, b8⟩ := l_up (M0 := M0) (N0 := N0) (q := q2) (v1 := v) (dw := dw) (uw := uw) (n := n) (nr := nr) (st := st) c2 a4 a5 a6 z1.symm hs hW hH (by rw [e8]; exact hst) hx2 ⟨w0, w1⟩ ⟨y0, y1⟩ a7 hn hnr
    have e82 : ∀ i, N2 802 i = N 802 i := fun i => by rw [b3.2.1 802 (by decide) (by decide) (by decide), e8]
    have hgu : ∀ N4 : Mem, (∀ i : Int, 0 ≤ i → i < 7 → i ≠ q2 → N4 802 (89 + 6 * i) = N 802 (89 + 6 * i) ∧ N4 802 (90 + 6 * i) = N 802 (90 + 6 * i)) → ∀ j : Nat, q4 = j → N4 802 (89 + 6 * (j : Int)) ≠ N4 802 (90 + 6 * (j : Int)) := by
      intro N4 hN4 j hj
      rcases u4 with z | ⟨j', z, z2, z3, z4, z5⟩
      · omega
      · have ej : j' = j := by omega
        subst ej
        have n7 := l.2.1.1
        have ne : (j' : Int) ≠ q2 := by
          intro e
          rcases d4 with k3 | ⟨i', k3, k4, k5, k6, k7⟩
          · omega
          · have : i' = j' := by omega
            subst this
            omega
        have y := hN4 j' (by omega) (by omega) ne
        rw [y.1, y.2, z4]
        exact fun e => z5 e.symm
    clear d4 u4 hx2 a8 z1
    obtain ⟨v3, M4, N3, g1, g2, g3, g4, g5⟩ := s_wears (s := s) (st := st) (w := dw + uw) (hh := N2 802 8) (n1 := n) (n2 := nr) b4 b5 (by rw [e82]; omega) b6 (by rw [e82]; have := l.2.2.1; omega) rfl (by omega) (by omega) hn hnr
    have f13 : pFr M M N1 N3 := ⟨fun _ _ _ => rfl, (pFr_trans b3 ⟨fun _ _ _ => rfl, g5.2⟩).2⟩
    obtain ⟨N4, k1, k2, k3, k7⟩ := a9 N3 v2 v3 f13
    obtain ⟨N5, k4, k5, k6⟩ := b8 N4 v3 k2 k3 (by rw [e8, k3.2.2.2.1.1 1 (by omega), F1 1 (by omega)]) (by rw [e8, k3.2.2.2.1.1 0 (by omega), F1 0 (by omega)]) (hgu N4 k7)
    rw [a1, b1, a2, b2]
    unfold f_X1_useRope_J169 f_X12_rope_J115
    rw [p_ck (by omega), p_wI (x := dw + uw) (by omega) (by omega), g1, g2, Option.bind_some, Option.bind_some]
    dsimp only
    rw [k1, k4]
    have R5 : pRp M4 N5 s H P0 W0 (p ||| x') := pRp_fr k5 hs ⟨g5.1, fun _ _ _ _ _ => rfl, fun _ _ => rfl⟩
    have F5 : pFp M0 N0 M4 N5 s W0 (p ||| x') := pFp_fr k6 ⟨g5.1, fun _ _ _ _ _ => rfl, fun _ _ => rfl⟩
    have e0 : N5 802 0 = N 802 0 := by rw [k6.2.2.2.1.1 0 (by omega), F1 0 (by omega)]
    have gw := (k5.1.1.2 st (by omega) (by omega)).2.2.2.2
    unfold f_X12_rope_J157
    rw [p_at (by omega) (by omega) (by decide) (by decide), Option.bind_some, show 16 + 8 * st + 4 = 20 + 8 * st by omega, gw.1, p_wI (x := N5 802 (20 + 8 * st) + v3) (by omega) (by omega), p_cut (by omega) (by omega) (by decide), show max 0 (min (N5 802 (20 + 8 * st) + v3) 100) = min 100 (N5 802 (20 + 8 * st) + v3) by omega, p_put (by omega) (by omega) (by decide) (by decide), Option.bind_some, show 16 + 8 * st + 4 = 20 + 8 * st by omega]
    obtain ⟨r1, r2⟩ := pRp_worn (st := st) (v := min 100 (N5 802 (20 + 8 * st) + v3)) R5 F5 hs (by omega) (by omega)
    exact ⟨x', _, _, rfl, rfl, b7, r1, r2⟩
theorem l_rope100 (R : pRp M N s H P0 W0 p) (hst : 0 ≤ st ∧ st + 1 < N 802 0) (hw : N 802 (20 + 8 * st) = 100) (hnr : 400 ≤ nr) : f_X12_rope nr st N = some N := by
  have l := R.1
  have n9 := l.1.1
  obtain ⟨b, q2, d1, d2, d3, d4⟩ := l_waiter (st := st) (d := 1) (n := nr) (nr := nr) l.2.1 R.2.1 R.2.2.1 (by omega) (by omega)
  obtain ⟨b', q4, u1, u2, u3, u4⟩ := l_waiter (st := st + 1) (d := 0) (n := nr) (nr := nr) l.2.1 R.2.1 R.2.2.1 (by omega) (by omega)
  unfold f_X12_rope
  rw [p_wI (x := st + 1) (by omega) (by omega), d3, u3, p_at (by omega) (by omega) (by decide) (by decide), Option.bind_some, Option.bind_some, Option.bind_some, show 16 + 8 * st + 4 = 20 + 8 * st by omega, if_pos hw]
end Rope2
theorem l_ropes {M0 N0 : Mem} {s H P0 W0 : Int} (hL0 : pLaw M0 N0) (hs : s = 3 ∨ s = 762) (hW : 0 ≤ W0 ∧ W0 ≤ 80000) (hH : H ≤ 10099) :
    ∀ (k nA nB : Nat) (i : Int) (p : Nat) (M N : Mem), 10 - i < k → k + 400 ≤ nA → k + 400 ≤ nB → 0 ≤ i → i ≤ 10 → pRp M N s H P0 W0 p → pFp M0 N0 M N s W0 p →
      ∃ (p' : Nat) (M' N' : Mem), f_X1_passOne_L4 nA s (p : Int) i M = some ((p' : Int), M') ∧ f_X12_pass_L23 nB i N = some N' ∧ pRp M' N' s H P0 W0 p' ∧ pFp M0 N0 M' N' s W0 p' := by
  intro k
  induction k with
  | zero => intro nA nB i p M N h0; omega
  | succ k ih =>
    intro nA nB i p M N h0 h1 h2 i0 i1 R F
    obtain ⟨nA, rfl⟩ : ∃ m, nA = m + 1 := ⟨nA - 1, by omega⟩
    obtain ⟨nB, rfl⟩ : ∃ m, nB = m + 1 := ⟨nB - 1, by omega⟩
    have l := R.1
    have n9 := l.1.1
    rw [f_X1_passOne_L4, f_X12_pass_L23, n9.1, p_wI (x := N 802 0 - 1) (by omega) (by omega), p_wI (x := i + 1) (by omega) (by omega)]
    by_cases c : N 802 0 - 1 ≤ i
    · rw [if_pos c, if_pos (by omega)]
      exact ⟨p, M, N, rfl, rfl, R, F⟩
    · have g := (l.1.2 i i0 (by omega)).2.2.2.2
      rw [if_neg c, if_neg (show ¬ N 802 0 ≤ i + 1 by omega), p_ck (show 0 ≤ i ∧ i < 9 by omega), g.1]
      by_cases d : N 802 (20 + 8 * i) = 100
      · rw [if_pos (by omega), l_rope100 R ⟨i0, by omega⟩ d (by omega), Option.bind_some]
        exact ih nA nB (i + 1) p M N (by omega) (by omega) (by omega) (by omega) (by omega) R F
      · obtain ⟨x, M1, N1, a1, a2, a3, a4, a5⟩ := l_rope (n := nA) (nr := nB) (st := i) R F hL0 hs hW hH ⟨i0, by omega⟩ d (by omega) (by omega)
        have hp := R.2.1
        rw [if_neg (by omega), a1, a2, Option.bind_some, Option.bind_some]
        dsimp only
        rw [p_or (by omega) (by omega)]
        exact ih nA nB (i + 1) (p ||| x) M1 N1 (by omega) (by omega) (by omega) (by omega) (by omega) a4 a5
