set_option linter.unusedVariables false
set_option linter.unusedSimpArgs false
/-- the water of an hour -/
theorem l_pour {M0 N0 : Mem} {s H : Int} {nA nB : Nat} (hL0 : pLaw M0 N0) (hv : pLv M0 N0 s H) (hs : s = 3 ∨ s = 762) (hH : H ≤ 10099) (hA : 500 ≤ nA) (hB : 500 ≤ nB) :
    ∃ M' N', f_X1_letWaterOver nA s M0 = some M' ∧ f_X12_pour nB N0 = some N' ∧ pSt M' N' s ∧ (M' s 12 = N' 802 9 ∧ 0 ≤ N' 802 9 ∧ N' 802 9 ≤ 99999999) ∧ (M' s 13 = N' 802 10 ∧ 0 ≤ N' 802 10 ∧ N' 802 10 ≤ 99999999)
      ∧ (∀ x, x ≠ 713 → x ≠ 715 → x ≠ 716 → x ≠ s → x ≠ s + 3 → x ≠ s + 4 → ∀ j, M' x j = M0 x j) ∧ (∀ j, j ≠ 12 → j ≠ 13 → M' s j = M0 s j)
      ∧ (∀ x, x ≠ 801 → x ≠ 802 → x ≠ 807 → x ≠ 808 → x ≠ 810 → x ≠ 811 → ∀ j, N' x j = N0 x j) ∧ (∀ j, ¬ (21 ≤ j ∧ j ≤ 24) → N' 801 j = N0 801 j)
      ∧ (∀ j, j ≠ 9 → j ≠ 10 → (∀ t, 0 ≤ t → t < 9 → j ≠ 18 + 8 * t ∧ j ≠ 19 + 8 * t) → N' 802 j = N0 802 j) := by
  obtain ⟨hS, hSh, hr⟩ := hv
  have n9 := hS.1
  obtain ⟨M1, N1, a1, a2, ⟨a3, a4, a5⟩, a6⟩ := l_over (hh := N0 802 8) hL0 hS hs hr.1.1 (by have := hr.1; omega) rfl 20 nA nB 0 M0 N0 (by omega) (by omega) (by omega) (by omega) (by omega) ⟨fun _ _ _ _ _ => rfl, fun _ _ _ _ _ _ _ => rfl, fun _ _ => rfl⟩ (fun j j0 j1 => by omega)
  have e2 : ∀ j, N1 802 j = N0 802 j := a4 802 (by decide) (by decide) (by decide) (by decide) (by decide)
  have hS1 : pSt M1 N1 s := pSt_same hS (fun x x0 x1 => a3 x (by omega) (by omega) (by omega)) e2
  obtain ⟨M2, N2, b1, b2, b3, b4, b5, b6⟩ := l_pours hs hS1 (by simp only [e2]; exact a6) 20 nA nB 0 M1 N1 (by omega) (by omega) (by omega) (by omega) (by rw [e2]; omega) hS1 (fun _ _ _ _ => rfl) (fun _ _ _ => rfl) (fun _ _ => rfl)
  unfold f_X1_letWaterOver f_X12_pour
  rw [a1, a2, Option.bind_some, Option.bind_some, b1, ← e2 0, b2, Option.bind_some, Option.bind_some]
  have ms : ∀ j, M2 s j = M0 s j := fun j => by rw [b4 s (by omega) (by omega), a3 s (by omega) (by omega) (by omega)]
  have ns : ∀ j, (∀ t, 0 ≤ t → t < 9 → j ≠ 18 + 8 * t ∧ j ≠ 19 + 8 * t) → N2 802 j = N0 802 j := fun j hj => by rw [b6 j hj, e2]
  have r2 := hr.2.1
  have r3 := hr.2.2.1
  rw [ms 0, n9.1, e2 0]
  have fr1 : ∀ x, x ≠ 713 → x ≠ 715 → x ≠ 716 → x ≠ s → x ≠ s + 3 → x ≠ s + 4 → ∀ j, M2 x j = M0 x j := fun x h1 h2 h3 h4 h5 h6 j => by rw [b4 x h5 h6, a3 x h1 h2 h3]
  have fr2 : ∀ x, x ≠ 801 → x ≠ 802 → x ≠ 807 → x ≠ 808 → x ≠ 810 → x ≠ 811 → ∀ j, N2 x j = N0 x j := fun x h1 h2 h3 h4 h5 h6 j => by rw [b5 x h2, a4 x h1 h3 h4 h5 h6]
  have fr3 : ∀ j, ¬ (21 ≤ j ∧ j ≤ 24) → N2 801 j = N0 801 j := fun j hj => by rw [b5 801 (by decide), a5 j hj]
  by_cases c : N0 802 0 = 0
  · rw [if_pos (by omega), if_neg (fun z => z c)]
    refine ⟨M2, N2, rfl, rfl, b3, ?_, ?_, fr1, fun j _ _ => ms j, fr2, fr3, fun j _ _ hj => ns j hj⟩
    · rw [ms, ns 9 (fun t _ _ => by omega)]; exact r2
    · rw [ms, ns 10 (fun t _ _ => by omega)]; exact r3
  · rw [if_neg (by omega), if_pos c, p_wI (x := N0 802 0 - 1) (by omega) (by omega), p_ck (by omega), p_ck (by omega)]
    simp only [p_lt]
    have G := a6 (N0 802 0 - 1) (by omega) (by omega)
    have g := hS.2 (N0 802 0 - 1) (by omega) (by omega)
    rw [up_nei (by decide), ms 0, n9.1, p_wI (x := N0 802 0 - 1) (by omega) (by omega), p_ck (by omega)]
    rw [up_nex (y := 716) (by omega), up_nei (j := 13) (by decide), up_nei (j := 10) (by decide), up_nex (y := 811) (by omega)]
    rw [ms 12, ms 13, ns 9 (fun t _ _ => by omega), ns 10 (fun t _ _ => by omega), b4 715 (by omega) (by omega), b4 716 (by omega) (by omega), b5 810 (by decide), b5 811 (by decide), G.1, G.2.2.2.1, r2.1, r3.1, p_wI (x := N0 802 9 + N1 810 (N0 802 0 - 1)) (by omega) (by omega), p_wI (x := N0 802 10 + N1 811 (N0 802 0 - 1)) (by omega) (by omega), p_cut (by omega) (by omega) (by decide), p_cut (by omega) (by omega) (by decide),
      show max 0 (min (N0 802 9 + N1 810 (N0 802 0 - 1)) 99999999) = min 99999999 (N0 802 9 + N1 810 (N0 802 0 - 1)) by omega, show max 0 (min (N0 802 10 + N1 811 (N0 802 0 - 1)) 99999999) = min 99999999 (N0 802 10 + N1 811 (N0 802 0 - 1)) by omega]
    refine ⟨_, _, rfl, rfl, ⟨?_, fun i i0 i1 => ?_⟩, ?_, ?_, fun x h1 h2 h3 h4 h5 h6 j => ?_, fun j h1 h2 => ?_, fun x h1 h2 h3 h4 h5 h6 j => ?_, fun j hj => ?_, fun j h1 h2 hj => ?_⟩
    · rw [up_nei (by decide), up_nei (by decide), up_nei (by decide), up_nei (by decide)]
      exact b3.1
    · rw [up_nei (by decide), up_nei (by decide)] at i1
      simp (disch := omega) only [up_nex, up_nei]
      exact b3.2 i i0 i1
    · simp (disch := omega) only [up_nei, up_eq]
      exact ⟨trivial, by omega, by omega⟩
    · simp (disch := omega) only [up_nei, up_eq]
      exact ⟨trivial, by omega, by omega⟩
    · rw [up_nex h4, up_nex h4]
      exact fr1 x h1 h2 h3 h4 h5 h6 j
    · rw [up_nei h2, up_nei h1]
      exact ms j
    · rw [up_nex h2, up_nex h2]
      exact fr2 x h1 h2 h3 h4 h5 h6 j
    · rw [up_nex (by decide), up_nex (by decide)]
      exact fr3 j hj
    · rw [up_nei h2, up_nei h1]
      exact ns j hj
theorem l_clear (n : Nat) (N : Mem) : ∃ N', f_X12_pass_L2 (n + 8) 0 N = some N' ∧ (∀ x, x ≠ 809 → ∀ j, N' x j = N x j) ∧ (∀ j : Nat, j < 7 → N' 809 j = 0) := by
  simp (disch := omega) only [f_X12_pass_L2, p_wI, p_ck, p_lt, if_neg, if_pos, Int.reduceAdd]
  refine ⟨_, rfl, fun x hx j => ?_, fun j hj => ?_⟩
  · simp (disch := omega) only [up_nex]
  · have : j = 0 ∨ j = 1 ∨ j = 2 ∨ j = 3 ∨ j = 4 ∨ j = 5 ∨ j = 6 := by omega
    rcases this with r | r | r | r | r | r | r <;> subst r <;> simp [upM]
/-- an hour -/
theorem s_pass {M N : Mem} {s H : Int} {nA nB : Nat} (hL : pLaw M N) (hv : pLv M N s H) (hH : H ≤ 10099) (hs : (s = 3 ∧ N 801 28 = 1 ∧ pBook M 3 (N 802) (N 802 12)) ∨ (s = 762 ∧ N 801 28 = 0)) (hW : 0 ≤ N 802 12 ∧ N 802 12 ≤ 80000) (hh : N 802 8 < H) (hA : 600 ≤ nA) (hB : 600 ≤ nB) :
    ∃ (v : Int) (M' N' : Mem), f_X1_passOne nA s M = some (v, M') ∧ f_X12_pass nB N = some N' ∧ 0 ≤ v ∧ v ≤ 7 ∧ (0 ≤ N 801 29 → N 801 29 ≤ 1000000 → N' 801 29 = N 801 29 + v) ∧ pLv M' N' s H ∧ N' 802 8 = N 802 8 + 1
      ∧ ((s = 3 ∧ N' 801 28 = 1 ∧ N' 802 12 = N 802 12 + v ∧ pBook M' 3 (N' 802) (N' 802 12)) ∨ (s = 762 ∧ N' 801 28 = 0 ∧ N' 802 12 = N 802 12))
      ∧ (∀ x, ¬ (s ≤ x ∧ x < s + 11) → x ≠ 713 → x ≠ 715 → x ≠ 716 → ∀ j, M' x j = M x j) ∧ (∀ x, ¬ (801 ≤ x ∧ x ≤ 802) → ¬ (807 ≤ x ∧ x ≤ 811) → ∀ j, N' x j = N x j) ∧ (∀ j, ¬ (21 ≤ j ∧ j ≤ 24) → j ≠ 29 → N' 801 j = N 801 j)
      ∧ pStat (N 802) (N' 802) ∧ (∀ i, 2106 ≤ i → (∀ t, 0 ≤ t → t < v → i ≠ 2106 + (N 802 12 + t) % 8500) → N' 802 i = N 802 i) ∧ (s = 762 → ∀ i, 130 ≤ i → N' 802 i = N 802 i)
      ∧ (∀ i, 0 ≤ i → i < 7 → N' 802 (90 + 6 * i) = N 802 (90 + 6 * i) ∧ (N 802 (89 + 6 * i) = N 802 (90 + 6 * i) → N' 802 (89 + 6 * i) = N 802 (89 + 6 * i))) := by
  obtain ⟨N1, c1, c2, c3⟩ := l_clear (nB - 8) N
  rw [show nB - 8 + 8 = nB by omega] at c1
  have hs' : s = 3 ∨ s = 762 := by rcases hs with ⟨z, -⟩ | ⟨z, -⟩ <;> omega
  have hv1 : pLv M N1 s H := pLv_fr hv (by omega) (fun _ _ _ => rfl) (c2 802 (by decide))
  have R0 : pRp M N1 s H (N 801 29) (N 802 12) 0 := by
    refine ⟨hv1, by decide, fun j hj => by rw [c3 j hj]; simp, fun _ _ => by rw [c2 801 (by decide)]; show _ = _ + ((0 : Nat) : Int); omega, ?_⟩
    rw [c2 801 (by decide), c2 802 (by decide)]
    rcases hs with ⟨z, z1, z2⟩ | ⟨z, z1⟩
    · exact Or.inl ⟨z, z1, by show _ = _ + ((0 : Nat) : Int); omega, by rw [funext (c2 802 (by decide))]; exact z2⟩
    · exact Or.inr ⟨z, z1, rfl⟩
  have F0 : pFp M N M N1 s (N 802 12) 0 := ⟨fun _ _ _ _ => rfl, fun x x0 x1 j => c2 x (by omega) j, fun j _ _ => c2 801 (by decide) j, by rw [funext (c2 802 (by decide))]; exact pStat_rfl, fun i _ _ => c2 802 (by decide) i, fun _ i _ => c2 802 (by decide) i, fun i _ _ => c2 802 (by decide) i, fun i _ _ => ⟨c2 802 (by decide) _, fun _ => c2 802 (by decide) _⟩⟩
  obtain ⟨p, M2, N2, d1, d2, d3, d4⟩ := l_ropes hL hs' hW hH 20 nA nB 0 0 M N1 (by omega) (by omega) (by omega) (by omega) (by omega) R0 F0
  have cp := p_cnt7 d3.2.1
  obtain ⟨M3, N3, e1, e2, e3, e4, e5, e6, e7, e8, e9, e10⟩ := l_pour (nA := nA) (nB := nB) (pLaw_F hL hs' d4) d3.1 hs' hH (by omega) (by omega)
  obtain ⟨g1, g2, g3, g4, g5, g6, g7, g8⟩ := d4
  have hr := d3.1.2.2
  have hb := d3.2.2.2.2
  have x7 : ∀ i, i ≠ 9 → i ≠ 10 → (i < 18 ∨ 87 < i) → N3 802 i = N2 802 i := fun i h1 h2 h3 => e10 i h1 h2 (fun t t0 t1 => by omega)
  have h8 : N3 802 8 = N 802 8 := by rw [x7 8 (by decide) (by decide) (by decide)]; exact g7 8 (by decide) (by decide)
  have m11 : M3 s 11 = N3 802 8 := by rw [e7 11 (by decide) (by decide), hr.1.1, x7 8 (by decide) (by decide) (by decide)]
  have hN9 := d3.1.1.1
  have hv8 := hv.2.2.1
  have hSh := d3.1.2.1
  unfold f_X1_passOne f_X12_pass
  have d1' : f_X1_passOne_L4 nA s 0 0 M = some ((p : Int), M2) := d1
  rw [d1', c1, Option.bind_some, Option.bind_some, d2, Option.bind_some]
  dsimp only
  rw [e1, e2, Option.bind_some, Option.bind_some, p_bitc (by have := d3.2.1; omega)]
  simp only [p_lt]
  rw [m11, h8, p_wI (x := N 802 8 + 1) (by omega) (by omega)]
  refine ⟨_, _, _, rfl, rfl, by omega, by omega, fun k0 k1 => ?_, ⟨⟨?_, fun i i0 i1 => ?_⟩, ⟨?_, fun i i0 i1 => ?_⟩, ⟨?_, ?_, ?_⟩, ?_, ?_, ?_, ?_⟩, up_eq, ?_, fun x h1 h2 h3 h4 j => ?_, fun x h1 h2 j => ?_, fun j h1 h2 => ?_, ?_, fun i i0 i1 => ?_, fun z i i0 => ?_, fun i i0 i1 => ?_⟩
  · rw [up_nex (by decide), e9 29 (by decide)]
    exact d3.2.2.2.1 k0 k1
  · rw [up_nei (by decide), up_nei (by decide)]
    exact e3.1
  · rw [up_nei (by decide)] at i1
    simp (disch := omega) only [up_nex, up_nei]
    exact e3.2 i i0 i1
  · rw [up_nei (by decide), up_nei (by decide), e7 6 (by decide) (by decide), x7 1 (by decide) (by decide) (by decide)]
    exact hSh.1
  · rw [up_nei (by decide), x7 1 (by decide) (by decide) (by decide)] at i1
    simp (disch := omega) only [up_nex, up_nei]
    rw [e6 (s + 6) (by omega) (by omega) (by omega) (by omega) (by omega) (by omega), e6 (s + 7) (by omega) (by omega) (by omega) (by omega) (by omega) (by omega), e6 (s + 8) (by omega) (by omega) (by omega) (by omega) (by omega) (by omega), e6 (s + 9) (by omega) (by omega) (by omega) (by omega) (by omega) (by omega),
      x7 (88 + 6 * i) (by omega) (by omega) (by omega), x7 (89 + 6 * i) (by omega) (by omega) (by omega), x7 (90 + 6 * i) (by omega) (by omega) (by omega), x7 (91 + 6 * i) (by omega) (by omega) (by omega), x7 0 (by decide) (by decide) (by decide)]
    exact hSh.2 i i0 i1
  · rw [up_eq, up_eq]
  · rw [up_eq]; have := hr.1; have := g7 8 (by decide) (by decide); omega
  · rw [up_eq]; omega
  · rw [up_nei (by decide), up_nei (by decide)]; exact e4
  · rw [up_nei (by decide), up_nei (by decide)]; exact e5
  · rw [up_nei (by decide), up_nei (by decide), e7 14 (by decide) (by decide), x7 11 (by decide) (by decide) (by decide)]; exact hr.2.2.2.1
  · rw [up_nei (by decide), e7 15 (by decide) (by decide)]; exact hr.2.2.2.2
  · rw [up_nex (by decide), e9 28 (by decide), up_nei (by decide), x7 12 (by decide) (by decide) (by decide)]
    rcases hb with ⟨z, z1, z2, b1, b2, b3⟩ | ⟨z, z1, z2⟩
    · refine Or.inl ⟨z, z1, z2, ?_, b2, fun i i0 i1 => ?_⟩
      · subst z
        rw [up_nei (by decide), e7 15 (by decide) (by decide)]; exact b1
      · subst z
        rw [up_nex (by decide), e6 (3 + 10) (by decide) (by decide) (by decide) (by decide) (by decide) (by decide), up_nei (by omega), x7 _ (by omega) (by omega) (by omega)]
        exact b3 i i0 i1
    · exact Or.inr ⟨z, z1, z2⟩
  · rw [up_nex (by omega), e6 x h2 h3 h4 (by omega) (by omega) (by omega)]
    exact g1 x h1 h2 j
  · rw [up_nex (by omega), e8 x (by omega) (by omega) (by omega) (by omega) (by omega) (by omega)]
    exact g2 x h1 (by omega) j
  · rw [up_nex (by decide), e9 j h1]
    exact g3 j h1 h2
  · refine pStat_trans g4 ⟨fun i hi => ?_, fun t s0 s1 => ⟨?_, ?_, ?_, ?_⟩, fun t s0 s1 => ⟨?_, ?_, ?_⟩⟩
    all_goals (rw [up_nei (by omega)]; exact e10 _ (by omega) (by omega) (fun q q0 q1 => by omega))
  · rw [up_nei (by omega), x7 i (by omega) (by omega) (by omega)]
    exact g5 i i0 (fun t t0 t1 => i1 t (by omega) (by omega))
  · rw [up_nei (by omega), x7 i (by omega) (by omega) (by omega)]
    exact g6 z i i0
  · rw [up_nei (by omega), up_nei (by omega), x7 (90 + 6 * i) (by omega) (by omega) (by omega), x7 (89 + 6 * i) (by omega) (by omega) (by omega)]
    exact g8 i i0 i1
