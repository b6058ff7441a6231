set_option linter.unusedVariables false
set_option linter.unusedSimpArgs false
theorem l_undoN {N : Mem} {n : Nat} {x : Int} (hn : 100 ≤ n) (h4 : 0 < N 802 4) (h30 : N 802 4 ≤ 30) (n0 : 0 ≤ N 802 0) (n9 : N 802 0 ≤ 9) (s0 : 0 ≤ N 802 1) (s7 : N 802 1 ≤ 7) (hx : x = 186 + 64 * (N 802 4 - 1)) :
    ∃ N', f_X12_undo n N = some (N 802 4 - 1, N') ∧ (∀ y, y ≠ 802 → ∀ j, N' y j = N y j) ∧ N' 802 4 = N 802 4 - 1 ∧ (N' 802 8 = N 802 (x + 2) ∧ N' 802 9 = N 802 (x + 3) ∧ N' 802 10 = N 802 (x + 4) ∧ N' 802 11 = N 802 (x + 5) ∧ N' 802 12 = N 802 (x + 6))
      ∧ (∀ j, j ≠ 4 → ¬ (8 ≤ j ∧ j < 13) → (∀ t, 0 ≤ t → t < N 802 0 → ¬ (17 + 8 * t ≤ j ∧ j < 21 + 8 * t)) → (∀ t, 0 ≤ t → t < N 802 1 → ¬ (89 + 6 * t ≤ j ∧ j < 92 + 6 * t)) → N' 802 j = N 802 j)
      ∧ (∀ t, 0 ≤ t → t < N 802 0 → t < N 802 x → N' 802 (17 + 8 * t) = N 802 (x + 7 + 4 * t) ∧ N' 802 (18 + 8 * t) = N 802 (x + 8 + 4 * t) ∧ N' 802 (19 + 8 * t) = N 802 (x + 9 + 4 * t) ∧ N' 802 (20 + 8 * t) = N 802 (x + 10 + 4 * t))
      ∧ (∀ t, 0 ≤ t → t < N 802 0 → N 802 x ≤ t → N' 802 (17 + 8 * t) = N 802 (21 + 8 * t) ∧ N' 802 (18 + 8 * t) = N 802 (22 + 8 * t) ∧ N' 802 (19 + 8 * t) = N 802 (23 + 8 * t) ∧ N' 802 (20 + 8 * t) = 0)
      ∧ (∀ t, 0 ≤ t → t < N 802 1 → t < N 802 (x + 1) → N' 802 (89 + 6 * t) = N 802 (x + 43 + 3 * t) ∧ N' 802 (90 + 6 * t) = N 802 (x + 44 + 3 * t) ∧ N' 802 (91 + 6 * t) = N 802 (x + 45 + 3 * t))
      ∧ (∀ t, 0 ≤ t → t < N 802 1 → N 802 (x + 1) ≤ t → N' 802 (89 + 6 * t) = N 802 (92 + 6 * t) ∧ N' 802 (90 + 6 * t) = N 802 (93 + 6 * t) ∧ N' 802 (91 + 6 * t) = 0) := by
  have hx1 : 186 ≤ x := by omega
  have hx2 : x ≤ 2042 := by omega
  unfold f_X12_undo
  rw [if_pos (by omega), p_wI (x := N 802 4 - 1) (by omega) (by omega)]
  simp only [p_lt]
  rw [up_eq, p_wI (x := 64 * (N 802 4 - 1)) (by omega) (by omega), p_wI (x := 186 + 64 * (N 802 4 - 1)) (by omega) (by omega), ← hx]
  obtain ⟨N2, a1, a2, a3, a4, a5, a6, a7, a8⟩ := l_und37 (N := upM N 802 4 (N 802 4 - 1)) (n - 6) hx1 hx2
  rw [show n - 6 + 6 = n by omega] at a1
  have e2 : ∀ j, j ≠ 4 → ¬ (8 ≤ j ∧ j < 13) → N2 802 j = N 802 j := fun j h1 h2 => by rw [a3 j h2, up_nei h1]
  rw [up_nei (by omega)] at a4 a5 a6 a7 a8
  have z0 : N2 802 0 = N 802 0 := e2 0 (by decide) (by decide)
  have z1 : N2 802 1 = N 802 1 := e2 1 (by decide) (by decide)
  have zx : N2 802 x = N 802 x := e2 x (by omega) (by omega)
  have zx1 : N2 802 (x + 1) = N 802 (x + 1) := e2 (x + 1) (by omega) (by omega)
  obtain ⟨N3, b1, b2, b3, -, b5, b6⟩ := l_und69 (A := N2 802) hx1 hx2 (by omega) 20 n 0 N2 (by omega) (by omega) (by omega) (by omega) (fun j _ => rfl)
  have e3 : ∀ j, (∀ t, 0 ≤ t → t < N 802 0 → ¬ (17 + 8 * t ≤ j ∧ j < 21 + 8 * t)) → N3 802 j = N2 802 j := fun j hj => b3 j (fun t t0 t1 => by omega) (fun t t0 t1 => hj t t0 (by omega))
  have y1 : N3 802 1 = N 802 1 := by rw [e3 1 (fun t t0 t1 => by omega), z1]
  have yx1 : N3 802 (x + 1) = N 802 (x + 1) := by rw [e3 (x + 1) (fun t t0 t1 => by omega), zx1]
  obtain ⟨N4, c1, c2, c3, -, c5, c6⟩ := l_und108 (A := N3 802) hx1 hx2 (by omega) 20 n 0 N3 (by omega) (by omega) (by omega) (by omega) (fun j _ => rfl)
  have e4 : ∀ j, (∀ t, 0 ≤ t → t < N 802 1 → ¬ (89 + 6 * t ≤ j ∧ j < 92 + 6 * t)) → N4 802 j = N3 802 j := fun j hj => c3 j (fun t t0 t1 => by omega) (fun t t0 t1 => hj t t0 (by omega))
  have lo : ∀ j, j < 89 → N4 802 j = N3 802 j := fun j hj => e4 j (fun t t0 t1 => by omega)
  have f3 : ∀ j, (j < 17 ∨ 89 ≤ j) → N3 802 j = N2 802 j := fun j hj => e3 j (fun t t0 t1 => by omega)
  rw [a1, Option.bind_some, b1, Option.bind_some, c1, Option.bind_some]
  have k4 : N4 802 4 = N 802 4 - 1 := by rw [lo 4 (by decide), f3 4 (by decide), a3 4 (by decide), up_eq]
  rw [k4]
  refine ⟨N4, rfl, fun y hy j => by rw [c2 y hy, b2 y hy, a2 y hy, up_nex hy], k4, ⟨?_, ?_, ?_, ?_, ?_⟩, fun j h1 h2 h3 h5 => by rw [e4 j h5, e3 j h3, e2 j h1 h2], fun t t0 t1 t2 => ?_, fun t t0 t1 t2 => ?_, fun t t0 t1 t2 => ?_, fun t t0 t1 t2 => ?_⟩
  · rw [lo 8 (by decide), f3 8 (by decide), a4]
  · rw [lo 9 (by decide), f3 9 (by decide), a5]
  · rw [lo 10 (by decide), f3 10 (by decide), a6]
  · rw [lo 11 (by decide), f3 11 (by decide), a7]
  · rw [lo 12 (by decide), f3 12 (by decide), a8]
  · rw [lo _ (by omega), lo _ (by omega), lo _ (by omega), lo _ (by omega)]
    have := b5 t t0 (by omega) (by omega)
    rw [e2 (x + 7 + 4 * t) (by omega) (by omega), e2 (x + 8 + 4 * t) (by omega) (by omega), e2 (x + 9 + 4 * t) (by omega) (by omega), e2 (x + 10 + 4 * t) (by omega) (by omega)] at this
    exact this
  · rw [lo _ (by omega), lo _ (by omega), lo _ (by omega), lo _ (by omega)]
    have := b6 t t0 (by omega) (by omega)
    rw [e2 (21 + 8 * t) (by omega) (by omega), e2 (22 + 8 * t) (by omega) (by omega), e2 (23 + 8 * t) (by omega) (by omega)] at this
    exact this
  · have := c5 t t0 (by omega) (by omega)
    rw [f3 (x + 43 + 3 * t) (by omega), f3 (x + 44 + 3 * t) (by omega), f3 (x + 45 + 3 * t) (by omega), e2 (x + 43 + 3 * t) (by omega) (by omega), e2 (x + 44 + 3 * t) (by omega) (by omega), e2 (x + 45 + 3 * t) (by omega) (by omega)] at this
    exact this
  · have := c6 t t0 (by omega) (by omega)
    rw [f3 (92 + 6 * t) (by omega), f3 (93 + 6 * t) (by omega), e2 (92 + 6 * t) (by omega) (by omega), e2 (93 + 6 * t) (by omega) (by omega)] at this
    exact this
theorem s_undo {M N : Mem} {nB : Nat} (h : pRel M N) (hB : 200 ≤ nB) : pSim (f_X11_undo M) (f_X12_undo nB N) N := by
  have hc := (pR_ctl h).1
  have h1 := pR_num h
  have hst := pR_step h
  have hsh := pR_ship h
  by_cases c0 : N 802 4 = 0
  · unfold f_X11_undo f_X0_takeBack f_X12_undo
    rw [if_neg (by omega), if_neg (by omega)]
    exact ⟨-1, M, N, rfl, rfl, h⟩
  · obtain ⟨x, hx⟩ : ∃ x, x = 186 + 64 * (N 802 4 - 1) := ⟨_, rfl⟩
    obtain ⟨N', n1, n2, n3, ⟨n8, n9, n10, n11, n12⟩, n4, n5, n6, n7, n13⟩ := l_undoN (n := nB) (x := x) (by omega) (by omega) (by omega) h1.1.2.1 h1.1.2.2 h1.2.1.2.1 h1.2.1.2.2 hx
    obtain ⟨a1, a2, a3, a4, a5, a6, a7, a8, a9, a10⟩ := h.1
    have ch := pChain a5 30 (N 802 4 - 1) (by omega) (by omega) (by omega)
    obtain ⟨b1, b2, b3, b4, b5, b6⟩ := a5
    obtain ⟨d1, d2, d3⟩ := b4 (N 802 4 - 1) (by omega) (by omega)
    have nx := b6 (by omega)
    obtain ⟨p, hp⟩ : ∃ p, p = pActAt M 2 (N 802) (N 802 4 - 1) := ⟨_, rfl⟩
    rw [← hx] at d1 d2 d3 nx ch
    rw [← hp] at d2 d3
    have hp2 : p = 16 + 11 * ((M 14 1 + 29) % 30) := by rw [hp]; unfold pActAt; show 2 + 14 + 11 * ((M 14 1 - N 802 4 + (N 802 4 - 1)) % 30) = _; omega
    have hps : isSea p := Or.inr (Or.inr (Or.inr (Or.inl ⟨(M 14 1 + 29) % 30, by omega, by omega, hp2⟩)))
    have hpb := h.2.2.1 p hps
    generalize hM3 : upM (upM M 14 1 ((M 14 1 + 29) % 30)) 14 2 (N 802 4 - 1) = M3
    have m3 : ∀ y, y ≠ 14 → ∀ j, M3 y j = M y j := fun y hy j => by rw [← hM3, up_nex hy, up_nex hy]
    have m31 : M3 14 1 = (M 14 1 + 29) % 30 := by rw [← hM3, up_nei (by decide), up_eq]
    have m32 : M3 14 2 = N 802 4 - 1 := by rw [← hM3, up_eq]
    have m3p : ∀ i, M3 p i = M p i := m3 p (by omega)
    obtain ⟨M', g1, g2, g3, g4, g5, g6, g7, g8, g9, g10, g11, g12, g13, g14, g15, g16⟩ := l_goBack (M := M3) (k := 3) (p := p) (by omega) (by rw [m3p]; exact hpb.1) (by rw [m3p]; exact hpb.2.1) (by rw [m3p]; exact hpb.2.2)
    have e1 : f_X11_undo M = some (N 802 4 - 1, M') := by
      unfold f_X11_undo f_X0_takeBack
      rw [if_pos (by omega), p_wI (x := M 14 1 + 30) (by omega) (by omega), p_wI (x := M 14 1 + 30 - 1) (by omega) (by omega), p_iRem (by omega), show M 14 1 + 30 - 1 = M 14 1 + 29 by omega]
      simp only [p_lt]
      have u2 : upM M 14 1 ((M 14 1 + 29) % 30) 14 2 = M 14 2 := up_nei (by decide)
      rw [u2, hc.1, p_wI (x := N 802 4 - 1) (by omega) (by omega), hM3, m31, p_ck (by omega), show (14 : Int) + 2 + 11 * ((M 14 1 + 29) % 30) = p by omega, g1]
      rw [Option.bind_some, Option.bind_some, g2 14 (by omega), m32]
    rw [e1, n1]
    refine ⟨_, M', N', rfl, rfl, ?_⟩
    -- the class's cells
    have eM : ∀ y, ¬ (3 ≤ y ∧ y < 15) → ∀ j, M' y j = M y j := fun y hy j => by rw [g2 y (by omega), m3 y (by omega)]
    have e14 : M' 14 1 = (M 14 1 + 29) % 30 ∧ M' 14 2 = N 802 4 - 1 := ⟨by rw [g2 14 (by omega), m31], by rw [g2 14 (by omega), m32]⟩
    rw [m3p] at g7 g8 g9 g10 g11
    simp only [m3p] at g12 g13 g14 g15 g16
    rw [m3 3 (by decide)] at g3 g4
    -- what the act says
    obtain ⟨q0, q1, q2, q3, q4, q5, q6, q7⟩ := d2
    change M p 0 = N 802 x at q0
    change M p 6 = N 802 (x + 1) at q1
    change M p 11 = N 802 (x + 2) at q2
    change M p 12 = N 802 (x + 3) at q3
    change M p 13 = N 802 (x + 4) at q4
    change M p 14 = N 802 (x + 5) at q5
    obtain ⟨r0, r1, r2, r3, r4, r5, r6, r7, r8⟩ := d1
    change 0 ≤ N 802 x ∧ N 802 x ≤ 9 at r0
    change 0 ≤ N 802 (x + 1) ∧ N 802 (x + 1) ≤ 7 at r1
    change 0 ≤ N 802 (x + 2) ∧ N 802 (x + 2) ≤ 9999 at r2
    change 0 ≤ N 802 (x + 3) ∧ N 802 (x + 3) ≤ 99999999 at r3
    change 0 ≤ N 802 (x + 4) ∧ N 802 (x + 4) ≤ 99999999 at r4
    change 0 ≤ N 802 (x + 5) ∧ N 802 (x + 5) ≤ 30312 at r5
    change 0 ≤ N 802 (x + 6) ∧ N 802 (x + 6) ≤ 7 * N 802 (x + 2) at r6
    obtain ⟨x0, x1, x2, x3, x4, x5⟩ := nx
    change N 802 x ≤ N 802 0 at x0
    change N 802 (x + 1) ≤ N 802 1 at x1
    change N 802 (x + 6) ≤ N 802 12 at x2
    have k0 : N' 802 0 = N 802 0 := n4 0 (by decide) (by decide) (fun t t0 t1 => by omega) (fun t t0 t1 => by omega)
    have k1 : N' 802 1 = N 802 1 := n4 1 (by decide) (by decide) (fun t t0 t1 => by omega) (fun t t0 t1 => by omega)
    have hi : ∀ j, 130 ≤ j → N' 802 j = N 802 j := fun j hj => n4 j (by omega) (by omega) (fun t t0 t1 => by omega) (fun t t0 t1 => by omega)
    have lo : ∀ j, j < 8 → j ≠ 4 → N' 802 j = N 802 j := fun j hj h4 => n4 j h4 (by omega) (fun t t0 t1 => by omega) (fun t t0 t1 => by omega)
    have stt : ∀ i, 0 ≤ i → i < 9 → N' 802 (16 + 8 * i) = N 802 (16 + 8 * i) ∧ N' 802 (21 + 8 * i) = N 802 (21 + 8 * i) ∧ N' 802 (22 + 8 * i) = N 802 (22 + 8 * i) ∧ N' 802 (23 + 8 * i) = N 802 (23 + 8 * i) := fun i i0 i1 =>
      ⟨n4 _ (by omega) (by omega) (fun t t0 t1 => by omega) (fun t t0 t1 => by omega), n4 _ (by omega) (by omega) (fun t t0 t1 => by omega) (fun t t0 t1 => by omega), n4 _ (by omega) (by omega) (fun t t0 t1 => by omega) (fun t t0 t1 => by omega), n4 _ (by omega) (by omega) (fun t t0 t1 => by omega) (fun t t0 t1 => by omega)⟩
    have sht : ∀ i, 0 ≤ i → i < 7 → N' 802 (88 + 6 * i) = N 802 (88 + 6 * i) ∧ N' 802 (92 + 6 * i) = N 802 (92 + 6 * i) ∧ N' 802 (93 + 6 * i) = N 802 (93 + 6 * i) := fun i i0 i1 =>
      ⟨n4 _ (by omega) (by omega) (fun t t0 t1 => by omega) (fun t t0 t1 => by omega), n4 _ (by omega) (by omega) (fun t t0 t1 => by omega) (fun t t0 t1 => by omega), n4 _ (by omega) (by omega) (fun t t0 t1 => by omega) (fun t t0 t1 => by omega)⟩
    -- the steps and the ships, as both have them now
    have stn : ∀ i, 0 ≤ i → i < N 802 0 → (M' 5 i = N' 802 (17 + 8 * i) ∧ 0 ≤ N' 802 (17 + 8 * i) ∧ N' 802 (17 + 8 * i) ≤ 99) ∧ (M' 6 i = N' 802 (18 + 8 * i) ∧ 0 ≤ N' 802 (18 + 8 * i) ∧ N' 802 (18 + 8 * i) ≤ 999) ∧ (M' 7 i = N' 802 (19 + 8 * i) ∧ 0 ≤ N' 802 (19 + 8 * i) ∧ N' 802 (19 + 8 * i) ≤ 999) ∧ (M' 8 i = N' 802 (20 + 8 * i) ∧ 0 ≤ N' 802 (20 + 8 * i) ∧ N' 802 (20 + 8 * i) ≤ 100) := by
      intro i i0 i1
      by_cases c : i < N 802 x
      · have z := g12 i i0 (by omega)
        have z2 := n5 i i0 i1 c
        have z3 := q6 i i0 c
        have z4 := r7 i i0 c
        change M (p + 2) i = N 802 (x + 7 + 4 * i) ∧ M (p + 3) i = N 802 (x + 8 + 4 * i) ∧ M (p + 4) i = N 802 (x + 9 + 4 * i) ∧ M (p + 5) i = N 802 (x + 10 + 4 * i) at z3
        change (0 ≤ N 802 (x + 7 + 4 * i) ∧ N 802 (x + 7 + 4 * i) ≤ 99) ∧ (0 ≤ N 802 (x + 8 + 4 * i) ∧ N 802 (x + 8 + 4 * i) ≤ 999) ∧ (0 ≤ N 802 (x + 9 + 4 * i) ∧ N 802 (x + 9 + 4 * i) ≤ 999) ∧ (0 ≤ N 802 (x + 10 + 4 * i) ∧ N 802 (x + 10 + 4 * i) ≤ 100) ∧ _ at z4
        rw [m3 (p + 2) (by omega), m3 (p + 3) (by omega), m3 (p + 4) (by omega), m3 (p + 5) (by omega)] at z
        rw [z2.1, z2.2.1, z2.2.2.1, z2.2.2.2]
        exact ⟨⟨z.1.trans z3.1, z4.1⟩, ⟨z.2.1.trans z3.2.1, z4.2.1⟩, ⟨z.2.2.1.trans z3.2.2.1, z4.2.2.1⟩, ⟨z.2.2.2.trans z3.2.2.2, z4.2.2.2.1⟩⟩
      · have z := g13 i (by omega)
        have z2 := n6 i i0 i1 (by omega)
        have z3 := x4 i (by show N 802 x ≤ i; omega) i1
        change N 802 (17 + 8 * i) = N 802 (21 + 8 * i) ∧ N 802 (18 + 8 * i) = N 802 (22 + 8 * i) ∧ N 802 (19 + 8 * i) = N 802 (23 + 8 * i) ∧ N 802 (20 + 8 * i) = 0 at z3
        have z4 := hst i i0 i1
        rw [m3 (3 + 2) (by decide), m3 (3 + 3) (by decide), m3 (3 + 4) (by decide), m3 (3 + 5) (by decide)] at z
        rw [z2.1, z2.2.1, z2.2.2.1, z2.2.2.2, ← z3.1, ← z3.2.1, ← z3.2.2.1]
        exact ⟨⟨z.1.trans z4.2.1.1, z4.2.1.2⟩, ⟨z.2.1.trans z4.2.2.1.1, z4.2.2.1.2⟩, ⟨z.2.2.1.trans z4.2.2.2.1.1, z4.2.2.2.1.2⟩, ⟨z.2.2.2.trans (z4.2.2.2.2.1.trans z3.2.2.2), by decide, by decide⟩⟩
    have shn : ∀ i, 0 ≤ i → i < N 802 1 → (M' 10 i = N' 802 (89 + 6 * i) ∧ 0 ≤ N' 802 (89 + 6 * i) ∧ N' 802 (89 + 6 * i) < N 802 0) ∧ (M' 11 i = N' 802 (90 + 6 * i) ∧ 0 ≤ N' 802 (90 + 6 * i) ∧ N' 802 (90 + 6 * i) < N 802 0) ∧ (M' 12 i = N' 802 (91 + 6 * i) ∧ 0 ≤ N' 802 (91 + 6 * i) ∧ N' 802 (91 + 6 * i) ≤ 99999) := by
      intro i i0 i1
      by_cases c : i < N 802 (x + 1)
      · have z := g14 i i0 (by omega)
        have z2 := n7 i i0 i1 c
        have z3 := q7 i i0 c
        have z4 := r8 i i0 c
        change M (p + 7) i = N 802 (x + 43 + 3 * i) ∧ M (p + 8) i = N 802 (x + 44 + 3 * i) ∧ M (p + 9) i = N 802 (x + 45 + 3 * i) at z3
        change (0 ≤ N 802 (x + 43 + 3 * i) ∧ N 802 (x + 43 + 3 * i) < N 802 x) ∧ (0 ≤ N 802 (x + 44 + 3 * i) ∧ N 802 (x + 44 + 3 * i) < N 802 x) ∧ (0 ≤ N 802 (x + 45 + 3 * i) ∧ N 802 (x + 45 + 3 * i) ≤ 99999) ∧ _ at z4
        rw [m3 (p + 7) (by omega), m3 (p + 8) (by omega), m3 (p + 9) (by omega)] at z
        rw [z2.1, z2.2.1, z2.2.2]
        exact ⟨⟨z.1.trans z3.1, by omega, by omega⟩, ⟨z.2.1.trans z3.2.1, by omega, by omega⟩, ⟨z.2.2.trans z3.2.2, z4.2.2.1⟩⟩
      · have z := g15 i (by omega)
        have z2 := n13 i i0 i1 (by omega)
        have z3 := x5 i (by show N 802 (x + 1) ≤ i; omega) i1
        change N 802 (89 + 6 * i) = N 802 (92 + 6 * i) ∧ N 802 (90 + 6 * i) = N 802 (93 + 6 * i) ∧ N 802 (91 + 6 * i) = 0 at z3
        have z4 := hsh i i0 i1
        rw [m3 (3 + 7) (by decide), m3 (3 + 8) (by decide), m3 (3 + 9) (by decide)] at z
        rw [z2.1, z2.2.1, z2.2.2, ← z3.1, ← z3.2.1]
        exact ⟨⟨z.1.trans z4.2.1.1, z4.2.1.2⟩, ⟨z.2.1.trans z4.2.2.1.1, z4.2.2.1.2⟩, ⟨z.2.2.trans (z4.2.2.2.1.trans z3.2.2), by decide, by decide⟩⟩
    refine pRel_now h (eM 0 (by decide) 0) (fun y y0 y1 _ _ => eM y (by omega)) ?_ (fun s hs s1 => ?_) ⟨?_, ?_, ?_, ?_, ?_, ?_, ?_, ?_, ?_, ?_⟩ (eM 2 (by decide) 3) (eM 2 (by decide) 4) (fun y y0 y1 => n2 y (by omega)) ⟨n2 801 (by decide) _, n2 801 (by decide) _, n2 801 (by decide) _, n2 801 (by decide) _⟩
    · rw [eM 762 (by decide), eM 762 (by decide), eM 762 (by decide)]
      exact h.2.2.1 762 (Or.inr (Or.inr (Or.inl rfl)))
    · by_cases q : s = 3
      · subst q
        rw [g3, g4, g11]
        have := h.2.2.1 3 (Or.inl rfl)
        exact ⟨this.1, this.2.1, hpb.2.2⟩
      · have : ¬ (3 ≤ s ∧ s < 15) := by rcases hs with r | r | r | ⟨j, r⟩ | ⟨j, r⟩ <;> omega
        rw [eM s this, eM s this, eM s this]
        exact h.2.2.1 s hs
    · refine ⟨by show 0 ≤ N' 802 0 ∧ N' 802 0 ≤ 9; rw [k0]; exact h1.1.2, by show 0 ≤ N' 802 1 ∧ N' 802 1 ≤ 7; rw [k1]; exact h1.2.1.2, by show 0 ≤ N' 802 8 ∧ N' 802 8 ≤ _; rw [n8]; exact r2, by show 0 ≤ N' 802 9 ∧ N' 802 9 ≤ _; rw [n9]; exact r3, by show 0 ≤ N' 802 10 ∧ N' 802 10 ≤ _; rw [n10]; exact r4, by show 0 ≤ N' 802 11 ∧ N' 802 11 ≤ _; rw [n11]; exact r5, by show 0 ≤ N' 802 12 ∧ N' 802 12 ≤ 7 * N' 802 8; rw [n12, n8]; exact r6, fun i i0 i1 => ?_, fun i i0 i1 => ?_⟩
      · change i < N' 802 0 at i1
        rw [k0] at i1
        have z := stn i i0 i1
        exact ⟨z.1.2, z.2.1.2, z.2.2.1.2, z.2.2.2.2, by show 1 ≤ N' 802 (16 + 8 * i) ∧ N' 802 (16 + 8 * i) ≤ 99; rw [(stt i i0 (by omega)).1]; exact (hst i i0 i1).1.2⟩
      · change i < N' 802 1 at i1
        rw [k1] at i1
        have z := shn i i0 i1
        refine ⟨?_, ?_, z.2.2.2, by show 1 ≤ N' 802 (88 + 6 * i) ∧ N' 802 (88 + 6 * i) ≤ 99; rw [(sht i i0 (by omega)).1]; exact (hsh i i0 i1).1.2⟩
        · show 0 ≤ N' 802 (89 + 6 * i) ∧ N' 802 (89 + 6 * i) < N' 802 0
          rw [k0]; exact z.1.2
        · show 0 ≤ N' 802 (90 + 6 * i) ∧ N' 802 (90 + 6 * i) < N' 802 0
          rw [k0]; exact z.2.1.2
    · refine ⟨by show M' 3 0 = N' 802 0; rw [g3, k0]; exact h1.1.1, by show M' 3 6 = N' 802 1; rw [g4, k1]; exact h1.2.1.1, by show M' 3 11 = N' 802 8; rw [g7, n8, q2], by show M' 3 12 = N' 802 9; rw [g8, n9, q3], by show M' 3 13 = N' 802 10; rw [g9, n10, q4], by show M' 3 14 = N' 802 11; rw [g10, n11, q5], fun i i0 i1 => ?_, fun i i0 i1 => ?_⟩
      · change i < N' 802 0 at i1
        rw [k0] at i1
        have z := stn i i0 i1
        exact ⟨z.1.1, z.2.1.1, z.2.2.1.1, z.2.2.2.1⟩
      · change i < N' 802 1 at i1
        rw [k1] at i1
        have z := shn i i0 i1
        exact ⟨z.1.1, z.2.1.1, z.2.2.1⟩
    · refine ⟨fun i i0 i1 => ?_, fun i i0 i1 => ?_⟩
      · change i < N' 802 0 at i1
        rw [k0] at i1
        show M' 4 i = N' 802 (16 + 8 * i)
        rw [(stt i i0 (by omega)).1, ← (hst i i0 i1).1.1]
        rw [show (4 : Int) = 3 + 1 by decide, g5, m3 (3 + 1) (by decide)]
      · change i < N' 802 1 at i1
        rw [k1] at i1
        show M' 9 i = N' 802 (88 + 6 * i)
        rw [(sht i i0 (by omega)).1, ← (hsh i i0 i1).1.1]
        rw [show (9 : Int) = 3 + 6 by decide, g6, m3 (3 + 6) (by decide)]
    · rw [n12]
      obtain ⟨w1, w2, w3⟩ := d3
      refine ⟨by show M' 3 15 = _; rw [g11]; exact w1, w2, fun i i0 i1 => ?_⟩
      have z := g16 i i0 (by omega)
      show pPg (M' (3 + 10) i) _
      rw [z, m3 (p + 10) (by omega), hi _ (by omega)]
      exact w3 i i0 i1
    · have sR : ∀ j, 0 ≤ j → j < N 802 4 → pSame (pvR (N' 802) (186 + 64 * j)) (pvR (N 802) (186 + 64 * j)) := by
        intro j j0 j1
        have q := (b4 j j0 j1).1
        have q0 : N 802 (186 + 64 * j) ≤ 9 := q.1.2
        have q1 : N 802 (186 + 64 * j + 1) ≤ 7 := q.2.1.2
        refine ⟨⟨hi _ (by omega), hi _ (by omega), hi _ (by omega), hi _ (by omega), hi _ (by omega), hi _ (by omega), hi _ (by omega)⟩, fun i i0 i1 => ?_, fun i i0 i1 => ?_⟩
        · change i < N 802 (186 + 64 * j) at i1
          exact ⟨hi _ (by omega), hi _ (by omega), hi _ (by omega), hi _ (by omega), (stt i i0 (by omega)).1⟩
        · change i < N 802 (186 + 64 * j + 1) at i1
          exact ⟨hi _ (by omega), hi _ (by omega), hi _ (by omega), (sht i i0 (by omega)).1⟩
      refine ⟨by show 0 ≤ M' 14 1 ∧ M' 14 1 < 30; rw [e14.1]; omega, by show M' 14 2 = _; rw [e14.2, n3], by rw [n3]; omega, fun j j0 j1 => ?_, fun j j0 j1 => ?_, fun j0 => ?_⟩
      · rw [n3] at j1
        obtain ⟨u1, u2, u3⟩ := b4 j j0 (by omega)
        have ec : pActAt M' 2 (N' 802) j = pActAt M 2 (N 802) j := by
          unfold pActAt
          rw [n3]
          show 2 + 14 + 11 * ((M' 14 1 - (N 802 4 - 1) + j) % 30) = 2 + 14 + 11 * ((M 14 1 - N 802 4 + j) % 30)
          rw [e14.1]
          omega
        have ne : ∀ y, pActAt M 2 (N 802) j ≤ y → y < pActAt M 2 (N 802) j + 11 → ∀ i, M' y i = M y i := by
          intro y y0 y1
          unfold pActAt at y0 y1
          exact eM y (by omega)
        unfold pAct
        rw [ec, pvM_same ne, hi (186 + 64 * j + 6) (by omega)]
        exact ⟨pOK_same (sR j j0 (by omega)) u1, pEq_same (sR j j0 (by omega)) u2, pBook_same ne (fun i hj => hi i (by omega)) u3⟩
      · rw [n3] at j1
        obtain ⟨u1, u2, u3, u4, u5, u6⟩ := b5 j j0 (by omega)
        obtain ⟨⟨v0, v1, v2, v3, v4, v5, v6⟩, vf, vg⟩ := sR j j0 (by omega)
        obtain ⟨⟨w0, w1, w2, w3, w4, w5, w6⟩, wf, wg⟩ := sR (j + 1) (by omega) (by omega)
        have q1 := (b4 j j0 (by omega)).1
        have q2 := (b4 (j + 1) (by omega) (by omega)).1
        have q10 := q1.1
        have q11 := q1.2.1
        have q20 := q2.1
        have q21 := q2.2.1
        refine ⟨by omega, by omega, by omega, by omega, fun i i0 i1 => ?_, fun i i0 i1 => ?_⟩
        · obtain ⟨y1, y2, y3, y4, -⟩ := wf i (by omega) (by omega)
          have z := stt i (by omega) (by omega)
          rw [y1, y2, y3, y4, z.2.1, z.2.2.1, z.2.2.2]
          exact u5 i (by omega) (by omega)
        · obtain ⟨y1, y2, y3, -⟩ := wg i (by omega) (by omega)
          have z := sht i (by omega) (by omega)
          rw [y1, y2, y3, z.2.1, z.2.2]
          exact u6 i (by omega) (by omega)
      · rw [n3] at j0
        rw [n3]
        obtain ⟨u1, u2, u3, u4, u5, u6⟩ := b5 (N 802 4 - 1 - 1) (by omega) (by omega)
        rw [show N 802 4 - 1 - 1 + 1 = N 802 4 - 1 by omega, ← hx] at u1 u2 u3 u4 u5 u6
        change _ ≤ N 802 x at u1
        change _ ≤ N 802 (x + 1) at u2
        change _ ≤ N 802 (x + 6) at u3
        change N 802 (x + 6) ≤ _ at u4
        obtain ⟨⟨v0, v1, v2, v3, v4, v5, v6⟩, vf, vg⟩ := sR (N 802 4 - 1 - 1) (by omega) (by omega)
        have q1 := (b4 (N 802 4 - 1 - 1) (by omega) (by omega)).1
        have q10 := q1.1
        have q11 := q1.2.1
        refine ⟨by show _ ≤ N' 802 0; omega, by show _ ≤ N' 802 1; omega, by show _ ≤ N' 802 12; omega, by show N' 802 12 ≤ _; omega, fun i i0 i1 => ?_, fun i i0 i1 => ?_⟩
        · change i < N' 802 0 at i1
          show N' 802 (17 + 8 * i) = _ ∧ N' 802 (18 + 8 * i) = _ ∧ N' 802 (19 + 8 * i) = _ ∧ N' 802 (20 + 8 * i) = _
          have z := stt i (by omega) (by omega)
          rw [z.2.1, z.2.2.1, z.2.2.2]
          by_cases c : i < N 802 x
          · have z2 := n5 i (by omega) (by omega) c
            have z3 := u5 i (by omega) c
            rw [z2.1, z2.2.1, z2.2.2.1, z2.2.2.2]
            exact z3
          · exact n6 i (by omega) (by omega) (by omega)
        · change i < N' 802 1 at i1
          show N' 802 (89 + 6 * i) = _ ∧ N' 802 (90 + 6 * i) = _ ∧ N' 802 (91 + 6 * i) = _
          have z := sht i (by omega) (by omega)
          rw [z.2.1, z.2.2]
          by_cases c : i < N 802 (x + 1)
          · have z2 := n7 i (by omega) (by omega) c
            have z3 := u6 i (by omega) c
            rw [z2.1, z2.2.1, z2.2.2]
            exact z3
          · exact n13 i (by omega) (by omega) (by omega)
    · exact pTold_same (fun y y0 y1 y2 => eM y (by omega)) (fun i hj => by rcases hj with q | q; exact lo i (by omega) (by omega); exact hi i (by omega)) a6
    · rw [eM 2 (by decide), lo 2 (by decide) (by decide)]; exact a7
    · rw [lo 2 (by decide) (by decide)]; exact a8
    · rw [eM 2 (by decide), lo 3 (by decide) (by decide)]; exact a9
    · rw [lo 3 (by decide) (by decide), lo 2 (by decide) (by decide)]; exact a10
