set_option linter.unusedVariables false
set_option linter.unusedSimpArgs false
/-! text: clause after clause -/
theorem l_clauses {c x l p0 : Int} (hc : pCx c x) : ∀ (f nA nB : Nat) (x3 : Int) (M N : Mem), 301 - N 801 8 < f → f + 1400 ≤ nA → f + 1400 ≤ nB → 0 ≤ x3 → x3 ≤ N 801 8 → pRd M N c x l →
    qCl c x M N (f_X4_readInto_L35 nA p0 1 x3 M) (f_X12_readText_L43 nB N) (fun M' => some (1, M')) (fun M' N' => pRd M' N' c x l ∧ M' 703 2 = M 703 2 ∧ M' 703 3 = M 703 3) := by
  intro f
  induction f with
  | zero =>
    intro nA nB x3 M N g0 g1 g2 g3 g4 h
    have := h.1.2.1.2.2.2.2.2.1
    have := h.1.1.2.2.2.1
    omega
  | succ f ih =>
    intro nA nB x3 M N g0 g1 g2 g3 g4 h
    obtain ⟨nA, rfl⟩ : ∃ n', nA = n' + 1 := ⟨nA - 1, by omega⟩
    obtain ⟨nB, rfl⟩ : ∃ n', nB = n' + 1 := ⟨nB - 1, by omega⟩
    have b8 := h.1.2.1.2.2.2.2.2.1
    have b300 := h.1.1.2.2.2.1
    have kd : pKd M N := h.1.2.1.2.2.2.2.2.2.1
    have ka := kd_all kd
    rw [f_X4_readInto_L35, f_X12_readText_L43, if_neg (show ¬ 300 < x3 by omega), if_neg (by decide)]
    by_cases z : N 801 9 = 0
    · rw [if_pos (ka.2.1.mp z), if_pos z]
      exact Or.inl ⟨M, N, rfl, rfl, ⟨h, rfl, rfl⟩, fun _ _ _ _ => rfl, fun _ _ _ _ _ => rfl⟩
    · rw [if_neg (fun y => z (ka.2.1.mpr y)), if_neg z, p_wI (x := x3 + 1) (by omega) (by omega)]
      rcases l_clause (nA := nA) (nB := nB) hc h z (by omega) (by omega) with ⟨M', N', a1, a2, ⟨a3, a4, a5, a6⟩, a7, a8⟩ | ⟨M', N', e, a1, a2, a3, a4, a5, a6, a7⟩
      · rw [a1, a2, Option.bind_some, Option.bind_some, if_pos rfl]
        dsimp only
        rcases ih nA nB (x3 + 1) M' N' (by omega) (by omega) (by omega) (by omega) (by omega) a3 with ⟨M2, N2, d1, d2, ⟨d3, d4, d5⟩, d6, d7⟩ | ⟨M2, N2, e, d1, d2, d3, d4, d5, d6, d7⟩
        · exact Or.inl ⟨M2, N2, d1, d2, ⟨d3, by omega, by omega⟩, hM_trans a7 d6, hN_trans a8 d7⟩
        · exact Or.inr ⟨M2, N2, e, d1, d2, d3, d4, d5, hM_trans a7 d6, hN_trans a8 d7⟩
      · rw [a1, a2, Option.bind_some, Option.bind_some, if_neg a3]
        dsimp only
        obtain ⟨nA, rfl⟩ : ∃ n', nA = n' + 1 := ⟨nA - 1, by omega⟩
        rw [f_X4_readInto_L35]
        refine Or.inr ⟨M', N', e, ?_, rfl, a3, a4, a5, a6, a7⟩
        by_cases y : 300 < x3 + 1
        · rw [if_pos y]
        · rw [if_neg y, if_pos rfl]
/-- the class's text is emptied -/
theorem l_emptyL {c : Int} (hc : 773 ≤ c) : ∀ (f n : Nat) (i : Int) (M : Mem), 5 - i < f → f ≤ n → 0 ≤ i → i ≤ 5 → ∃ M', f_X6_empty_L12 n c i M = some M' ∧ (∀ y j, ¬ ((y = c + 5 ∨ y = c + 6) ∧ 0 ≤ j ∧ j < 5) → M' y j = M y j) ∧ (∀ j, i ≤ j → j < 5 → M' (c + 5) j = 0 ∧ M' (c + 6) j = 0) ∧ (∀ j, j < i → M' (c + 5) j = M (c + 5) j ∧ M' (c + 6) j = M (c + 6) j) := by
  intro f
  induction f with
  | zero => intro n i M g0; omega
  | succ f ih =>
    intro n i M g0 g1 g2 g3
    obtain ⟨n, rfl⟩ : ∃ n', n = n' + 1 := ⟨n - 1, by omega⟩
    rw [f_X6_empty_L12]
    by_cases z : 5 ≤ i
    · rw [if_pos z]
      exact ⟨M, rfl, fun _ _ _ => rfl, fun j j0 j1 => by omega, fun _ _ => ⟨rfl, rfl⟩⟩
    · rw [if_neg z, p_ck (by omega), p_lt, p_lt, p_wI (x := i + 1) (by omega) (by omega)]
      obtain ⟨M', a1, a2, a3, a4⟩ := ih n (i + 1) (upM (upM M (c + 5) i 0) (c + 6) i 0) (by omega) (by omega) (by omega) (by omega)
      refine ⟨M', a1, fun y j u => ?_, fun j j0 j1 => ?_, fun j j0 => ?_⟩
      · rw [a2 y j u, up_ne (by omega), up_ne (by omega)]
      · by_cases w : j = i
        · obtain ⟨w1, w2⟩ := a4 j (by omega)
          rw [w1, w2, w, up_nex (by omega), up_eq, up_eq]
          exact ⟨rfl, rfl⟩
        · exact a3 j (by omega) j1
      · obtain ⟨w1, w2⟩ := a4 j (by omega)
        rw [w1, w2, up_nex (by omega), up_nei (by omega), up_nei (by omega), up_nex (by omega)]
        exact ⟨rfl, rfl⟩
theorem l_empty {c : Int} (hc : 773 ≤ c) {n : Nat} (hn : 10 ≤ n) (M : Mem) : ∃ M', f_X6_empty n c M = some M' ∧ (∀ y j, ¬ (c ≤ y ∧ y < c + 7) → M' y j = M y j) ∧ M' c 0 = 0 ∧ M' c 3 = 0 ∧ (∀ j, 0 ≤ j → j < 5 → M' (c + 5) j = 0 ∧ M' (c + 6) j = 0) := by
  unfold f_X6_empty
  rw [p_lt, p_lt]
  obtain ⟨M', a1, a2, a3, a4⟩ := l_emptyL hc 10 n 0 (upM (upM M c 0 0) c 3 0) (by omega) (by omega) (by omega) (by omega)
  rw [a1, Option.bind_some]
  refine ⟨M', rfl, fun y j u => ?_, ?_, ?_, fun j j0 j1 => a3 j j0 j1⟩
  · rw [a2 y j (by omega), up_ne (by omega), up_ne (by omega)]
  · rw [a2 _ _ (by omega), up_nei (by decide), up_eq]
  · rw [a2 _ _ (by omega), up_eq]
theorem has0 : ∀ t : Int, 0 ≤ t → t < 5 → f_X12_has 0 t = 0 := by
  have : ∀ t : Fin 5, f_X12_has 0 (t.val : Int) = 0 := by decide +kernel
  intro t t0 t1
  obtain ⟨e, rfl⟩ : ∃ e : Nat, t = e := ⟨t.toNat, by omega⟩
  exact this ⟨e, by omega⟩
/-- the reading of a text by both, from its start -/
theorem l_read {M N : Mem} {c x i l : Int} (hi : 0 ≤ i ∧ i < 4) (ec : c = 773 + 7 * i) (ex : x = 729 * i) (h2 : N 802 2 = i) (tp : pTp M N l) {nA nB : Nat} (hA : 2000 ≤ nA) (hB : 2000 ≤ nB) :
    ∃ M1 N1, M1 0 1 = c ∧ (∀ y j, ¬ (y = 0 ∧ j = 1) → ¬ (y = 703 ∧ (j = 2 ∨ j = 3 ∨ (5 ≤ j ∧ j ≤ 9))) → ¬ (c ≤ y ∧ y < c + 7) → M1 y j = M y j) ∧ (∀ y j, ¬ (y = 801 ∧ ((7 ≤ j ∧ j ≤ 14) ∨ (16 ≤ j ∧ j ≤ 20))) → ¬ (y = 804 ∧ x ≤ j ∧ j < x + 729) → N1 y j = N y j) ∧ M1 703 2 = 0 ∧ M1 703 3 = -1
      ∧ qCl c x M1 N1 (f_X4_readInto nA c M) (f_X12_readText nB N) (fun M' => some (1, M')) (fun M' N' => pRd M' N' c x l ∧ M' 703 2 = M1 703 2 ∧ M' 703 3 = M1 703 3) := by
  have tx : isTx c := by
    have : i = 0 ∨ i = 1 ∨ i = 2 ∨ i = 3 := by omega
    rcases this with z | z | z | z <;> subst z <;> subst ec <;> unfold isTx <;> decide
  have hc : pCx c x := ⟨tx, by omega, by omega, by omega, by omega⟩
  have l300 := tp.2.2.2.1
  unfold f_X4_readInto f_X12_readText
  rw [p_lt, p_lt, up_eq, p_ck tx, h2, p_wI (x := 729 * i) (by omega) (by omega), up_eq, p_ck (by omega), p_lt, p_lt, p_lt, p_lt, ← ex]
  obtain ⟨M2, e1, e2, e3, e4, e5⟩ := l_empty (c := c) hc.2.1 (n := nA) (by omega) (upM M 0 1 c)
  rw [e1, Option.bind_some, p_lt, p_lt, p_lt]
  obtain ⟨M5, hM5⟩ : ∃ M5, M5 = upM (upM (upM M2 703 2 0) 703 3 (-1)) 703 5 0 := ⟨_, rfl⟩
  obtain ⟨N5, hN5⟩ : ∃ N5, N5 = upM (upM (upM (upM (upM N 801 12 x) 804 x 0) 801 13 0) 801 20 0) 801 7 0 := ⟨_, rfl⟩
  rw [← hM5, ← hN5]
  have g5 : ∀ y j, ¬ (y = 703 ∧ (j = 2 ∨ j = 3 ∨ j = 5)) → M5 y j = M2 y j := fun y j u => by rw [hM5, up_ne (by omega), up_ne (by omega), up_ne (by omega)]
  have n5 : ∀ y j, ¬ (y = 801 ∧ (j = 12 ∨ j = 13 ∨ j = 20 ∨ j = 7)) → ¬ (y = 804 ∧ j = x) → N5 y j = N y j := fun y j u v => by rw [hN5, up_ne (by omega), up_ne (by omega), up_ne (by omega), up_ne v, up_ne (by omega)]
  have m2 : ∀ y j, ¬ (y = 0 ∧ j = 1) → ¬ (c ≤ y ∧ y < c + 7) → M2 y j = M y j := fun y j u v => by rw [e2 y j v, up_ne u]
  have tp5 : pTp M5 N5 l := ⟨by rw [g5 _ _ (by omega), m2 _ _ (by omega) (by omega)]; exact tp.1, by rw [n5 _ _ (by omega) (by omega)]; exact tp.2.1, tp.2.2.1, tp.2.2.2.1, fun q q0 q1 => by rw [g5 _ _ (by omega), m2 _ _ (by omega) (by omega), n5 _ _ (by omega) (by omega)]; exact tp.2.2.2.2 q q0 q1⟩
  have m55 : M5 703 5 = 0 := by rw [hM5, up_eq]
  have n57 : N5 801 7 = 0 := by rw [hN5, up_eq]
  obtain ⟨M1, N1, a1, a2, a3, a4, a5, a6⟩ := l_token tp5 (nA := nA) (nB := nB) (by omega) (by omega) (by omega) (by have := tp.2.2.1; omega)
  rw [a1, a2, Option.bind_some, Option.bind_some]
  have gg : ∀ y j, ¬ (y = 0 ∧ j = 1) → ¬ (y = 703 ∧ (j = 2 ∨ j = 3 ∨ (5 ≤ j ∧ j ≤ 9))) → ¬ (c ≤ y ∧ y < c + 7) → M1 y j = M y j := fun y j u v w => by rw [a3 _ _ (by omega), g5 _ _ (by omega), m2 _ _ u w]
  have nn : ∀ y j, ¬ (y = 801 ∧ ((7 ≤ j ∧ j ≤ 14) ∨ (16 ≤ j ∧ j ≤ 20))) → ¬ (y = 804 ∧ x ≤ j ∧ j < x + 729) → N1 y j = N y j := fun y j u v => by rw [a4 _ _ (by omega), n5 _ _ (by omega) (by omega)]
  have cell : ∀ y j, c ≤ y → y < c + 7 → M1 y j = M2 y j := fun y j u v => by rw [a3 _ _ (by omega), g5 _ _ (by omega)]
  have z13 : N1 801 13 = 0 := by rw [a4 _ _ (by omega), hN5, up_nei (by decide), up_nei (by decide), up_eq]
  have z20 : N1 801 20 = 0 := by rw [a4 _ _ (by omega), hN5, up_nei (by decide), up_eq]
  have zx : N1 804 x = 0 := by rw [a4 _ _ (by omega), hN5, up_nex (by decide), up_nex (by decide), up_nex (by decide), up_eq]
  have z12 : N1 801 12 = x := by rw [a4 _ _ (by omega), hN5, up_nei (by decide), up_nei (by decide), up_nei (by decide), up_nex (by decide), up_eq]
  have t01 : M1 0 1 = c := by rw [a3 _ _ (by omega), g5 _ _ (by omega), e2 _ _ (by omega), up_eq]
  have f2 : M1 703 2 = 0 := by rw [a3 _ _ (by omega), hM5, up_nei (by decide), up_nei (by decide), up_eq]
  have f3 : M1 703 3 = -1 := by rw [a3 _ _ (by omega), hM5, up_nei (by decide), up_eq]
  have tp1 : pTp M1 N1 l := ⟨by rw [a3 _ _ (by omega)]; exact tp5.1, by rw [a4 _ _ (by omega)]; exact tp5.2.1, tp5.2.2.1, tp5.2.2.2.1, fun q q0 q1 => by rw [a3 _ _ (by omega), a4 _ _ (by omega)]; exact tp5.2.2.2.2 q q0 q1⟩
  have b8 := a5.2.2.2.2.1
  have rd : pRd M1 N1 c x l := by
    refine ⟨⟨tp1, a5, ⟨t01, z12⟩, ⟨?_, by omega, by omega⟩, fun j j0 j1 => by omega, fun k k0 k1 => by omega, fun k q k0 k1 k2 => by omega, by omega, fun t t0 t1 => ?_⟩, ?_, by omega, by omega⟩
    · rw [cell _ _ (by omega) (by omega), z13]; exact e4
    · obtain ⟨w1, w2⟩ := e5 t t0 t1
      refine Or.inr ⟨?_, ?_, fun k k0 k1 => by omega⟩
      · rw [z20]; exact has0 t t0 t1
      · rw [cell _ _ (by omega) (by omega), cell _ _ (by omega) (by omega), w1, w2]; exact Int.le_refl _
    · rw [cell _ _ (by omega) (by omega), zx]; exact e3
  refine ⟨M1, N1, t01, gg, nn, f2, f3, ?_⟩
  rcases l_clauses (p0 := c) hc 310 nA nB 0 M1 N1 (by omega) (by omega) (by omega) (by decide) (by omega) rd with ⟨M', N', d1, d2, d3, d4, d5⟩ | ⟨M', N', e, d1, d2, d3, d4, d5, d6, d7⟩
  · rw [d1, d2, Option.bind_some, p_ck (Or.inr rfl)]
    exact Or.inl ⟨M', N', rfl, rfl, d3, d4, d5⟩
  · rw [d1, d2, Option.bind_some, p_ck (Or.inl rfl)]
    exact Or.inr ⟨M', N', e, rfl, rfl, d3, d4, d5, d6, d7⟩
theorem pWhole_texts {M M' : Mem} {w t : Int} {A A' : Int → Int} (hM : ∀ x, w < x → x < w + 350 → x ≠ w + 348 → ∀ i, M' x i = M x i) (h3 : M' w 3 = t) (h4 : M' w 4 = M w 4) (hA : ∀ i, i ≠ 2 → A' i = A i) (ht : A' 2 = t) (t0 : A 2 ≤ t) (t1 : t ≤ 4) (hb : pWhole M w A) : pWhole M' w A' := by
  obtain ⟨a1, a2, a3, a4, a5, a6, a7, a8, a9, a10⟩ := hb
  have e1 : pvM M' (w + 1) = pvM M (w + 1) := pvM_same (fun x h0 h1 => hM x (by omega) (by omega) (by omega))
  have sA : pSame (pvA A') (pvA A) := pSame_A a1.1 a1.2.1 (fun i hi => hA i (by omega))
  refine ⟨pOK_same sA a1, by rw [e1]; exact pEq_same sA a2, by rw [e1]; exact pEqS_same sA a3, ?_, ?_, ?_, ?_, ?_, ?_, ?_⟩
  · rw [hA 12 (by omega)]
    exact pBook_same (fun x h0 h1 => hM x (by omega) (by omega) (by omega)) (fun i hi => hA i (by omega)) a4
  · exact pActs_same (M := M) (fun x h0 h1 => hM x (by omega) (by omega) (by omega)) (pActs_A (hA 4 (by omega)) (fun i hi => hA i (by omega)) a1 a5)
  · exact pTold_same (fun x h0 h1 h2 => hM x (by omega) (by omega) (by omega)) (fun i hi => hA i (by omega)) a6
  · rw [ht, h3]
  · rw [ht]; omega
  · rw [hA 3 (by omega), h4]; exact a9
  · rw [hA 3 (by omega), ht]; omega
theorem pText_rd {M N : Mem} {c x l : Int} (h : pRd M N c x l) : pText M N c x := by
  obtain ⟨⟨a1, a2, a3, a4, a5, a6, a7, a8, a9⟩, a10, a11, a12⟩ := h
  refine ⟨a10, ⟨a11, a12⟩, fun k k0 k1 => (a6 k k0 k1).1, a7, fun t t0 t1 hk => ?_⟩
  rcases a9 t t0 t1 with ⟨-, -, q, q0, q1, q2⟩ | ⟨-, y, -⟩
  · exact absurd q2 (hk q q0 q1)
  · exact y
theorem s_text {M N : Mem} {nA nB : Nat} (h : pRel M N) (hA : 2000 ≤ nA) (hB : 2000 ≤ nB) : pSim (f_X11_text nA M) (f_X12_text nB N) N := by
  have hh := h
  obtain ⟨h14, ⟨c1, c2, c3⟩, c4, c5, -⟩ := pR_ctl h
  unfold f_X11_text f_X12_text
  by_cases i4 : N 802 2 = 4
  · rw [if_neg (by omega), if_neg (fun z => z i4)]
    exact ⟨-1, M, N, rfl, rfl, hh⟩
  · generalize hi : N 802 2 = i at *
    rw [c1, if_pos (show i < 4 by omega), p_ck (by omega), if_pos i4]
    obtain ⟨r1, r2, r3, r4, r5, r6, r7, r8, r9⟩ := h
    have tp : pTp M N (N 801 4) := ⟨c5.1, rfl, c5.2.1, c5.2.2, r5.2.2⟩
    obtain ⟨c, ec⟩ : ∃ c, c = 773 + 7 * i := ⟨_, rfl⟩
    obtain ⟨x, ex⟩ : ∃ x, x = 729 * i := ⟨_, rfl⟩
    obtain ⟨M1, N1, g1, g2, g3, g4, g5, g6⟩ := l_read ⟨c2, by omega⟩ ec ex hi tp hA hB
    rw [← ec]
    -- what all has in common: M2 N2 at the reading's end
    have common : ∀ (M2 N2 M' N' : Mem) (t : Int), hM c M1 M2 → hN x N1 N2 → (∀ y j, ¬ (y = 703 ∧ j = 1) → ¬ (y = 2 ∧ j = 3) → M' y j = M2 y j) → (∀ y j, ¬ (y = 801 ∧ 4 ≤ j ∧ j ≤ 6) → ¬ (y = 802 ∧ j = 2) → N' y j = N2 y j) → M' 703 1 = 0 → N' 801 4 = 0 → M' 703 2 = N' 801 5 → M' 703 3 = N' 801 6 → M' 2 3 = t → N' 802 2 = t → (t = i ∨ (t = i + 1 ∧ pText M2 N2 c x)) → pRel M' N' := by
      intro M2 N2 M' N' t k1 k2 k3 k4 k5 k6 k7 k8 k9 k10 k11
      have tt : i ≤ t ∧ t ≤ i + 1 := by
        rcases k11 with z | z
        · omega
        · have := z.1; omega
      have fM : ∀ y j, ¬ (y = 0 ∧ j = 1) → ¬ (y = 2 ∧ j = 3) → ¬ (y = 703 ∧ (j = 1 ∨ j = 2 ∨ j = 3 ∨ (5 ≤ j ∧ j ≤ 9))) → ¬ (c ≤ y ∧ y < c + 7) → M' y j = M y j := fun y j u v w z => by
        rw [k3 _ _ (by omega) v, k1 _ _ (by omega) z, g2 _ _ u (by omega) z]
      have fN : ∀ y j, ¬ (y = 801 ∧ ((4 ≤ j ∧ j ≤ 14) ∨ (16 ≤ j ∧ j ≤ 20))) → ¬ (y = 802 ∧ j = 2) → ¬ (y = 804 ∧ x ≤ j ∧ j < x + 729) → y ≠ 806 → N' y j = N y j := fun y j u v w z => by
        rw [k4 _ _ (by omega) v, k2 _ _ (by omega) w z, g3 _ _ (by omega) w]
      refine ⟨?_, ?_, fun s hs => ?_, fun q q0 q1 => ?_, ?_, ?_, ?_, ?_, ?_⟩
      · exact pWhole_texts (M := M) (A := N 802) (t := t) (fun y z0 z1 z2 j => fM _ _ (by omega) (by omega) (by omega) (by omega)) k9 (fM _ _ (by omega) (by omega) (by omega) (by omega)) (fun j z => fN _ _ (by omega) (by omega) (by omega) (by omega)) k10 (by omega) (by omega) r1
      · have e3 : N' 803 = N 803 := funext (fun j => fN _ _ (by omega) (by omega) (by omega) (by omega))
        rw [e3]
        exact pWhole_same (fun y z0 z1 z2 j => fM _ _ (by omega) (by omega) (by omega) (by omega)) r2
      · have hq : 3 ≤ s ∧ s < 773 ∧ s ≠ 703 := by rcases hs with r | r | r | ⟨j, r⟩ | ⟨j, r⟩ <;> omega
        rw [fM _ _ (by omega) (by omega) (by omega) (by omega), fM _ _ (by omega) (by omega) (by omega) (by omega), fM _ _ (by omega) (by omega) (by omega) (by omega)]
        exact r3 s hs
      · rw [k9] at q1
        by_cases z : q < i
        · exact pText_same (fun y y0 y1 j => fM _ _ (by omega) (by omega) (by omega) (by omega)) (fun j j0 j1 => fN _ _ (by omega) (by omega) (by omega) (by omega)) (r4 q q0 (by omega))
        · rcases k11 with y | ⟨y1, y2⟩
          · omega
          · rw [show q = i by omega, ← ec, ← ex]
            exact pText_same (fun y z0 z1 j => k3 _ _ (by omega) (by omega)) (fun j j0 j1 => k4 _ _ (by omega) (by omega)) y2
      · exact ⟨by omega, by omega, fun q q0 q1 => by omega⟩
      · exact ⟨k7, k8⟩
      · unfold pRul
        rw [fM 0 0 (by omega) (by omega) (by omega) (by omega), fM 2 4 (by omega) (by omega) (by omega) (by omega)]
        refine ⟨r7.1, fun q q0 q1 => ?_⟩
        rw [fM 712 q (by omega) (by omega) (by omega) (by omega), fM 711 q (by omega) (by omega) (by omega) (by omega)]
        exact r7.2 q q0 q1
      · rw [fN _ _ (by omega) (by omega) (by omega) (by omega)]; exact r8
      · rw [fM 352 3 (by omega) (by omega) (by omega) (by omega), k9]; omega
    have keep : ∀ M2 N2, hM c M1 M2 → hN x N1 N2 → M2 2 3 = i ∧ N2 802 2 = i := fun M2 N2 k1 k2 =>
      ⟨by rw [k1 _ _ (by omega) (by omega), g2 _ _ (by omega) (by omega) (by omega)]; exact c1, by rw [k2 _ _ (by omega) (by omega) (by omega), g3 _ _ (by omega) (by omega)]; exact hi⟩
    rcases g6 with ⟨M2, N2, d1, d2, ⟨d3, d4, d5⟩, d6, d7⟩ | ⟨M2, N2, e, d1, d2, d3, d4, d5, d6, d7⟩
    · obtain ⟨v1, v2⟩ := keep M2 N2 d6 d7
      rw [d1, d2, Option.bind_some, Option.bind_some, p_lt, if_pos (show (1 : Int) ≠ 0 by decide), p_lt, p_lt (upM N2 801 5 0), up_eq (M := N2) (x := 801) (i := 5) (v := 0), if_neg (show ¬ (0 : Int) ≠ 0 by decide)]
      dsimp only
      unfold f_X12_text_J36
      rw [p_lt, p_lt, p_lt, up_eq, up_nex (by decide), v1, up_nei (j := 5) (by decide), up_nei (j := 5) (by decide), up_eq, if_pos rfl, up_eq, up_nex (y := 802) (by decide), up_nex (y := 802) (by decide), up_nex (y := 802) (by decide), v2, p_wI (x := i + 1) (by omega) (by omega), p_wI (x := i + 1 - 1) (by omega) (by omega)]
      refine ⟨i + 1 - 1, _, _, rfl, rfl, common M2 N2 _ _ (i + 1) d6 d7 (fun y j u v => by rw [up_ne (by omega), up_ne (by omega)]) (fun y j u v => by rw [up_ne (by omega), up_ne (by omega), up_ne (by omega), up_ne (by omega)]) ?_ ?_ ?_ ?_ up_eq up_eq (Or.inr ⟨rfl, pText_rd d3⟩)⟩
      · rw [up_nex (by decide), up_eq]
      · rw [up_nex (by decide), up_eq]
      · rw [up_nex (by decide), up_nei (by decide), up_nex (by decide), up_nei (by decide), up_nei (by decide), up_eq, d4, g4]
      · rw [up_nex (by decide), up_nei (by decide), up_nex (by decide), up_nei (by decide), up_eq, d5, g5]
    · obtain ⟨v1, v2⟩ := keep M2 N2 d6 d7
      rw [d1, d2, Option.bind_some, Option.bind_some, p_lt, if_neg (show ¬ (0 : Int) ≠ 0 by decide), p_lt (upM N2 801 5 e), up_eq, if_pos d3]
      dsimp only
      unfold f_X12_text_J36
      rw [p_lt, p_lt, up_nei (j := 5) (by decide), up_nei (j := 5) (by decide), up_eq, if_neg d3]
      refine ⟨-1, _, _, rfl, rfl, common M2 N2 _ _ i d6 d7 (fun y j u v => by rw [up_ne (by omega)]) (fun y j u v => by rw [up_ne (by omega), up_ne (by omega), up_ne (by omega)]) up_eq up_eq ?_ ?_ ?_ ?_ (Or.inl rfl)⟩
      · rw [up_nei (by decide), up_nei (by decide), up_nei (by decide), up_eq, d4]
      · rw [up_nei (by decide), up_nei (by decide), up_eq, up_nei (by decide), d5]
      · rw [up_nex (by decide)]; exact v1
      · rw [up_nex (by decide), up_nex (by decide), up_nex (by decide)]; exact v2
