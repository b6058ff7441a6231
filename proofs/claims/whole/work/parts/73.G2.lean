set_option linter.unusedVariables false
set_option linter.unusedSimpArgs false
/-! centuries -/
theorem pAge_same {N N' : Mem} {k k' : Int} (h : pAge N k) (hk : k ≤ k') (e : ∀ i, (i = 0 ∨ i = 1 ∨ i = 4 ∨ i = 12 ∨ (186 ≤ i ∧ i < 2106)) → N' 802 i = N 802 i) (h4 : N 802 4 ≤ 30) : pAge N' k' := by
  obtain ⟨a, b, c, d, f⟩ := h
  unfold pAge
  rw [e 4 (by omega), e 0 (by omega), e 1 (by omega), e 12 (by omega), e (186 + 64 * (N 802 4 - 1)) (by omega), e (186 + 64 * (N 802 4 - 1) + 1) (by omega), e (186 + 64 * (N 802 4 - 1) + 6) (by omega)]
  omega
theorem pRel_xUp {M N : Mem} {v : Int} (h : pRel M N) {ka : Int} (hf : pAge N ka) (v0 : 0 ≤ v) (v1 : v ≤ 30312) (hka : ka ≤ 280 := by omega) : pRel (upM M 3 14 v) (upM N 802 11 v) := by
  have hn := pR_num h
  have hs := pR_step h
  have hS := pR_ship h
  have hB := h.1.2.2.2.1
  obtain ⟨f1, f2, f3, f4, f5⟩ := hf
  have hc := (pR_ctl h).1
  have eN : ∀ j, j ≠ 11 → upM N 802 11 v 802 j = N 802 j := fun j hj => up_nei hj
  have eM : ∀ x, x ≠ 3 → ∀ j, upM M 3 14 v x j = M x j := fun x hx j => up_nex hx
  have e3 : ∀ j, j ≠ 14 → upM M 3 14 v 3 j = M 3 j := fun j hj => up_nei hj
  have st : pStat (N 802) (upM N 802 11 v 802) := ⟨fun i hi => eN _ (by omega), fun s s0 s1 => ⟨eN _ (by omega), eN _ (by omega), eN _ (by omega), eN _ (by omega)⟩, fun s s0 s1 => ⟨eN _ (by omega), eN _ (by omega), eN _ (by omega)⟩⟩
  refine pRel_live (M := M) (N := N) h (fun x hx hx2 i => eM x (by omega) i) ?_ (fun x x0 x1 i => up_nex (by omega)) ⟨up_nex (by decide), up_nex (by decide), up_nex (by decide), up_nex (by decide)⟩ st ?_ ?_ ?_ ?_ (fun j j0 j1 hb => ?_) (fun _ => ?_)
  · rw [eM 762 (by decide), eM 762 (by decide), eM 762 (by decide)]
    exact h.2.2.1 762 (Or.inr (Or.inr (Or.inl rfl)))
  · simp (disch := omega) only [pOK, pvA, eN, up_eq]
    refine ⟨by omega, by omega, by omega, by omega, by omega, by omega, by omega, fun i i0 i1 => ?_, fun i i0 i1 => ?_⟩
    · try simp (disch := omega) only [eN]
      have := hs i i0 i1
      omega
    · try simp (disch := omega) only [eN]
      have := hS i i0 i1
      omega
  · simp (disch := omega) only [pEq, pvA, pvM, eN, eM, e3, up_eq, Int.reduceAdd]
    refine ⟨by omega, by omega, by omega, by omega, by omega, trivial, fun i i0 i1 => ?_, fun i i0 i1 => ?_⟩
    · try simp (disch := omega) only [eN]
      have := hs i i0 i1
      omega
    · try simp (disch := omega) only [eN]
      have := hS i i0 i1
      omega
  · simp (disch := omega) only [pEqS, pvA, pvM, eN, eM, e3, Int.reduceAdd]
    refine ⟨fun i i0 i1 => ?_, fun i i0 i1 => ?_⟩
    · try simp (disch := omega) only [eN]
      have := hs i i0 i1
      omega
    · try simp (disch := omega) only [eN]
      have := hS i i0 i1
      omega
  · rw [eN 12 (by decide)]
    obtain ⟨b1, b2, b3⟩ := hB
    refine ⟨by rw [e3 15 (by decide)]; exact b1, b2, fun i i0 i1 => ?_⟩
    rw [eM (3 + 10) (by decide), eN _ (by omega)]
    exact b3 i i0 i1
  · exact pBook_same (fun _ _ _ _ => rfl) (fun i hi => eN i (by omega)) hb
  · refine ⟨?_, ?_, ?_, ?_, fun i i0 i1 => ?_, fun i i0 i1 => ?_⟩
    · show upM N 802 11 v 802 _ ≤ upM N 802 11 v 802 _
      rw [eN _ (by omega), eN _ (by omega)]; omega
    · show upM N 802 11 v 802 _ ≤ upM N 802 11 v 802 _
      rw [eN _ (by omega), eN _ (by omega)]; omega
    · show upM N 802 11 v 802 _ ≤ upM N 802 11 v 802 _
      rw [eN _ (by omega), eN _ (by omega)]; omega
    · show upM N 802 11 v 802 _ ≤ upM N 802 11 v 802 _ + 280
      rw [eN _ (by omega), eN _ (by omega)]; omega
    · change upM N 802 11 v 802 _ ≤ i at i0
      change i < upM N 802 11 v 802 _ at i1
      rw [eN _ (by omega)] at i0 i1
      omega
    · change upM N 802 11 v 802 _ ≤ i at i0
      change i < upM N 802 11 v 802 _ at i1
      rw [eN _ (by omega)] at i0 i1
      omega
theorem l_drawn {M N : Mem} {k x : Int} {nA nB : Nat} (h : pRel M N) (ha : pAge N k) (hk : k + 7 ≤ 280) (n0 : 0 < N 802 0) (s0 : 0 < N 802 1) (x0 : 0 ≤ x) (x1 : x ≤ 30312) (hA : 600 ≤ nA) (hB : 600 ≤ nB) :
    ∃ M' N', f_X11_doDrawn nA x M = some M' ∧ f_X12_happens nB x N = some N' ∧ pRel M' N' ∧ pAge N' (k + 7) ∧ N' 802 0 = N 802 0 ∧ N' 802 1 = N 802 1 := by
  have h1 := pR_num h
  have hc := (pR_ctl h).1
  have g0 := Int.emod_nonneg x (b := N 802 0) (by omega)
  have g1 := Int.emod_lt_of_pos x (b := N 802 0) n0
  have q0 := Int.emod_nonneg x (b := N 802 1) (by omega)
  have q1 := Int.emod_lt_of_pos x (b := N 802 1) s0
  unfold f_X11_doDrawn f_X12_happens
  simp only [p_iRem x0]
  rw [h1.1.1, h1.2.1.1, if_neg (show ¬ N 802 0 = 0 by omega), if_pos (show N 802 1 ≠ 0 by omega), p_ck (show N 802 0 ≠ 0 by omega), p_ck (show N 802 0 ≠ 0 by omega)]
  generalize hst : x % N 802 0 = st at *
  generalize hsh : x % N 802 1 = sh at *
  have h2 := pR_step h st g0 g1
  by_cases c0 : x % 6 = 0
  · rw [if_pos c0, if_pos c0]
    unfold f_X5_addWater f_X12_floodNow
    have h3 := h2.2.2.1
    simp (disch := omega) only [p_ck, p_at, p_put, p_lt, Option.bind_some, Int.reduceAdd]
    rw [show 16 + 8 * st + 2 = 18 + 8 * st by omega, h3.1, p_wI (x := 1 + x % 200) (by omega) (by omega), p_wI (x := N 802 (18 + 8 * st) + (1 + x % 200)) (by omega) (by omega), p_cut (by omega) (by omega) (by omega)]
    have e : max 0 (min (N 802 (18 + 8 * st) + (1 + x % 200)) 999) = min 999 (N 802 (18 + 8 * st) + (1 + x % 200)) := by omega
    rw [e]
    have g := pRel_stepUp (w := 2) (v := min 999 (N 802 (18 + 8 * st) + (1 + x % 200))) h ha g0 g1 (by omega) (by omega) (by omega) ⟨fun z => by omega, fun z => by omega, fun z => by omega, fun z => by omega⟩
    rw [show 16 + 8 * st + 2 = 18 + 8 * st by omega] at g
    exact ⟨_, _, rfl, rfl, g, pAge_same ha (by omega) (fun i hi => up_nei (by omega)) (by omega), up_nei (by omega), up_nei (by omega)⟩
  · rw [if_neg c0, if_neg c0]
    by_cases c1 : x % 6 = 1
    · rw [if_pos c1, if_pos c1]
      simp (disch := omega) only [p_ck, p_put, p_lt, Option.bind_some]
      have g := pRel_stepUp (w := 1) (v := x % 30) h ha g0 g1 (by omega) (by omega) (by omega) ⟨fun z => by omega, fun z => by omega, fun z => by omega, fun z => by omega⟩
      exact ⟨_, _, rfl, rfl, g, pAge_same ha (by omega) (fun i hi => up_nei (by omega)) (by omega), up_nei (by omega), up_nei (by omega)⟩
    · rw [if_neg c1, if_neg c1]
      by_cases c2 : x % 6 = 2
      · rw [if_pos c2, if_pos c2]
        simp (disch := omega) only [p_ck, p_put, p_lt, Option.bind_some]
        have g := pRel_stepUp (w := 4) (v := 0) h ha g0 g1 (by omega) (by omega) (by omega) ⟨fun z => by omega, fun z => by omega, fun z => by omega, fun z => by omega⟩
        exact ⟨_, _, rfl, rfl, g, pAge_same ha (by omega) (fun i hi => up_nei (by omega)) (by omega), up_nei (by omega), up_nei (by omega)⟩
      · rw [if_neg c2, if_neg c2]
        by_cases c3 : x % 6 = 3
        · rw [if_pos c3, if_pos c3, p_ck (show N 802 1 ≠ 0 by omega), p_ck (show N 802 1 ≠ 0 by omega)]
          simp (disch := omega) only [p_ck, p_set, p_lt, Option.bind_some]
          have g := pRel_goalUp (p := sh) (v := st) h ha q0 q1 g0 g1
          rw [show 88 + 6 * sh + 2 = 90 + 6 * sh by omega]
          exact ⟨_, _, rfl, rfl, g, pAge_same ha (by omega) (fun i hi => up_nei (by omega)) (by omega), up_nei (by omega), up_nei (by omega)⟩
        · rw [if_neg c3, if_neg c3, h1.2.2.1.1]
          by_cases c4 : 9999 ≤ N 802 8
          · rw [if_pos c4, if_pos c4]
            exact ⟨M, N, rfl, rfl, h, pAge_same ha (by omega) (fun i hi => rfl) (by omega), rfl, rfl⟩
          · rw [if_neg c4, if_neg c4]
            obtain ⟨v, M', N', a1, a2, a3, a4, a5, a6, a7, a8, a9, -, -⟩ := pRel_pass (nA := nA) (nB := nB) h ha hk (by omega) hA hB
            rw [a1, a2, Option.bind_some, Option.bind_some]
            exact ⟨M', N', rfl, rfl, a5, a6, a8, a9⟩
theorem l_cent {p : Int} (hp : p ≤ 40) : ∀ (k nA nB : Nat) (i : Int) (M N : Mem), p - i < k → k + 700 ≤ nA → k + 700 ≤ nB → 0 ≤ i → i ≤ p → pRel M N → pAge N (7 * i) → 0 < N 802 0 → 0 < N 802 1 →
    ∃ M' N', f_X11_centuries_L72 nA p i M = some M' ∧ f_X12_centuries_L60 nB p i N = some N' ∧ pRel M' N' := by
  intro k
  induction k with
  | zero => intro nA nB i M N h0 h1 h2 h3 h4; omega
  | succ k ih =>
    intro nA nB i M N h0 h1 h2 i0 i1 R A n0 s0
    obtain ⟨nA, rfl⟩ : ∃ m, nA = m + 1 := ⟨nA - 1, by omega⟩
    obtain ⟨nB, rfl⟩ : ∃ m, nB = m + 1 := ⟨nB - 1, by omega⟩
    rw [f_X11_centuries_L72, f_X12_centuries_L60]
    by_cases c : p ≤ i
    · rw [if_pos c, if_pos c]
      exact ⟨M, N, rfl, rfl, R⟩
    · have hx := (pR_num R).2.2.2.2.2.1
      have h4 := (pR_ctl R).1
      rw [if_neg c, if_neg c, hx.1, p_wI (x := N 802 11 * 293) (by omega) (by omega), p_wI (x := N 802 11 * 293 + 191) (by omega) (by omega), p_iRem (by omega)]
      simp only [p_lt]
      have g := pRel_xUp (v := (N 802 11 * 293 + 191) % 30313) R A (by omega) (by omega)
      obtain ⟨M1, N1, a1, a2, a3, a4, a5, a6⟩ := l_drawn (x := N 802 11) (nA := nA) (nB := nB) g (pAge_same (k' := 7 * i) A (by omega) (fun j hj => up_nei (by omega)) (by omega)) (by omega) (by rw [up_nei (by omega)]; exact n0) (by rw [up_nei (by omega)]; exact s0) (by omega) (by omega) (by omega) (by omega)
      rw [a1, a2, Option.bind_some, Option.bind_some, p_wI (x := i + 1) (by omega) (by omega)]
      rw [up_nei (by omega)] at a5 a6
      exact ih nA nB (i + 1) M1 N1 (by omega) (by omega) (by omega) (by omega) (by omega) a3 (by rw [show 7 * (i + 1) = 7 * i + 7 by omega]; exact a4) (by omega) (by omega)
theorem s_centuries {M N : Mem} {nA nB : Nat} {p q : Int} (h : pRel M N) (hA : 5000 ≤ nA) (hB : 5000 ≤ nB) : pSim (f_X11_centuries nA p q M) (f_X12_centuries nB p q N) N := by
  have h1 := pR_num h
  unfold f_X11_centuries f_X12_centuries
  rw [p_isB, p_isB, p_isIn, p_isIn, h1.1.1, h1.2.1.1]
  have n10 : ¬ (1 : Int) = 0 := by decide
  by_cases hp : 0 ≤ p ∧ p ≤ 9999
  · by_cases hq : 1 ≤ q ∧ q ≤ 40
    · by_cases hn : N 802 0 = 0
      · rw [if_pos hp, if_pos hq, if_neg n10, if_neg n10, if_pos hn, if_neg n10, if_neg n10, if_pos hn]
        exact ⟨-1, M, N, rfl, rfl, h⟩
      · by_cases hs : N 802 1 = 0
        · rw [if_pos hp, if_pos hq, if_neg n10, if_neg n10, if_neg hn, if_neg (fun z => z hs), if_neg n10, if_neg n10, if_neg hn, if_neg (fun z => z hs)]
          exact ⟨-1, M, N, rfl, rfl, h⟩
        · obtain ⟨M1, N1, k1, k1', k3, k4, k5, k6, k7⟩ := s_keep (n := nB) h (by omega)
          have e0 : N1 802 0 = N 802 0 := k6 0 (by omega) (by omega)
          have e1 : N1 802 1 = N 802 1 := k6 1 (by omega) (by omega)
          have h4 := (pR_ctl k3).1
          rw [if_pos hp, if_pos hq, if_neg n10, if_neg n10, if_neg hn, if_pos hs, if_neg n10, if_neg n10, if_neg hn, if_pos hs, k1, k1', Option.bind_some, Option.bind_some, p_wI (x := p * 2) (by omega) (by omega), p_wI (x := p * 2 + 83) (by omega) (by omega)]
          simp only [p_lt]
          have g := pRel_xUp (v := p * 2 + 83) k3 k7 (by omega) (by omega)
          obtain ⟨M2, N2, a1, a2, a3⟩ := l_cent (p := q) (by omega) 50 nA nB 0 _ _ (by omega) (by omega) (by omega) (by omega) (by omega) g (pAge_same (k' := 7 * 0) k7 (by omega) (fun j hj => up_nei (by omega)) (by omega)) (by rw [up_nei (by omega)]; omega) (by rw [up_nei (by omega)]; omega)
          rw [a1, a2, Option.bind_some, Option.bind_some, (pR_num a3).2.2.1.1]
          exact ⟨_, _, _, rfl, rfl, a3⟩
    · rw [if_pos hp, if_neg hq, if_neg n10, if_pos rfl, if_neg n10, if_pos rfl]
      exact ⟨-1, M, N, rfl, rfl, h⟩
  · rw [if_neg hp, if_pos rfl, if_pos rfl]
    exact ⟨-1, M, N, rfl, rfl, h⟩
