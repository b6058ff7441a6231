set_option linter.unusedVariables false
set_option linter.unusedSimpArgs false
/-! the image, and back -/
theorem l_copyN {p q : Int} (hpq : p ≠ q) : ∀ (k n : Nat) (i : Int) (N : Mem), 10606 - i < k → k ≤ n → 0 ≤ i → i ≤ 10606 → ∃ N', f_X12_copy_L2 n p q i N = some N' ∧ (∀ x, x ≠ q → ∀ j, N' x j = N x j) ∧ (∀ j, i ≤ j → j < 10606 → N' q j = N p j) ∧ (∀ j, ¬ (i ≤ j ∧ j < 10606) → N' q j = N q j) := by
  intro k
  induction k with
  | zero => intro n i N h0; omega
  | succ k ih =>
    intro n i N h0 h1 h2 h3
    obtain ⟨n, rfl⟩ : ∃ m, n = m + 1 := ⟨n - 1, by omega⟩
    rw [f_X12_copy_L2]
    by_cases c : 10606 ≤ i
    · rw [if_pos c]
      exact ⟨N, rfl, fun _ _ _ => rfl, fun j a b => by omega, fun _ _ => rfl⟩
    · rw [if_neg c, p_ck (by omega), p_wI (x := i + 1) (by omega) (by omega)]
      simp only [p_lt]
      obtain ⟨N', a1, a2, a3, a4⟩ := ih n (i + 1) (upM N q i (N p i)) (by omega) (by omega) (by omega) (by omega)
      refine ⟨N', a1, fun x hx j => by rw [a2 x hx, up_nex hx], fun j j0 j1 => ?_, fun j hj => by rw [a4 j (by omega), up_nei (by omega)]⟩
      by_cases e : j = i
      · subst e
        rw [a4 j (by omega), up_eq]
      · rw [a3 j (by omega) j1, up_nex hpq]
/-- one sea holds what another held -/
def pCopy (M' : Mem) (k : Int) (M : Mem) (p : Int) : Prop := pEq (pvM M' k) (pvM M p) ∧ pEqS (pvM M' k) (pvM M p) ∧ M' k 15 = M p 15 ∧ (∀ i, 0 ≤ i → i < M p 15 → M' (k + 10) i = M (p + 10) i)
theorem pCopy_same {M' M M2 M2' : Mem} {k p : Int} (h : pCopy M' k M p) (h1 : ∀ x, k ≤ x → x < k + 11 → ∀ i, M2' x i = M' x i) (h2 : ∀ x, p ≤ x → x < p + 11 → ∀ i, M2 x i = M x i) : pCopy M2' k M2 p := by
  obtain ⟨a, b, c, d⟩ := h
  unfold pCopy
  rw [pvM_same h1, pvM_same h2, h1 k (by omega) (by omega), h2 p (by omega) (by omega)]
  refine ⟨a, b, c, fun i i0 i1 => ?_⟩
  rw [h1 (k + 10) (by omega) (by omega), h2 (p + 10) (by omega) (by omega)]
  exact d i i0 i1
theorem l_actsCp {k p : Int} (hkp : k + 344 ≤ p + 14 ∨ p + 344 ≤ k + 14) : ∀ (f n : Nat) (i : Int) (M : Mem), 30 - i < f → f ≤ n → 0 ≤ i → i ≤ 30 → (∀ j, 0 ≤ j → j < 30 → (0 ≤ M (p + 14 + 11 * j) 0 ∧ M (p + 14 + 11 * j) 0 ≤ 9) ∧ (0 ≤ M (p + 14 + 11 * j) 6 ∧ M (p + 14 + 11 * j) 6 ≤ 7) ∧ (0 ≤ M (p + 14 + 11 * j) 15 ∧ M (p + 14 + 11 * j) 15 ≤ 40)) →
    ∃ M', f_X0_copyFrom_L2 n (k + 12) (p + 12) i M = some M' ∧ (∀ x, ¬ (k + 14 + 11 * i ≤ x ∧ x < k + 344) → ∀ j, M' x j = M x j) ∧ (∀ j, i ≤ j → j < 30 → pCopy M' (k + 14 + 11 * j) M (p + 14 + 11 * j)) := by
  intro f
  induction f with
  | zero => intro n i M h0; omega
  | succ f ih =>
    intro n i M h0 h1 h2 h3 hb
    obtain ⟨n, rfl⟩ : ∃ m, n = m + 1 := ⟨n - 1, by omega⟩
    rw [f_X0_copyFrom_L2]
    by_cases c : 30 ≤ i
    · rw [if_pos c]
      exact ⟨M, rfl, fun _ _ _ => rfl, fun j a b => by omega⟩
    · have b := hb i h2 (by omega)
      obtain ⟨M1, m1, m2, m3, m4, m5, m6⟩ := l_copySea (M := M) (k := k + 14 + 11 * i) (p := p + 14 + 11 * i) (by omega) b.1 b.2.1 b.2.2
      rw [if_neg c, p_ck (by omega), show k + 12 + 2 + 11 * i = k + 14 + 11 * i by omega, show p + 12 + 2 + 11 * i = p + 14 + 11 * i by omega, m1, Option.bind_some, p_wI (x := i + 1) (by omega) (by omega)]
      have eP : ∀ x, p + 14 ≤ x → x < p + 344 → ∀ j, M1 x j = M x j := fun x x0 x1 j => m2 x (by omega) j
      obtain ⟨M', a1, a2, a3⟩ := ih n (i + 1) M1 (by omega) (by omega) (by omega) (by omega) (fun j j0 j1 => by
        rw [eP _ (by omega) (by omega), eP _ (by omega) (by omega), eP _ (by omega) (by omega)]
        exact hb j j0 j1)
      refine ⟨M', a1, fun x hx j => by rw [a2 x (by omega), m2 x (by omega)], fun j j0 j1 => ?_⟩
      by_cases e : j = i
      · subst e
        exact pCopy_same ⟨m3, m4, m5, m6⟩ (fun x x0 x1 t => a2 x (by omega) t) (fun _ _ _ _ => rfl)
      · exact pCopy_same (a3 j (by omega) j1) (fun _ _ _ _ => rfl) (fun x x0 x1 t => (eP x (by omega) (by omega) t).symm)
theorem l_toldCp {M : Mem} {k p : Int} (hkp : k + 6 ≤ p ∨ p + 6 ≤ k) : ∃ M', f_X7_copyFrom k p M = M' ∧ (∀ x, ¬ (k ≤ x ∧ x < k + 6) → ∀ j, M' x j = M x j) ∧ M' k 0 = M p 0 ∧ M' k 3 = M p 3 ∧ M' k 6 = M p 6 ∧ (∀ j, 0 ≤ j → j < 8 → M' (k + 1) j = M (p + 1) j ∧ M' (k + 2) j = M (p + 2) j) ∧ (∀ j, 0 ≤ j → j < 10 → M' (k + 3) j = M (p + 3) j) ∧ (∀ j, 0 ≤ j → j < 15 → M' (k + 5) j = M (p + 5) j) := by
  unfold f_X7_copyFrom
  simp (disch := omega) only [p_lt, cp_nex, up_nex, up_nei]
  refine ⟨_, rfl, fun x hx j => ?_, ?_, ?_, ?_, fun j j0 j1 => ⟨?_, ?_⟩, fun j j0 j1 => ?_, fun j j0 j1 => ?_⟩
  all_goals simp (disch := omega) only [cp_nex, up_nex, up_nei, up_eq, cp_in, Int.zero_add]
/-- what a copy of a Whole leaves -/
def pWcp (M' : Mem) (k : Int) (M : Mem) (p : Int) : Prop := (∀ x, ¬ (k ≤ x ∧ x < k + 350) → ∀ j, M' x j = M x j) ∧ pCopy M' (k + 1) M (p + 1) ∧ (∀ j, 0 ≤ j → j < 30 → pCopy M' (k + 14 + 11 * j) M (p + 14 + 11 * j)) ∧ (M' (k + 12) 1 = M (p + 12) 1 ∧ M' (k + 12) 2 = M (p + 12) 2)
  ∧ (M' (k + 344) 0 = M (p + 344) 0 ∧ M' (k + 344) 3 = M (p + 344) 3 ∧ M' (k + 344) 6 = M (p + 344) 6 ∧ (∀ j, 0 ≤ j → j < 8 → M' (k + 345) j = M (p + 345) j ∧ M' (k + 346) j = M (p + 346) j) ∧ (∀ j, 0 ≤ j → j < 10 → M' (k + 347) j = M (p + 347) j) ∧ (∀ j, 0 ≤ j → j < 15 → M' (k + 349) j = M (p + 349) j))
  ∧ M' k 3 = M p 3 ∧ M' k 4 = M p 4
theorem l_wholeCp {M : Mem} {k p : Int} {n : Nat} (hn : 100 ≤ n) (hkp : k + 350 ≤ p ∨ p + 350 ≤ k) (hb : ∀ j, 0 ≤ j → j < 30 → (0 ≤ M (p + 14 + 11 * j) 0 ∧ M (p + 14 + 11 * j) 0 ≤ 9) ∧ (0 ≤ M (p + 14 + 11 * j) 6 ∧ M (p + 14 + 11 * j) 6 ≤ 7) ∧ (0 ≤ M (p + 14 + 11 * j) 15 ∧ M (p + 14 + 11 * j) 15 ≤ 40)) (hs : (0 ≤ M (p + 1) 0 ∧ M (p + 1) 0 ≤ 9) ∧ (0 ≤ M (p + 1) 6 ∧ M (p + 1) 6 ≤ 7) ∧ (0 ≤ M (p + 1) 15 ∧ M (p + 1) 15 ≤ 40)) :
    ∃ M', f_X10_copyFrom n k p M = some M' ∧ pWcp M' k M p := by
  obtain ⟨M1, m1, m2, m3, m4, m5, m6⟩ := l_copySea (M := M) (k := k + 1) (p := p + 1) (by omega) hs.1 hs.2.1 hs.2.2
  obtain ⟨M2, a1, a2, a3⟩ := l_actsCp (k := k) (p := p) (by omega) 40 n 0 M1 (by omega) (by omega) (by omega) (by omega) (fun j j0 j1 => by
    rw [m2 _ (by omega), m2 _ (by omega), m2 _ (by omega)]
    exact hb j j0 j1)
  have hM2 : ∀ x, ¬ (k + 1 ≤ x ∧ x < k + 344) → ∀ j, M2 x j = M x j := fun x hx j => by rw [a2 x (by omega), m2 x (by omega)]
  unfold f_X10_copyFrom f_X0_copyFrom
  rw [m1, Option.bind_some, a1, Option.bind_some]
  simp only [p_lt]
  rw [Option.bind_some]
  generalize hM3 : upM (upM M2 (k + 12) 1 (M2 (p + 12) 1)) (k + 12) 2 (upM M2 (k + 12) 1 (M2 (p + 12) 1) (p + 12) 2) = M3
  have e3 : ∀ x, x ≠ k + 12 → ∀ j, M3 x j = M2 x j := fun x hx j => by rw [← hM3, up_nex hx, up_nex hx]
  have e31 : M3 (k + 12) 1 = M (p + 12) 1 := by rw [← hM3, up_nei (by decide), up_eq, hM2 _ (by omega)]
  have e32 : M3 (k + 12) 2 = M (p + 12) 2 := by rw [← hM3, up_eq, up_nex (by omega), hM2 _ (by omega)]
  obtain ⟨M4, b0, b1, b2, b3, b4, b5, b6, b7⟩ := l_toldCp (M := M3) (k := k + 344) (p := p + 344) (by omega)
  rw [b0]
  have hp : ∀ x, p ≤ x → x < p + 350 → ∀ j, M3 x j = M x j := fun x x0 x1 j => by rw [e3 x (by omega), hM2 x (by omega)]
  refine ⟨_, rfl, fun x hx j => ?_, ?_, fun j j0 j1 => ?_, ⟨?_, ?_⟩, ⟨?_, ?_, ?_, fun j j0 j1 => ⟨?_, ?_⟩, fun j j0 j1 => ?_, fun j j0 j1 => ?_⟩, ?_, ?_⟩
  · rw [up_nex (by omega), up_nex (by omega), b1 x (by omega), e3 x (by omega), hM2 x (by omega)]
  · refine pCopy_same ⟨m3, m4, m5, m6⟩ (fun x x0 x1 t => ?_) (fun _ _ _ _ => rfl)
    rw [up_nex (by omega), up_nex (by omega), b1 x (by omega), e3 x (by omega), a2 x (by omega)]
  · refine pCopy_same (a3 j j0 j1) (fun x x0 x1 t => ?_) (fun x x0 x1 t => (m2 x (by omega) t).symm)
    rw [up_nex (by omega), up_nex (by omega), b1 x (by omega), e3 x (by omega)]
  · rw [up_nex (by omega), up_nex (by omega), b1 _ (by omega), e31]
  · rw [up_nex (by omega), up_nex (by omega), b1 _ (by omega), e32]
  · rw [up_nex (by omega), up_nex (by omega), b2, hp _ (by omega) (by omega)]
  · rw [up_nex (by omega), up_nex (by omega), b3, hp _ (by omega) (by omega)]
  · rw [up_nex (by omega), up_nex (by omega), b4, hp _ (by omega) (by omega)]
  · rw [up_nex (by omega), up_nex (by omega), show k + 345 = k + 344 + 1 by omega, (b5 j j0 j1).1, hp _ (by omega) (by omega), show p + 344 + 1 = p + 345 by omega]
  · rw [up_nex (by omega), up_nex (by omega), show k + 346 = k + 344 + 2 by omega, (b5 j j0 j1).2, hp _ (by omega) (by omega), show p + 344 + 2 = p + 346 by omega]
  · rw [up_nex (by omega), up_nex (by omega), show k + 347 = k + 344 + 3 by omega, b6 j j0 j1, hp _ (by omega) (by omega), show p + 344 + 3 = p + 347 by omega]
  · rw [up_nex (by omega), up_nex (by omega), show k + 349 = k + 344 + 5 by omega, b7 j j0 j1, hp _ (by omega) (by omega), show p + 344 + 5 = p + 349 by omega]
  · rw [up_nei (by decide), up_eq, b1 p (by omega), hp p (by omega) (by omega)]
  · rw [up_eq, up_nex (by omega), b1 p (by omega), hp p (by omega) (by omega)]
theorem pBook_cp {M M' : Mem} {k p : Int} {A A' : Int → Int} {W : Int} (c : pCopy M' k M p) (hA : ∀ i, 0 ≤ i → i < 10606 → A' i = A i) (h : pBook M p A W) : pBook M' k A' W := by
  obtain ⟨b1, b2, b3⟩ := h
  refine ⟨by rw [c.2.2.1]; exact b1, b2, fun i i0 i1 => ?_⟩
  rw [c.2.2.2 i i0 (by omega), hA _ (by omega) (by omega)]
  exact b3 i i0 i1
theorem pWhole_cp {M M' : Mem} {k p : Int} {A A' : Int → Int} (h : pWhole M p A) (c : pWcp M' k M p) (hA : ∀ i, 0 ≤ i → i < 10606 → A' i = A i) : pWhole M' k A' := by
  obtain ⟨a1, a2, a3, a4, a5, a6, a7, a8, a9, a10⟩ := h
  obtain ⟨c1, c2, c3, c4, c5, c6, c7⟩ := c
  have sA : pSame (pvA A') (pvA A) := pSame_A a1.1 a1.2.1 (fun i hi => hA i (by omega) (by omega))
  refine ⟨pOK_same sA a1, pEq_same sA (pEq_trans c2.1 a2), ?_, ?_, ?_, ?_, ?_, ?_, ?_, ?_⟩
  · refine pEqS_same sA ?_
    obtain ⟨e0, e1, e2, e3, e4, e5, e6, e7⟩ := a2
    refine ⟨fun i i0 i1 => ?_, fun i i0 i1 => ?_⟩
    · exact (c2.2.1.1 i i0 (by omega)).trans (a3.1 i i0 i1)
    · exact (c2.2.1.2 i i0 (by omega)).trans (a3.2 i i0 i1)
  · rw [hA 12 (by decide) (by decide)]
    exact pBook_cp c2 hA a4
  · obtain ⟨b1, b2, b3, b4, b5, b6⟩ := a5
    have k4 : A' 4 = A 4 := hA 4 (by decide) (by decide)
    have sR : ∀ j, 0 ≤ j → j < A 4 → pSame (pvR A' (186 + 64 * j)) (pvR A (186 + 64 * j)) := by
      intro j j0 j1
      have q := (b4 j j0 j1).1
      exact pSame_R (by omega) (by omega) q.1 q.2.1 (fun i hi => hA i (by omega) (by omega))
    refine ⟨by rw [c4.1]; exact b1, by rw [c4.2, k4]; exact b2, by rw [k4]; exact b3, fun j j0 j1 => ?_, fun j j0 j1 => ?_, fun j0 => ?_⟩
    · rw [k4] at j1
      obtain ⟨d1, d2, d3⟩ := b4 j j0 j1
      have ec : pActAt M' k A' j = k + 14 + 11 * ((M (p + 12) 1 - A 4 + j) % 30) := by unfold pActAt; rw [c4.1, k4]
      have cc := c3 ((M (p + 12) 1 - A 4 + j) % 30) (by omega) (by omega)
      unfold pAct
      rw [ec, hA (186 + 64 * j + 6) (by omega) (by omega)]
      exact ⟨pOK_same (sR j j0 j1) d1, pEq_same (sR j j0 j1) (pEq_trans cc.1 d2), pBook_cp cc hA d3⟩
    · rw [k4] at j1
      have q1 := (b4 j j0 (by omega)).1
      have q2 := (b4 (j + 1) (by omega) (by omega)).1
      exact pNext_same (sR j j0 (by omega)) (sR (j + 1) (by omega) (by omega)) ⟨q2.1.2, q2.2.1.2⟩ ⟨q1.1.1, q1.2.1.1⟩ (fun i i0 i1 => hA i (by omega) (by omega)) (b5 j j0 j1)
    · rw [k4] at j0
      rw [k4]
      have q1 := (b4 (A 4 - 1) (by omega) (by omega)).1
      exact pNext_same (sR (A 4 - 1) (by omega) (by omega)) sA ⟨a1.1.2, a1.2.1.2⟩ ⟨q1.1.1, q1.2.1.1⟩ (fun i i0 i1 => hA i (by omega) (by omega)) (b6 j0)
  · obtain ⟨t0, t3, t6, t1, t4, t5⟩ := c5
    obtain ⟨d1, d2, d3, d4, d5, d6, d7, d8, d9⟩ := a6
    unfold pTold
    rw [t0, t3, t6, hA 5 (by decide) (by decide), hA 6 (by decide) (by decide), hA 7 (by decide) (by decide)]
    refine ⟨d1, d2, fun i i0 i1 => ?_, d4, d5, fun i i0 i1 => ?_, d7, d8, fun i i0 i1 => ?_⟩
    · have z := t1 i i0 (by omega)
      rw [show k + 344 + 1 = k + 345 by omega, show k + 344 + 2 = k + 346 by omega, z.1, z.2, hA _ (by omega) (by omega), hA _ (by omega) (by omega), show p + 345 = p + 344 + 1 by omega, show p + 346 = p + 344 + 2 by omega]
      exact d3 i i0 i1
    · rw [show k + 344 + 3 = k + 347 by omega, t4 i i0 (by omega), hA _ (by omega) (by omega), show p + 347 = p + 344 + 3 by omega]
      exact d6 i i0 i1
    · rw [show k + 344 + 5 = k + 349 by omega, t5 i i0 (by omega), hA _ (by omega) (by omega), hA _ (by omega) (by omega), show p + 349 = p + 344 + 5 by omega]
      exact d9 i i0 i1
  · rw [c6, hA 2 (by decide) (by decide)]; exact a7
  · rw [hA 2 (by decide) (by decide)]; exact a8
  · rw [c7, hA 3 (by decide) (by decide)]; exact a9
  · rw [hA 3 (by decide) (by decide), hA 2 (by decide) (by decide)]; exact a10
theorem pSeas_cp {M M' : Mem} {k p : Int} (h : pSeas M) (hk : (k = 2 ∧ p = 352) ∨ (k = 352 ∧ p = 2)) (c : pWcp M' k M p) : pSeas M' := by
  obtain ⟨c1, c2, c3, -⟩ := c
  have cc : ∀ a b, pCopy M' a M b → isSea b → (0 ≤ M' a 0 ∧ M' a 0 ≤ 9) ∧ (0 ≤ M' a 6 ∧ M' a 6 ≤ 7) ∧ (0 ≤ M' a 15 ∧ M' a 15 ≤ 40) := by
    intro a b z hb
    have e0 : M' a 0 = M b 0 := z.1.1
    have e1 : M' a 6 = M b 6 := z.1.2.1
    rw [e0, e1, z.2.2.1]
    exact h b hb
  intro s hs
  by_cases q : k ≤ s ∧ s < k + 350
  · rcases hk with ⟨rfl, rfl⟩ | ⟨rfl, rfl⟩
    · rcases hs with r | r | r | ⟨j, j0, j1, r⟩ | ⟨j, j0, j1, r⟩
      · subst r; exact cc _ _ c2 (Or.inr (Or.inl rfl))
      · omega
      · omega
      · have := cc _ _ (c3 j j0 j1) (Or.inr (Or.inr (Or.inr (Or.inr ⟨j, j0, j1, by omega⟩))))
        rw [show s = 2 + 14 + 11 * j by omega]; exact this
      · omega
    · rcases hs with r | r | r | ⟨j, j0, j1, r⟩ | ⟨j, j0, j1, r⟩
      · omega
      · subst r; exact cc _ _ c2 (Or.inl rfl)
      · omega
      · omega
      · have := cc _ _ (c3 j j0 j1) (Or.inr (Or.inr (Or.inr (Or.inl ⟨j, j0, j1, by omega⟩))))
        rw [show s = 352 + 14 + 11 * j by omega]; exact this
  · rw [c1 s q, c1 s q, c1 s q]
    exact h s hs
theorem s_image {M N : Mem} {nA nB : Nat} (h : pRel M N) (hA : 200 ≤ nA) (hB : 11000 ≤ nB) : pSim (f_X11_image nA M) (f_X12_image nB N) N := by
  have hS := h.2.2.1
  obtain ⟨M', m1, m2⟩ := l_wholeCp (M := M) (k := 352) (p := 2) (n := nA) (by omega) (by omega) (fun j j0 j1 => hS _ (Or.inr (Or.inr (Or.inr (Or.inl ⟨j, j0, j1, by omega⟩))))) (hS 3 (Or.inl rfl))
  obtain ⟨N', n1, n2, n3, -⟩ := l_copyN (p := 802) (q := 803) (by decide) 10700 nB 0 N (by omega) (by omega) (by omega) (by omega)
  have e2 : N' 802 = N 802 := funext (n2 802 (by decide))
  have mm : ∀ x, ¬ (352 ≤ x ∧ x < 702) → ∀ j, M' x j = M x j := fun x hx j => m2.1 x (by omega) j
  obtain ⟨a1, a2, a3, a4, a5, a6, a7, a8, a9⟩ := h
  unfold f_X11_image f_X12_image f_X12_copy
  rw [m1, n1, Option.bind_some, Option.bind_some, Option.bind_some, mm 3 (by omega), e2]
  refine ⟨_, M', N', rfl, by rw [show M 3 11 = N 802 8 from a1.2.1.2.2.1], ?_, ?_, ?_, ?_, ?_, ?_, ?_, ?_, ?_⟩
  · rw [e2]; exact pWhole_same (fun x x0 x1 _ => mm x (by omega)) a1
  · exact pWhole_cp a1 m2 (fun i i0 i1 => n3 i i0 i1)
  · exact pSeas_cp a3 (Or.inr ⟨rfl, rfl⟩) m2
  · intro i i0 i1
    rw [mm 2 (by omega)] at i1
    exact pText_same (fun y y0 y1 => mm y (by omega)) (fun j _ _ => n2 804 (by decide) j) (a4 i i0 i1)
  · unfold pTape at a5 ⊢
    simp only [mm 703 (by omega), mm 704 (by omega), n2 801 (by decide), n2 805 (by decide)]
    exact a5
  · unfold pFault at a6 ⊢
    rw [mm 703 (by omega), mm 703 (by omega), n2 801 (by decide), n2 801 (by decide)]
    exact a6
  · unfold pRul at a7 ⊢
    simp only [mm 0 (by omega), mm 2 (by omega), mm 712 (by omega), mm 711 (by omega)]
    exact a7
  · rw [n2 801 (by decide)]; exact a8
  · rw [m2.2.2.2.2.2.1, mm 2 (by omega)]
    exact Int.le_refl _
theorem s_back {M N : Mem} {nA nB : Nat} (h : pRel M N) (hA : 200 ≤ nA) (hB : 11000 ≤ nB) : pSim (f_X11_back nA M) (f_X12_back nB N) N := by
  have hS := h.2.2.1
  obtain ⟨M', m1, m2⟩ := l_wholeCp (M := M) (k := 2) (p := 352) (n := nA) (by omega) (by omega) (fun j j0 j1 => hS _ (Or.inr (Or.inr (Or.inr (Or.inr ⟨j, j0, j1, by omega⟩))))) (hS 353 (Or.inr (Or.inl rfl)))
  obtain ⟨N', n1, n2, n3, -⟩ := l_copyN (p := 803) (q := 802) (by decide) 10700 nB 0 N (by omega) (by omega) (by omega) (by omega)
  have e3 : N' 803 = N 803 := funext (n2 803 (by decide))
  have mm : ∀ x, ¬ (2 ≤ x ∧ x < 352) → ∀ j, M' x j = M x j := fun x hx j => m2.1 x (by omega) j
  obtain ⟨a1, a2, a3, a4, a5, a6, a7, a8, a9⟩ := h
  have w2 : pWhole M' 2 (N' 802) := pWhole_cp a2 m2 (fun i i0 i1 => n3 i i0 i1)
  have q3 : M' 2 3 = M 352 3 := m2.2.2.2.2.2.1
  obtain ⟨-, w11, -, -, -, -, w3, w3', w4, w4'⟩ := id w2
  unfold f_X11_back f_X12_back f_X12_copy f_X11_chooseRuler f_X11_isText
  rw [m1, n1, Option.bind_some, Option.bind_some, Option.bind_some, p_isB, p_wI (x := M' 2 3 - 1) (by omega) (by omega)]
  have rel : ∀ r, r = (if M' 2 4 = -1 then 706 else 773 + 7 * M' 2 4) → pRel (upM M' 0 0 r) N' := by
    intro r hr
    have u : ∀ x, x ≠ 0 → ∀ j, upM M' 0 0 r x j = M' x j := fun x hx j => up_nex hx
    refine ⟨?_, ?_, ?_, ?_, ?_, ?_, ?_, ?_, ?_⟩
    · exact pWhole_same (fun x x0 x1 _ => u x (by omega)) w2
    · rw [e3]; exact pWhole_same (fun x x0 x1 _ j => by rw [u x (by omega), mm x (by omega)]) a2
    · intro s hs
      have : s ≠ 0 := by rcases hs with q | q | q | ⟨j, q⟩ | ⟨j, q⟩ <;> omega
      rw [u s this, u s this, u s this]
      exact pSeas_cp a3 (Or.inl ⟨rfl, rfl⟩) m2 s hs
    · intro i i0 i1
      rw [u 2 (by decide), q3] at i1
      exact pText_same (fun y y0 y1 j => by rw [u y (by omega), mm y (by omega)]) (fun j _ _ => n2 804 (by decide) j) (a4 i i0 (by omega))
    · unfold pTape at a5 ⊢
      simp only [u 703 (by decide), u 704 (by decide), mm 703 (by omega), mm 704 (by omega), n2 801 (by decide), n2 805 (by decide)]
      exact a5
    · unfold pFault at a6 ⊢
      rw [u 703 (by decide), u 703 (by decide), mm 703 (by omega), mm 703 (by omega), n2 801 (by decide), n2 801 (by decide)]
      exact a6
    · unfold pRul at a7 ⊢
      refine ⟨by rw [up_eq, u 2 (by decide)]; exact hr, fun i i0 i1 => ?_⟩
      rw [u 712 (by decide), u 711 (by decide), mm 712 (by omega), mm 711 (by omega)]
      exact a7.2 i i0 i1
    · rw [n2 801 (by decide)]; exact a8
    · rw [u 352 (by decide), u 2 (by decide), q3, mm 352 (by omega)]
      exact Int.le_refl _
  have e11 : M' 3 11 = N' 802 8 := w11.2.2.1
  by_cases c : 0 ≤ M' 2 4 ∧ M' 2 4 ≤ M' 2 3 - 1
  · rw [if_pos c, if_neg (by decide), p_ck (by omega)]
    simp only [p_lt]
    rw [Option.bind_some, up_nex (by decide), e11]
    exact ⟨_, _, _, rfl, rfl, rel _ (by rw [if_neg (by omega)])⟩
  · rw [if_neg c, if_pos rfl]
    simp only [p_lt]
    rw [Option.bind_some, up_nex (by decide), e11]
    exact ⟨_, _, _, rfl, rfl, rel _ (by rw [if_pos (by omega)])⟩
