set_option linter.unusedVariables false
set_option linter.unusedSimpArgs false
/-! what is at a step; the sea as it would be -/
theorem l_shipsOn {M N : Mem} {s st : Int} {ns : Nat} (hs : M s 6 = ns) (hN : N 802 1 = ns) (h7 : ns ≤ 7) (he : ∀ i : Nat, i < ns → M (s + 7) i = N 802 (89 + 6 * i)) : ∀ (k nA nB : Nat) (acc i : Nat), k ≤ nA → k ≤ nB → i ≤ ns → ns - i < k → acc < 2 ^ i →
    ∃ b : Nat, f_X5_shipsOn_L4 nA s st acc i M = some (b : Int) ∧ f_X12_shipsOn_L4 nB st acc i N = some (b : Int) := by
  intro k
  induction k with
  | zero => intro nA nB acc i _ _ h1 h2; omega
  | succ k ih =>
    intro nA nB acc i hA hB h1 h2 h3
    obtain ⟨nA, rfl⟩ : ∃ m, nA = m + 1 := ⟨nA - 1, by omega⟩
    obtain ⟨nB, rfl⟩ : ∃ m, nB = m + 1 := ⟨nB - 1, by omega⟩
    rw [f_X5_shipsOn_L4, f_X12_shipsOn_L4, hs, hN]
    by_cases c : ns ≤ i
    · rw [if_pos (by omega), if_pos (by omega)]
      exact ⟨acc, rfl, rfl⟩
    · have hp := p_pow7 (i := i) (by omega)
      have hp2 := p_add h3
      have e0 : bOr (acc : Int) 0 = acc := by have := p_or (a := acc) (b := 0) (by omega) (by omega); simpa using this
      rw [if_neg (show ¬ (ns : Int) ≤ i by omega), if_neg (show ¬ (ns : Int) ≤ i by omega), p_ck (show 0 ≤ (i : Int) ∧ (i : Int) < 7 by omega), he i (by omega), p_get (by omega) (by omega) (by omega) (by omega), Option.bind_some, show 88 + 6 * (i : Int) + 1 = 89 + 6 * i by omega, e0, p_orpow (by omega) (by omega), p_wI (x := (i : Int) + 1) (by omega) (by omega), show ((i : Int) + 1) = ((i + 1 : Nat) : Int) by omega]
      by_cases d : N 802 (89 + 6 * i) = st
      · rw [if_neg (fun z => z d), if_neg (fun z => z d)]
        exact ih nA nB _ (i + 1) (by omega) (by omega) (by omega) (by omega) hp2.1
      · rw [if_pos d, if_pos d]
        exact ih nA nB _ (i + 1) (by omega) (by omega) (by omega) (by omega) (Nat.lt_trans h3 (Nat.pow_lt_pow_right (by omega) (by omega)))
theorem s_ofStep {M N : Mem} {nA nB : Nat} {p q : Int} (h : pRel M N) (hA : 500 ≤ nA) (hB : 500 ≤ nB) : pSim (f_X11_ofStep nA p q M) (f_X12_ofStep nB p q N) N := by
  have h1 := pR_num h
  have n1 : (1 : Int) ≠ 0 := by decide
  have n10 : ¬ (1 : Int) = 0 := by decide
  have n0 : ¬ (0 : Int) ≠ 0 := by decide
  unfold f_X11_ofStep f_X12_ofStep
  rw [p_isStepM h, p_isStepN h, p_isIn]
  by_cases hp : 0 ≤ p ∧ p < N 802 0
  · have h2 := pR_step h p hp.1 hp.2
    rw [if_pos hp, if_pos n1, if_neg n10]
    by_cases hq : 0 ≤ q ∧ q ≤ 6
    · rw [if_pos hq, if_pos n1]
      by_cases q5 : q = 5
      · subst q5
        obtain ⟨ns, hns⟩ : ∃ ns : Nat, N 802 1 = ns := ⟨(N 802 1).toNat, by omega⟩
        obtain ⟨b, b1, b2⟩ := l_shipsOn (M := M) (N := N) (s := 3) (st := p) (h1.2.1.1.trans hns) hns (by omega) (fun i hi => (pR_ship h i (by omega) (by omega)).2.1.1) 9 nA nB 0 0 (by omega) (by omega) (by omega) (by omega) (by decide)
        have c1 : f_X5_shipsOn_L4 nA 3 p 0 0 M = some (b : Int) := b1
        have c2 : f_X12_shipsOn_L4 nB p 0 0 N = some (b : Int) := b2
        simp (disch := omega) only [if_neg, if_pos, if_true]
        unfold f_X5_shipsOn f_X12_shipsOn
        rw [c1, c2]
        exact ⟨b, M, N, rfl, rfl, h⟩
      · by_cases q6 : q = 6
        · subst q6
          have hr := (pLv_of (H := 9999) h (by omega))
          obtain ⟨v, M', N', v1, v2, v3, v4, v5⟩ := s_flows (s := 3) (st := p) (hh := N 802 8) (n1 := nA) (n2 := nB) (pLaw_of h) hr.1 hp h1.2.2.1.1 (by omega) rfl (by omega) (by omega) (by omega)
          simp (disch := omega) only [if_neg, if_pos, if_true]
          rw [v1, v2]
          refine ⟨v, M', N', rfl, rfl, pRel_same h (v5.1 0 (by decide) 0) (fun x x0 x1 x2 _ _ => v5.1 x (by omega)) ?_ (fun x x0 x1 => v5.2.1 x (by omega) (by omega) (by omega)) ⟨v5.2.2 4 (by omega), v5.2.2 5 (by omega), v5.2.2 6 (by omega), v5.2.2 28 (by omega)⟩⟩
          rw [v5.1 762 (by decide), v5.1 762 (by decide), v5.1 762 (by decide)]
          exact h.2.2.1 762 (Or.inr (Or.inr (Or.inl rfl)))
        · rw [if_pos q5, if_pos q6, p_at hp.1 (by omega) hq.1 (by omega), Option.bind_some]
          have : q = 0 ∨ q = 1 ∨ q = 2 ∨ q = 3 ∨ q = 4 := by omega
          have k9 : 0 ≤ p ∧ p < 9 := by omega
          rcases this with r | r | r | r | r <;> subst r
          · rw [if_pos rfl, p_ck k9, h2.1.1, show 16 + 8 * p + 0 = 16 + 8 * p by omega]
            exact ⟨_, M, N, rfl, rfl, h⟩
          · rw [if_neg (by decide), if_pos rfl, p_ck k9, h2.2.1.1, show 16 + 8 * p + 1 = 17 + 8 * p by omega]
            exact ⟨_, M, N, rfl, rfl, h⟩
          · rw [if_neg (by decide), if_neg (by decide), if_pos rfl, p_ck k9, h2.2.2.1.1, show 16 + 8 * p + 2 = 18 + 8 * p by omega]
            exact ⟨_, M, N, rfl, rfl, h⟩
          · rw [if_neg (by decide), if_neg (by decide), if_neg (by decide), if_pos rfl, p_ck k9, h2.2.2.2.1.1, show 16 + 8 * p + 3 = 19 + 8 * p by omega]
            exact ⟨_, M, N, rfl, rfl, h⟩
          · rw [if_neg (by decide), if_neg (by decide), if_neg (by decide), if_neg (by decide), if_pos rfl, p_ck k9, h2.2.2.2.2.1, show 16 + 8 * p + 4 = 20 + 8 * p by omega]
            exact ⟨_, M, N, rfl, rfl, h⟩
    · rw [if_neg hq, if_neg n0]
      simp (disch := omega) only [if_neg]
      exact ⟨-1, M, N, rfl, rfl, h⟩
  · rw [if_neg hp, if_neg n0, if_pos rfl]
    exact ⟨-1, M, N, rfl, rfl, h⟩
/-- what the class may have changed, looking ahead -/
def pAhM (M0 M : Mem) : Prop := (∀ x, ¬ (762 ≤ x ∧ x < 773) → ¬ (713 ≤ x ∧ x < 762) → ∀ j, M x j = M0 x j) ∧ ((0 ≤ M 762 0 ∧ M 762 0 ≤ 9) ∧ (0 ≤ M 762 6 ∧ M 762 6 ≤ 7) ∧ (0 ≤ M 762 15 ∧ M 762 15 ≤ 40))
/-- .. and the reference -/
def pAhN (N0 N : Mem) : Prop := N 801 28 = 0 ∧ (∀ x, x ≠ 801 → x ≠ 802 → ¬ (807 ≤ x ∧ x ≤ 812) → x ≠ 822 → ∀ j, N x j = N0 x j) ∧ (∀ j, ¬ (21 ≤ j ∧ j ≤ 24) → j ≠ 28 → j ≠ 29 → N 801 j = N0 801 j) ∧ (∀ i, 8 ≤ i → i < 130 → N 812 i = N0 802 i) ∧ (∀ i, (0 ≤ i ∧ i < 8) ∨ (130 ≤ i ∧ i < 10606) → N 802 i = N0 802 i)
def pAh (M0 N0 M N : Mem) : Prop := pLv M N 762 10099 ∧ N 802 12 = N0 802 12 ∧ pAhM M0 M ∧ pAhN N0 N
theorem l_begin : ∀ (k n : Nat) (i : Int) (N : Mem), 130 - i < k → k ≤ n → 8 ≤ i → i ≤ 130 → ∃ N', f_X12_begin_L3 n i N = some N' ∧ (∀ x, x ≠ 812 → ∀ j, N' x j = N x j) ∧ (∀ j, i ≤ j → j < 130 → N' 812 j = N 802 j) ∧ (∀ j, ¬ (i ≤ j ∧ j < 130) → N' 812 j = N 812 j) := by
  intro k
  induction k with
  | zero => intro n i N h0; omega
  | succ k ih =>
    intro n i N h0 h1 h2 h3
    obtain ⟨n, rfl⟩ : ∃ m, n = m + 1 := ⟨n - 1, by omega⟩
    rw [f_X12_begin_L3]
    by_cases c : 130 ≤ i
    · rw [if_pos c]
      exact ⟨N, rfl, fun _ _ _ => rfl, fun j a b => by omega, fun _ _ => rfl⟩
    · rw [if_neg c, p_ck (by omega), p_ck (by omega), p_wI (x := i + 1) (by omega) (by omega)]
      simp only [p_lt]
      obtain ⟨N', a1, a2, a3, a4⟩ := ih n (i + 1) (upM N 812 i (N 802 i)) (by omega) (by omega) (by omega) (by omega)
      refine ⟨N', a1, fun x hx j => by rw [a2 x hx, up_nex hx], fun j j0 j1 => ?_, fun j hj => by rw [a4 j (by omega), up_nei (by omega)]⟩
      by_cases e : j = i
      · subst e
        rw [a4 j (by omega), up_eq]
      · rw [a3 j (by omega) j1, up_nex (by decide)]
theorem l_putBack : ∀ (k n : Nat) (i : Int) (N : Mem), 130 - i < k → k ≤ n → 8 ≤ i → i ≤ 130 → ∃ N', f_X12_putBack_L3 n i N = some N' ∧ (∀ x, x ≠ 802 → ∀ j, N' x j = N x j) ∧ (∀ j, i ≤ j → j < 130 → N' 802 j = N 812 j) ∧ (∀ j, ¬ (i ≤ j ∧ j < 130) → N' 802 j = N 802 j) := by
  intro k
  induction k with
  | zero => intro n i N h0; omega
  | succ k ih =>
    intro n i N h0 h1 h2 h3
    obtain ⟨n, rfl⟩ : ∃ m, n = m + 1 := ⟨n - 1, by omega⟩
    rw [f_X12_putBack_L3]
    by_cases c : 130 ≤ i
    · rw [if_pos c]
      exact ⟨N, rfl, fun _ _ _ => rfl, fun j a b => by omega, fun _ _ => rfl⟩
    · rw [if_neg c, p_ck (by omega), p_ck (by omega), p_wI (x := i + 1) (by omega) (by omega)]
      simp only [p_lt]
      obtain ⟨N', a1, a2, a3, a4⟩ := ih n (i + 1) (upM N 802 i (N 812 i)) (by omega) (by omega) (by omega) (by omega)
      refine ⟨N', a1, fun x hx j => by rw [a2 x hx, up_nex hx], fun j j0 j1 => ?_, fun j hj => by rw [a4 j (by omega), up_nei (by omega)]⟩
      by_cases e : j = i
      · subst e
        rw [a4 j (by omega), up_eq]
      · rw [a3 j (by omega) j1, up_nex (by decide)]
theorem l_ahead {M N : Mem} {nB : Nat} (h : pRel M N) (hB : 200 ≤ nB) : ∃ M1 N1, f_X5_copyFrom 762 3 M = some M1 ∧ f_X12_begin nB N = some N1 ∧ pAh M N M1 N1 ∧ (∀ i, N1 802 i = N 802 i) := by
  have hl := pLv_of (H := 9999) h (by omega)
  have hS := h.2.2.1 3 (Or.inl rfl)
  obtain ⟨M1, m1, m2, m3, m4, m5, m6⟩ := l_copySea (M := M) (k := 762) (p := 3) (by decide) hS.1 hS.2.1 hS.2.2
  obtain ⟨N1, n1, n2, n3, n4⟩ := l_begin 140 nB 8 N (by omega) (by omega) (by omega) (by omega)
  have e2 : ∀ i, upM N1 801 28 0 802 i = N 802 i := fun i => by rw [up_nex (by decide), n2 802 (by decide)]
  obtain ⟨e0, e1, e3, e4, e5, e6, e7, e8⟩ := m3
  change M1 762 0 = M 3 0 at e0
  change M1 762 6 = M 3 6 at e1
  change M1 762 11 = M 3 11 at e3
  change M1 762 12 = M 3 12 at e4
  change M1 762 13 = M 3 13 at e5
  change M1 762 14 = M 3 14 at e6
  obtain ⟨l1, l2, l3⟩ := hl
  have l10 := l1.1.1
  have l21 := l2.1.1
  refine ⟨M1, upM N1 801 28 0, m1, by unfold f_X12_begin; rw [n1]; rfl, ⟨⟨⟨?_, fun i i0 i1 => ?_⟩, ⟨?_, fun i i0 i1 => ?_⟩, ⟨?_, ?_, ?_⟩, ?_, ?_, ?_, ?_⟩, e2 12, ⟨fun x x0 x1 j => m2 x x0 j, ?_, ?_, ?_⟩, up_eq, fun x x0 x1 x2 x3 j => ?_, fun j j0 j1 j2 => ?_, fun i i0 i1 => ?_, fun i _ => e2 i⟩, e2⟩
  · rw [e0, e2]; exact l1.1
  · rw [e2] at i1
    have g := l1.2 i i0 i1
    have z := e7 i i0 (by show i < M 3 0; omega)
    have z4 := m4.1 i i0 (by show i < M 3 0; omega)
    change M1 764 i = M 5 i ∧ M1 765 i = M 6 i ∧ M1 766 i = M 7 i ∧ M1 767 i = M 8 i at z
    change M1 763 i = M 4 i at z4
    rw [show (762 : Int) + 1 = 763 by decide, show (762 : Int) + 2 = 764 by decide, show (762 : Int) + 3 = 765 by decide, show (762 : Int) + 4 = 766 by decide, show (762 : Int) + 5 = 767 by decide, z4, z.1, z.2.1, z.2.2.1, z.2.2.2, e2, e2, e2, e2, e2]
    exact g
  · rw [e1, e2]; exact l2.1
  · rw [e2] at i1
    have g := l2.2 i i0 i1
    have z := e8 i i0 (by show i < M 3 6; omega)
    have z4 := m4.2 i i0 (by show i < M 3 6; omega)
    change M1 769 i = M 10 i ∧ M1 770 i = M 11 i ∧ M1 771 i = M 12 i at z
    change M1 768 i = M 9 i at z4
    rw [show (762 : Int) + 6 = 768 by decide, show (762 : Int) + 7 = 769 by decide, show (762 : Int) + 8 = 770 by decide, show (762 : Int) + 9 = 771 by decide, z4, z.1, z.2.1, z.2.2, e2, e2, e2, e2, e2]
    exact g
  · rw [e3, e2]; exact l3.1.1
  · rw [e2]; exact l3.1.2.1
  · rw [e2]; have := l3.1.2.2; omega
  · rw [e4, e2]; exact l3.2.1
  · rw [e5, e2]; exact l3.2.2.1
  · rw [e6, e2]; exact l3.2.2.2.1
  · rw [m5]; exact hS.2.2
  · rw [e0]; exact hS.1
  · rw [e1]; exact hS.2.1
  · rw [m5]; exact hS.2.2
  · rw [up_nex x0, n2 x (by omega)]
  · rw [up_nei j1, n2 801 (by decide)]
  · rw [up_nex (by decide)]
    exact n3 i i0 i1
theorem pLaw_ah {M0 N0 M N : Mem} (h : pRel M0 N0) (a : pAh M0 N0 M N) : pLaw M N :=
  pLaw_same (pLaw_of h) (a.2.2.1.1 0 (by decide) (by decide) 0) (fun x hx => a.2.2.1.1 x (by omega) (by omega)) (a.2.2.2.2.2.2.2 3 (by decide)) (a.2.2.2.2.1 804 (by decide) (by decide) (by decide) (by decide))
/-- an hour ahead -/
theorem l_ahPass {M0 N0 M N : Mem} {nA nB : Nat} (h : pRel M0 N0) (a : pAh M0 N0 M N) (hh : N 802 8 < 10099) (hA : 600 ≤ nA) (hB : 600 ≤ nB) :
    ∃ (v : Int) (M' N' : Mem), f_X1_passOne nA 762 M = some (v, M') ∧ f_X12_pass nB N = some N' ∧ pAh M0 N0 M' N' ∧ N' 802 8 = N 802 8 + 1 ∧ (∀ i, N' 822 i = N 822 i) ∧ (∀ i, 0 ≤ i → i < 7 → N' 802 (90 + 6 * i) = N 802 (90 + 6 * i) ∧ (N 802 (89 + 6 * i) = N 802 (90 + 6 * i) → N' 802 (89 + 6 * i) = N 802 (89 + 6 * i))) := by
  have hW := (pR_num h).2.2.2.2.2.2
  have h8 := (pR_num h).2.2.1
  have hL := pLaw_ah h a
  obtain ⟨a1, a2, ⟨a3, a4⟩, a5, a6, a7, a8, a9⟩ := a
  obtain ⟨v, M', N', b1, b2, b3, b4, b5, b6, b7, b8, b9, b10, b11, b12, b13, b14, b15⟩ := s_pass (nA := nA) (nB := nB) hL a1 (by decide) (Or.inr ⟨rfl, a5⟩) (by omega) hh hA hB
  have k12 : N' 802 12 = N 802 12 := by rcases b8 with ⟨z, -⟩ | ⟨-, -, z⟩; omega; exact z
  have k28 : N' 801 28 = 0 := by rcases b8 with ⟨z, -⟩ | ⟨-, z, -⟩; omega; exact z
  have z0 := b6.1.1
  have z1 := b6.2.1.1
  refine ⟨v, M', N', b1, b2, ⟨b6, by rw [k12, a2], ⟨fun x x0 x1 j => by rw [b9 x x0 (by omega) (by omega) (by omega)]; exact a3 x x0 x1 j, by omega, by omega, b6.2.2.2.2.2.2⟩, k28, fun x x0 x1 x2 x3 j => by rw [b10 x (by omega) (by omega)]; exact a6 x x0 x1 x2 x3 j, fun j j0 j1 j2 => by rw [b11 j j0 j2]; exact a7 j j0 j1 j2, fun i i0 i1 => by rw [b10 812 (by omega) (by omega)]; exact a8 i i0 i1, fun i hi => ?_⟩, b7, fun i => b10 822 (by omega) (by omega) i, b15⟩
  rcases hi with hi | hi
  · rw [b12.1 i (by omega)]; exact a9 i (Or.inl hi)
  · rw [b14 rfl i (by omega)]; exact a9 i (Or.inr hi)
theorem pWhole_A {M : Mem} {w : Int} {A A' : Int → Int} (h : pWhole M w A) (hA : ∀ i, 0 ≤ i → i < 10606 → A' i = A i) : pWhole M w A' := by
  have q : ∀ k, pCopy M k M k := fun k => ⟨⟨rfl, rfl, rfl, rfl, rfl, rfl, fun _ _ _ => ⟨rfl, rfl, rfl, rfl⟩, fun _ _ _ => ⟨rfl, rfl, rfl⟩⟩, ⟨fun _ _ _ => rfl, fun _ _ _ => rfl⟩, rfl, fun _ _ _ => rfl⟩
  exact pWhole_cp h ⟨fun _ _ _ => rfl, q _, fun j _ _ => q _, ⟨rfl, rfl⟩, ⟨rfl, rfl, rfl, fun _ _ _ => ⟨rfl, rfl⟩, fun _ _ _ => rfl, fun _ _ _ => rfl⟩, rfl, rfl⟩ hA
theorem l_ahBack {M0 N0 M N : Mem} {nB : Nat} (h : pRel M0 N0) (aM : pAhM M0 M) (aN : pAhN N0 N) (hB : 200 ≤ nB) : ∃ N', f_X12_putBack nB N = some N' ∧ pRel M N' ∧ (∀ x, x ≠ 801 → x ≠ 802 → ∀ j, N' x j = N x j) ∧ (∀ i, 0 ≤ i → i < 10606 → N' 802 i = N0 802 i) := by
  obtain ⟨m1, m2⟩ := aM
  obtain ⟨a5, a6, a7, a8, a9⟩ := aN
  obtain ⟨N1, n1, n2, n3, n4⟩ := l_putBack 140 nB 8 N (by omega) (by omega) (by omega) (by omega)
  obtain ⟨h1, h2, h3, h4, h5, h6, h7, h8, h9⟩ := h
  have e2 : ∀ i, 0 ≤ i → i < 10606 → upM N1 801 28 1 802 i = N0 802 i := by
    intro i i0 i1
    rw [up_nex (by decide)]
    by_cases c : 8 ≤ i ∧ i < 130
    · rw [n3 i c.1 c.2]; exact a8 i c.1 c.2
    · rw [n4 i c]; exact a9 i (by omega)
  have eN : ∀ x, x ≠ 801 → x ≠ 802 → ∀ j, upM N1 801 28 1 x j = N x j := fun x x0 x1 j => by rw [up_nex x0, n2 x x1]
  have e801 : ∀ j, ¬ (21 ≤ j ∧ j ≤ 24) → j ≠ 28 → j ≠ 29 → upM N1 801 28 1 801 j = N0 801 j := fun j j0 j1 j2 => by rw [up_nei j1, n2 801 (by decide)]; exact a7 j j0 j1 j2
  refine ⟨upM N1 801 28 1, by unfold f_X12_putBack; rw [n1]; rfl, ⟨?_, ?_, ?_, ?_, ?_, ?_, ?_, up_eq, ?_⟩, eN, e2⟩
  · exact pWhole_A (pWhole_same (fun x x0 x1 _ => m1 x (by omega) (by omega)) h1) e2
  · rw [show upM N1 801 28 1 803 = N0 803 from funext (fun j => by rw [eN 803 (by decide) (by decide)]; exact a6 803 (by decide) (by decide) (by decide) (by decide) j)]
    exact pWhole_same (fun x x0 x1 _ => m1 x (by omega) (by omega)) h2
  · intro s hs
    by_cases q : s = 762
    · subst q; exact m2
    · have hq : ¬ (762 ≤ s ∧ s < 773) ∧ ¬ (713 ≤ s ∧ s < 762) := by rcases hs with r | r | r | ⟨j, r⟩ | ⟨j, r⟩ <;> omega
      rw [m1 s hq.1 hq.2, m1 s hq.1 hq.2, m1 s hq.1 hq.2]
      exact h3 s hs
  · intro i i0 i1
    rw [m1 2 (by decide) (by decide)] at i1
    have ht : M0 2 3 ≤ 4 := by have := h1.2.2.2.2.2.2; omega
    exact pText_same (fun y y0 y1 => m1 y (by omega) (by omega)) (fun j _ _ => by rw [eN 804 (by decide) (by decide)]; exact a6 804 (by decide) (by decide) (by decide) (by decide) j) (h4 i i0 i1)
  · obtain ⟨b1, b2, b3⟩ := h5
    unfold pTape
    rw [e801 4 (by decide) (by decide) (by decide), m1 703 (by decide) (by decide)]
    refine ⟨b1, b2, fun i i0 i1 => ?_⟩
    rw [m1 704 (by decide) (by decide), eN 805 (by decide) (by decide), a6 805 (by decide) (by decide) (by decide) (by decide)]
    exact b3 i i0 i1
  · unfold pFault
    rw [e801 5 (by decide) (by decide) (by decide), e801 6 (by decide) (by decide) (by decide), m1 703 (by decide) (by decide), m1 703 (by decide) (by decide)]
    exact h6
  · unfold pRul
    rw [m1 0 (by decide) (by decide), m1 2 (by decide) (by decide)]
    refine ⟨h7.1, fun i i0 i1 => ?_⟩
    rw [m1 712 (by decide) (by decide), m1 711 (by decide) (by decide)]
    exact h7.2 i i0 i1
  · rw [m1 352 (by decide) (by decide), m1 2 (by decide) (by decide)]
    exact h9
