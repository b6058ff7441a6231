set_option linter.unusedVariables false
set_option linter.unusedSimpArgs false
theorem p_pow7 {i : Nat} (h : i ≤ 7) : 2 ^ i ≤ 128 := Nat.pow_le_pow_right (by omega) h
/-- one more number in a set that is built from below -/
theorem p_add {s i : Nat} (h : s < 2 ^ i) : s ||| 2 ^ i < 2 ^ (i + 1) ∧ (∀ j, (s ||| 2 ^ i).testBit j = true ↔ (s.testBit j = true ∨ j = i)) := by
  have h2 : 2 ^ i < 2 ^ (i + 1) := Nat.pow_lt_pow_right (by omega) (by omega)
  refine ⟨Nat.or_lt_two_pow (by omega) h2, fun j => ?_⟩
  rw [Nat.testBit_or, Nat.testBit_two_pow, Bool.or_eq_true, decide_eq_true_iff]
  constructor
  · rintro (a | a)
    · exact Or.inl a
    · exact Or.inr a.symm
  · rintro (a | a)
    · exact Or.inl a
    · exact Or.inr a.symm
theorem p_hi {s i j : Nat} (h : s < 2 ^ i) (hj : i ≤ j) : s.testBit j = false := Nat.testBit_lt_two_pow (Nat.lt_of_lt_of_le h (Nat.pow_le_pow_right (by omega) hj))
/-- who waits there -/
def pWt (on goal : Int → Int) (st d : Int) (j : Nat) : Prop := on j = st ∧ (if d = 0 then goal j < st else st < goal j)
theorem l_bound {M : Mem} {s st d : Int} {ns : Nat} (hs : M s 6 = ns) (h7 : ns ≤ 7) : ∀ (k n : Nat) (acc i : Nat), k ≤ n → i ≤ ns → ns - i < k → acc < 2 ^ i → (∀ j, j < i → (acc.testBit j = true ↔ pWt (M (s + 7)) (M (s + 8)) st d j)) →
    ∃ b : Nat, f_X5_bound_L5 n s st d acc i M = some (b : Int) ∧ b < 2 ^ ns ∧ ∀ j, b.testBit j = true ↔ (j < ns ∧ pWt (M (s + 7)) (M (s + 8)) st d j) := by
  intro k
  induction k with
  | zero => intro n acc i _ h1 h2; omega
  | succ k ih =>
    intro n acc i hn h1 h2 h3 h4
    obtain ⟨n, rfl⟩ : ∃ m, n = m + 1 := ⟨n - 1, by omega⟩
    rw [f_X5_bound_L5, hs]
    by_cases c : ns ≤ i
    · have : i = ns := by omega
      subst this
      rw [if_pos (by omega)]
      refine ⟨acc, rfl, h3, fun j => ?_⟩
      by_cases hj : j < i
      · rw [h4 j hj]
        exact ⟨fun z => ⟨hj, z⟩, fun z => z.2⟩
      · rw [p_hi h3 (by omega)]
        exact ⟨fun z => by simp at z, fun z => absurd z.1 hj⟩
    · have hp := p_pow7 (i := i) (by omega)
      have hp2 := p_add h3
      rw [if_neg (by omega), p_ck (by omega), p_wI (x := (i : Int) + 1) (by omega) (by omega)]
      have ei : ((i : Int) + 1) = ((i + 1 : Nat) : Int) := by omega
      have no : ¬ pWt (M (s + 7)) (M (s + 8)) st d i → ∃ b : Nat, f_X5_bound_L5 n s st d acc (i + 1 : Int) M = some (b : Int) ∧ b < 2 ^ ns ∧ ∀ j, b.testBit j = true ↔ (j < ns ∧ pWt (M (s + 7)) (M (s + 8)) st d j) := by
        intro q
        rw [ei]
        refine ih n acc (i + 1) (by omega) (by omega) (by omega) (Nat.lt_trans h3 (Nat.pow_lt_pow_right (by omega) (by omega))) (fun j hj => ?_)
        by_cases hji : j = i
        · subst hji
          rw [p_hi h3 (by omega)]
          exact ⟨fun z => by simp at z, fun z => absurd z q⟩
        · exact h4 j (by omega)
      have yes : pWt (M (s + 7)) (M (s + 8)) st d i → ∃ b : Nat, f_X5_bound_L5 n s st d (bOr acc (bShl 1 i)) (i + 1 : Int) M = some (b : Int) ∧ b < 2 ^ ns ∧ ∀ j, b.testBit j = true ↔ (j < ns ∧ pWt (M (s + 7)) (M (s + 8)) st d j) := by
        intro q
        rw [ei, p_orpow (by omega) (by omega)]
        refine ih n _ (i + 1) (by omega) (by omega) (by omega) hp2.1 (fun j hj => ?_)
        rw [hp2.2]
        by_cases hji : j = i
        · subst hji
          exact ⟨fun z => q, fun z => Or.inr rfl⟩
        · rw [← h4 j (by omega)]
          exact ⟨fun z => z.resolve_right hji, Or.inl⟩
      unfold f_X5_bound_L5_J54
      rw [p_wI (x := (i : Int) + 1) (by omega) (by omega)]
      by_cases a : M (s + 7) i = st
      · rw [if_neg (by omega)]
        by_cases e : d = 0
        · rw [if_pos e]
          by_cases g : st ≤ M (s + 8) i
          · rw [if_pos g]
            exact no (fun z => by have := z.2; rw [if_pos e] at this; omega)
          · rw [if_neg g]
            exact yes ⟨a, by rw [if_pos e]; omega⟩
        · rw [if_neg e]
          by_cases g : M (s + 8) i ≤ st
          · rw [if_pos g]
            exact no (fun z => by have := z.2; rw [if_neg e] at this; omega)
          · rw [if_neg g]
            exact yes ⟨a, by rw [if_neg e]; omega⟩
      · rw [if_pos (by omega)]
        exact no (fun z => a z.1)
theorem p_bound {M : Mem} {s st d : Int} {ns n : Nat} (hs : M s 6 = ns) (h7 : ns ≤ 7) (hn : 9 ≤ n) : ∃ b : Nat, f_X5_bound n s st d M = some (b : Int) ∧ b < 2 ^ ns ∧ ∀ j, b.testBit j = true ↔ (j < ns ∧ pWt (M (s + 7)) (M (s + 8)) st d j) := by
  obtain ⟨b, b1, b2⟩ := l_bound (st := st) (d := d) hs h7 9 n 0 0 hn (by omega) (by omega) (by omega) (fun j hj => absurd hj (by omega))
  refine ⟨b, ?_, b2⟩
  unfold f_X5_bound
  have e : f_X5_bound_L5 n s st d 0 0 M = some (b : Int) := b1
  rw [e]
  rfl
theorem l_waiting {N : Mem} {st d : Int} {ns : Nat} (hs : N 802 1 = ns) (h7 : ns ≤ 7) : ∀ (k n : Nat) (acc i : Nat), k ≤ n → i ≤ ns → ns - i < k → acc < 2 ^ i → (∀ j, j < i → (acc.testBit j = true ↔ pWt (fun x => N 802 (89 + 6 * x)) (fun x => N 802 (90 + 6 * x)) st d j)) →
    ∃ b : Nat, f_X12_waiting_L15 n st d acc i N = some (b : Int) ∧ b < 2 ^ ns ∧ ∀ j, b.testBit j = true ↔ (j < ns ∧ pWt (fun x => N 802 (89 + 6 * x)) (fun x => N 802 (90 + 6 * x)) st d j) := by
  intro k
  induction k with
  | zero => intro n acc i _ h1 h2; omega
  | succ k ih =>
    intro n acc i hn h1 h2 h3 h4
    obtain ⟨n, rfl⟩ : ∃ m, n = m + 1 := ⟨n - 1, by omega⟩
    rw [f_X12_waiting_L15, hs]
    by_cases c : ns ≤ i
    · have : i = ns := by omega
      subst this
      rw [if_pos (by omega)]
      refine ⟨acc, rfl, h3, fun j => ?_⟩
      by_cases hj : j < i
      · rw [h4 j hj]
        exact ⟨fun z => ⟨hj, z⟩, fun z => z.2⟩
      · rw [p_hi h3 (by omega)]
        exact ⟨fun z => by simp at z, fun z => absurd z.1 hj⟩
    · have hp := p_pow7 (i := i) (by omega)
      have hp2 := p_add h3
      rw [if_neg (by omega), p_get (by omega) (by omega) (by omega) (by omega), p_get (by omega) (by omega) (by omega) (by omega), p_wI (x := (i : Int) + 1) (by omega) (by omega)]
      have ei : ((i : Int) + 1) = ((i + 1 : Nat) : Int) := by omega
      have e0 : bOr (acc : Int) 0 = acc := by have := p_or (a := acc) (b := 0) (by omega) (by omega); simpa using this
      have no : ¬ pWt (fun x => N 802 (89 + 6 * x)) (fun x => N 802 (90 + 6 * x)) st d i → ∃ b : Nat, f_X12_waiting_L15 n st d (bOr acc 0) (i + 1 : Int) N = some (b : Int) ∧ b < 2 ^ ns ∧ ∀ j, b.testBit j = true ↔ (j < ns ∧ pWt (fun x => N 802 (89 + 6 * x)) (fun x => N 802 (90 + 6 * x)) st d j) := by
        intro q
        rw [ei, e0]
        refine ih n acc (i + 1) (by omega) (by omega) (by omega) (Nat.lt_trans h3 (Nat.pow_lt_pow_right (by omega) (by omega))) (fun j hj => ?_)
        by_cases hji : j = i
        · subst hji
          rw [p_hi h3 (by omega)]
          exact ⟨fun z => by simp at z, fun z => absurd z q⟩
        · exact h4 j (by omega)
      have yes : pWt (fun x => N 802 (89 + 6 * x)) (fun x => N 802 (90 + 6 * x)) st d i → ∃ b : Nat, f_X12_waiting_L15 n st d (bOr acc (bShl 1 i)) (i + 1 : Int) N = some (b : Int) ∧ b < 2 ^ ns ∧ ∀ j, b.testBit j = true ↔ (j < ns ∧ pWt (fun x => N 802 (89 + 6 * x)) (fun x => N 802 (90 + 6 * x)) st d j) := by
        intro q
        rw [ei, p_orpow (by omega) (by omega)]
        refine ih n _ (i + 1) (by omega) (by omega) (by omega) hp2.1 (fun j hj => ?_)
        rw [hp2.2]
        by_cases hji : j = i
        · subst hji
          exact ⟨fun z => q, fun z => Or.inr rfl⟩
        · rw [← h4 j (by omega)]
          exact ⟨fun z => z.resolve_right hji, Or.inl⟩
      unfold f_X12_waiting_L15_J67
      simp only [Option.bind_some]
      rw [p_wI (x := (i : Int) + 1) (by omega) (by omega), show (88 + 6 * (i : Int) + 1) = 89 + 6 * i by omega, show (88 + 6 * (i : Int) + 2) = 90 + 6 * i by omega]
      by_cases a : N 802 (89 + 6 * i) = st
      · rw [if_neg (by omega)]
        by_cases e : d = 0
        · rw [if_pos e]
          by_cases g : st ≤ N 802 (90 + 6 * i)
          · rw [if_pos g]
            exact no (fun z => by have := z.2; rw [if_pos e] at this; dsimp only at this; omega)
          · rw [if_neg g]
            exact yes ⟨a, by rw [if_pos e]; dsimp only; omega⟩
        · rw [if_neg e]
          by_cases g : N 802 (90 + 6 * i) ≤ st
          · rw [if_pos g]
            exact no (fun z => by have := z.2; rw [if_neg e] at this; dsimp only at this; omega)
          · rw [if_neg g]
            exact yes ⟨a, by rw [if_neg e]; dsimp only; omega⟩
      · rw [if_pos (by omega)]
        exact no (fun z => a z.1)
theorem s_waiting {M N : Mem} {n : Nat} {p q : Int} (h : pRel M N) (hn : 20 ≤ n) : ∃ r, f_X11_waiting n p q M = some r ∧ f_X12_waiting n p q N = some r := by
  have h1 := pR_num h
  have hsh := pR_ship h
  unfold f_X11_waiting f_X12_waiting
  rw [p_isStepM h, p_isStepN h]
  by_cases c : 0 ≤ p ∧ p < N 802 0
  · rw [if_pos c, if_neg (by decide), if_pos (by decide)]
    obtain ⟨ns, hns⟩ : ∃ ns : Nat, N 802 1 = ns := ⟨(N 802 1).toNat, by omega⟩
    obtain ⟨b, b1, b2, b3⟩ := p_bound (s := 3) (st := p) (d := q) (n := n) (M := M) (h1.2.1.1.trans hns) (by omega) (by omega)
    obtain ⟨b', c1, c2, c3⟩ := l_waiting (st := p) (d := q) hns (by omega) 9 n 0 0 (by omega) (by omega) (by omega) (by omega) (fun j hj => absurd hj (by omega))
    have e : b = b' := by
      apply Nat.eq_of_testBit_eq
      intro j
      rw [Bool.eq_iff_iff, b3, c3]
      unfold pWt
      constructor
      · rintro ⟨g, g2⟩
        have := hsh j (by omega) (by omega)
        refine ⟨g, ?_⟩
        dsimp only
        rw [← this.2.1.1, ← this.2.2.1.1]
        exact g2
      · rintro ⟨g, g2⟩
        have := hsh j (by omega) (by omega)
        refine ⟨g, ?_⟩
        dsimp only at g2
        rw [← this.2.1.1, ← this.2.2.1.1] at g2
        exact g2
    have c1' : f_X12_waiting_L15 n p q 0 0 N = some (b' : Int) := c1
    rw [b1, c1', e]
    exact ⟨_, rfl, rfl⟩
  · rw [if_neg c]
    exact ⟨-1, rfl, rfl⟩
