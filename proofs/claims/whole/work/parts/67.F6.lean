set_option linter.unusedVariables false
set_option linter.unusedSimpArgs false
theorem pBook_move {M M' : Mem} {A A' : Int → Int} {W q st v : Int} (h : pBook M 3 A W) (q0 : 0 ≤ q) (q1 : q < 7) (t0 : 0 ≤ st) (t1 : st < 9) (h0 : 0 ≤ M 3 11) (h1 : M 3 11 ≤ 10099) (a : pPM M M' 3 q st v) (hn : A' (2106 + W % 8500) = (M 3 11 * 7 + q) * 9 + st) (ho : ∀ j, 2106 ≤ j → j ≠ 2106 + W % 8500 → A' j = A j) : pBook M' 3 A' (W + 1) := by
  obtain ⟨b1, b2, b3⟩ := h
  obtain ⟨a1, a2, a3, a4, a5, a6⟩ := a
  refine ⟨by rw [a3, b1]; omega, by omega, fun i i0 i1 => ?_⟩
  have g := a6 i i0 (by rw [b1]; omega)
  rw [g]
  by_cases c : i + 1 = min 40 (M 3 15 + 1)
  · rw [if_pos c, show W + 1 - min (W + 1) 40 + i = W by omega, hn]
    unfold pPg
    omega
  · rw [if_neg c]
    by_cases d : M 3 15 = 40
    · rw [if_pos d]
      have k := b3 (i + 1) (by omega) (by omega)
      have e : ¬ (W - min W 40 + (i + 1)) % 8500 = W % 8500 := by omega
      rw [show W + 1 - min (W + 1) 40 + i = W - min W 40 + (i + 1) by omega, ho _ (by omega) (by omega)]
      exact k
    · rw [if_neg d]
      have k := b3 i (by omega) (by omega)
      have e : ¬ (W - min W 40 + i) % 8500 = W % 8500 := by omega
      rw [show W + 1 - min (W + 1) 40 + i = W - min W 40 + i by omega, ho _ (by omega) (by omega)]
      exact k
theorem pRp_mv {M N M' N' M0 N0 : Mem} {s H P0 W0 st v : Int} {p q : Nat} (h : pRp M N s H P0 W0 p) (f : pFp M0 N0 M N s W0 p) (hs : s = 3 ∨ s = 762) (hW : 0 ≤ W0) (hH : H ≤ 10099) (q1 : (q : Int) < N 802 1) (hb : p.testBit q = false) (hg : N 802 (89 + 6 * (q : Int)) ≠ N 802 (90 + 6 * (q : Int))) (t0 : 0 ≤ st) (t1 : st < N 802 0) (v0 : 0 ≤ v) (v1 : v ≤ 9999)
    (a : pPM M M' s q st v) (b : pGo N N' q st v) : pRp M' N' s H P0 W0 (p ||| 2 ^ q) ∧ pFp M0 N0 M' N' s W0 (p ||| 2 ^ q) := by
  obtain ⟨⟨l1, l2, l3⟩, h2, h3, h4, h5⟩ := h
  have aa := a
  obtain ⟨a1, a2, a3, a4, a5, a6⟩ := aa
  obtain ⟨b1, b2, b3, b4, b5, b6, b7, b8⟩ := b
  have hq := q1
  have n9 := l1.1
  have n7 := l2.1
  have hq7 : q < 7 := by omega
  have hc := p_cntAdd h2 hq7 hb
  have hlt : p ||| 2 ^ q < 128 := Nat.or_lt_two_pow (n := 7) h2 (Nat.pow_lt_pow_right (by omega) hq7)
  have hc7 := p_cnt7 hlt
  have e802 : ∀ j, j < 88 → j ≠ 12 → N' 802 j = N 802 j := fun j j1 j2 => b7 j (by omega) (by omega) j2 (by omega)
  have gq := l2.2 q (by omega) q1
  refine ⟨⟨⟨⟨?_, fun i i0 i1 => ?_⟩, ⟨?_, fun i i0 i1 => ?_⟩, ?_, ?_, ?_, ?_, ?_⟩, hlt, fun j hj => ?_, fun k0 k1 => ?_, ?_⟩, ?_⟩
  · rw [a2 0 (by decide), e802 0 (by decide) (by decide)]; exact l1.1
  · rw [e802 0 (by decide) (by decide)] at i1
    rw [a1 (s + 1) (by omega) (by omega) (by omega) (by omega), a1 (s + 2) (by omega) (by omega) (by omega) (by omega), a1 (s + 3) (by omega) (by omega) (by omega) (by omega), a1 (s + 4) (by omega) (by omega) (by omega) (by omega), a1 (s + 5) (by omega) (by omega) (by omega) (by omega),
      e802 _ (by omega) (by omega), e802 _ (by omega) (by omega), e802 _ (by omega) (by omega), e802 _ (by omega) (by omega), e802 _ (by omega) (by omega)]
    exact l1.2 i i0 i1
  · rw [a2 6 (by decide), e802 1 (by decide) (by decide)]; exact l2.1
  · rw [e802 1 (by decide) (by decide)] at i1
    have g := l2.2 i i0 i1
    rw [a1 (s + 6) (by omega) (by omega) (by omega) (by omega), a1 (s + 8) (by omega) (by omega) (by omega) (by omega), a4, a5, e802 0 (by decide) (by decide), b7 (88 + 6 * i) (by omega) (by omega) (by omega) (by omega), b7 (90 + 6 * i) (by omega) (by omega) (by omega) (by omega)]
    by_cases c : i = q
    · subst c
      rw [if_pos rfl, if_pos rfl, b6, b5, gq.2.2.2.1]
      exact ⟨g.1, ⟨rfl, by omega, by omega⟩, g.2.2.1, ⟨rfl, by omega, by omega⟩⟩
    · rw [if_neg c, if_neg c, b7 (89 + 6 * i) (by omega) (by omega) (by omega) (by omega), b7 (91 + 6 * i) (by omega) (by omega) (by omega) (by omega)]
      exact g
  · rw [a2 11 (by decide), e802 8 (by decide) (by decide)]; exact l3.1
  · rw [a2 12 (by decide), e802 9 (by decide) (by decide)]; exact l3.2.1
  · rw [a2 13 (by decide), e802 10 (by decide) (by decide)]; exact l3.2.2.1
  · rw [a2 14 (by decide), e802 11 (by decide) (by decide)]; exact l3.2.2.2.1
  · rw [a3]
    have := l3.2.2.2.2
    omega
  · rw [b4, Nat.testBit_or, Nat.testBit_two_pow]
    by_cases c : q = j
    · subst c
      rw [if_pos rfl]
      simp
    · rw [if_neg (by omega), h3 j hj]
      simp [c]
  · have := h4 k0 k1
    rw [b3, this, p_wI (by omega) (by omega), hc]
    omega
  · rcases h5 with ⟨e1, e2, e3, e4⟩ | ⟨e1, e2, e3⟩
    · rcases b8 with ⟨g1, -⟩ | ⟨g1, g2, g3, g4⟩
      · omega
      · refine Or.inl ⟨e1, by rw [b2 28 (by decide)]; exact e2, by rw [g2, e3, hc]; omega, ?_⟩
        rw [g2]
        have k := l3.1
        subst e1
        exact pBook_move e4 (by omega) (by omega) t0 (by omega) (by omega) (by omega) a (by rw [g3, k.1]) g4
    · rcases b8 with ⟨g1, g2, g3⟩ | ⟨g1, -⟩
      · exact Or.inr ⟨e1, by rw [b2 28 (by decide)]; exact e2, by rw [g2]; exact e3⟩
      · omega
  · obtain ⟨f1, f2, f3, f4, f5, f6, f7, f8⟩ := f
    refine ⟨fun x x0 x1 j => by rw [a1 x (by omega) (by omega) (by omega) (by omega)]; exact f1 x x0 x1 j, fun x x0 x1 j => by rw [b1 x (by omega) (by omega) (by omega)]; exact f2 x x0 x1 j, fun j j0 j1 => by rw [b2 j j1]; exact f3 j j0 j1, ?_, fun i i0 i1 => ?_, fun e i i0 => ?_, fun i i0 i1 => by rw [e802 i (by omega) (by omega)]; exact f7 i i0 i1, fun i i0 i1 => ?_⟩
    rotate_left 3
    · have z := f8 i i0 i1
      by_cases c : i = q
      · subst c
        refine ⟨by rw [b7 _ (by omega) (by omega) (by omega) (by omega)]; exact z.1, fun w => absurd ?_ hg⟩
        rw [z.2 w, z.1]
        exact w
      · rw [b7 (90 + 6 * i) (by omega) (by omega) (by omega) (by omega), b7 (89 + 6 * i) (by omega) (by omega) (by omega) (by omega)]
        exact z
    · refine pStat_trans f4 ⟨fun i hi => ?_, fun t s0 s1 => ⟨?_, ?_, ?_, ?_⟩, fun t s0 s1 => ⟨?_, ?_, ?_⟩⟩
      all_goals exact b7 _ (by omega) (by omega) (by omega) (by omega)
    · rw [hc] at i1
      rw [← f5 i i0 (fun t k0 k1 => i1 t k0 (by omega))]
      rcases b8 with ⟨g1, g2, g3⟩ | ⟨g1, g2, g3, g4⟩
      · exact g3 i i0
      · refine g4 i i0 ?_
        rcases h5 with ⟨e1, e2, e3, e4⟩ | ⟨e1, e2, e3⟩
        · rw [e3]
          exact i1 (pCnt p) (by omega) (by omega)
        · omega
    · rw [← f6 e i i0]
      by_cases c : i < 2106
      · exact b7 i (by omega) (by omega) (by omega) c
      · rcases b8 with ⟨g1, g2, g3⟩ | ⟨g1, -⟩
        · exact g3 i (by omega)
        · rcases h5 with ⟨e1, -⟩ | ⟨e1, e2, -⟩ <;> omega
theorem l_low {x : Nat} (h : x < 128) : ∀ (k n i : Nat), 7 - i < k → k ≤ n → i ≤ 7 → (∀ j, j < i → x.testBit j = false) → (∃ q : Nat, q < 7 ∧ f_X11_lowest_L2 n x i = some (q : Int) ∧ x.testBit q = true ∧ ∀ j, j < q → x.testBit j = false) ∨ (f_X11_lowest_L2 n x i = some (-1) ∧ ∀ j, j < 7 → x.testBit j = false) := by
  intro k
  induction k with
  | zero => intro n i h0; omega
  | succ k ih =>
    intro n i h0 h1 h2 h3
    obtain ⟨n, rfl⟩ : ∃ m, n = m + 1 := ⟨n - 1, by omega⟩
    rw [f_X11_lowest_L2]
    by_cases c : i = 7
    · subst c
      rw [if_pos (by omega)]
      exact Or.inr ⟨rfl, h3⟩
    · rw [if_neg (by omega)]
      by_cases d : x.testBit i = true
      · rw [if_neg (by rw [p_andpow0 (by omega) (by omega), d]; simp)]
        exact Or.inl ⟨i, by omega, rfl, d, h3⟩
      · have d' : x.testBit i = false := by cases e : x.testBit i <;> simp_all
        rw [if_pos (by rw [p_andpow0 (by omega) (by omega)]; exact d'), p_wI (by omega) (by omega), show (i : Int) + 1 = ((i + 1 : Nat) : Int) by omega]
        refine ih n (i + 1) (by omega) (by omega) (by omega) (fun j hj => ?_)
        by_cases e : j = i
        · rw [e]; exact d'
        · exact h3 j (by omega)
theorem l_waitN {N : Mem} {st d : Int} {ns p : Nat} (hs : N 802 1 = ns) (h7 : ns ≤ 7) (hp : ∀ j : Nat, j < 7 → N 809 j = if p.testBit j then 1 else 0) : ∀ (k n i : Nat), 7 - i < k → k ≤ n → i ≤ ns → (∀ j, j < i → ¬ (p.testBit j = false ∧ pWt (fun x => N 802 (89 + 6 * x)) (fun x => N 802 (90 + 6 * x)) st d j)) →
    (∃ q : Nat, q < ns ∧ f_X12_waiterOn_L2 n st d i N = some (q : Int) ∧ (p.testBit q = false ∧ pWt (fun x => N 802 (89 + 6 * x)) (fun x => N 802 (90 + 6 * x)) st d q) ∧ ∀ j, j < q → ¬ (p.testBit j = false ∧ pWt (fun x => N 802 (89 + 6 * x)) (fun x => N 802 (90 + 6 * x)) st d j))
    ∨ (f_X12_waiterOn_L2 n st d i N = some (-1) ∧ ∀ j, j < ns → ¬ (p.testBit j = false ∧ pWt (fun x => N 802 (89 + 6 * x)) (fun x => N 802 (90 + 6 * x)) st d j)) := by
  intro k
  induction k with
  | zero => intro n i h0; omega
  | succ k ih =>
    intro n i h0 h1 h2 h3
    obtain ⟨n, rfl⟩ : ∃ m, n = m + 1 := ⟨n - 1, by omega⟩
    rw [f_X12_waiterOn_L2, hs]
    by_cases c : i = ns
    · rw [if_pos (by omega)]
      exact Or.inr ⟨rfl, fun j hj => h3 j (by omega)⟩
    · rw [if_neg (by omega), p_ck (by omega), hp i (by omega), p_get (by omega) (by omega) (by omega) (by omega), p_get (by omega) (by omega) (by omega) (by omega), p_wI (x := (i : Int) + 1) (by omega) (by omega), show 88 + 6 * (i : Int) + 1 = 89 + 6 * i by omega, show 88 + 6 * (i : Int) + 2 = 90 + 6 * i by omega, show (i : Int) + 1 = ((i + 1 : Nat) : Int) by omega]
      have no : ¬ (p.testBit i = false ∧ pWt (fun x => N 802 (89 + 6 * x)) (fun x => N 802 (90 + 6 * x)) st d i) → ∀ j, j < i + 1 → ¬ (p.testBit j = false ∧ pWt (fun x => N 802 (89 + 6 * x)) (fun x => N 802 (90 + 6 * x)) st d j) := by
        intro z j hj
        by_cases e : j = i
        · rw [e]; exact z
        · exact h3 j (by omega)
      cases e : p.testBit i
      · rw [if_neg (by simp), Option.bind_some, Option.bind_some, Option.bind_some]
        by_cases a : N 802 (89 + 6 * i) = st
        · rw [if_neg (fun z => z a)]
          by_cases f : d = 0
          · rw [if_pos f]
            by_cases g : st ≤ N 802 (90 + 6 * i)
            · rw [if_pos g]
              exact ih n (i + 1) (by omega) (by omega) (by omega) (no (fun z => by have := z.2.2; rw [if_pos f] at this; dsimp only at this; omega))
            · rw [if_neg g]
              exact Or.inl ⟨i, by omega, rfl, ⟨e, a, by rw [if_pos f]; dsimp only; omega⟩, h3⟩
          · rw [if_neg f]
            by_cases g : N 802 (90 + 6 * i) ≤ st
            · rw [if_pos g]
              exact ih n (i + 1) (by omega) (by omega) (by omega) (no (fun z => by have := z.2.2; rw [if_neg f] at this; dsimp only at this; omega))
            · rw [if_neg g]
              exact Or.inl ⟨i, by omega, rfl, ⟨e, a, by rw [if_neg f]; dsimp only; omega⟩, h3⟩
        · rw [if_pos a]
          exact ih n (i + 1) (by omega) (by omega) (by omega) (no (fun z => a z.2.1))
      · rw [if_pos (by simp)]
        exact ih n (i + 1) (by omega) (by omega) (by omega) (no (fun z => by rw [e] at z; simp at z))
/-- who goes there, as both find it -/
theorem l_waiter {M N : Mem} {s st d : Int} {p n nr : Nat} (hh : pSh M N s) (hp : p < 128) (hN : ∀ j : Nat, j < 7 → N 809 j = if p.testBit j then 1 else 0) (hn : 20 ≤ n) (hnr : 20 ≤ nr) :
    ∃ (b : Nat) (q : Int), f_X5_bound n s st d M = some (b : Int) ∧ f_X11_lowest n (bAnd b (bXor p (-1))) = some q ∧ f_X12_waiterOn nr st d N = some q ∧ (q = -1 ∨ ∃ j : Nat, q = j ∧ (j : Int) < N 802 1 ∧ p.testBit j = false ∧ N 802 (89 + 6 * j) = st ∧ N 802 (90 + 6 * j) ≠ st) := by
  obtain ⟨h1, h2⟩ := hh
  obtain ⟨ns, hns⟩ : ∃ ns : Nat, N 802 1 = ns := ⟨(N 802 1).toNat, by omega⟩
  obtain ⟨b, b1, b2, b3⟩ := p_bound (s := s) (st := st) (d := d) (n := n) (M := M) (h1.1.trans hns) (by omega) (by omega)
  have b128 : b < 128 := Nat.lt_of_lt_of_le b2 (p_pow7 (by omega))
  have e : ∀ j, (b &&& (b ^^^ p)).testBit j = true ↔ (p.testBit j = false ∧ b.testBit j = true) := by
    intro j
    rw [Nat.testBit_and, Nat.testBit_xor]
    cases b.testBit j <;> cases p.testBit j <;> simp
  have ew : ∀ j, b.testBit j = true ↔ (j < ns ∧ pWt (fun x => N 802 (89 + 6 * x)) (fun x => N 802 (90 + 6 * x)) st d j) := by
    intro j
    rw [b3]
    unfold pWt
    constructor
    · rintro ⟨g, g2⟩
      have := h2 j (by omega) (by omega)
      refine ⟨g, ?_⟩
      dsimp only
      rw [← this.2.1.1, ← this.2.2.1.1]
      exact g2
    · rintro ⟨g, g2⟩
      have := h2 j (by omega) (by omega)
      refine ⟨g, ?_⟩
      dsimp only at g2
      rw [← this.2.1.1, ← this.2.2.1.1] at g2
      exact g2
  have lt2 : b &&& (b ^^^ p) < 128 := Nat.lt_of_le_of_lt Nat.and_le_left b128
  refine ⟨b, ?_⟩
  unfold f_X11_lowest f_X12_waiterOn
  rw [p_andnot (by omega) (by omega)]
  rcases l_low lt2 10 n 0 (by omega) (by omega) (by omega) (fun j hj => by omega) with ⟨q, q1, q2, q3, q4⟩ | ⟨q1, q2⟩
  · rcases l_waitN (st := st) (d := d) hns (by omega) hN 10 nr 0 (by omega) (by omega) (by omega) (fun j hj => by omega) with ⟨r, r1, r2, r3, r4⟩ | ⟨r1, r2⟩
    · have : q = r := by
        rcases Nat.lt_trichotomy q r with z | z | z
        · have := (e q).mp q3
          exact absurd ⟨this.1, ((ew q).mp this.2).2⟩ (r4 q z)
        · exact z
        · have := (e r).mpr ⟨r3.1, (ew r).mpr ⟨r1, r3.2⟩⟩
          rw [q4 r z] at this
          simp at this
      subst this
      exact ⟨q, b1, q2, r2, Or.inr ⟨q, rfl, by omega, r3.1, r3.2.1, by have := r3.2.2; dsimp only at this; split at this <;> omega⟩⟩
    · have := (e q).mp q3
      have k := (ew q).mp this.2
      exact absurd ⟨this.1, k.2⟩ (r2 q k.1)
  · rcases l_waitN (st := st) (d := d) hns (by omega) hN 10 nr 0 (by omega) (by omega) (by omega) (fun j hj => by omega) with ⟨r, r1, r2, r3, r4⟩ | ⟨r1, r2⟩
    · have := (e r).mpr ⟨r3.1, (ew r).mpr ⟨r1, r3.2⟩⟩
      rw [q2 r (by omega)] at this
      simp at this
    · exact ⟨-1, b1, q1, r1, Or.inl rfl⟩
