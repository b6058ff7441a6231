set_option linter.unusedVariables false
set_option linter.unusedSimpArgs false
/-! a run -/
/-- who is where it wants to be -/
def pHm (N : Mem) (j : Nat) : Prop := N 802 (89 + 6 * (j : Int)) = N 802 (90 + 6 * (j : Int))
theorem p_all {b ns : Nat} (h : b < 2 ^ ns) (ha : ∀ j, j < ns → b.testBit j = true) : b = 2 ^ ns - 1 := by
  apply Nat.eq_of_testBit_eq
  intro j
  rw [Nat.testBit_two_pow_sub_one]
  by_cases c : j < ns
  · rw [ha j c]; simp [c]
  · rw [p_hi h (by omega)]; simp [c]
theorem l_home {M N0 : Mem} {s t lastb : Int} {ns : Nat} (hs : M s 6 = ns) (hN : N0 802 1 = ns) (h7 : ns ≤ 7) (he : ∀ i : Nat, i < ns → M (s + 7) i = N0 802 (89 + 6 * (i : Int)) ∧ M (s + 8) i = N0 802 (90 + 6 * (i : Int))) : ∀ (k nA nB : Nat) (acc i : Nat) (th : Int) (N : Mem), k ≤ nA → k ≤ nB → i ≤ ns → ns - i < k → acc < 2 ^ i → (∀ j, j < i → (acc.testBit j = true ↔ pHm N0 j)) → 0 ≤ th → th ≤ i → (th = i ↔ ∀ j, j < i → acc.testBit j = true) → (∀ x, x ≠ 822 → ∀ j, N x j = N0 x j) → (∀ j : Nat, i ≤ j → N 822 j = N0 822 j) → (∀ j : Nat, j < i → N 822 j = if acc.testBit j = true ∧ N0 822 j = -1 then t else N0 822 j) →
    ∃ (b : Nat) (th' : Int) (N' : Mem), f_X5_onGoals_L4 nA s acc i M = some (b : Int) ∧ f_X12_run_L55 nB lastb (-1) t th i N = some (th', N') ∧ b < 2 ^ ns ∧ (∀ j, b.testBit j = true ↔ (j < ns ∧ pHm N0 j)) ∧ (th' = ns ↔ b = 2 ^ ns - 1) ∧ (∀ x, x ≠ 822 → ∀ j, N' x j = N0 x j) ∧ (∀ j : Nat, j < ns → N' 822 j = if b.testBit j = true ∧ N0 822 j = -1 then t else N0 822 j) := by
  intro k
  induction k with
  | zero => intro nA nB acc i th N _ _ h1 h2; omega
  | succ k ih =>
    intro nA nB acc i th N hA hB h1 h2 h3 h4 t0 t1 t2 f1 f2 f3
    obtain ⟨nA, rfl⟩ : ∃ m, nA = m + 1 := ⟨nA - 1, by omega⟩
    obtain ⟨nB, rfl⟩ : ∃ m, nB = m + 1 := ⟨nB - 1, by omega⟩
    rw [f_X5_onGoals_L4, f_X12_run_L55, hs, f1 802 (by decide), hN]
    by_cases c : i = ns
    · subst c
      rw [if_pos (by omega), if_pos (by omega)]
      refine ⟨acc, th, N, rfl, rfl, h3, fun j => ?_, ?_, f1, f3⟩
      · by_cases hj : j < i
        · rw [h4 j hj]; exact ⟨fun z => ⟨hj, z⟩, fun z => z.2⟩
        · rw [p_hi h3 (by omega)]; exact ⟨fun z => by simp at z, fun z => absurd z.1 hj⟩
      · rw [t2]
        constructor
        · exact fun z => p_all h3 z
        · intro z j hj
          rw [z, Nat.testBit_two_pow_sub_one]
          simp [hj]
    · have hp := p_pow7 (i := i) (by omega)
      have hp2 := p_add h3
      have g := he i (by omega)
      have e802 : ∀ j, N 802 j = N0 802 j := f1 802 (by decide)
      have wacc : ¬ acc.testBit i = true := by rw [p_hi h3 (Nat.le_refl _)]; simp
      rw [if_neg (show ¬ (ns : Int) ≤ i by omega), if_neg (show ¬ (ns : Int) ≤ i by omega), p_ck (show 0 ≤ (i : Int) ∧ (i : Int) < 7 by omega), g.1, g.2, p_get (by omega) (by omega) (by omega) (by omega), p_get (by omega) (by omega) (by omega) (by omega), Option.bind_some, Option.bind_some, show 88 + 6 * (i : Int) + 1 = 89 + 6 * (i : Int) by omega, show 88 + 6 * (i : Int) + 2 = 90 + 6 * (i : Int) by omega, e802, e802, p_orpow (by omega) (by omega), p_wI (x := (i : Int) + 1) (by omega) (by omega), show ((i : Int) + 1) = ((i + 1 : Nat) : Int) by omega]
      unfold f_X12_run_L55_J88 f_X12_run_L55_J102
      by_cases d : N0 802 (89 + 6 * (i : Int)) = N0 802 (90 + 6 * (i : Int))
      · rw [if_neg (fun z => z d), if_neg (fun z => z d), if_neg (by decide), if_neg (by decide), p_ck (by omega), f2 i (Nat.le_refl _), p_wI (x := th + 1) (by omega) (by omega), p_wI (x := (i : Int) + 1) (by omega) (by omega), show ((i : Int) + 1) = ((i + 1 : Nat) : Int) by omega]
        have A1 : ∀ j, j < i + 1 → ((acc ||| 2 ^ i).testBit j = true ↔ pHm N0 j) := by
          intro j hj
          rw [hp2.2]
          by_cases e : j = i
          · subst e; exact ⟨fun _ => d, fun _ => Or.inr rfl⟩
          · rw [← h4 j (by omega)]; exact ⟨fun z => z.resolve_right e, Or.inl⟩
        have A2 : th + 1 = ((i + 1 : Nat) : Int) ↔ ∀ j, j < i + 1 → (acc ||| 2 ^ i).testBit j = true := by
          constructor
          · intro z j hj
            rw [hp2.2]
            by_cases e : j = i
            · exact Or.inr e
            · exact Or.inl (t2.mp (by omega) j (by omega))
          · intro z
            have := t2.mpr (fun j hj => by
              have := z j (by omega)
              rw [hp2.2] at this
              rcases this with q | q
              · exact q
              · omega)
            omega
        have A3 : ∀ j : Nat, j < i → ((acc ||| 2 ^ i).testBit j = true ∧ N0 822 j = -1 ↔ acc.testBit j = true ∧ N0 822 j = -1) := by
          intro j hj
          rw [hp2.2]
          constructor
          · rintro ⟨q | q, r⟩
            · exact ⟨q, r⟩
            · omega
          · rintro ⟨q, r⟩; exact ⟨Or.inl q, r⟩
        by_cases e : N0 822 i = -1
        · rw [if_neg (fun z => z e)]
          simp only [p_lt]
          refine ih nA nB _ (i + 1) (th + 1) _ (by omega) (by omega) (by omega) (by omega) hp2.1 A1 (by omega) (by omega) A2 (fun x hx j => by rw [up_nex hx]; exact f1 x hx j) (fun j hj => by rw [up_nei (by omega)]; exact f2 j (by omega)) (fun j hj => ?_)
          by_cases q : j = i
          · subst q
            rw [up_eq, if_pos ⟨(hp2.2 j).mpr (Or.inr rfl), e⟩]
          · rw [up_nei (by omega), f3 j (by omega)]
            simp only [A3 j (by omega)]
        · rw [if_pos e]
          refine ih nA nB _ (i + 1) (th + 1) _ (by omega) (by omega) (by omega) (by omega) hp2.1 A1 (by omega) (by omega) A2 f1 (fun j hj => f2 j (by omega)) (fun j hj => ?_)
          by_cases q : j = i
          · subst q
            rw [if_neg (fun z => e z.2), f2 j (Nat.le_refl _)]
          · rw [f3 j (by omega)]
            simp only [A3 j (by omega)]
      · rw [if_pos d, if_pos d, if_pos rfl, if_pos rfl, p_wI (x := th + 0) (by omega) (by omega), p_wI (x := (i : Int) + 1) (by omega) (by omega), show ((i : Int) + 1) = ((i + 1 : Nat) : Int) by omega, Int.add_zero]
        refine ih nA nB _ (i + 1) th _ (by omega) (by omega) (by omega) (by omega) (Nat.lt_trans h3 (Nat.pow_lt_pow_right (by omega) (by omega))) (fun j hj => ?_) t0 (by omega) ?_ f1 (fun j hj => f2 j (by omega)) (fun j hj => ?_)
        · by_cases e : j = i
          · subst e; exact ⟨fun z => absurd z wacc, fun z => absurd z d⟩
          · exact h4 j (by omega)
        · constructor
          · intro z; omega
          · intro z; exact absurd (z i (by omega)) wacc
        · by_cases e : j = i
          · subst e
            rw [if_neg (fun z => wacc z.1), f2 j (Nat.le_refl _)]
          · exact f3 j (by omega)
/-- who came last, of like ones the first -/
theorem l_latest {N : Mem} {ns : Nat} {c : Nat} {t : Int} (hN : N 802 1 = ns) (h7 : ns ≤ 7) (hg : ∀ j : Nat, j < ns → (c.testBit j = false → N 822 j = t) ∧ (c.testBit j = true → N 822 j < t)) :
    ∀ (k n : Nat) (x i : Nat), k ≤ n → ns - i < k → i ≤ ns → x < i → ((c.testBit x = false ∧ ∀ j, j < x → c.testBit j = true) ∨ (∀ j, j < i → c.testBit j = true)) →
      ∃ q : Nat, f_X12_run_L178 n x i N = some (q : Int) ∧ q < ns ∧ ((c.testBit q = false ∧ ∀ j, j < q → c.testBit j = true) ∨ (∀ j, j < ns → c.testBit j = true)) := by
  intro k
  induction k with
  | zero => intro n x i _ h; omega
  | succ k ih =>
    intro n x i hn h0 h1 h2 h3
    obtain ⟨n, rfl⟩ : ∃ m, n = m + 1 := ⟨n - 1, by omega⟩
    rw [f_X12_run_L178, hN]
    by_cases d : i = ns
    · subst d
      rw [if_pos (by omega)]
      exact ⟨x, rfl, h2, h3⟩
    · have gx := hg x (by omega)
      have gi := hg i (by omega)
      rw [if_neg (by omega), p_ck (by omega), p_ck (by omega), p_wI (x := (i : Int) + 1) (by omega) (by omega), show ((i : Int) + 1) = ((i + 1 : Nat) : Int) by omega]
      by_cases e : N 822 i ≤ N 822 x
      · rw [if_pos e]
        refine ih n x (i + 1) (by omega) (by omega) (by omega) (by omega) ?_
        rcases h3 with h3 | h3
        · exact Or.inl h3
        · right
          intro j hj
          by_cases q : j = i
          · subst q
            cases z : c.testBit j
            · have := gi.1 z
              have := gx.2 (h3 x h2)
              omega
            · rfl
          · exact h3 j (by omega)
      · rw [if_neg e]
        refine ih n i (i + 1) (by omega) (by omega) (by omega) (by omega) ?_
        rcases h3 with h3 | h3
        · have := gx.1 h3.1
          cases z : c.testBit i
          · have := gi.1 z
            omega
          · have := gi.2 z
            omega
        · cases z : c.testBit i
          · exact Or.inl ⟨rfl, h3⟩
          · right
            intro j hj
            by_cases q : j = i
            · subst q; exact z
            · exact h3 j (by omega)
theorem l_run8 (a b : Int) (m : Nat) (N : Mem) : ∃ N', f_X12_run_L8 (m + 8) a b 0 N = some N' ∧ (∀ x, x ≠ 822 → ∀ j, N' x j = N x j) ∧ (∀ j : Nat, j < 7 → N' 822 j = -1) := by
  simp (disch := omega) only [f_X12_run_L8, p_wI, p_ck, p_lt, if_neg, if_pos, Int.reduceAdd]
  refine ⟨_, rfl, fun x hx j => ?_, fun j hj => ?_⟩
  · simp (disch := omega) only [up_nex]
  · have : j = 0 ∨ j = 1 ∨ j = 2 ∨ j = 3 ∨ j = 4 ∨ j = 5 ∨ j = 6 := by omega
    rcases this with r | r | r | r | r | r | r <;> subst r <;> simp [upM]
theorem p_shlI {ns : Nat} (h7 : ns ≤ 7) : wI (bShl 1 ns - 1) = ((2 ^ ns - 1 : Nat) : Int) := by
  have hp := p_pow7 h7
  have h1 : 1 ≤ 2 ^ ns := Nat.one_le_two_pow
  rw [p_shl1 (by omega), p_wI (by omega) (by omega)]
  omega
theorem pAh_822 {M0 N0 M N N' : Mem} (a : pAh M0 N0 M N) (e : ∀ x, x ≠ 822 → ∀ j, N' x j = N x j) : pAh M0 N0 M N' := by
  obtain ⟨a1, a2, a3, a5, a6, a7, a8, a9⟩ := a
  refine ⟨pLv_fr a1 (by decide) (fun _ _ _ => rfl) (e 802 (by decide)), by rw [e 802 (by decide)]; exact a2, a3, by rw [e 801 (by decide)]; exact a5, fun x x0 x1 x2 x3 j => by rw [e x x3]; exact a6 x x0 x1 x2 x3 j, fun j j0 j1 j2 => by rw [e 801 (by decide)]; exact a7 j j0 j1 j2, fun i i0 i1 => by rw [e 812 (by decide)]; exact a8 i i0 i1, fun i hi => by rw [e 802 (by decide)]; exact a9 i hi⟩
/-- hour by hour: c came by the hour before -/
theorem l_run {M0 N0 : Mem} (h : pRel M0 N0) {last : Int} {ns : Nat} (hns : N0 802 1 = ns) (n1 : 1 ≤ ns) : ∀ (k nA nB : Nat) (i : Int) (c : Nat) (M N : Mem), 49 - i < k → k + 700 ≤ nA → k + 700 ≤ nB → 0 ≤ i → i ≤ 49 → c < 2 ^ ns → c ≠ 2 ^ ns - 1 → pAh M0 N0 M N → N 802 8 ≤ 9999 + i → (∀ j : Nat, j < ns → (c.testBit j = false → N 822 j = -1) ∧ (c.testBit j = true → 0 ≤ N 822 j ∧ N 822 j < i ∧ pHm N j)) →
    ∃ v M' f N', f_X11_run_L34 nA last ((2 ^ ns - 1 : Nat) : Int) c i M = some (v, M') ∧ f_X12_run_L29 nB last (-1) i N = some (f, N') ∧ pAhM M0 M' ∧ pAhN N0 N' ∧ ((f = -1 ∧ v = -1) ∨ (f ≠ -1 ∧ last = 0 ∧ v = f) ∨ (f ≠ -1 ∧ last ≠ 0 ∧ ∃ c' q : Nat, c' < 2 ^ ns ∧ c' ≠ 2 ^ ns - 1 ∧ v = q ∧ q < ns ∧ c'.testBit q = false ∧ (∀ j, j < q → c'.testBit j = true) ∧ (∀ j : Nat, j < ns → (c'.testBit j = false → N' 822 j = f) ∧ (c'.testBit j = true → N' 822 j < f)))) := by
  have h7 := (pR_num h).2.1
  have p7 := p_pow7 (i := ns) (by omega)
  have p1 : 1 ≤ 2 ^ ns := Nat.one_le_two_pow
  intro k
  induction k with
  | zero => intro nA nB i c M N h0; omega
  | succ k ih =>
    intro nA nB i c M N h0 h1 h2 i0 i1 c1 c2 a hh hc
    obtain ⟨nA, rfl⟩ : ∃ m, nA = m + 1 := ⟨nA - 1, by omega⟩
    obtain ⟨nB, rfl⟩ : ∃ m, nB = m + 1 := ⟨nB - 1, by omega⟩
    have e1 : N 802 1 = ns := by rw [a.2.2.2.2.2.2.2 1 (by decide)]; exact hns
    rw [f_X11_run_L34, f_X12_run_L29]
    by_cases d : 48 < i
    · rw [if_pos d, if_pos d]
      exact ⟨-1, M, -1, N, rfl, rfl, a.2.2.1, a.2.2.2, Or.inl ⟨rfl, rfl⟩⟩
    · have sh := a.1.2.1
      obtain ⟨b, th, N1, b1, b2, b3, b4, b5, b6, b7⟩ := l_home (M := M) (N0 := N) (s := 762) (t := i) (lastb := last) (sh.1.1.trans e1) e1 (by omega) (fun j hj => ⟨(sh.2 j (by omega) (by omega)).2.1.1, (sh.2 j (by omega) (by omega)).2.2.1.1⟩) 9 nA nB 0 0 0 N (by omega) (by omega) (by omega) (by omega) (by decide) (fun j hj => by omega) (by omega) (by omega) ⟨fun _ j hj => by omega, fun _ => by decide⟩ (fun _ _ _ => rfl) (fun _ _ => rfl) (fun j hj => by omega)
      have b1' : f_X5_onGoals_L4 nA 762 0 0 M = some (b : Int) := b1
      have b2' : f_X12_run_L55 nB last (-1) i 0 0 N = some (th, N1) := b2
      have aN1 := pAh_822 a b6
      obtain ⟨v, M2, N2, g1, g2, g3, g4, g5, g6⟩ := l_ahPass (nA := nA) (nB := nB) h aN1 (by rw [b6 802 (by decide)]; omega) (by omega) (by omega)
      have cb : ∀ j, j < ns → c.testBit j = true → b.testBit j = true := fun j hj z => (b4 j).mpr ⟨hj, ((hc j hj).2 z).2.2⟩
      unfold f_X5_onGoals f_X12_run_L29_J148
      rw [if_neg d, if_neg d, if_neg (show ¬ (-1 : Int) ≠ -1 by decide), e1, if_neg (by omega), b1', b2', Option.bind_some, Option.bind_some, Option.bind_some]
      dsimp only
      have eth : N1 802 1 = ns := by rw [b6 802 (by decide)]; exact e1
      rw [g2, Option.bind_some, Option.bind_some, p_wI (x := i + 1) (by omega) (by omega)]
      by_cases f : b = 2 ^ ns - 1
      · have thn : th = N1 802 1 := (b5.mpr f).trans eth.symm
        rw [if_neg (show ¬ (b : Int) ≠ ((2 ^ ns - 1 : Nat) : Int) by rw [f]; exact fun z => z rfl), if_neg (show ¬ (th ≠ N1 802 1) from fun z => z thn)]
        obtain ⟨nB, rfl⟩ : ∃ m, nB = m + 1 := ⟨nB - 1, by omega⟩
        have e : f_X12_run_L29 (nB + 1) last i (i + 1) N2 = some (i, N2) := by
          rw [f_X12_run_L29]
          by_cases q : 48 < i + 1
          · rw [if_pos q]
          · rw [if_neg q, if_pos (by omega)]
        rw [e]
        by_cases l0 : last = 0
        · rw [if_pos l0]
          exact ⟨i, M, i, N2, rfl, rfl, a.2.2.1, g3.2.2.2, Or.inr (Or.inl ⟨by omega, l0, rfl⟩)⟩
        · rw [if_neg l0, p_andnot (by omega) (by omega)]
          have bt : ∀ j, j < ns → b.testBit j = true := fun j hj => by rw [f, Nat.testBit_two_pow_sub_one]; simp [hj]
          have lt2 : b &&& (b ^^^ c) < 128 := Nat.lt_of_le_of_lt Nat.and_le_left (by omega)
          have hx : ∀ j, (b &&& (b ^^^ c)).testBit j = true ↔ (j < ns ∧ c.testBit j = false) := by
            intro j
            rw [Nat.testBit_and, Nat.testBit_xor]
            by_cases q : j < ns
            · rw [bt j q]
              cases c.testBit j <;> simp [q]
            · rw [p_hi b3 (by omega)]
              simp [q]
          unfold f_X11_lowest
          rcases l_low lt2 10 nA 0 (by omega) (by omega) (by omega) (fun j hj => by omega) with ⟨q, q1, q2, q3, q4⟩ | ⟨q1, q2⟩
          · have q2' : f_X11_lowest_L2 nA ((b &&& (b ^^^ c) : Nat) : Int) 0 = some (q : Int) := q2
            rw [q2', Option.bind_some]
            have q5 := (hx q).mp q3
            refine ⟨q, M, i, N2, rfl, rfl, a.2.2.1, g3.2.2.2, Or.inr (Or.inr ⟨by omega, l0, c, q, c1, c2, rfl, q5.1, q5.2, fun j hj => ?_, fun j hj => ⟨fun z => ?_, fun z => ?_⟩⟩)⟩
            · have := q4 j hj
              cases z : c.testBit j
              · rw [(hx j).mpr ⟨by omega, z⟩] at this
                simp at this
              · rfl
            · rw [g5, b7 j hj, if_pos ⟨bt j hj, (hc j hj).1 z⟩]
            · have := (hc j hj).2 z
              rw [g5, b7 j hj, if_neg (fun w => by omega)]
              omega
          · exfalso
            apply c2
            refine p_all c1 (fun j hj => ?_)
            cases z : c.testBit j
            · have := q2 j (by omega)
              rw [(hx j).mpr ⟨hj, z⟩] at this
              simp at this
            · rfl
      · have thn : th ≠ N1 802 1 := fun z => f (b5.mp (z.trans eth))
        rw [if_pos (show (b : Int) ≠ ((2 ^ ns - 1 : Nat) : Int) by omega), if_pos thn, g1, Option.bind_some]
        refine ih nA nB (i + 1) b M2 N2 (by omega) (by omega) (by omega) (by omega) (by omega) b3 f g3 (by rw [g4, b6 802 (by decide)]; omega) (fun j hj => ⟨fun z => ?_, fun z => ?_⟩)
        · rw [g5, b7 j hj, if_neg (fun w => by rw [z] at w; simp at w)]
          cases y : c.testBit j
          · exact (hc j hj).1 y
          · rw [cb j hj y] at z
            simp at z
        · have hm := ((b4 j).mp z).2
          have g := g6 j (by omega) (by omega)
          rw [g5, b7 j hj]
          refine ⟨?_, ?_, ?_⟩
          · split
            · omega
            · rename_i w
              cases y : c.testBit j
              · exact absurd ⟨z, (hc j hj).1 y⟩ w
              · exact ((hc j hj).2 y).1
          · split
            · omega
            · rename_i w
              cases y : c.testBit j
              · exact absurd ⟨z, (hc j hj).1 y⟩ w
              · have := ((hc j hj).2 y).2.1
                omega
          · unfold pHm at hm ⊢
            rw [g.1, b6 802 (by decide)]
            rw [g.2 (by rw [b6 802 (by decide), b6 802 (by decide)]; exact hm), b6 802 (by decide)]
            exact hm
theorem s_run {M N : Mem} {nA nB : Nat} {p : Int} (h : pRel M N) (hA : 1000 ≤ nA) (hB : 1000 ≤ nB) : pSim (f_X11_run nA p M) (f_X12_run nB p N) N := by
  have h8 := (pR_num h).2.2.1
  have h6 := (pR_num h).2.1
  obtain ⟨M1, N1, a1, a2, a3, a4⟩ := l_ahead (nB := nB) h (by omega)
  obtain ⟨N2, b1, b2, b3⟩ := l_run8 p (-1) (nB - 8) N1
  rw [show nB - 8 + 8 = nB by omega] at b1
  have a3' := pAh_822 a3 b2
  have hh2 : N2 802 8 ≤ 9999 + 0 := by rw [b2 802 (by decide), a4]; omega
  unfold f_X11_run f_X12_run
  rw [h6.1, a2, Option.bind_some, b1, Option.bind_some]
  by_cases c : N 802 1 = 0
  · rw [if_neg (fun z => z c)]
    obtain ⟨nB', hB'⟩ : ∃ m, nB = m + 1 := ⟨nB - 1, by omega⟩
    have e : f_X12_run_L29 nB p (-1) 0 N2 = some (-1, N2) := by
      rw [hB', f_X12_run_L29, if_neg (by decide), if_neg (by decide), if_pos (by rw [b2 802 (by decide), a4]; omega)]
    obtain ⟨N3, c1, c2, -⟩ := l_ahBack (M := M) (nB := nB) h ⟨fun _ _ _ _ => rfl, h.2.2.1 762 (Or.inr (Or.inr (Or.inl rfl)))⟩ a3'.2.2.2 (by omega)
    rw [e, Option.bind_some]
    unfold f_X12_run_J158
    rw [c1, Option.bind_some, if_pos rfl]
    exact ⟨-1, M, N3, rfl, rfl, c2⟩
  · obtain ⟨ns, hns⟩ : ∃ ns : Nat, N 802 1 = ns := ⟨(N 802 1).toNat, by omega⟩
    have p1 : 2 ≤ 2 ^ ns := Nat.pow_le_pow_right (n := 2) (by omega) (show 1 ≤ ns by omega)
    obtain ⟨v, M3, f, N3, d1, d2, d3, d4, d5⟩ := l_run h (last := p) hns (by omega) 60 nA nB 0 0 M1 N2 (by omega) (by omega) (by omega) (by omega) (by omega) (by omega) (by omega) a3' hh2 (fun j hj => ⟨fun _ => b3 j (by omega), fun z => by simp at z⟩)
    obtain ⟨N4, c1, c2, c3, c4⟩ := l_ahBack (nB := nB) h d3 d4 (by omega)
    have d1' : f_X11_run_L34 nA p ((2 ^ ns - 1 : Nat) : Int) 0 0 M1 = some (v, M3) := d1
    obtain ⟨nA', hA'⟩ : ∃ m, nA = m + 1 := ⟨nA - 1, by omega⟩
    have e0 : f_X11_lookAhead nA 0 M = some M1 := by
      unfold f_X11_lookAhead
      rw [a1, Option.bind_some, hA', f_X11_lookAhead_L13, if_pos (by decide)]
      rfl
    rw [if_pos c, hns, p_shlI (by omega), e0, Option.bind_some, d1', d2, Option.bind_some]
    unfold f_X12_run_J158
    dsimp only
    rw [c1, Option.bind_some]
    rcases d5 with ⟨q1, q2⟩ | ⟨q1, q2, q3⟩ | ⟨q1, q2, c', q, r1, r2, r3, r4, r5, r6, r7⟩
    · rw [if_pos q1, q2, q1]
      exact ⟨-1, M3, N4, rfl, rfl, c2⟩
    · rw [if_neg q1, if_neg (fun z => z q2), q3]
      exact ⟨f, M3, N4, rfl, rfl, c2⟩
    · rw [if_neg q1, if_pos q2]
      obtain ⟨q', w1, w2, w3⟩ := l_latest (N := N4) (c := c') (t := f) (by rw [c4 1 (by decide) (by decide)]; exact hns) (by omega) (fun j hj => by rw [c3 822 (by decide) (by decide)]; exact r7 j hj) 9 nB 0 1 (by omega) (by omega) (by omega) (by omega) (by
        cases z : c'.testBit 0
        · exact Or.inl ⟨rfl, fun j hj => by omega⟩
        · exact Or.inr (fun j hj => by rw [show j = 0 by omega]; exact z))
      have w1' : f_X12_run_L178 nB 0 1 N4 = some (q' : Int) := w1
      rw [w1', Option.bind_some]
      have e : q' = q := by
        rcases w3 with ⟨y1, y2⟩ | y
        · rcases Nat.lt_trichotomy q' q with z | z | z
          · rw [r6 q' z] at y1; simp at y1
          · exact z
          · rw [y2 q z] at r5; simp at r5
        · exact absurd (p_all r1 y) r2
      rw [r3, e]
      exact ⟨q, M3, N4, rfl, rfl, c2⟩
