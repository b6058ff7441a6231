set_option linter.unusedVariables false
set_option linter.unusedSimpArgs false
/-! words -/
/-- the pairs as told, as Nats -/
def pTwo (N : Mem) (i : Nat) : Nat × Nat := ((N 802 (156 + 2 * (i : Int))).toNat, (N 802 (157 + 2 * (i : Int))).toNat)
theorem p_twoM {M N : Mem} (h : pTold M 346 (N 802)) {i : Nat} (hi : (i : Int) < N 802 7) : M 351 i = ((2 ^ (pTwo N i).1 ||| 2 ^ (pTwo N i).2 : Nat) : Int) ∧ N 802 (156 + 2 * (i : Int)) = (pTwo N i).1 ∧ N 802 (157 + 2 * (i : Int)) = (pTwo N i).2 ∧ (pTwo N i).1 < 10 ∧ (pTwo N i).2 < 10 := by
  have g := h.2.2.2.2.2.2.2.2 i (by omega) hi
  have e1 : N 802 (156 + 2 * (i : Int)) = (pTwo N i).1 := by unfold pTwo; omega
  have e2 : N 802 (157 + 2 * (i : Int)) = (pTwo N i).2 := by unfold pTwo; omega
  have l1 : (pTwo N i).1 < 10 := by omega
  have l2 : (pTwo N i).2 < 10 := by omega
  refine ⟨?_, e1, e2, l1, l2⟩
  have := g.1
  rw [show (346 : Int) + 5 = 351 by decide] at this
  rw [this, e1, e2, p_shl1 (by omega), p_shl1 (by omega), p_or (p_pow31 (by omega)) (p_pow31 (by omega))]
theorem p_sub {x s : Nat} : x &&& s = x ↔ ∀ j, x.testBit j = true → s.testBit j = true := by
  constructor
  · intro h j hj
    have : (x &&& s).testBit j = x.testBit j := by rw [h]
    rw [Nat.testBit_and, hj] at this
    simpa using this
  · intro h
    apply Nat.eq_of_testBit_eq
    intro j
    rw [Nat.testBit_and]
    cases q : x.testBit j
    · simp
    · simp [h j q]
theorem p_tw {a b j : Nat} : (2 ^ a ||| 2 ^ b).testBit j = true ↔ (j = a ∨ j = b) := by
  rw [Nat.testBit_or, Nat.testBit_two_pow, Nat.testBit_two_pow, Bool.or_eq_true, decide_eq_true_iff, decide_eq_true_iff]
  omega
theorem p_tw10 {a b : Nat} (ha : a < 10) (hb : b < 10) : 2 ^ a ||| 2 ^ b < 1024 := Nat.or_lt_two_pow (n := 10) (Nat.pow_lt_pow_right (by omega) ha) (Nat.pow_lt_pow_right (by omega) hb)
/-- no two of them misheard -/
def pApart (N : Mem) (m s : Nat) : Prop := ∀ i, i < m → ¬ (s.testBit (pTwo N i).1 = true ∧ s.testBit (pTwo N i).2 = true)
theorem l_apM {M N : Mem} (h : pTold M 346 (N 802)) {m s : Nat} (hm : N 802 7 = m) (hs : s < 1024) : ∀ (k n i : Nat), m - i < k → k ≤ n → i ≤ m → pApart N i s → ∃ v, f_X7_areApart_L2 n 346 s i M = some v ∧ ((v = 1 ∧ pApart N m s) ∨ (v = 0 ∧ ¬ pApart N m s)) := by
  have h15 : N 802 7 ≤ 15 := h.2.2.2.2.2.2.2.1.2
  have h6 : M 346 6 = m := by rw [← hm]; exact h.2.2.2.2.2.2.1
  intro k
  induction k with
  | zero => intro n i g0; omega
  | succ k ih =>
    intro n i g0 g1 g2 ha
    obtain ⟨n, rfl⟩ : ∃ n', n = n' + 1 := ⟨n - 1, by omega⟩
    rw [f_X7_areApart_L2, h6]
    by_cases c : i = m
    · subst c
      rw [if_pos (by omega)]
      exact ⟨1, rfl, Or.inl ⟨rfl, ha⟩⟩
    · obtain ⟨e1, e2, e3, l1, l2⟩ := p_twoM h (i := i) (by omega)
      have t10 := p_tw10 l1 l2
      rw [if_neg (by omega), p_ck (by omega), show (346 : Int) + 5 = 351 by decide, e1, p_and (by omega) (by omega)]
      have sub : (2 ^ (pTwo N i).1 ||| 2 ^ (pTwo N i).2) &&& s = (2 ^ (pTwo N i).1 ||| 2 ^ (pTwo N i).2) ↔ (s.testBit (pTwo N i).1 = true ∧ s.testBit (pTwo N i).2 = true) := by
        rw [p_sub]
        constructor
        · intro q; exact ⟨q _ (p_tw.mpr (Or.inl rfl)), q _ (p_tw.mpr (Or.inr rfl))⟩
        · rintro ⟨q1, q2⟩ j hj
          rcases p_tw.mp hj with r | r <;> rw [r] <;> assumption
      by_cases d : s.testBit (pTwo N i).1 = true ∧ s.testBit (pTwo N i).2 = true
      · rw [if_neg (by rw [sub.mpr d]; exact fun z => z rfl)]
        exact ⟨0, rfl, Or.inr ⟨rfl, fun z => z i (by omega) d⟩⟩
      · have ne : (2 ^ (pTwo N i).1 ||| 2 ^ (pTwo N i).2) &&& s ≠ (2 ^ (pTwo N i).1 ||| 2 ^ (pTwo N i).2) := fun z => d (sub.mp z)
        rw [if_pos (by omega), p_wI (by omega) (by omega), show (i : Int) + 1 = ((i + 1 : Nat) : Int) by omega]
        refine ih n (i + 1) (by omega) (by omega) (by omega) (fun j hj => ?_)
        by_cases e : j = i
        · subst e; exact d
        · exact ha j (by omega)
theorem l_apN {M N : Mem} (h : pTold M 346 (N 802)) {m s : Nat} (hm : N 802 7 = m) (hs : s < 1024) (a b : Int) : ∀ (k n i : Nat), m - i < k → k ≤ n → i ≤ m → pApart N i s → ∃ v, f_X12_apart_L44 n a b s 1 i N = some v ∧ ((v = 1 ∧ pApart N m s) ∨ (v = 0 ∧ ¬ pApart N m s)) := by
  have h15 : N 802 7 ≤ 15 := h.2.2.2.2.2.2.2.1.2
  intro k
  induction k with
  | zero => intro n i g0; omega
  | succ k ih =>
    intro n i g0 g1 g2 ha
    obtain ⟨n, rfl⟩ : ∃ n', n = n' + 1 := ⟨n - 1, by omega⟩
    rw [f_X12_apart_L44, hm]
    by_cases c : i = m
    · subst c
      rw [if_pos (by omega)]
      exact ⟨1, rfl, Or.inl ⟨rfl, ha⟩⟩
    · obtain ⟨e1, e2, e3, l1, l2⟩ := p_twoM h (i := i) (by omega)
      have nxt : (¬ (s.testBit (pTwo N i).1 = true ∧ s.testBit (pTwo N i).2 = true)) → ∃ v, f_X12_apart_L44 n a b s 1 ((i + 1 : Nat) : Int) N = some v ∧ ((v = 1 ∧ pApart N m s) ∨ (v = 0 ∧ ¬ pApart N m s)) := by
        intro d
        refine ih n (i + 1) (by omega) (by omega) (by omega) (fun j hj => ?_)
        by_cases e : j = i
        · subst e; exact d
        · exact ha j (by omega)
      rw [if_neg (by omega), if_neg (by decide), p_wI (x := 2 * (i : Int)) (by omega) (by omega), p_wI (x := 156 + 2 * (i : Int)) (by omega) (by omega), p_ck (by omega), p_wI (x := 156 + 2 * (i : Int) + 1) (by omega) (by omega), p_ck (by omega), show 156 + 2 * (i : Int) + 1 = 157 + 2 * (i : Int) by omega, e2, e3, p_has hs l1, p_has hs l2, p_wI (x := (i : Int) + 1) (by omega) (by omega), show (i : Int) + 1 = ((i + 1 : Nat) : Int) by omega]
      cases d1 : s.testBit (pTwo N i).1
      · rw [if_pos (by simp)]
        exact nxt (fun z => by rw [d1] at z; simp at z)
      · rw [if_neg (by simp)]
        cases d2 : s.testBit (pTwo N i).2
        · rw [if_neg (by simp)]
          exact nxt (fun z => by rw [d2] at z; simp at z)
        · rw [if_pos (by simp)]
          have bad : ¬ pApart N m s := fun z => z i (by omega) ⟨d1, d2⟩
          obtain ⟨n, rfl⟩ : ∃ n', n = n' + 1 := ⟨n - 1, by omega⟩
          refine ⟨0, ?_, Or.inr ⟨rfl, bad⟩⟩
          rw [f_X12_apart_L44, hm]
          by_cases q : (m : Int) ≤ ((i + 1 : Nat) : Int)
          · rw [if_pos q]
          · rw [if_neg q, if_pos rfl]
theorem p_pow10 {i : Nat} (h : i ≤ 10) : 2 ^ i ≤ 1024 := Nat.pow_le_pow_right (by omega) h
theorem l_apart {M N : Mem} (h : pTold M 346 (N 802)) {m p : Nat} (hm : N 802 7 = m) (hp : p ≤ 10) : ∀ (k nA nB best s : Nat), 2 ^ p - s < k → k + 50 ≤ nA → k + 50 ≤ nB → s ≤ 2 ^ p → best < 1024 → ∃ v, f_X11_apart_L16 nA p best s M = some v ∧ f_X12_apart_L16 nB p best s N = some v := by
  have p10 := p_pow10 hp
  have h15 : N 802 7 ≤ 15 := h.2.2.2.2.2.2.2.1.2
  intro k
  induction k with
  | zero => intro nA nB best s g0; omega
  | succ k ih =>
    intro nA nB best s g0 g1 g2 g3 g4
    obtain ⟨nA, rfl⟩ : ∃ n', nA = n' + 1 := ⟨nA - 1, by omega⟩
    obtain ⟨nB, rfl⟩ : ∃ n', nB = n' + 1 := ⟨nB - 1, by omega⟩
    rw [f_X11_apart_L16, f_X12_apart_L16, p_shl1 (by omega)]
    by_cases c : s = 2 ^ p
    · rw [if_pos (by omega), if_pos (by omega)]
      exact ⟨best, rfl, rfl⟩
    · rw [if_neg (show ¬ ((2 ^ p : Nat) : Int) ≤ s by omega), if_neg (show ¬ ((2 ^ p : Nat) : Int) ≤ s by omega), p_bitc (by omega), p_bitc g4, p_bits (by omega) (by omega), p_bits g4 (by omega), Option.bind_some, Option.bind_some, p_wI (x := (s : Int) + 1) (by omega) (by omega), show (s : Int) + 1 = ((s + 1 : Nat) : Int) by omega]
      unfold f_X12_apart_L16_J116
      rw [p_wI (x := (s : Int) + 1) (by omega) (by omega), show (s : Int) + 1 = ((s + 1 : Nat) : Int) by omega]
      by_cases d : (pCnt s : Int) ≤ pCnt best
      · rw [if_pos d, if_pos d]
        obtain ⟨nB', hB'⟩ : ∃ n', nB = n' + 1 := ⟨nB - 1, by omega⟩
        have e : f_X12_apart_L44 nB p best s 0 0 N = some 0 := by
          rw [hB', f_X12_apart_L44]
          by_cases q : N 802 7 ≤ 0
          · rw [if_pos q]
          · rw [if_neg q, if_pos rfl]
        rw [e, Option.bind_some, if_pos rfl]
        exact ih nA nB best (s + 1) (by omega) (by omega) (by omega) (by omega) g4
      · rw [if_neg d, if_neg d]
        obtain ⟨v, v1, v2⟩ := l_apM h hm (s := s) (by omega) 20 nA 0 (by omega) (by omega) (by omega) (fun j hj => by omega)
        obtain ⟨u, u1, u2⟩ := l_apN h hm (s := s) (by omega) p best 20 nB 0 (by omega) (by omega) (by omega) (fun j hj => by omega)
        have v1' : f_X7_areApart nA 346 s M = some v := v1
        have u1' : f_X12_apart_L44 nB p best s 1 0 N = some u := u1
        have e : u = v := by
          rcases v2 with ⟨a1, a2⟩ | ⟨a1, a2⟩ <;> rcases u2 with ⟨b1, b2⟩ | ⟨b1, b2⟩
          · omega
          · exact absurd a2 b2
          · exact absurd b2 a2
          · omega
        rw [v1', u1', Option.bind_some, Option.bind_some, e]
        by_cases z : v = 0
        · rw [if_pos z, if_pos z]
          exact ih nA nB best (s + 1) (by omega) (by omega) (by omega) (by omega) g4
        · rw [if_neg z, if_neg z]
          exact ih nA nB s (s + 1) (by omega) (by omega) (by omega) (by omega) (by omega)
theorem s_apart {M N : Mem} {nA nB : Nat} {p : Int} (h : pRel M N) (hA : 2000 ≤ nA) (hB : 2000 ≤ nB) : ∃ r, f_X11_apart nA p M = some r ∧ f_X12_apart nB p N = some r := by
  have hT := h.1.2.2.2.2.2.1
  have hm := (pR_told h).2.2
  unfold f_X11_apart f_X12_apart
  rw [p_isB, p_isIn]
  by_cases c : 1 ≤ p ∧ p ≤ 10
  · obtain ⟨q, hq⟩ : ∃ q : Nat, p = q := ⟨p.toNat, by omega⟩
    obtain ⟨m, hm'⟩ : ∃ m : Nat, N 802 7 = m := ⟨(N 802 7).toNat, by omega⟩
    subst hq
    have p10 := p_pow10 (i := q) (by omega)
    have h1 : 1 ≤ 2 ^ q := Nat.one_le_two_pow
    obtain ⟨nB', hB'⟩ : ∃ n', nB = n' + 1 := ⟨nB - 1, by omega⟩
    obtain ⟨v, v1, v2⟩ := l_apart hT hm' (p := q) (by omega) 1030 nA nB' 0 1 (by omega) (by omega) (by omega) h1 (by omega)
    have v1' : f_X11_apart_L16 nA q 0 1 M = some v := v1
    have e : f_X12_apart_L16 nB q 0 0 N = some v := by
      have b0 : f_X12_bits nB' 0 = some 0 := by
        have := p_bits (s := 0) (n := nB') (by decide) (by omega)
        exact this
      have l0 : f_X12_apart_L44 nB' q 0 0 0 0 N = some 0 := by
        obtain ⟨nB2, hB2⟩ : ∃ n', nB' = n' + 1 := ⟨nB' - 1, by omega⟩
        rw [hB2, f_X12_apart_L44]
        by_cases z : N 802 7 ≤ 0
        · rw [if_pos z]
        · rw [if_neg z, if_pos rfl]
      rw [hB', f_X12_apart_L16, p_shl1 (by omega), if_neg (by omega), b0, Option.bind_some, Option.bind_some, if_pos (by decide), l0, Option.bind_some]
      unfold f_X12_apart_L16_J116
      rw [if_pos rfl, p_wI (by decide) (by decide)]
      exact v2
    rw [if_pos c, if_pos (by decide), if_pos (by decide), v1', e]
    exact ⟨v, rfl, rfl⟩
  · rw [if_neg c, if_neg (by decide), if_neg (by decide)]
    exact ⟨-1, rfl, rfl⟩
/-! chains: one round, as numbers -/
def gStep (N : Mem) (n i s : Nat) : Nat := if (pTwo N i).1 < n ∧ (pTwo N i).2 < n ∧ (s.testBit (pTwo N i).1 = true ∨ s.testBit (pTwo N i).2 = true) then s ||| (2 ^ (pTwo N i).1 ||| 2 ^ (pTwo N i).2) else s
def gRound (N : Mem) (n : Nat) : Nat → Nat → Nat
  | 0, s => s
  | k + 1, s => gStep N n k (gRound N n k s)
def gIter (N : Mem) (n m : Nat) : Nat → Nat → Nat
  | 0, s => s
  | r + 1, s => gRound N n m (gIter N n m r s)
theorem gStep_lt {N : Mem} {n i s : Nat} (h : s < 2 ^ n) : gStep N n i s < 2 ^ n ∧ ∀ j, s.testBit j = true → (gStep N n i s).testBit j = true := by
  unfold gStep
  split
  · rename_i q
    refine ⟨Nat.or_lt_two_pow h (Nat.or_lt_two_pow (Nat.pow_lt_pow_right (by omega) q.1) (Nat.pow_lt_pow_right (by omega) q.2.1)), fun j hj => ?_⟩
    rw [Nat.testBit_or, hj]
    simp
  · exact ⟨h, fun _ hj => hj⟩
theorem gRound_lt {N : Mem} {n s : Nat} (h : s < 2 ^ n) : ∀ k, gRound N n k s < 2 ^ n ∧ ∀ j, s.testBit j = true → (gRound N n k s).testBit j = true := by
  intro k
  induction k with
  | zero => exact ⟨h, fun _ hj => hj⟩
  | succ k ih =>
    have g := gStep_lt (N := N) (i := k) ih.1
    exact ⟨g.1, fun j hj => g.2 j (ih.2 j hj)⟩
theorem gIter_lt {N : Mem} {n m s : Nat} (h : s < 2 ^ n) : ∀ r, gIter N n m r s < 2 ^ n := by
  intro r
  induction r with
  | zero => exact h
  | succ r ih => exact (gRound_lt ih m).1
theorem p_cntF10 : ∀ a : Fin 1024, ∀ j : Fin 10, a.val.testBit j.val = false → pCnt (a.val ||| 2 ^ j.val) = pCnt a.val + 1 := by decide +kernel
theorem p_cntMono {a b : Nat} (h : ∀ j, a.testBit j = true → b.testBit j = true) : pCnt a ≤ pCnt b := List.countP_mono_left (fun x _ hx => h x hx)
theorem p_cntLt {a b : Nat} (ha : a < 1024) (hb : b < 1024) (h : ∀ j, a.testBit j = true → b.testBit j = true) (ne : a ≠ b) : pCnt a < pCnt b := by
  have : ∃ j, j < 10 ∧ a.testBit j = false ∧ b.testBit j = true := by
    apply Classical.byContradiction
    intro q
    apply ne
    apply Nat.eq_of_testBit_eq
    intro j
    by_cases hj : j < 10
    · cases x : a.testBit j
      · cases y : b.testBit j
        · rfl
        · exact absurd ⟨j, hj, x, y⟩ q
      · rw [h j x]
    · rw [p_hi (i := 10) ha (by omega), p_hi (i := 10) hb (by omega)]
  obtain ⟨j, j1, j2, j3⟩ := this
  have e := p_cntF10 ⟨a, ha⟩ ⟨j, j1⟩ j2
  have m := p_cntMono (a := a ||| 2 ^ j) (b := b) (fun i hi => by
    rw [Nat.testBit_or, Bool.or_eq_true, Nat.testBit_two_pow, decide_eq_true_iff] at hi
    rcases hi with q | q
    · exact h i q
    · rw [← q]; exact j3)
  have e' : pCnt (a ||| 2 ^ j) = pCnt a + 1 := e
  omega
theorem p_cntN : ∀ n : Fin 11, (List.range 10).countP (fun j => decide (j < n.val)) = n.val := by decide +kernel
theorem p_cntTop {s n : Nat} (hn : n ≤ 10) (h : s < 2 ^ n) : pCnt s ≤ n := by
  have := p_cntN ⟨n, by omega⟩
  have m : pCnt s ≤ (List.range 10).countP (fun j => decide (j < n)) := List.countP_mono_left (fun x _ hx => by
    rw [decide_eq_true_iff]
    apply Classical.byContradiction
    intro q
    rw [p_hi h (by omega)] at hx
    simp at hx)
  have e : (List.range 10).countP (fun j => decide (j < n)) = n := this
  omega
theorem gFix {N : Mem} {n m s : Nat} (hn : n ≤ 10) (h : s < 2 ^ n) (h0 : 0 < pCnt s) : ∀ d, gIter N n m (n + d) s = gIter N n m n s := by
  have p10 := p_pow10 hn
  have fixed : ∀ r, gIter N n m (r + 1) s = gIter N n m r s → ∀ d, gIter N n m (r + d) s = gIter N n m r s := by
    intro r hr d
    induction d with
    | zero => rfl
    | succ d ih =>
      show gRound N n m (gIter N n m (r + d) s) = _
      rw [ih]
      exact hr
  have grow : ∀ r, (∀ q, q < r → gIter N n m (q + 1) s ≠ gIter N n m q s) → r + 1 ≤ pCnt (gIter N n m r s) := by
    intro r
    induction r with
    | zero => intro _; exact h0
    | succ r ih =>
      intro hq
      have a := ih (fun q h => hq q (by omega))
      have l := gIter_lt (N := N) (m := m) h r
      have b := p_cntLt (a := gIter N n m r s) (b := gIter N n m (r + 1) s) (by omega) (by have := gIter_lt (N := N) (m := m) h (r + 1); omega) (gRound_lt l m).2 (fun z => hq r (by omega) z.symm)
      omega
  have : ∃ q, q < n ∧ gIter N n m (q + 1) s = gIter N n m q s := by
    apply Classical.byContradiction
    intro z
    have a := grow n (fun q hq e => z ⟨q, hq, e⟩)
    have b := p_cntTop hn (gIter_lt (N := N) (m := m) h n)
    omega
  obtain ⟨q, q1, q2⟩ := this
  intro d
  have f := fixed q q2
  have e1 : gIter N n m (n + d) s = gIter N n m q s := by
    have z := f (n - q + d)
    rw [show q + (n - q + d) = n + d by omega] at z
    exact z
  have e2 : gIter N n m n s = gIter N n m q s := by
    have z := f (n - q)
    rw [show q + (n - q) = n by omega] at z
    exact z
  rw [e1, e2]
theorem l_chM {M N : Mem} (h : pTold M 346 (N 802)) {m n s : Nat} (hm : N 802 7 = m) (hn : n ≤ 10) (hs : s < 2 ^ n) (r : Int) : ∀ (k f i : Nat), m - i < k → k ≤ f → i ≤ m → f_X7_chainOf_L24 f 346 ((2 ^ n - 1 : Nat) : Int) (gRound N n i s : Nat) r i M = some ((gRound N n m s : Nat) : Int) := by
  have h15 : N 802 7 ≤ 15 := h.2.2.2.2.2.2.2.1.2
  have h6 : M 346 6 = m := by rw [← hm]; exact h.2.2.2.2.2.2.1
  have p10 := p_pow10 hn
  have h1 : 1 ≤ 2 ^ n := Nat.one_le_two_pow
  intro k
  induction k with
  | zero => intro f i g0; omega
  | succ k ih =>
    intro f i g0 g1 g2
    obtain ⟨f, rfl⟩ : ∃ n', f = n' + 1 := ⟨f - 1, by omega⟩
    rw [f_X7_chainOf_L24, h6]
    by_cases c : i = m
    · subst c
      rw [if_pos (by omega)]
    · obtain ⟨e1, e2, e3, l1, l2⟩ := p_twoM h (i := i) (by omega)
      have t10 := p_tw10 l1 l2
      have lt := (gRound_lt (N := N) hs i).1
      rw [if_neg (by omega), p_ck (by omega), show (346 : Int) + 5 = 351 by decide, e1, p_andnot (by omega) (by omega), p_and (by omega) (by omega), p_or (by omega) (by omega), p_wI (by omega) (by omega), show (i : Int) + 1 = ((i + 1 : Nat) : Int) by omega]
      have in1 : ((2 ^ (pTwo N i).1 ||| 2 ^ (pTwo N i).2) &&& ((2 ^ (pTwo N i).1 ||| 2 ^ (pTwo N i).2) ^^^ (2 ^ n - 1))) = 0 ↔ ((pTwo N i).1 < n ∧ (pTwo N i).2 < n) := by
        constructor
        · intro z
          have bit : ∀ j, (j = (pTwo N i).1 ∨ j = (pTwo N i).2) → j < n := by
            intro j hj
            apply Classical.byContradiction
            intro q
            have y : ((2 ^ (pTwo N i).1 ||| 2 ^ (pTwo N i).2) &&& ((2 ^ (pTwo N i).1 ||| 2 ^ (pTwo N i).2) ^^^ (2 ^ n - 1))).testBit j = true := by
              rw [Nat.testBit_and, Nat.testBit_xor, p_tw.mpr hj, Nat.testBit_two_pow_sub_one]
              simp [q]
            rw [z] at y
            simp at y
          exact ⟨bit _ (Or.inl rfl), bit _ (Or.inr rfl)⟩
        · rintro ⟨z1, z2⟩
          apply Nat.eq_of_testBit_eq
          intro j
          rw [Nat.testBit_and, Nat.testBit_xor, Nat.testBit_two_pow_sub_one, Nat.zero_testBit]
          cases q : (2 ^ (pTwo N i).1 ||| 2 ^ (pTwo N i).2).testBit j
          · simp
          · have : j < n := by rcases p_tw.mp q with r | r <;> omega
            simp [this]
      have in2 : ((2 ^ (pTwo N i).1 ||| 2 ^ (pTwo N i).2) &&& gRound N n i s) = 0 ↔ ¬ ((gRound N n i s).testBit (pTwo N i).1 = true ∨ (gRound N n i s).testBit (pTwo N i).2 = true) := by
        constructor
        · intro z y
          have : ∃ j, (j = (pTwo N i).1 ∨ j = (pTwo N i).2) ∧ (gRound N n i s).testBit j = true := by
            rcases y with y | y
            · exact ⟨_, Or.inl rfl, y⟩
            · exact ⟨_, Or.inr rfl, y⟩
          obtain ⟨j, j1, j2⟩ := this
          have y : ((2 ^ (pTwo N i).1 ||| 2 ^ (pTwo N i).2) &&& gRound N n i s).testBit j = true := by
            rw [Nat.testBit_and, p_tw.mpr j1, j2]; rfl
          rw [z] at y
          simp at y
        · intro z
          apply Nat.eq_of_testBit_eq
          intro j
          rw [Nat.testBit_and, Nat.zero_testBit]
          cases q : (2 ^ (pTwo N i).1 ||| 2 ^ (pTwo N i).2).testBit j
          · simp
          · cases y : (gRound N n i s).testBit j
            · simp
            · exfalso
              apply z
              rcases p_tw.mp q with r | r
              · left; rw [← r]; exact y
              · right; rw [← r]; exact y
      have nx : gRound N n (i + 1) s = gStep N n i (gRound N n i s) := rfl
      by_cases d1 : (pTwo N i).1 < n ∧ (pTwo N i).2 < n
      · rw [if_neg (by rw [in1.mpr d1]; exact fun z => z rfl)]
        by_cases d2 : (gRound N n i s).testBit (pTwo N i).1 = true ∨ (gRound N n i s).testBit (pTwo N i).2 = true
        · have ne : ((2 ^ (pTwo N i).1 ||| 2 ^ (pTwo N i).2) &&& gRound N n i s) ≠ 0 := fun z => (in2.mp z) d2
          rw [if_neg (by omega)]
          have e : gRound N n i s ||| (2 ^ (pTwo N i).1 ||| 2 ^ (pTwo N i).2) = gRound N n (i + 1) s := by
            rw [nx]; unfold gStep; rw [if_pos ⟨d1.1, d1.2, d2⟩]
          rw [e]
          exact ih f (i + 1) (by omega) (by omega) (by omega)
        · rw [if_pos (by rw [in2.mpr d2]; rfl)]
          have e : gRound N n i s = gRound N n (i + 1) s := by
            rw [nx]; unfold gStep; rw [if_neg (fun z => d2 z.2.2)]
          rw [e]
          exact ih f (i + 1) (by omega) (by omega) (by omega)
      · have ne : ((2 ^ (pTwo N i).1 ||| 2 ^ (pTwo N i).2) &&& ((2 ^ (pTwo N i).1 ||| 2 ^ (pTwo N i).2) ^^^ (2 ^ n - 1))) ≠ 0 := fun z => d1 (in1.mp z)
        rw [if_pos (by omega)]
        have e : gRound N n i s = gRound N n (i + 1) s := by
          rw [nx]; unfold gStep; rw [if_neg (fun z => d1 ⟨z.1, z.2.1⟩)]
        rw [e]
        exact ih f (i + 1) (by omega) (by omega) (by omega)
theorem l_chN {M N : Mem} (h : pTold M 346 (N 802)) {m n s : Nat} (hm : N 802 7 = m) (hn : n ≤ 10) (hs : s < 2 ^ n) (r : Int) : ∀ (k f i : Nat), m - i < k → k ≤ f → i ≤ m → f_X12_grown_L14 f n (gRound N n i s : Nat) r i N = some ((gRound N n m s : Nat) : Int) := by
  have h15 : N 802 7 ≤ 15 := h.2.2.2.2.2.2.2.1.2
  have p10 := p_pow10 hn
  intro k
  induction k with
  | zero => intro f i g0; omega
  | succ k ih =>
    intro f i g0 g1 g2
    obtain ⟨f, rfl⟩ : ∃ n', f = n' + 1 := ⟨f - 1, by omega⟩
    rw [f_X12_grown_L14, hm]
    by_cases c : i = m
    · subst c
      rw [if_pos (by omega)]
    · obtain ⟨e1, e2, e3, l1, l2⟩ := p_twoM h (i := i) (by omega)
      have t10 := p_tw10 l1 l2
      have lt := (gRound_lt (N := N) hs i).1
      have nx : gRound N n (i + 1) s = gStep N n i (gRound N n i s) := rfl
      unfold f_X12_grown_L14_J88
      rw [if_neg (by omega), p_wI (x := 2 * (i : Int)) (by omega) (by omega), p_wI (x := 156 + 2 * (i : Int)) (by omega) (by omega), p_ck (by omega), p_wI (x := 156 + 2 * (i : Int) + 1) (by omega) (by omega), p_ck (by omega), show 156 + 2 * (i : Int) + 1 = 157 + 2 * (i : Int) by omega, e2, e3, p_has (by omega) l1, p_has (by omega) l2, p_shl1 (by omega), p_shl1 (by omega), p_or (p_pow31 (by omega)) (p_pow31 (by omega)), p_or (by omega) (by omega), p_wI (x := (i : Int) + 1) (by omega) (by omega), show (i : Int) + 1 = ((i + 1 : Nat) : Int) by omega]
      have no : ¬ ((pTwo N i).1 < n ∧ (pTwo N i).2 < n ∧ ((gRound N n i s).testBit (pTwo N i).1 = true ∨ (gRound N n i s).testBit (pTwo N i).2 = true)) → f_X12_grown_L14 f n (gRound N n i s : Nat) r ((i + 1 : Nat) : Int) N = some ((gRound N n m s : Nat) : Int) := by
        intro z
        have e : gRound N n i s = gRound N n (i + 1) s := by rw [nx]; unfold gStep; rw [if_neg z]
        rw [e]
        exact ih f (i + 1) (by omega) (by omega) (by omega)
      have yes : ((pTwo N i).1 < n ∧ (pTwo N i).2 < n ∧ ((gRound N n i s).testBit (pTwo N i).1 = true ∨ (gRound N n i s).testBit (pTwo N i).2 = true)) → f_X12_grown_L14 f n ((gRound N n i s ||| (2 ^ (pTwo N i).1 ||| 2 ^ (pTwo N i).2) : Nat) : Int) r ((i + 1 : Nat) : Int) N = some ((gRound N n m s : Nat) : Int) := by
        intro z
        have e : gRound N n i s ||| (2 ^ (pTwo N i).1 ||| 2 ^ (pTwo N i).2) = gRound N n (i + 1) s := by rw [nx]; unfold gStep; rw [if_pos z]
        rw [e]
        exact ih f (i + 1) (by omega) (by omega) (by omega)
      by_cases d1 : (n : Int) ≤ (pTwo N i).1
      · rw [if_pos d1]; exact no (fun z => by omega)
      · rw [if_neg d1]
        by_cases d2 : (n : Int) ≤ (pTwo N i).2
        · rw [if_pos d2]; exact no (fun z => by omega)
        · rw [if_neg d2]
          cases d3 : (gRound N n i s).testBit (pTwo N i).1
          · rw [if_neg (by simp)]
            cases d4 : (gRound N n i s).testBit (pTwo N i).2
            · rw [if_pos (by simp)]
              exact no (fun z => by rw [d3, d4] at z; simp at z)
            · rw [if_neg (by simp)]
              exact yes ⟨by omega, by omega, Or.inr d4⟩
          · rw [if_pos (by simp)]
            exact yes ⟨by omega, by omega, Or.inl d3⟩
theorem l_iterM {M N : Mem} (h : pTold M 346 (N 802)) {m n s : Nat} (hm : N 802 7 = m) (hn : n ≤ 10) (hs : s < 2 ^ n) : ∀ (k f r : Nat), 10 - r < k → k + 20 ≤ f → r ≤ 10 → f_X7_chainOf_L14 f 346 ((2 ^ n - 1 : Nat) : Int) (gIter N n m r s : Nat) r M = some ((gIter N n m 10 s : Nat) : Int) := by
  have h15 : N 802 7 ≤ 15 := h.2.2.2.2.2.2.2.1.2
  intro k
  induction k with
  | zero => intro f r g0; omega
  | succ k ih =>
    intro f r g0 g1 g2
    obtain ⟨f, rfl⟩ : ∃ n', f = n' + 1 := ⟨f - 1, by omega⟩
    rw [f_X7_chainOf_L14]
    by_cases c : r = 10
    · subst c; rw [if_pos (by decide)]
    · have e : f_X7_chainOf_L24 f 346 ((2 ^ n - 1 : Nat) : Int) (gIter N n m r s : Nat) r 0 M = some ((gRound N n m (gIter N n m r s) : Nat) : Int) := l_chM h hm hn (gIter_lt hs r) r 16 f 0 (by omega) (by omega) (by omega)
      rw [if_neg (by omega), e, Option.bind_some, p_wI (by omega) (by omega), show (r : Int) + 1 = ((r + 1 : Nat) : Int) by omega]
      exact ih f (r + 1) (by omega) (by omega) (by omega)
theorem l_iterN {M N : Mem} (h : pTold M 346 (N 802)) {m n s : Nat} (hm : N 802 7 = m) (hn : n ≤ 10) (hs : s < 2 ^ n) : ∀ (k f r : Nat), n - r < k → k + 20 ≤ f → r ≤ n → f_X12_grown_L5 f n (gIter N n m r s : Nat) r N = some ((gIter N n m n s : Nat) : Int) := by
  have h15 : N 802 7 ≤ 15 := h.2.2.2.2.2.2.2.1.2
  intro k
  induction k with
  | zero => intro f r g0; omega
  | succ k ih =>
    intro f r g0 g1 g2
    obtain ⟨f, rfl⟩ : ∃ n', f = n' + 1 := ⟨f - 1, by omega⟩
    rw [f_X12_grown_L5]
    by_cases c : r = n
    · subst c; rw [if_pos (by omega)]
    · have e : f_X12_grown_L14 f n (gIter N n m r s : Nat) r 0 N = some ((gRound N n m (gIter N n m r s) : Nat) : Int) := l_chN h hm hn (gIter_lt hs r) r 16 f 0 (by omega) (by omega) (by omega)
      rw [if_neg (by omega), e, Option.bind_some, p_wI (by omega) (by omega), show (r : Int) + 1 = ((r + 1 : Nat) : Int) by omega]
      exact ih f (r + 1) (by omega) (by omega) (by omega)
theorem p_cnt1 : ∀ j : Fin 10, 0 < pCnt (2 ^ j.val) := by decide +kernel
theorem l_chains {M N : Mem} (h : pTold M 346 (N 802)) {m n : Nat} (hm : N 802 7 = m) (hn : n ≤ 10) : ∀ (k fA fB : Nat) (parts : Int) (seen w : Nat), n - w < k → k + 60 ≤ fA → k + 60 ≤ fB → w ≤ n → seen < 2 ^ n → 0 ≤ parts → parts ≤ w → ∃ v, f_X11_chains_L19 fA n parts seen w M = some v ∧ f_X12_chains_L19 fB n seen parts w N = some v := by
  have p10 := p_pow10 hn
  have h1 : 1 ≤ 2 ^ n := Nat.one_le_two_pow
  intro k
  induction k with
  | zero => intro fA fB parts seen w g0; omega
  | succ k ih =>
    intro fA fB parts seen w g0 g1 g2 g3 g4 p0 p1
    obtain ⟨fA, rfl⟩ : ∃ n', fA = n' + 1 := ⟨fA - 1, by omega⟩
    obtain ⟨fB, rfl⟩ : ∃ n', fB = n' + 1 := ⟨fB - 1, by omega⟩
    rw [f_X11_chains_L19, f_X12_chains_L19]
    by_cases c : w = n
    · rw [if_pos (by omega), if_pos (by omega)]
      exact ⟨parts, rfl, rfl⟩
    · rw [if_neg (show ¬ (n : Int) ≤ w by omega), if_neg (show ¬ (n : Int) ≤ w by omega), p_has (by omega) (by omega), p_wI (x := (w : Int) + 1) (by omega) (by omega), show (w : Int) + 1 = ((w + 1 : Nat) : Int) by omega]
      cases d : seen.testBit w
      · have hs : 2 ^ w < 2 ^ n := Nat.pow_lt_pow_right (by omega) (by omega)
        have a : f_X7_chainOf fA 346 w n M = some ((gIter N n m 10 (2 ^ w) : Nat) : Int) := by
          unfold f_X7_chainOf
          have e := l_iterM h hm hn hs 11 fA 0 (by omega) (by omega) (by omega)
          have e' : f_X7_chainOf_L14 fA 346 ((2 ^ n - 1 : Nat) : Int) ((2 ^ w : Nat) : Int) 0 M = some ((gIter N n m 10 (2 ^ w) : Nat) : Int) := e
          rw [p_shl1 (by omega), p_shl1 (by omega), p_wI (by omega) (by omega), show ((2 ^ n : Nat) : Int) - 1 = ((2 ^ n - 1 : Nat) : Int) by omega, e']
          rfl
        have b : f_X12_grown fB (bShl 1 w) n N = some ((gIter N n m n (2 ^ w) : Nat) : Int) := by
          unfold f_X12_grown
          have e := l_iterN h hm hn hs 11 fB 0 (by omega) (by omega) (by omega)
          have e' : f_X12_grown_L5 fB n ((2 ^ w : Nat) : Int) 0 N = some ((gIter N n m n (2 ^ w) : Nat) : Int) := e
          rw [p_shl1 (by omega), e']
          rfl
        have fx := gFix (N := N) (m := m) hn hs (p_cnt1 ⟨w, by omega⟩) (10 - n)
        rw [show n + (10 - n) = 10 by omega] at fx
        have lt := gIter_lt (N := N) (m := m) hs n
        rw [if_neg (show ¬ bAnd (seen : Int) (bShl 1 w) ≠ 0 from fun z => z ((p_andpow0 (by omega) (by omega)).mpr d)), if_pos (by simp), a, b, fx, Option.bind_some, Option.bind_some, p_or (by omega) (by omega), p_wI (x := parts + 1) (by omega) (by omega)]
        exact ih fA fB (parts + 1) _ (w + 1) (by omega) (by omega) (by omega) (by omega) (Nat.or_lt_two_pow g4 lt) (by omega) (by omega)
      · rw [if_pos (show bAnd (seen : Int) (bShl 1 w) ≠ 0 from fun z => by have y := (p_andpow0 (by omega) (by omega)).mp z; rw [d] at y; simp at y), if_neg (by simp)]
        exact ih fA fB parts seen (w + 1) (by omega) (by omega) (by omega) (by omega) g4 p0 (by omega)
theorem s_chains {M N : Mem} {nA nB : Nat} {p : Int} (h : pRel M N) (hA : 2000 ≤ nA) (hB : 2000 ≤ nB) : ∃ r, f_X11_chains nA p M = some r ∧ f_X12_chains nB p N = some r := by
  have hT := h.1.2.2.2.2.2.1
  have hm := (pR_told h).2.2
  unfold f_X11_chains f_X12_chains
  rw [p_isB, p_isIn]
  by_cases c : 1 ≤ p ∧ p ≤ 10
  · obtain ⟨q, hq⟩ : ∃ q : Nat, p = q := ⟨p.toNat, by omega⟩
    obtain ⟨m, hm'⟩ : ∃ m : Nat, N 802 7 = m := ⟨(N 802 7).toNat, by omega⟩
    subst hq
    obtain ⟨v, v1, v2⟩ := l_chains hT hm' (n := q) (by omega) 20 nA nB 0 0 0 (by omega) (by omega) (by omega) (by omega) (Nat.two_pow_pos q) (by omega) (by omega)
    have v1' : f_X11_chains_L19 nA q 0 0 0 M = some v := v1
    have v2' : f_X12_chains_L19 nB q 0 0 0 N = some v := v2
    rw [if_pos c, if_pos (by decide), if_pos (by decide), v1', v2']
    exact ⟨v, rfl, rfl⟩
  · rw [if_neg c, if_neg (by decide), if_neg (by decide)]
    exact ⟨-1, rfl, rfl⟩
