set_option linter.unusedVariables false
set_option linter.unusedSimpArgs false
theorem p_sq {a b : Int} (h : 0 ≤ a) (h2 : a ≤ b) : a * a ≤ b * b := Int.mul_le_mul h2 h2 h (by omega)
theorem p_sqlt {a b k : Int} (ha : 0 ≤ a) (hb : 0 ≤ b) (h1 : a * a ≤ k) (h2 : k < (b + 1) * (b + 1)) : a ≤ b := by
  by_cases q : a ≤ b
  · exact q
  · have := p_sq (a := b + 1) (b := a) (by omega) (by omega)
    omega
theorem l_sqrt (st hh : Int) (hh1 : 1 ≤ hh) (hh2 : hh ≤ 99) (N : Mem) : ∀ (n : Nat) (b : Int), 0 ≤ b → b * b ≤ 10 * hh → 32 - b < n → ∃ s, f_X12_isSounding_L2 n st hh b N = some s ∧ 0 ≤ s ∧ s ≤ 31 ∧ s * s ≤ 10 * hh ∧ 10 * hh < (s + 1) * (s + 1) := by
  intro n
  induction n with
  | zero =>
    intro b h0 h1 h2
    have := p_sqlt (a := b) (b := 31) (k := 10 * hh) h0 (by omega) h1 (by omega)
    omega
  | succ n ih =>
    intro b h0 h1 h2
    have hb := p_sqlt (a := b) (b := 31) (k := 10 * hh) h0 (by omega) h1 (by omega)
    have hb2 := p_sq (a := b + 1) (b := 32) (by omega) (by omega)
    have hb3 := p_sq (a := 0) (b := b + 1) (by omega) (by omega)
    rw [f_X12_isSounding_L2, p_wI (x := b + 1) (by omega) (by omega), p_wI (x := 10 * hh) (by omega) (by omega), p_wI (x := (b + 1) * (b + 1)) (by omega) (by omega)]
    by_cases c : 10 * hh < (b + 1) * (b + 1)
    · rw [if_pos c]
      exact ⟨b, rfl, h0, hb, h1, c⟩
    · rw [if_neg c]
      exact ih (b + 1) (by omega) (by omega) (by omega)
theorem l_may {M N : Mem} (ht : pTold M 346 (N 802)) (st hh s : Int) (hh1 : 1 ≤ hh) (hh2 : hh ≤ 99) (s0 : 0 ≤ s) (s1 : s ≤ 31) (s2 : s * s ≤ 10 * hh) (s3 : 10 * hh < (s + 1) * (s + 1)) :
    ∀ (n : Nat) (i : Int), 0 ≤ i → i ≤ N 802 5 → N 802 5 - i < n → ∃ r, f_X7_mayBeHigh_L2 n 346 st hh i M = some r ∧ f_X12_isSounding_L25 n st s i N = some r := by
  obtain ⟨t1, t2, t3, -⟩ := ht
  intro n
  induction n with
  | zero => intro i h0 h1 h2; omega
  | succ n ih =>
    intro i h0 h1 h2
    rw [f_X7_mayBeHigh_L2, f_X12_isSounding_L25, t1]
    by_cases c : N 802 5 ≤ i
    · rw [if_pos c, if_pos c]
      exact ⟨1, rfl, rfl⟩
    · obtain ⟨u1, u2, u3, u4, u5, u6⟩ := t3 i h0 (by omega)
      change M 347 i = _ at u1
      change M 348 i = _ at u2
      rw [if_neg c, if_neg c, p_ck (by omega)]
      change ∃ r, (if wI (10 * hh) < wI (M 348 i * M 348 i) then _ else _) = some r ∧ _
      have b1 := p_sq (a := M 348 i) (b := 99) (by omega) (by omega)
      have b2 := p_sq (a := 0) (b := M 348 i) (by omega) (by omega)
      have b3 := p_sq (a := M 348 i + 1) (b := 100) (by omega) (by omega)
      have b4 := p_sq (a := 0) (b := M 348 i + 1) (by omega) (by omega)
      obtain ⟨r, ih1, ih2⟩ := ih (i + 1) (by omega) (by omega) (by omega)
      have e1 : 130 + 2 * i + 1 = 131 + 2 * i := by omega
      have fit : (M 348 i * M 348 i ≤ 10 * hh ∧ 10 * hh < (M 348 i + 1) * (M 348 i + 1)) ↔ M 348 i = s := by
        constructor
        · intro ⟨f1, f2⟩
          have g1 := p_sqlt (a := M 348 i) (b := s) (by omega) s0 f1 s3
          have g2 := p_sqlt (a := s) (b := M 348 i) s0 (by omega) s2 f2
          omega
        · intro f
          rw [f]
          exact ⟨s2, s3⟩
      simp (disch := omega) only [p_wI, p_ck, f_X7_mayBeHigh_L2_J50, f_X7_mayBeHigh_L2_J51]
      rw [e1, ← u1, ← u2, ih1, ih2, show M (346 + 2) i = M 348 i from rfl, show M (346 + 1) i = M 347 i from rfl]
      simp (disch := omega) only [p_wI]
      clear t3 ih ih1 ih2
      by_cases q : M 347 i = st
      · by_cases q2 : M 348 i = s
        · have := fit.mpr q2
          refine ⟨r, ?_, ?_⟩ <;> grind
        · have : ¬ (M 348 i * M 348 i ≤ 10 * hh ∧ 10 * hh < (M 348 i + 1) * (M 348 i + 1)) := fun z => q2 (fit.mp z)
          refine ⟨0, ?_, ?_⟩ <;> grind
      · refine ⟨r, ?_, ?_⟩ <;> grind
theorem l_high2 {M N : Mem} (ht : pTold M 346 (N 802)) (st : Int) (hn : N 802 5 ≤ 8) :
    ∀ (n : Nat) (hh x : Int), 1 ≤ hh → hh ≤ 100 → 100 - hh + 50 < n → x ≠ -1 → f_X12_high_L17 n st 0 x hh N = some x := by
  intro n
  induction n with
  | zero => intro hh x h0 h1 h2; omega
  | succ n ih =>
    intro hh x h0 h1 h2 hm
    rw [f_X12_high_L17]
    by_cases c : 100 ≤ hh
    · rw [if_pos c]
    · obtain ⟨s, hs, s0, s1, s2, s3⟩ := l_sqrt st hh h0 (by omega) N n 0 (by omega) (by omega) (by omega)
      have := ht.2.1
      obtain ⟨r, r1, r2⟩ := l_may ht st hh s h0 (by omega) s0 s1 s2 s3 n 0 (by omega) (by omega) (by omega)
      rw [if_neg c]
      unfold f_X12_isSounding
      rw [hs]
      simp only [Option.bind_some, r2]
      rw [p_wI (x := hh + 1) (by omega) (by omega)]
      have e := ih (hh + 1) x (by omega) (by omega) (by omega) hm
      by_cases q : r = 0
      · rw [if_pos q]
        exact e
      · rw [if_neg q, if_neg (by omega), if_pos hm]
        exact e
theorem l_high {M N : Mem} (ht : pTold M 346 (N 802)) (st : Int) (hn : N 802 5 ≤ 8) :
    ∀ (n : Nat) (hh x : Int), 1 ≤ hh → hh ≤ 100 → 100 - hh + 50 < n → ∀ most, (most = 0 → x = -1) → ∃ r, f_X11_high_L17 n st most x hh M = some r ∧ f_X12_high_L17 n st most x hh N = some r := by
  intro n
  induction n with
  | zero => intro hh x h0 h1 h2; omega
  | succ n ih =>
    intro hh x h0 h1 h2 most hm
    rw [f_X11_high_L17, f_X12_high_L17]
    by_cases c : 100 ≤ hh
    · rw [if_pos (by omega), if_pos c]
      exact ⟨x, rfl, rfl⟩
    · obtain ⟨s, hs, s0, s1, s2, s3⟩ := l_sqrt st hh h0 (by omega) N n 0 (by omega) (by omega) (by omega)
      have := ht.2.1
      obtain ⟨r, r1, r2⟩ := l_may ht st hh s h0 (by omega) s0 s1 s2 s3 n 0 (by omega) (by omega) (by omega)
      rw [if_neg (by omega), if_neg c]
      unfold f_X7_mayBeHigh f_X12_isSounding
      rw [r1, hs]
      simp only [Option.bind_some, r2]
      rw [p_wI (x := hh + 1) (by omega) (by omega)]
      by_cases q : r = 0
      · rw [if_pos q, if_pos q]
        exact ih (hh + 1) x (by omega) (by omega) (by omega) most hm
      · rw [if_neg q, if_neg q]
        by_cases q2 : most = 0
        · subst q2
          rw [if_neg (by omega), if_neg (by omega), if_neg (by have := hm rfl; omega)]
          exact ⟨hh, rfl, l_high2 ht st hn n (hh + 1) hh (by omega) (by omega) (by omega) (by omega)⟩
        · rw [if_pos q2, if_pos q2]
          exact ih (hh + 1) hh (by omega) (by omega) (by omega) most (fun z => absurd z q2)
theorem s_high {M N : Mem} {n : Nat} {p q : Int} (h : pRel M N) (hn : 200 ≤ n) : ∃ r, f_X11_high n p q M = some r ∧ f_X12_high n p q N = some r := by
  have ht : pTold M 346 (N 802) := h.1.2.2.2.2.2.1
  unfold f_X11_high f_X12_high
  rw [p_isB, p_isIn]
  by_cases c : 0 ≤ p ∧ p ≤ 8
  · rw [if_pos c]
    obtain ⟨r, r1, r2⟩ := l_high ht p ht.2.1.2 n 1 (-1) (by omega) (by omega) (by omega) q (fun _ => rfl)
    refine ⟨r, ?_, ?_⟩
    · rw [if_pos (by decide)]; exact r1
    · rw [if_pos (by decide), r2]; rfl
  · rw [if_neg c]
    exact ⟨-1, rfl, rfl⟩
theorem l_ooo {M N : Mem} (ht : pTold M 346 (N 802)) (a : Int) (ha : 0 ≤ a) (ha2 : a < N 802 6) :
    ∀ (k n n2 : Nat) (x e : Int), k ≤ n → k ≤ n2 → 0 ≤ e → e ≤ a → a - e < k → 0 ≤ x → x + (a - e) ≤ 1000 → ∃ r, f_X11_outOfOrder_L17 n x a e M = some r ∧ f_X12_outOfOrder_L17 n2 x a e N = some r ∧ 0 ≤ r ∧ r ≤ x + (a - e) := by
  obtain ⟨-, -, -, t4, t5, t6, -⟩ := ht
  intro k
  induction k with
  | zero => intro n n2 x e _ _ h0 h1 h2; omega
  | succ k ih =>
    intro n n2 x e hn hn2 h0 h1 h2 h3 h4
    obtain ⟨n, rfl⟩ : ∃ m, n = m + 1 := ⟨n - 1, by omega⟩
    obtain ⟨n2, rfl⟩ : ∃ m, n2 = m + 1 := ⟨n2 - 1, by omega⟩
    rw [f_X11_outOfOrder_L17, f_X12_outOfOrder_L17]
    by_cases c : a ≤ e
    · rw [if_pos c, if_pos c]
      exact ⟨x, rfl, rfl, h3, by omega⟩
    · have u := t6 a ha ha2
      have v := t6 e h0 (by omega)
      simp (disch := omega) only [p_wI, p_ck, if_neg c]
      rw [← u.1, ← v.1]
      change ∃ r, (if M 349 e ≤ M 349 a then _ else _) = some r ∧ (if M 349 e ≤ M 349 a then _ else _) = some r ∧ _
      by_cases q : M 349 e ≤ M 349 a
      · rw [if_pos q, if_pos q, Int.add_zero]
        obtain ⟨r, r1, r2, r3, r4⟩ := ih n n2 x (e + 1) (by omega) (by omega) (by omega) (by omega) (by omega) (by omega) (by omega)
        exact ⟨r, r1, r2, r3, by omega⟩
      · rw [if_neg q, if_neg q]
        obtain ⟨r, r1, r2, r3, r4⟩ := ih n n2 (x + 1) (e + 1) (by omega) (by omega) (by omega) (by omega) (by omega) (by omega) (by omega)
        exact ⟨r, r1, r2, r3, by omega⟩
theorem l_ooo2 {M N : Mem} (ht : pTold M 346 (N 802)) :
    ∀ (k n n2 : Nat) (x a : Int), k ≤ n → k ≤ n2 → 0 ≤ a → 30 - a < k → 0 ≤ x → x ≤ 20 * a → a ≤ 11 → ∃ r, f_X11_outOfOrder_L4 n x a M = some r ∧ f_X12_outOfOrder_L4 n2 x a N = some r := by
  have t4 := ht.2.2.2.1
  have t5 := ht.2.2.2.2.1
  intro k
  induction k with
  | zero => intro n n2 x a _ _ h0 h1 h2; omega
  | succ k ih =>
    intro n n2 x a hn hn2 h0 h2 h3 h4 h5
    obtain ⟨n, rfl⟩ : ∃ m, n = m + 1 := ⟨n - 1, by omega⟩
    obtain ⟨n2, rfl⟩ : ∃ m, n2 = m + 1 := ⟨n2 - 1, by omega⟩
    rw [f_X11_outOfOrder_L4, f_X12_outOfOrder_L4, t4]
    by_cases c : N 802 6 ≤ a
    · rw [if_pos c, if_pos c]
      exact ⟨x, rfl, rfl⟩
    · rw [if_neg c, if_neg c]
      obtain ⟨r, r1, r2, r3, r4⟩ := l_ooo ht a h0 (by omega) k n n2 x 0 (by omega) (by omega) (by omega) (by omega) (by omega) (by omega) (by omega)
      rw [r1, r2]
      simp only [Option.bind_some]
      rw [p_wI (x := a + 1) (by omega) (by omega)]
      exact ih n n2 r (a + 1) (by omega) (by omega) (by omega) (by omega) (by omega) (by omega) (by omega)
theorem s_ooo {M N : Mem} {n : Nat} (h : pRel M N) (hn : 200 ≤ n) : ∃ r, f_X11_outOfOrder n M = some r ∧ f_X12_outOfOrder n N = some r := by
  have ht : pTold M 346 (N 802) := h.1.2.2.2.2.2.1
  have t4 : M 346 3 = N 802 6 := ht.2.2.2.1
  have t5 := ht.2.2.2.2.1
  unfold f_X11_outOfOrder f_X12_outOfOrder
  obtain ⟨m, rfl⟩ : ∃ m, n = m + 1 := ⟨n - 1, by omega⟩
  have e : f_X12_outOfOrder_L4 (m + 1) 0 0 N = if N 802 6 ≤ 0 then some 0 else f_X12_outOfOrder_L4 m 0 1 N := by
    rw [f_X12_outOfOrder_L4]
    by_cases c : N 802 6 ≤ 0
    · rw [if_pos c, if_pos c]
    · rw [if_neg c, if_neg c]
      obtain ⟨k, rfl⟩ : ∃ k, m = k + 1 := ⟨m - 1, by omega⟩
      rw [f_X12_outOfOrder_L17, if_pos (by omega)]
      rfl
  have e2 : N 802 6 ≤ 0 → f_X11_outOfOrder_L4 (m + 1) 0 1 M = some 0 := fun c => by rw [f_X11_outOfOrder_L4, t4, if_pos (by omega)]
  rw [e]
  by_cases c : N 802 6 ≤ 0
  · rw [if_pos c, e2 c]
    exact ⟨0, rfl, rfl⟩
  · rw [if_neg c]
    obtain ⟨r, r1, r2⟩ := l_ooo2 ht 60 (m + 1) m 0 1 (by omega) (by omega) (by omega) (by omega) (by omega) (by omega) (by omega)
    rw [r1, r2]
    exact ⟨r, rfl, rfl⟩
