set_option linter.unusedVariables false
set_option linter.unusedSimpArgs false
/-! text: settling, and one token further -/
theorem opn_in (A : Int → Int) (p : Int) : ∀ k, 0 ≤ opn A p k ∧ opn A p k ≤ k := by
  intro k
  induction k with
  | zero => simp [opn]
  | succ k ih =>
    rw [opn]
    split <;> omega
theorem opn_same {A B : Int → Int} {p : Int} : ∀ k : Nat, (∀ j, p ≤ j → j < p + k → A j = B j) → opn A p k = opn B p k := by
  intro k
  induction k with
  | zero => intro h; rfl
  | succ k ih =>
    intro h
    rw [opn, opn, ih (fun j h0 h1 => h j h0 (by omega)), h (p + k) (by omega) (by omega)]
theorem l_settle {M : Mem} {c x l p r d : Int} (hc : pCx c x) : ∀ (k : Nat) (N : Mem), pPs M N c x l p → N 801 16 = p + k → (∀ j, p ≤ j → j < N 801 16 → isOp (N 806 j) ∧ r ≤ f_X12_rank (N 806 j)) → (p = 0 ∨ f_X12_rank (N 806 (p - 1)) < r) → 0 ≤ d → d ≤ 20 → N 801 17 = d + opn (N 806) p k →
    ∃ N', (∀ n, k + 1 ≤ n → f_X12_settle_L0 n r N = some N') ∧ pPs M N' c x l p ∧ fPN x p N N' ∧ N' 801 16 = p ∧ N' 801 17 = d ∧ N' 801 18 = N 801 18 ∧ (∀ j, N' 806 j = N 806 j) ∧ (∀ j, j < M c 3 → oX N' x j = oX N x j ∧ uX N' x j = uX N x j) := by
  intro k
  induction k with
  | zero =>
    intro N h e q hb d0 d1 e17
    have p0 := h.2.2.2.1.1.2.2.1
    have p150 := h.2.2.2.2.2
    refine ⟨N, fun n hn => ?_, h, fPN_rfl, by omega, by rw [e17, opn, Int.add_zero], rfl, fun _ => rfl, fun _ _ => ⟨rfl, rfl⟩⟩
    obtain ⟨n, rfl⟩ : ∃ n', n = n' + 1 := ⟨n - 1, by omega⟩
    rw [f_X12_settle_L0]
    by_cases z : N 801 16 ≤ 0
    · rw [if_pos z]
    · rw [if_neg z, p_wI (x := N 801 16 - 1) (by omega) (by omega), p_ck (by omega), show N 801 16 - 1 = p - 1 by omega]
      rcases hb with hb | hb
      · omega
      · rw [if_pos hb]
  | succ k ih =>
    intro N h e q hb d0 d1 e17
    have oi := opn_in (N 806) p (k + 1)
    have p150 := h.2.2.2.2.2
    have p0 := h.2.2.2.1.1.2.2.1
    have qt := q (N 801 16 - 1) (by omega) (by omega)
    obtain ⟨N1, a1, a2, a3, a4, a5, a6, a7, a8, a9⟩ := l_pop hc h (by omega) qt.1 qt.2 (by omega)
    have e6 : N 801 16 - 1 = p + (k : Int) := by omega
    have os : opn (N1 806) p k = opn (N 806) p k := opn_same k (fun j _ _ => a5 j)
    obtain ⟨N', b1, b2, b3, b4, b5, b6, b7, b8⟩ := ih N1 a2 (by omega) (fun j j0 j1 => by rw [a5]; exact q j j0 (by omega)) (by rw [a5]; exact hb) d0 d1 (by rw [a6, e17, os, opn, e6]; omega)
    refine ⟨N', fun n hn => ?_, b2, fPN_trans (Int.le_refl _) a3 b3, b4, b5, by rw [b6, a7], fun j => by rw [b7, a5], fun j hj => ?_⟩
    · obtain ⟨n, rfl⟩ : ∃ n', n = n' + 1 := ⟨n - 1, by omega⟩
      rw [a1]
      exact b1 n (by omega)
    · obtain ⟨u1, u2⟩ := b8 j hj
      obtain ⟨w1, w2⟩ := a9 j hj
      exact ⟨u1.trans w1, u2.trans w2⟩
/-! more fuel changes nothing -/
theorem m_L0 : ∀ (n : Nat) (N v : Mem), f_X12_nextToken_L0 n N = some v → f_X12_nextToken_L0 (n + 1) N = some v := by
  intro n
  induction n with
  | zero => intro N v h; rw [f_X12_nextToken_L0] at h; cases h
  | succ n ih =>
    intro N v h
    rw [f_X12_nextToken_L0] at h
    rw [f_X12_nextToken_L0]
    cases e : f_X12_byteAt (N 801 7) N with
    | none => rw [e, Option.bind_none] at h; cases h
    | some b =>
      rw [e, Option.bind_some, Option.bind_some] at h
      rw [Option.bind_some, Option.bind_some]
      by_cases c : b = 32
      · rw [if_pos c] at h ⊢
        exact ih _ _ h
      · rw [if_neg c] at h ⊢
        by_cases d : b ≠ 10
        · rw [if_pos d] at h ⊢; exact h
        · rw [if_neg d] at h ⊢
          exact ih _ _ h
theorem m_L168 : ∀ (n : Nat) (N v : Mem), f_X12_nextToken_L168 n N = some v → f_X12_nextToken_L168 (n + 1) N = some v := by
  intro n
  induction n with
  | zero => intro N v h; rw [f_X12_nextToken_L168] at h; cases h
  | succ n ih =>
    intro N v h
    rw [f_X12_nextToken_L168] at h
    rw [f_X12_nextToken_L168]
    cases e : f_X12_byteAt (N 801 7) N with
    | none => rw [e, Option.bind_none] at h; cases h
    | some b =>
      rw [e, Option.bind_some] at h
      rw [Option.bind_some]
      by_cases c : f_X12_isLetterByte b = 0
      · rw [if_pos c] at h ⊢; exact h
      · rw [if_neg c] at h ⊢
        by_cases d : lCmp (lShr (N 801 11) 48) 0 = 0
        · rw [if_pos d, Option.bind_some] at h ⊢
          exact ih _ _ h
        · rw [if_neg d] at h ⊢
          exact ih _ _ h
theorem m_L85 : ∀ (n : Nat) (N v : Mem), f_X12_nextToken_L85 n N = some v → f_X12_nextToken_L85 (n + 1) N = some v := by
  intro n
  induction n with
  | zero => intro N v h; rw [f_X12_nextToken_L85] at h; cases h
  | succ n ih =>
    intro N v h
    rw [f_X12_nextToken_L85] at h
    rw [f_X12_nextToken_L85]
    cases e : f_X12_byteAt (N 801 7) N with
    | none => rw [e, Option.bind_none] at h; cases h
    | some b =>
      rw [e, Option.bind_some] at h
      rw [Option.bind_some]
      by_cases c : f_X12_isFigure b = 0
      · rw [if_pos c] at h ⊢; exact h
      · rw [if_neg c] at h ⊢
        by_cases d : N 801 10 ≤ 99999
        · rw [if_pos d, Option.bind_some] at h ⊢
          exact ih _ _ h
        · rw [if_neg d] at h ⊢
          exact ih _ _ h
theorem m_tok1 (n : Nat) (N v : Mem) (h : f_X12_nextToken n N = some v) : f_X12_nextToken (n + 1) N = some v := by
  unfold f_X12_nextToken at *
  cases e : f_X12_nextToken_L0 n N with
  | none => rw [e, Option.bind_none] at h; cases h
  | some q =>
    rw [m_L0 n N q e, Option.bind_some]
    rw [e, Option.bind_some] at h
    rw [p_lt] at h ⊢
    cases e2 : f_X12_byteAt ((upM q 801 8 (q 801 7)) 801 7) (upM q 801 8 (q 801 7)) with
    | none => rw [e2, Option.bind_none] at h; cases h
    | some b =>
      rw [e2, Option.bind_some] at h
      rw [Option.bind_some]
      by_cases c : 0 ≤ b
      · rw [if_pos c] at h ⊢
        by_cases d : f_X12_isFigure b = 0
        · rw [if_pos d] at h ⊢
          by_cases f : f_X12_isLetterByte b = 0
          · rw [if_pos f] at h ⊢; exact h
          · rw [if_neg f, p_lt, p_lt] at h ⊢
            cases e3 : f_X12_nextToken_L168 n (upM (upM (upM q 801 8 (q 801 7)) 801 9 2) 801 11 0) with
            | none => rw [e3, Option.bind_none] at h; cases h
            | some w =>
              rw [m_L168 n _ w e3, Option.bind_some]
              rw [e3, Option.bind_some] at h
              exact h
        · rw [if_neg d, p_lt, p_lt] at h ⊢
          cases e3 : f_X12_nextToken_L85 n (upM (upM (upM q 801 8 (q 801 7)) 801 9 1) 801 10 0) with
          | none => rw [e3, Option.bind_none] at h; cases h
          | some w =>
            rw [m_L85 n _ w e3, Option.bind_some]
            rw [e3, Option.bind_some] at h
            exact h
      · rw [if_neg c] at h ⊢; exact h
theorem m_tok (k n : Nat) (N v : Mem) (h : f_X12_nextToken n N = some v) : f_X12_nextToken (n + k) N = some v := by
  induction k with
  | zero => exact h
  | succ k ih => exact m_tok1 (n + k) N v ih
/-- one token further -/
theorem l_adv0 {M N : Mem} {l : Int} (tp : pTp M N l) (tok : pTok M N l) {nA : Nat} (hA : 700 ≤ nA) :
    ∃ M' N', f_X4_advance nA M = some M' ∧ (∀ n, 700 ≤ n → f_X12_nextToken n N = some N') ∧ kM M M' ∧ kN N N' ∧ pTp M' N' l ∧ pTok M' N' l ∧ N 801 7 ≤ N' 801 8 := by
  obtain ⟨M', N', a1, a2, a3, a4, a5, a6⟩ := l_token tp hA (Nat.le_refl 700) tok.1 ⟨tok.2.1, tok.2.2.1⟩
  refine ⟨M', N', a1, fun n hn => ?_, a3, a4, ⟨by rw [a3 _ _ (by omega)]; exact tp.1, by rw [a4 _ _ (by omega)]; exact tp.2.1, tp.2.2.1, tp.2.2.2.1, fun i i0 i1 => by rw [a3 _ _ (by omega), a4 _ _ (by omega)]; exact tp.2.2.2.2 i i0 i1⟩, a5, a6⟩
  have := m_tok (n - 700) 700 N N' a2
  rw [show 700 + (n - 700) = n by omega] at this
  exact this
theorem l_adv {M N : Mem} {c x l p : Int} (hc : pCx c x) (h : pPs M N c x l p) {nA : Nat} (hA : 700 ≤ nA) :
    ∃ M' N', f_X4_advance nA M = some M' ∧ (∀ n, 700 ≤ n → f_X12_nextToken n N = some N') ∧ kM M M' ∧ kN N N' ∧ pPs M' N' c x l p ∧ N 801 7 ≤ N' 801 8 ∧ N 801 8 ≤ N' 801 8 := by
  obtain ⟨tp, tok, ⟨hc1, hx1⟩, ⟨⟨k1, k2, k3, k4⟩, k5, k6⟩, few, top⟩ := h
  obtain ⟨x1, x2, x3, x4, x5⟩ := hc
  obtain ⟨M', N', a1, a2, a3, a4, a5, a6, a7⟩ := l_adv0 tp tok hA
  have le : N 801 8 ≤ N 801 7 := tok.2.2.2.2.2.2.2.1
  refine ⟨M', N', a1, a2, a3, a4, ⟨a5, a6, ⟨by rw [a3 _ _ (by omega)]; exact hc1, by rw [a4 _ _ (by omega)]; exact hx1⟩, ⟨?_, fun j j0 j1 => ?_, fun t t0 t1 => ?_⟩, ?_⟩, a7, by omega⟩
  · rw [a3 _ _ (by omega), a4 801 13 (by omega), a4 801 16 (by omega)]
    exact ⟨k1, k2, k3, k4⟩
  · rw [a4 801 13 (by omega)] at j1
    rw [a3 _ _ (by omega), a3 _ _ (by omega), a4 _ _ (by omega), a4 _ _ (by omega)]
    exact k5 j j0 j1
  · rw [a4 801 16 (by omega)] at t1
    rw [a3 _ _ (by omega), a4 801 13 (by omega), a4 801 16 (by omega), a4 806 _ (by omega)]
    exact k6 t t0 t1
  · rw [a4 801 13 (by omega), a4 801 16 (by omega)]
    omega
