set_option linter.unusedVariables false
set_option linter.unusedSimpArgs false
theorem l_wfh {o v nf bf : Int → Int} {f t : Int} (n0 : nf f = 0) (b0 : bf f = 0) (h : ∀ i, f ≤ i → i < t → pStep (o i) (v i) (nf i) (bf i) (nf (i + 1)) (bf (i + 1)) ∧ 0 ≤ nf i ∧ 0 ≤ bf i) : ∀ (k : Nat) (i : Int), f ≤ i → i ≤ t → i - f ≤ k → nf i + bf i ≤ 61 := by
  intro k
  induction k with
  | zero => intro i h0 h1 h2; rw [show i = f by omega]; omega
  | succ k ih =>
    intro i h0 h1 h2
    by_cases q : i = f
    · rw [q]; omega
    · have g := ih (i - 1) (by omega) (by omega) (by omega)
      have g2 := (h (i - 1) (by omega) (by omega)).1
      rw [show i - 1 + 1 = i by omega] at g2
      unfold pStep at g2
      omega
theorem l_value {M N : Mem} {s wd st w ot c l r k : Int} {n1 n2 : Nat} (ht : pText M N c (729 * r)) (hr : N 802 3 = r) (r0 : 0 ≤ r) (r1 : r < 4) (hc : M 0 0 = c) (tx : isTx c) (k0 : 0 ≤ k) (k1 : k < N 804 (729 * r)) (hk : N 804 (729 * r + 1 + 5 * k) = l) (hl : 0 ≤ l ∧ l < 5) (hw : wI (wd - 128) = l) (hsx : s + 6 ≤ 713 ∨ 713 < s)
    (hs : pSt M N s) (ha : pAsk M N s st w ot) (hn1 : 400 ≤ n1) (hn2 : 400 ≤ n2) :
    ∃ v M' N', f_X2_valueOf n1 wd s st w ot M = some (v, M') ∧ f_X12_work n2 k N = some N' ∧ (∀ x, x ≠ 713 → ∀ j, M' x j = M x j) ∧ (∀ x, x ≠ 807 → x ≠ 808 → ∀ j, N' x j = N x j) ∧ (l < 4 → N' 807 0 = v ∧ -1000000 ≤ v ∧ v ≤ 1000000) ∧ (l = 4 → N' 808 0 = v ∧ (v = 0 ∨ v = 1)) := by
  have hlen := ht.2.1
  have g := ht.2.2.1 k k0 k1
  unfold pClause at g
  rw [hk] at g
  obtain ⟨q1, q2, q3, q4⟩ := g
  obtain ⟨c1, c2, c3, c4, c5⟩ := q3 (by omega)
  obtain ⟨nf, bf, w1, w2, w3, w4, w5⟩ := c5
  have w6 := l_wfh (o := fun i => N 804 (729 * r + 121 + 2 * i)) (v := fun i => N 804 (729 * r + 122 + 2 * i)) w1 w2 w5 300
  generalize hf : N 804 (729 * r + 2 + 5 * k) = f at *
  generalize htt : N 804 (729 * r + 3 + 5 * k) = t at *
  obtain ⟨M', N', a1, a2, a3, a4, a5⟩ := l_code (x2 := 729 * r + 1 + 5 * k) (x3 := 729 * r + 121) (f := f) (t := t) (nf := nf) (bf := bf) hc tx hw hl hsx c3 (by omega) (by omega) (by rw [← htt]; exact congrArg (N 804) (by omega)) (by omega) (by omega) hs ha
    (fun i i0 i1 => by have := c4 i i0 i1; rwa [show 729 * r + 122 + 2 * i = 729 * r + 121 + 2 * i + 1 by omega] at this)
    (fun i i0 i1 => by
      have := w5 i i0 i1
      have := w6 i i0 (by omega) (by omega)
      rw [show 729 * r + 121 + 2 * i + 1 = 729 * r + 122 + 2 * i by omega]
      exact ⟨(w5 i i0 i1).1, (w5 i i0 i1).2.1, (w5 i i0 i1).2.2, this⟩)
    400 n1 n2 f 0 0 0 M N (by omega) hn1 hn2 (by omega) (by omega) w1.symm w2.symm (by omega) (fun x _ j => rfl) (fun x _ _ j => rfl) ⟨fun j j0 j1 => by omega, fun j j0 j1 => by omega⟩
  have hh : 1 ≤ nf t + bf t := by rw [w3, w4]; split <;> omega
  refine ⟨M' 713 0, M', N', ?_, ?_, a3, a4, fun h4 => ?_, fun h4 => ?_⟩
  · unfold f_X2_valueOf
    rw [hc, hw, p_ck tx, p_ck hl, c2, a1, Option.bind_some]
    rw [if_neg (by show ¬ nf t + bf t < 1; omega)]
  · unfold f_X12_work
    rw [hr, p_wI (x := 729 * r) (by omega) (by omega), p_wI (x := 729 * r + 1) (by omega) (by omega), p_wI (x := 5 * k) (by omega) (by omega), p_wI (x := 729 * r + 1 + 5 * k) (by omega) (by omega), p_wI (x := 729 * r + 121) (by omega) (by omega)]
    simp only [p_lt]
    rw [p_wI (x := 729 * r + 1 + 5 * k + 1) (by omega) (by omega), p_ck (by omega), show 729 * r + 1 + 5 * k + 1 = 729 * r + 2 + 5 * k by omega, hf, a2]
    rfl
  · rw [if_neg (by omega)] at w3 w4
    rw [w3, w4] at a5
    have := a5.2 0 (by omega) (by omega)
    rw [show (0 : Int) + 0 = 0 by omega] at this
    omega
  · rw [if_pos h4] at w3 w4
    rw [w3, w4] at a5
    have := a5.1 0 (by omega) (by omega)
    exact ⟨this.1.symm, by rw [this.1]; exact this.2⟩
/-- the ruling text, as both have it -/
def pLaw (M N : Mem) : Prop := (N 802 3 = -1 ∧ M 0 0 = 706 ∧ ∀ i, 0 ≤ i → i < 5 → M 712 i ≤ M 711 i) ∨ (0 ≤ N 802 3 ∧ N 802 3 < 4 ∧ M 0 0 = 773 + 7 * N 802 3 ∧ pText M N (773 + 7 * N 802 3) (729 * N 802 3))
theorem pLaw_of {M N : Mem} (h : pRel M N) : pLaw M N := by
  have hc := pR_ctl h
  have hr := h.2.2.2.2.2.2.1
  unfold pRul at hr
  rw [hc.2.2.1.1] at hr
  by_cases q : N 802 3 = -1
  · rw [if_pos q] at hr
    exact Or.inl ⟨q, hr⟩
  · rw [if_neg q] at hr
    exact Or.inr ⟨by omega, by omega, hr.1, h.2.2.2.1 _ (by omega) (by omega)⟩
theorem pLaw_same {M N M' N' : Mem} (h : pLaw M N) (h0 : M' 0 0 = M 0 0) (hM : ∀ x, (706 ≤ x ∧ x < 713) ∨ (773 ≤ x ∧ x < 801) → ∀ j, M' x j = M x j) (h3 : N' 802 3 = N 802 3) (h4 : ∀ j, N' 804 j = N 804 j) : pLaw M' N' := by
  rcases h with ⟨a, b, c⟩ | ⟨a, b, c, d⟩
  · refine Or.inl ⟨by rw [h3]; exact a, by rw [h0]; exact b, fun i i0 i1 => ?_⟩
    rw [hM 712 (by omega), hM 711 (by omega)]
    exact c i i0 i1
  · refine Or.inr ⟨by omega, by omega, by rw [h0, h3]; exact c, ?_⟩
    rw [h3]
    exact pText_same (fun y y0 y1 => hM y (by omega)) (fun i _ _ => h4 i) d
theorem l_find {N : Mem} {r l : Int} (hr : N 802 3 = r) (r0 : 0 ≤ r) (r1 : r < 4) (hlen : 0 ≤ N 804 (729 * r) ∧ N 804 (729 * r) ≤ 24) :
    ∀ (k n : Nat) (x : Int), 24 - x < k → k ≤ n → 0 ≤ x → x ≤ N 804 (729 * r) → (∀ j, 0 ≤ j → j < x → N 804 (729 * r + 1 + 5 * j) ≠ l) →
      (∃ q, 0 ≤ q ∧ q < N 804 (729 * r) ∧ N 804 (729 * r + 1 + 5 * q) = l ∧ f_X12_clauseOf_L2 n l x N = some q) ∨ ((∀ j, 0 ≤ j → j < N 804 (729 * r) → N 804 (729 * r + 1 + 5 * j) ≠ l) ∧ f_X12_clauseOf_L2 n l x N = some (-1)) := by
  intro k
  induction k with
  | zero => intro n x h0 h1 h2 h3; omega
  | succ k ih =>
    intro n x h0 h1 h2 h3 h4
    obtain ⟨n, rfl⟩ : ∃ m, n = m + 1 := ⟨n - 1, by omega⟩
    rw [f_X12_clauseOf_L2, hr, if_neg (show ¬ r < 0 by omega), p_wI (x := 729 * r) (by omega) (by omega), p_ck (show 0 ≤ 729 * r ∧ 729 * r < 2916 by omega)]
    by_cases c : N 804 (729 * r) ≤ x
    · rw [if_pos c]
      exact Or.inr ⟨fun j j0 j1 => h4 j j0 (by omega), rfl⟩
    · rw [if_neg c, p_wI (x := 729 * r + 1) (by omega) (by omega), p_wI (x := 5 * x) (by omega) (by omega), p_wI (x := 729 * r + 1 + 5 * x) (by omega) (by omega), p_ck (show 0 ≤ 729 * r + 1 + 5 * x ∧ 729 * r + 1 + 5 * x < 2916 by omega)]
      by_cases d : N 804 (729 * r + 1 + 5 * x) = l
      · rw [if_neg (fun z => z d)]
        exact Or.inl ⟨x, h2, by omega, d, rfl⟩
      · rw [if_pos d, p_wI (x := x + 1) (by omega) (by omega)]
        refine ih n (x + 1) (by omega) (by omega) (by omega) (by omega) (fun j j0 j1 => ?_)
        by_cases e : j = x
        · rw [e]; exact d
        · exact h4 j j0 (by omega)
theorem l_clauseSame {N N' : Mem} (h3 : N' 802 3 = N 802 3) (h4 : ∀ j, N' 804 j = N 804 j) (l : Int) : ∀ (n : Nat) (x : Int), f_X12_clauseOf_L2 n l x N' = f_X12_clauseOf_L2 n l x N := by
  intro n
  induction n with
  | zero => intro x; rfl
  | succ n ih =>
    intro x
    rw [f_X12_clauseOf_L2, f_X12_clauseOf_L2, h3]
    simp only [h4, ih]
/-- is there a law: both say the same; and its value -/
theorem l_says {M N : Mem} {s wd st w ot l : Int} {n1 n2 : Nat} (hL : pLaw M N) (hs : pSt M N s) (ha : pAsk M N s st w ot) (hl : 0 ≤ l ∧ l < 5) (hw : wI (wd - 128) = l) (hsx : s + 6 ≤ 713 ∨ 713 < s) (hn1 : 400 ≤ n1) (hn2 : 400 ≤ n2) :
    (f_X2_hasLaw wd M = some 0 ∧ f_X12_clauseOf n2 l N = some (-1)) ∨
    (∃ k v M' N', f_X2_hasLaw wd M = some 1 ∧ f_X12_clauseOf n2 l N = some k ∧ 0 ≤ k ∧ f_X2_valueOf n1 wd s st w ot M = some (v, M') ∧ f_X12_work n2 k N = some N' ∧ (∀ x, x ≠ 713 → ∀ j, M' x j = M x j) ∧ (∀ x, x ≠ 807 → x ≠ 808 → ∀ j, N' x j = N x j) ∧ (l < 4 → N' 807 0 = v ∧ -1000000 ≤ v ∧ v ≤ 1000000) ∧ (l = 4 → N' 808 0 = v ∧ (v = 0 ∨ v = 1))) := by
  unfold f_X2_hasLaw f_X12_clauseOf f_X6_hasLaw
  rw [hw, if_neg (show ¬ l < 0 by omega), if_neg (show ¬ 5 ≤ l by omega), p_ck hl]
  rcases hL with ⟨a, b, c⟩ | ⟨a, b, c, d⟩
  · left
    rw [b, p_ck (Or.inl rfl), show (706 : Int) + 6 = 712 by decide, show (706 : Int) + 5 = 711 by decide, if_pos (c l hl.1 hl.2)]
    obtain ⟨n2, rfl⟩ : ∃ m, n2 = m + 1 := ⟨n2 - 1, by omega⟩
    rw [f_X12_clauseOf_L2, a, if_pos (by decide)]
    exact ⟨rfl, rfl⟩
  · have tx : isTx (773 + 7 * N 802 3) := by
      have : N 802 3 = 0 ∨ N 802 3 = 1 ∨ N 802 3 = 2 ∨ N 802 3 = 3 := by omega
      rcases this with r | r | r | r <;> rw [r]
      · exact Or.inr (Or.inl rfl)
      · exact Or.inr (Or.inr (Or.inl rfl))
      · exact Or.inr (Or.inr (Or.inr (Or.inl rfl)))
      · exact Or.inr (Or.inr (Or.inr (Or.inr rfl)))
    rw [c, p_ck tx]
    rcases l_find (l := l) (N := N) rfl a b d.2.1 30 n2 0 (by omega) (by omega) (by omega) d.2.1.1 (fun j j0 j1 => by omega) with ⟨q, q0, q1, q2, q3⟩ | ⟨q1, q3⟩
    · right
      obtain ⟨v, M', N', v1, v2, v3, v4, v5, v6⟩ := l_value (n1 := n1) (n2 := n2) d rfl a b c tx q0 q1 q2 hl hw hsx hs ha hn1 hn2
      have g := d.2.2.1 q q0 q1
      unfold pClause at g
      rw [q2] at g
      obtain ⟨g1, g2, g3, -⟩ := g.2.2.1 (by omega)
      rw [if_neg (show ¬ M (773 + 7 * N 802 3 + 6) l ≤ M (773 + 7 * N 802 3 + 5) l by omega)]
      exact ⟨q, v, M', N', rfl, q3, q0, v1, v2, v3, v4, v5, v6⟩
    · left
      rw [if_pos (d.2.2.2.2 l hl.1 hl.2 q1)]
      exact ⟨rfl, q3⟩
