set_option linter.unusedVariables false
set_option linter.unusedSimpArgs false
/-! ===== laws: what a text says of a sea ===== -/
/-- the steps as the class's sea s and the reference have them -/
def pSt (M N : Mem) (s : Int) : Prop := (M s 0 = N 802 0 ∧ 0 ≤ N 802 0 ∧ N 802 0 ≤ 9) ∧ ∀ i, 0 ≤ i → i < N 802 0 → (M (s + 1) i = N 802 (16 + 8 * i) ∧ 1 ≤ N 802 (16 + 8 * i) ∧ N 802 (16 + 8 * i) ≤ 99) ∧ (M (s + 2) i = N 802 (17 + 8 * i) ∧ 0 ≤ N 802 (17 + 8 * i) ∧ N 802 (17 + 8 * i) ≤ 99)
  ∧ (M (s + 3) i = N 802 (18 + 8 * i) ∧ 0 ≤ N 802 (18 + 8 * i) ∧ N 802 (18 + 8 * i) ≤ 999) ∧ (M (s + 4) i = N 802 (19 + 8 * i) ∧ 0 ≤ N 802 (19 + 8 * i) ∧ N 802 (19 + 8 * i) ≤ 999) ∧ (M (s + 5) i = N 802 (20 + 8 * i) ∧ 0 ≤ N 802 (20 + 8 * i) ∧ N 802 (20 + 8 * i) ≤ 100)
/-- what is asked -/
def pAsk (M N : Mem) (s st w ot : Int) : Prop := N 801 21 = st ∧ N 801 22 = M s 11 ∧ N 801 23 = w ∧ N 801 24 = ot ∧ (0 ≤ st ∧ st < N 802 0) ∧ (0 ≤ M s 11 ∧ M s 11 ≤ 10100) ∧ (0 ≤ w ∧ w ≤ 198) ∧ (0 ≤ ot ∧ ot ≤ 99)
theorem p_wL {x : Int} (h : -9223372036854775808 ≤ x) (h2 : x ≤ 9223372036854775807) : wL x = x := by unfold wL; omega
theorem l_nmN {N : Mem} {v q : Int} (h0 : 0 ≤ N 802 0) (h9 : N 802 0 ≤ 9) (v0 : 2 ≤ v) (v1 : v ≤ 6) : f_X12_named v q N = some (if 0 ≤ q ∧ q < N 802 0 then N 802 (16 + 8 * q + (v - 2)) else 0) := by
  unfold f_X12_named f_X12_isStep
  rw [p_isIn, p_wI (x := N 802 0 - 1) (by omega) (by omega), if_neg (by omega), if_neg (by omega), if_neg (by omega), if_neg (by omega)]
  by_cases c : 0 ≤ q ∧ q < N 802 0
  · rw [if_pos c, if_pos (show 0 ≤ q ∧ q ≤ N 802 0 - 1 by omega), if_neg (by decide), p_wI (x := v - 2) (by omega) (by omega), p_at c.1 (by omega) (by omega) (by omega)]
    rfl
  · rw [if_neg c, if_neg (show ¬ (0 ≤ q ∧ q ≤ N 802 0 - 1) by omega), if_pos rfl]
theorem l_nmB {M N : Mem} {s v q : Int} (h : pSt M N s) (v0 : 2 ≤ v) (v1 : v ≤ 6) : ∃ x, f_X12_named v q N = some x ∧ 0 ≤ x ∧ x ≤ 999 := by
  obtain ⟨⟨h1, h2, h3⟩, h4⟩ := h
  rw [l_nmN h2 h3 v0 v1]
  refine ⟨_, rfl, ?_⟩
  by_cases c : 0 ≤ q ∧ q < N 802 0
  · have g := h4 q c.1 c.2
    rw [if_pos c]
    have : v = 2 ∨ v = 3 ∨ v = 4 ∨ v = 5 ∨ v = 6 := by omega
    rcases this with r | r | r | r | r <;> subst r
    · rw [show 16 + 8 * q + (2 - 2) = 16 + 8 * q by omega]; omega
    · rw [show 16 + 8 * q + (3 - 2) = 17 + 8 * q by omega]; omega
    · rw [show 16 + 8 * q + (4 - 2) = 18 + 8 * q by omega]; omega
    · rw [show 16 + 8 * q + (5 - 2) = 19 + 8 * q by omega]; omega
    · rw [show 16 + 8 * q + (6 - 2) = 20 + 8 * q by omega]; omega
  · rw [if_neg c]; omega
theorem l_nmM {M N : Mem} {s i st w ot v q : Int} (h : pSt M N s) (v0 : 2 ≤ v) (v1 : v ≤ 6) : f_X2_named_J60 s i st w ot (pNm v) q M = f_X12_named v q N := by
  obtain ⟨⟨h1, h2, h3⟩, h4⟩ := h
  rw [l_nmN h2 h3 v0 v1]
  unfold f_X2_named_J60
  rw [h1]
  by_cases c : 0 ≤ q ∧ q < N 802 0
  · have g := h4 q c.1 c.2
    rw [if_pos c, if_neg (by omega), if_pos c.2]
    have : v = 2 ∨ v = 3 ∨ v = 4 ∨ v = 5 ∨ v = 6 := by omega
    rcases this with r | r | r | r | r <;> subst r
    · rw [show pNm 2 = 146 by decide]
      simp (disch := omega) only [if_neg, if_pos, p_ck]
      rw [g.1.1]
      exact congrArg some (congrArg (N 802) (by omega))
    · rw [show pNm 3 = 140 by decide]
      simp (disch := omega) only [if_neg, if_pos, p_ck]
      rw [g.2.1.1]
      exact congrArg some (congrArg (N 802) (by omega))
    · rw [show pNm 4 = 141 by decide]
      simp (disch := omega) only [if_neg, if_pos, p_ck]
      rw [g.2.2.1.1]
      exact congrArg some (congrArg (N 802) (by omega))
    · rw [show pNm 5 = 142 by decide]
      simp (disch := omega) only [if_neg, if_pos, p_ck]
      rw [g.2.2.2.1.1]
      exact congrArg some (congrArg (N 802) (by omega))
    · rw [show pNm 6 = 147 by decide]
      simp (disch := omega) only [if_neg, if_pos, p_ck]
      rw [g.2.2.2.2.1]
      exact congrArg some (congrArg (N 802) (by omega))
  · rw [if_neg c]
    by_cases d : q < 0
    · rw [if_pos d]
    · rw [if_neg d, if_neg (by omega)]
/-- one name, as both have it -/
theorem l_push {M N : Mem} {s st w ot i o v c : Int} (hc : M 0 0 = c) (tx : isTx c) (i0 : 0 ≤ i) (i1 : i < 300) (hs : pSt M N s) (ha : pAsk M N s st w ot) (hcd : pCd (M (c + 3) i) (M (c + 4) i) o v)
    (hv : (o = 0 ∧ 0 ≤ v ∧ v ≤ 9999) ∨ (o = 1 ∧ 0 ≤ v ∧ v ≤ 8) ∨ (2 ≤ o ∧ o ≤ 3 ∧ 2 ≤ v ∧ v ≤ 6)) :
    ∃ x, f_X2_named i s st w ot M = some x ∧ (if o = 0 then some v else f_X12_named v (if o = 1 then N 801 21 else if o = 2 then N 801 21 - 1 else N 801 21 + 1) N) = some x ∧ -1000000 ≤ x ∧ x ≤ 1000000 := by
  obtain ⟨a1, a2, a3, a4, a5, a6, a7, a8⟩ := ha
  have hs' := hs
  obtain ⟨⟨h1, h2, h3⟩, h4⟩ := hs'
  obtain ⟨d1, d2, d3, d4⟩ := hcd
  unfold f_X2_named
  rw [hc, p_ck tx, p_ck ⟨i0, i1⟩, a1]
  rcases hv with ⟨r, v0, v1⟩ | ⟨r, v0, v1⟩ | ⟨r0, r1, v0, v1⟩
  · subst r
    have e : M (c + 3) i = 3 := by rw [d1]; rfl
    rw [e, if_neg (by decide), if_pos (by decide)]
    unfold f_X2_named_J60
    rw [h1, if_neg (by omega), if_pos a5.2, if_pos rfl, hc, p_ck tx, p_ck ⟨i0, i1⟩, d2 rfl]
    exact ⟨v, rfl, rfl, by omega, by omega⟩
  · subst r
    have e : M (c + 3) i = pNm v := by rw [d1]; rfl
    have nm : pNm v ≠ 150 ∧ pNm v ≠ 151 := by
      have : v = 0 ∨ v = 1 ∨ v = 2 ∨ v = 3 ∨ v = 4 ∨ v = 5 ∨ v = 6 ∨ v = 7 ∨ v = 8 := by omega
      rcases this with r | r | r | r | r | r | r | r | r <;> subst r <;> decide
    rw [e, if_neg nm.1, if_pos nm.2, if_neg (show ¬ (1 : Int) = 0 by decide), if_pos rfl]
    by_cases hv2 : 2 ≤ v ∧ v ≤ 6
    · rw [l_nmM hs hv2.1 hv2.2]
      obtain ⟨x, x1, x2, x3⟩ := l_nmB (q := st) hs hv2.1 hv2.2
      exact ⟨x, x1, x1, by omega, by omega⟩
    · have : v = 0 ∨ v = 1 ∨ v = 7 ∨ v = 8 := by omega
      unfold f_X2_named_J60 f_X12_named
      rw [h1, if_neg (show ¬ st < 0 by omega), if_pos a5.2]
      rcases this with r | r | r | r <;> subst r
      · rw [show pNm 0 = 135 by decide]
        simp (disch := omega) only [if_neg, if_pos, if_true]
        exact ⟨_, rfl, by rw [a2], by omega, by omega⟩
      · rw [show pNm 1 = 133 by decide]
        simp (disch := omega) only [if_neg, if_pos, if_true]
        exact ⟨_, rfl, rfl, by omega, by omega⟩
      · rw [show pNm 7 = 148 by decide]
        simp (disch := omega) only [if_neg, if_pos, if_true]
        exact ⟨_, rfl, by rw [a3], by omega, by omega⟩
      · rw [show pNm 8 = 149 by decide]
        simp (disch := omega) only [if_neg, if_pos, if_true]
        exact ⟨_, rfl, by rw [a4], by omega, by omega⟩
  · have : o = 2 ∨ o = 3 := by omega
    rcases this with r | r <;> subst r
    · have e : M (c + 3) i = 150 := by rw [d1]; rfl
      rw [e, if_pos rfl, if_neg (by decide), if_neg (by decide), if_pos rfl]
      unfold f_X2_named_J30 f_X2_named_J47
      rw [if_neg (by decide), hc, p_ck tx, p_ck ⟨i0, i1⟩, d3 rfl, p_wI (x := st - 1) (by omega) (by omega), l_nmM hs v0 v1]
      obtain ⟨x, x1, x2, x3⟩ := l_nmB (q := st - 1) hs v0 v1
      exact ⟨x, x1, x1, by omega, by omega⟩
    · have e : M (c + 3) i = 151 := by rw [d1]; rfl
      rw [e, if_neg (by decide), if_neg (by decide), if_neg (by decide), if_neg (by decide), if_neg (by decide)]
      unfold f_X2_named_J30 f_X2_named_J47
      rw [if_pos (by decide), hc, p_ck tx, p_ck ⟨i0, i1⟩, d4 rfl, p_wI (x := st + 1) (by omega) (by omega), l_nmM hs v0 v1]
      obtain ⟨x, x1, x2, x3⟩ := l_nmB (q := st + 1) hs v0 v1
      exact ⟨x, x1, x1, by omega, by omega⟩
theorem p_cutclip (y : Int) : f_X2_cut y = f_X12_clip y ∧ -1000000 ≤ f_X12_clip y ∧ f_X12_clip y ≤ 1000000 := by
  unfold f_X2_cut f_X12_clip lCmp
  by_cases a : 1000000 < y
  · rw [if_pos a, if_neg (by decide), if_neg (by decide)]
    omega
  · by_cases b : y < -1000000
    · have e : ¬ (0 : Int) ≤ (if -1000000 < y then 1 else if y = -1000000 then 0 else -1) := by
        rw [if_neg (by omega), if_neg (by omega)]; decide
      have e2 : (if 1000000 < y then 1 else if y = 1000000 then 0 else -1 : Int) ≤ 0 := by
        rw [if_neg a, if_neg (by omega)]; decide
      rw [if_pos e2, if_pos e2, if_neg e, if_neg e]
      omega
    · have e : (0 : Int) ≤ (if -1000000 < y then 1 else if y = -1000000 then 0 else -1) := by
        by_cases q : -1000000 < y
        · rw [if_pos q]; decide
        · rw [if_neg q, if_pos (by omega)]; decide
      have e2 : (if 1000000 < y then 1 else if y = 1000000 then 0 else -1 : Int) ≤ 0 := by
        rw [if_neg a]
        split <;> decide
      rw [if_pos e2, if_pos e2, if_pos e, if_pos e, p_wI (by omega) (by omega)]
      omega
theorem l_two {o v a b : Int} (h0 : 5 ≤ o) (h1 : o ≤ 8) : ∃ y, f_X2_joined (pOp o v) a b = some y ∧ f_X12_two o a b = some (f_X12_clip y) := by
  have : o = 5 ∨ o = 6 ∨ o = 7 ∨ o = 8 := by omega
  rcases this with r | r | r | r <;> subst r <;> unfold f_X2_joined f_X12_two
  · rw [show pOp 5 v = 43 from rfl]
    simp (disch := omega) only [if_neg, if_pos, if_true]
    exact ⟨_, rfl, rfl⟩
  · rw [show pOp 6 v = 45 from rfl]
    simp (disch := omega) only [if_neg, if_pos, if_true]
    exact ⟨_, rfl, rfl⟩
  · rw [show pOp 7 v = 42 from rfl]
    simp (disch := omega) only [if_neg, if_pos, if_true]
    exact ⟨_, rfl, rfl⟩
  · rw [show pOp 8 v = 47 from rfl]
    unfold lCmp
    by_cases q : b = 0
    · subst q
      have e : ¬ ((if (0 : Int) < 0 then 1 else if (0 : Int) = 0 then 0 else -1 : Int) ≠ 0) := by decide
      simp (disch := omega) only [if_neg, if_pos, if_true]
      exact ⟨_, rfl, by rw [show f_X12_clip 0 = 0 by decide]⟩
    · have e : (if 0 < b then 1 else if b = 0 then 0 else -1 : Int) ≠ 0 := by
        rw [if_neg q]
        split <;> decide
      rw [if_pos e, if_pos e, p_ck q, p_ck q]
      simp (disch := omega) only [if_neg, if_pos, if_true]
      exact ⟨_, rfl, rfl⟩
theorem p_asked (o a b : Int) : f_X12_isAsked o a b = 0 ∨ f_X12_isAsked o a b = 1 := by
  unfold f_X12_isAsked
  repeat' split
  all_goals first | exact Or.inl rfl | exact Or.inr rfl
theorem l_cmp {o v a b : Int} (h0 : 10 ≤ o) (h1 : o ≤ 15) : f_X2_joined (pOp o v) a b = some (f_X12_isAsked o a b) := by
  have : o = 10 ∨ o = 11 ∨ o = 12 ∨ o = 13 ∨ o = 14 ∨ o = 15 := by omega
  rcases this with r | r | r | r | r | r <;> subst r <;> unfold f_X2_joined f_X12_isAsked
  · rw [show pOp 10 v = 60 from rfl]
    simp (disch := omega) only [if_neg, if_pos, if_true]
    split <;> rfl
  · rw [show pOp 11 v = 1 from rfl]
    simp (disch := omega) only [if_neg, if_pos, if_true]
    split <;> rfl
  · rw [show pOp 12 v = 62 from rfl]
    simp (disch := omega) only [if_neg, if_pos, if_true]
    split <;> rfl
  · rw [show pOp 13 v = 2 from rfl]
    simp (disch := omega) only [if_neg, if_pos, if_true]
    split <;> rfl
  · rw [show pOp 14 v = 61 from rfl]
    simp (disch := omega) only [if_neg, if_pos, if_true]
    split <;> rfl
  · rw [show pOp 15 v = 35 from rfl]
    simp (disch := omega) only [if_neg, if_pos, if_true]
    split <;> rfl
theorem l_and {a b : Int} (ha : a = 0 ∨ a = 1) (hb : b = 0 ∨ b = 1) : f_X2_joined 153 a b = some (if a = 0 then 0 else if b = 0 then 0 else 1) ∧ f_X2_joined 152 a b = some (if a ≠ 0 then 1 else if b = 0 then 0 else 1) := by
  rcases ha with r | r <;> rcases hb with q | q <;> subst r <;> subst q <;> decide +kernel
