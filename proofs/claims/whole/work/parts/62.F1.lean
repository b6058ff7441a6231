set_option linter.unusedVariables false
set_option linter.unusedSimpArgs false
theorem l_c_push {M : Mem} {n : Nat} {c l s wd st w ot h i : Int} (hc : M 0 0 = c) (tx : isTx c) (hw : wI (wd - 128) = l) (hl : 0 ≤ l ∧ l < 5) (ht : i < M (c + 6) l) (hi : 0 ≤ i ∧ i < 300) (ho : M (c + 3) i = 3 ∨ (133 ≤ M (c + 3) i ∧ M (c + 3) i ≤ 151)) (hh : 0 ≤ h ∧ h < 64) :
    f_X2_valueOf_L18 (n + 1) s wd st w ot h i M = (f_X2_named i s st w ot M).bind fun q => f_X2_valueOf_L18 n s wd st w ot (h + 1) (i + 1) (upM M 713 h q) := by
  rw [f_X2_valueOf_L18, hc, hw, p_ck tx, p_ck hl, if_neg (show ¬ M (c + 6) l ≤ i by omega), p_ck hi, if_neg (show ¬ M (c + 3) i = 6 by omega), if_pos (show M (c + 3) i ≠ 154 by omega)]
  unfold f_X2_valueOf_L18_J132
  rw [if_neg (show ¬ 64 ≤ h by omega)]
  simp only [p_ck hh, p_lt, p_wI (x := h + 1) (by omega) (by omega), p_wI (x := i + 1) (by omega) (by omega)]
  by_cases a : M (c + 3) i = 3
  · rw [if_pos a]
  · rw [if_neg a, p_isB, if_pos (show 133 ≤ M (c + 3) i ∧ M (c + 3) i ≤ 151 by omega), if_neg (by decide)]
theorem l_c_un {M : Mem} {n : Nat} {c l s wd st w ot h i : Int} (hc : M 0 0 = c) (tx : isTx c) (hw : wI (wd - 128) = l) (hl : 0 ≤ l ∧ l < 5) (ht : i < M (c + 6) l) (hi : 0 ≤ i ∧ i < 300) (ho : M (c + 3) i = 6 ∨ M (c + 3) i = 154) (hh : 1 ≤ h ∧ h ≤ 64) :
    f_X2_valueOf_L18 (n + 1) s wd st w ot h i M = f_X2_valueOf_L18 n s wd st w ot h (i + 1) (upM M 713 (h - 1) (if M (c + 3) i = 6 then wI (-(M 713 (h - 1))) else wI (1 - M 713 (h - 1)))) := by
  rw [f_X2_valueOf_L18, hc, hw, p_ck tx, p_ck hl, if_neg (show ¬ M (c + 6) l ≤ i by omega), p_ck hi]
  unfold f_X2_valueOf_L18_J63
  rw [if_neg (show ¬ h < 1 by omega), p_wI (x := h - 1) (by omega) (by omega), p_wI (x := i + 1) (by omega) (by omega), p_ck (show 0 ≤ h - 1 ∧ h - 1 < 64 by omega), p_ck (show 0 ≤ h - 1 ∧ h - 1 < 64 by omega)]
  simp only [p_lt]
  by_cases a : M (c + 3) i = 6
  · rw [if_pos a, if_neg (fun q => q a), if_pos a]
  · rw [if_neg a, if_neg (fun q => q (by omega)), if_pos a, if_neg a]
theorem l_c_bin {M : Mem} {n : Nat} {c l s wd st w ot h i : Int} (hc : M 0 0 = c) (tx : isTx c) (hw : wI (wd - 128) = l) (hl : 0 ≤ l ∧ l < 5) (ht : i < M (c + 6) l) (hi : 0 ≤ i ∧ i < 300) (ho : M (c + 3) i ≠ 6 ∧ M (c + 3) i ≠ 154 ∧ M (c + 3) i ≠ 3 ∧ ¬ (133 ≤ M (c + 3) i ∧ M (c + 3) i ≤ 151)) (hh : 2 ≤ h ∧ h ≤ 64) :
    f_X2_valueOf_L18 (n + 1) s wd st w ot h i M = (f_X2_joined (M (c + 3) i) (M 713 (h - 2)) (M 713 (h - 1))).bind fun q => f_X2_valueOf_L18 n s wd st w ot (h - 1) (i + 1) (upM M 713 (h - 2) (f_X2_cut q)) := by
  have e1 : wI (h + (-1)) = h - 1 := by rw [p_wI (by omega) (by omega)]; omega
  have e2 : wI (h - 1 - 1) = h - 2 := by rw [p_wI (by omega) (by omega)]; omega
  rw [f_X2_valueOf_L18, hc, hw, p_ck tx, p_ck hl, if_neg (show ¬ M (c + 6) l ≤ i by omega), p_ck hi, if_neg ho.1, if_pos ho.2.1, if_neg ho.2.2.1, p_isB, if_neg ho.2.2.2, if_pos rfl, if_neg (show ¬ h < 2 by omega), e1, e2, p_ck (show 0 ≤ h - 2 ∧ h - 2 < 64 by omega), p_ck (show 0 ≤ h - 1 ∧ h - 1 < 64 by omega), p_wI (x := i + 1) (by omega) (by omega)]
  rfl
section LawR
variable {N : Mem} {n : Nat} {x2 x3 a b i t o v : Int}
theorem l_r_push (hx2 : 0 ≤ x2 ∧ x2 + 2 < 2916) (hx3 : 0 ≤ x3 ∧ x3 ≤ 2308) (hi : 0 ≤ i ∧ i < 300) (ht : N 804 (x2 + 2) = t) (hit : i < t) (ho : N 804 (x3 + 2 * i) = o) (hv : N 804 (x3 + 2 * i + 1) = v) (o0 : 0 ≤ o) (o1 : o ≤ 3) (ha : 0 ≤ a ∧ a < 330) (hst : -1 ≤ N 801 21 ∧ N 801 21 ≤ 9) :
    f_X12_work_L47 (n + 1) x2 x3 a b i N = (if o = 0 then some v else f_X12_named v (if o = 1 then N 801 21 else if o = 2 then N 801 21 - 1 else N 801 21 + 1) N).bind fun q => f_X12_work_L47 n x2 x3 (a + 1) b (i + 1) (upM N 807 a q) := by
  have e1 : wI (x2 + 2) = x2 + 2 := p_wI (by omega) (by omega)
  have e2 : wI (x3 + wI (2 * i)) = x3 + 2 * i := by rw [p_wI (x := 2 * i) (by omega) (by omega), p_wI (by omega) (by omega)]
  have e3 : wI (x3 + 2 * i + 1) = x3 + 2 * i + 1 := p_wI (by omega) (by omega)
  rw [f_X12_work_L47, e1, ht, p_ck (show 0 ≤ x2 + 2 ∧ x2 + 2 < 2916 by omega), if_neg (show ¬ t ≤ i by omega), e2, p_ck (show 0 ≤ x3 + 2 * i ∧ x3 + 2 * i < 2916 by omega), e3, p_ck (show 0 ≤ x3 + 2 * i + 1 ∧ x3 + 2 * i + 1 < 2916 by omega), ho, hv, if_neg (show ¬ 3 < o by omega)]
  unfold f_X12_work_L47_J148
  simp only [p_ck ha, p_lt, p_wI (x := a + 1) (by omega) (by omega), p_wI (x := i + 1) (by omega) (by omega), p_wI (x := N 801 21 - 1) (by omega) (by omega), p_wI (x := N 801 21 + 1) (by omega) (by omega)]
  by_cases q0 : o = 0
  · rw [if_pos q0, if_neg (fun z => z q0)]
    rfl
  · rw [if_neg q0, if_pos q0]
    by_cases q1 : o = 1
    · rw [if_pos q1, if_neg (fun z => z q1)]
    · rw [if_neg q1, if_pos q1]
      by_cases q2 : o = 2
      · rw [if_pos q2, if_neg (fun z => z q2)]
      · rw [if_neg q2, if_pos q2]
theorem l_r_neg (hx2 : 0 ≤ x2 ∧ x2 + 2 < 2916) (hx3 : 0 ≤ x3 ∧ x3 ≤ 2308) (hi : 0 ≤ i ∧ i < 300) (ht : N 804 (x2 + 2) = t) (hit : i < t) (ho : N 804 (x3 + 2 * i) = 4) (ha : 1 ≤ a ∧ a ≤ 330) :
    f_X12_work_L47 (n + 1) x2 x3 a b i N = f_X12_work_L47 n x2 x3 a b (i + 1) (upM N 807 (a - 1) (wL (-(N 807 (a - 1))))) := by
  have e1 : wI (x2 + 2) = x2 + 2 := p_wI (by omega) (by omega)
  have e2 : wI (x3 + wI (2 * i)) = x3 + 2 * i := by rw [p_wI (x := 2 * i) (by omega) (by omega), p_wI (by omega) (by omega)]
  have e3 : wI (x3 + 2 * i + 1) = x3 + 2 * i + 1 := p_wI (by omega) (by omega)
  rw [f_X12_work_L47, e1, ht, p_ck (show 0 ≤ x2 + 2 ∧ x2 + 2 < 2916 by omega), if_neg (show ¬ t ≤ i by omega), e2, p_ck (show 0 ≤ x3 + 2 * i ∧ x3 + 2 * i < 2916 by omega), e3, p_ck (show 0 ≤ x3 + 2 * i + 1 ∧ x3 + 2 * i + 1 < 2916 by omega), ho, if_pos (by decide), if_neg (by decide), p_wI (x := a - 1) (by omega) (by omega), p_ck (show 0 ≤ a - 1 ∧ a - 1 < 330 by omega), p_wI (x := i + 1) (by omega) (by omega)]
  rfl
theorem l_r_two (hx2 : 0 ≤ x2 ∧ x2 + 2 < 2916) (hx3 : 0 ≤ x3 ∧ x3 ≤ 2308) (hi : 0 ≤ i ∧ i < 300) (ht : N 804 (x2 + 2) = t) (hit : i < t) (ho : N 804 (x3 + 2 * i) = o) (o0 : 5 ≤ o) (o1 : o < 10) (ha : 2 ≤ a ∧ a ≤ 330) :
    f_X12_work_L47 (n + 1) x2 x3 a b i N = (f_X12_two o (N 807 (a - 2)) (N 807 (a - 1))).bind fun q => f_X12_work_L47 n x2 x3 (a - 1) b (i + 1) (upM N 807 (a - 2) q) := by
  have e1 : wI (x2 + 2) = x2 + 2 := p_wI (by omega) (by omega)
  have e2 : wI (x3 + wI (2 * i)) = x3 + 2 * i := by rw [p_wI (x := 2 * i) (by omega) (by omega), p_wI (by omega) (by omega)]
  have e3 : wI (x3 + 2 * i + 1) = x3 + 2 * i + 1 := p_wI (by omega) (by omega)
  have e4 : wI (a + (-1)) = a - 1 := by rw [p_wI (by omega) (by omega)]; omega
  have e5 : wI (a - 1 - 1) = a - 2 := by rw [p_wI (by omega) (by omega)]; omega
  rw [f_X12_work_L47, e1, ht, p_ck (show 0 ≤ x2 + 2 ∧ x2 + 2 < 2916 by omega), if_neg (show ¬ t ≤ i by omega), e2, p_ck (show 0 ≤ x3 + 2 * i ∧ x3 + 2 * i < 2916 by omega), e3, p_ck (show 0 ≤ x3 + 2 * i + 1 ∧ x3 + 2 * i + 1 < 2916 by omega), ho, if_pos (show 3 < o by omega), if_pos (show o ≠ 4 by omega), if_neg (show ¬ 10 ≤ o by omega), e4, e5, p_ck (show 0 ≤ a - 2 ∧ a - 2 < 330 by omega), p_ck (show 0 ≤ a - 1 ∧ a - 1 < 330 by omega), p_wI (x := i + 1) (by omega) (by omega)]
  rfl
theorem l_r_cmp (hx2 : 0 ≤ x2 ∧ x2 + 2 < 2916) (hx3 : 0 ≤ x3 ∧ x3 ≤ 2308) (hi : 0 ≤ i ∧ i < 300) (ht : N 804 (x2 + 2) = t) (hit : i < t) (ho : N 804 (x3 + 2 * i) = o) (o0 : 10 ≤ o) (o1 : o < 20) (ha : 2 ≤ a ∧ a ≤ 330) (hb : 0 ≤ b ∧ b < 330) :
    f_X12_work_L47 (n + 1) x2 x3 a b i N = f_X12_work_L47 n x2 x3 (a - 2) (b + 1) (i + 1) (upM N 808 b (f_X12_isAsked o (N 807 (a - 2)) (N 807 (a - 1)))) := by
  have e1 : wI (x2 + 2) = x2 + 2 := p_wI (by omega) (by omega)
  have e2 : wI (x3 + wI (2 * i)) = x3 + 2 * i := by rw [p_wI (x := 2 * i) (by omega) (by omega), p_wI (by omega) (by omega)]
  have e3 : wI (x3 + 2 * i + 1) = x3 + 2 * i + 1 := p_wI (by omega) (by omega)
  have e4 : wI (a + (-2)) = a - 2 := by rw [p_wI (by omega) (by omega)]; omega
  have e5 : wI (a - 2 + 1) = a - 1 := by rw [p_wI (by omega) (by omega)]; omega
  rw [f_X12_work_L47, e1, ht, p_ck (show 0 ≤ x2 + 2 ∧ x2 + 2 < 2916 by omega), if_neg (show ¬ t ≤ i by omega), e2, p_ck (show 0 ≤ x3 + 2 * i ∧ x3 + 2 * i < 2916 by omega), e3, p_ck (show 0 ≤ x3 + 2 * i + 1 ∧ x3 + 2 * i + 1 < 2916 by omega), ho, if_pos (show 3 < o by omega), if_pos (show o ≠ 4 by omega), if_pos (show 10 ≤ o by omega), if_neg (show ¬ 20 ≤ o by omega), e4, e5, p_ck (show 0 ≤ a - 2 ∧ a - 2 < 330 by omega), p_ck (show 0 ≤ a - 1 ∧ a - 1 < 330 by omega), p_wI (x := i + 1) (by omega) (by omega), p_wI (x := b + 1) (by omega) (by omega)]
  simp only [p_lt]
  rw [p_ck hb, p_ck (p_asked _ _ _)]
theorem l_r_not (hx2 : 0 ≤ x2 ∧ x2 + 2 < 2916) (hx3 : 0 ≤ x3 ∧ x3 ≤ 2308) (hi : 0 ≤ i ∧ i < 300) (ht : N 804 (x2 + 2) = t) (hit : i < t) (ho : N 804 (x3 + 2 * i) = 20) (hb : 1 ≤ b ∧ b ≤ 330) :
    f_X12_work_L47 (n + 1) x2 x3 a b i N = f_X12_work_L47 n x2 x3 a b (i + 1) (upM N 808 (b - 1) (if N 808 (b - 1) ≠ 0 then 0 else 1)) := by
  have e1 : wI (x2 + 2) = x2 + 2 := p_wI (by omega) (by omega)
  have e2 : wI (x3 + wI (2 * i)) = x3 + 2 * i := by rw [p_wI (x := 2 * i) (by omega) (by omega), p_wI (by omega) (by omega)]
  have e3 : wI (x3 + 2 * i + 1) = x3 + 2 * i + 1 := p_wI (by omega) (by omega)
  rw [f_X12_work_L47, e1, ht, p_ck (show 0 ≤ x2 + 2 ∧ x2 + 2 < 2916 by omega), if_neg (show ¬ t ≤ i by omega), e2, p_ck (show 0 ≤ x3 + 2 * i ∧ x3 + 2 * i < 2916 by omega), e3, p_ck (show 0 ≤ x3 + 2 * i + 1 ∧ x3 + 2 * i + 1 < 2916 by omega), ho, if_pos (show (3 : Int) < 20 by decide), if_pos (show (20 : Int) ≠ 4 by decide), if_pos (show (10 : Int) ≤ 20 by decide), if_pos (show (20 : Int) ≤ 20 by decide), if_neg (show ¬ (20 : Int) ≠ 20 by decide), p_wI (x := b - 1) (by omega) (by omega), p_ck (show 0 ≤ b - 1 ∧ b - 1 < 330 by omega), p_wI (x := i + 1) (by omega) (by omega)]
  simp only [p_lt]
  by_cases q : N 808 (b - 1) ≠ 0
  · rw [if_pos q, if_pos q]
  · rw [if_neg q, if_neg q]
theorem l_r_join (hx2 : 0 ≤ x2 ∧ x2 + 2 < 2916) (hx3 : 0 ≤ x3 ∧ x3 ≤ 2308) (hi : 0 ≤ i ∧ i < 300) (ht : N 804 (x2 + 2) = t) (hit : i < t) (ho : N 804 (x3 + 2 * i) = o) (o0 : o = 21 ∨ o = 22) (hb : 2 ≤ b ∧ b ≤ 330) :
    f_X12_work_L47 (n + 1) x2 x3 a b i N = f_X12_work_L47 n x2 x3 a (b - 1) (i + 1) (upM N 808 (b - 2) (if o = 21 then (if N 808 (b - 2) = 0 then 0 else if N 808 (b - 1) = 0 then 0 else 1) else (if N 808 (b - 2) ≠ 0 then 1 else if N 808 (b - 1) = 0 then 0 else 1))) := by
  have e1 : wI (x2 + 2) = x2 + 2 := p_wI (by omega) (by omega)
  have e2 : wI (x3 + wI (2 * i)) = x3 + 2 * i := by rw [p_wI (x := 2 * i) (by omega) (by omega), p_wI (by omega) (by omega)]
  have e3 : wI (x3 + 2 * i + 1) = x3 + 2 * i + 1 := p_wI (by omega) (by omega)
  have e4 : wI (b + (-1)) = b - 1 := by rw [p_wI (by omega) (by omega)]; omega
  have e5 : wI (b - 1 - 1) = b - 2 := by rw [p_wI (by omega) (by omega)]; omega
  have k1 : 0 ≤ b - 2 ∧ b - 2 < 330 := by omega
  have k2 : 0 ≤ b - 1 ∧ b - 1 < 330 := by omega
  rw [f_X12_work_L47, e1, ht, p_ck (show 0 ≤ x2 + 2 ∧ x2 + 2 < 2916 by omega), if_neg (show ¬ t ≤ i by omega), e2, p_ck (show 0 ≤ x3 + 2 * i ∧ x3 + 2 * i < 2916 by omega), e3, p_ck (show 0 ≤ x3 + 2 * i + 1 ∧ x3 + 2 * i + 1 < 2916 by omega), ho, if_pos (show 3 < o by omega), if_pos (show o ≠ 4 by omega), if_pos (show 10 ≤ o by omega), if_pos (show 20 ≤ o by omega), if_pos (show o ≠ 20 by omega), e4, e5, p_wI (x := i + 1) (by omega) (by omega)]
  simp only [p_lt, p_ck k1, p_ck k2]
  rcases o0 with r | r <;> subst r
  · rw [if_neg (show ¬ (21 : Int) ≠ 21 by decide), if_pos rfl]
    by_cases q : N 808 (b - 2) = 0
    · rw [if_pos q, if_pos q]
    · rw [if_neg q, if_neg q]
      by_cases r : N 808 (b - 1) = 0
      · rw [if_pos r, if_pos r]
      · rw [if_neg r, if_neg r]
  · rw [if_pos (show (22 : Int) ≠ 21 by decide), if_neg (show ¬ (22 : Int) = 21 by decide)]
    by_cases q : N 808 (b - 2) ≠ 0
    · rw [if_pos q, if_pos q]
    · rw [if_neg q, if_neg q]
      by_cases r : N 808 (b - 1) = 0
      · rw [if_pos r, if_pos r]
      · rw [if_neg r, if_neg r]
end LawR
/-- the two stacks -/
def pStk (M N : Mem) (a b : Int) : Prop := (∀ j, 0 ≤ j → j < b → M 713 j = N 808 j ∧ (N 808 j = 0 ∨ N 808 j = 1)) ∧ (∀ j, 0 ≤ j → j < a → M 713 (b + j) = N 807 j ∧ -1000000 ≤ N 807 j ∧ N 807 j ≤ 1000000)
theorem pStk_val {M N : Mem} {a b p q x : Int} (h : pStk M N a b) (p0 : 0 ≤ p) (p1 : p ≤ a) (b0 : 0 ≤ b) (hx : -1000000 ≤ x ∧ x ≤ 1000000) (hq : q = b + p) : pStk (upM M 713 q x) (upM N 807 p x) (p + 1) b := by
  refine ⟨fun j j0 j1 => ?_, fun j j0 j1 => ?_⟩
  · rw [up_nei (by omega), up_nex (by decide)]
    exact h.1 j j0 j1
  · by_cases e : j = p
    · subst e
      rw [← hq, up_eq, up_eq]
      exact ⟨rfl, hx⟩
    · rw [up_nei (by omega), up_nei e]
      exact h.2 j j0 (by omega)
theorem pStk_tr {M N : Mem} {a b p x : Int} (h : pStk M N a b) (p0 : 0 ≤ p) (p1 : p ≤ b) (hx : x = 0 ∨ x = 1) : pStk (upM M 713 p x) (upM N 808 p x) 0 (p + 1) := by
  refine ⟨fun j j0 j1 => ?_, fun j j0 j1 => by omega⟩
  by_cases e : j = p
  · subst e
    rw [up_eq, up_eq]
    exact ⟨rfl, hx⟩
  · rw [up_nei e, up_nei e]
    exact h.1 j j0 (by omega)
