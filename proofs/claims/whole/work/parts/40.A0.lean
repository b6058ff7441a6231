set_option linter.unusedVariables false
set_option linter.unusedSimpArgs false
/-! ===== plain Lean: words of the two programs' functions ===== -/
theorem p_wI {x : Int} (h : -2147483648 ≤ x) (h2 : x ≤ 2147483647) : wI x = x := by unfold wI; omega
theorem p_ck {α : Type} {c : Prop} [Decidable c] {a : Option α} (h : c) : ck c a = a := by unfold ck; rw [if_pos h]
theorem p_lt {α β : Sort _} (x : α) (k : α → β) : lt x k = k x := rfl
theorem p_isIn (v a b : Int) : f_X12_isIn v a b = if a ≤ v ∧ v ≤ b then 1 else 0 := by unfold f_X12_isIn; grind
theorem p_isB (v a b : Int) : f_X11_isBetween a v b = if a ≤ v ∧ v ≤ b then 1 else 0 := by unfold f_X11_isBetween; grind
theorem p_cut {v a b : Int} (h : -2147483648 ≤ v) (h2 : v ≤ 2147483647) (hab : a ≤ b) : f_X12_cut v a b = max a (min v b) := by
  unfold f_X12_cut lCmp
  rw [p_wI h h2]
  grind
theorem p_at {s w : Int} {N : Mem} (h : 0 ≤ s) (h2 : s < 9) (h3 : 0 ≤ w) (h4 : w < 8) : f_X12_at s w N = some (N 802 (16 + 8 * s + w)) := by
  unfold f_X12_at
  rw [p_wI (x := 8 * s) (by omega) (by omega), p_wI (x := 16 + 8 * s) (by omega) (by omega), p_wI (by omega) (by omega), p_ck (by omega)]
theorem p_put {s w v : Int} {N : Mem} (h : 0 ≤ s) (h2 : s < 9) (h3 : 0 ≤ w) (h4 : w < 8) : f_X12_put s w v N = some (upM N 802 (16 + 8 * s + w) v) := by
  unfold f_X12_put
  rw [p_wI (x := 8 * s) (by omega) (by omega), p_wI (x := 16 + 8 * s) (by omega) (by omega), p_wI (by omega) (by omega), p_ck (by omega)]
  rfl
theorem p_get {s w : Int} {N : Mem} (h : 0 ≤ s) (h2 : s < 7) (h3 : 0 ≤ w) (h4 : w < 6) : f_X12_get s w N = some (N 802 (88 + 6 * s + w)) := by
  unfold f_X12_get
  rw [p_wI (x := 6 * s) (by omega) (by omega), p_wI (x := 88 + 6 * s) (by omega) (by omega), p_wI (by omega) (by omega), p_ck (by omega)]
theorem p_set {s w v : Int} {N : Mem} (h : 0 ≤ s) (h2 : s < 7) (h3 : 0 ≤ w) (h4 : w < 6) : f_X12_set s w v N = some (upM N 802 (88 + 6 * s + w) v) := by
  unfold f_X12_set
  rw [p_wI (x := 6 * s) (by omega) (by omega), p_wI (x := 88 + 6 * s) (by omega) (by omega), p_wI (by omega) (by omega), p_ck (by omega)]
  rfl
/-! what a sea is, said once: a view D; D 0 steps, 1 ships, 2 hour, 3 4 out, 5 X, 6 written, 7 sill, 8 water, 9 fish, 10 worn, 11 on, 12 goal, 13 paid, 14 high, 15 weight -/
abbrev pDv : Type := Nat → Int → Int
def pvA (A : Int → Int) : pDv := fun k i => match k with
  | 0 => A 0 | 1 => A 1 | 2 => A 8 | 3 => A 9 | 4 => A 10 | 5 => A 11 | 6 => A 12
  | 7 => A (17 + 8 * i) | 8 => A (18 + 8 * i) | 9 => A (19 + 8 * i) | 10 => A (20 + 8 * i)
  | 11 => A (89 + 6 * i) | 12 => A (90 + 6 * i) | 13 => A (91 + 6 * i)
  | 14 => A (16 + 8 * i) | 15 => A (88 + 6 * i) | _ => 0
def pvR (A : Int → Int) (x : Int) : pDv := fun k i => match k with
  | 0 => A x | 1 => A (x + 1) | 2 => A (x + 2) | 3 => A (x + 3) | 4 => A (x + 4) | 5 => A (x + 5) | 6 => A (x + 6)
  | 7 => A (x + 7 + 4 * i) | 8 => A (x + 8 + 4 * i) | 9 => A (x + 9 + 4 * i) | 10 => A (x + 10 + 4 * i)
  | 11 => A (x + 43 + 3 * i) | 12 => A (x + 44 + 3 * i) | 13 => A (x + 45 + 3 * i)
  | 14 => A (16 + 8 * i) | 15 => A (88 + 6 * i) | _ => 0
def pvM (M : Mem) (s : Int) : pDv := fun k i => match k with
  | 0 => M s 0 | 1 => M s 6 | 2 => M s 11 | 3 => M s 12 | 4 => M s 13 | 5 => M s 14 | 6 => M s 15
  | 7 => M (s + 2) i | 8 => M (s + 3) i | 9 => M (s + 4) i | 10 => M (s + 5) i
  | 11 => M (s + 7) i | 12 => M (s + 8) i | 13 => M (s + 9) i
  | 14 => M (s + 1) i | 15 => M (s + 6) i | _ => 0
/-- a sea's numbers are in their bounds (H: the most that the hour can be) -/
def pOK (H : Int) (D : pDv) : Prop := (0 ≤ D 0 0 ∧ D 0 0 ≤ 9) ∧ (0 ≤ D 1 0 ∧ D 1 0 ≤ 7) ∧ (0 ≤ D 2 0 ∧ D 2 0 ≤ H) ∧ (0 ≤ D 3 0 ∧ D 3 0 ≤ 99999999) ∧ (0 ≤ D 4 0 ∧ D 4 0 ≤ 99999999) ∧ (0 ≤ D 5 0 ∧ D 5 0 ≤ 30312) ∧ (0 ≤ D 6 0 ∧ D 6 0 ≤ 7 * D 2 0)
  ∧ (∀ i, 0 ≤ i → i < D 0 0 → (0 ≤ D 7 i ∧ D 7 i ≤ 99) ∧ (0 ≤ D 8 i ∧ D 8 i ≤ 999) ∧ (0 ≤ D 9 i ∧ D 9 i ≤ 999) ∧ (0 ≤ D 10 i ∧ D 10 i ≤ 100) ∧ (1 ≤ D 14 i ∧ D 14 i ≤ 99))
  ∧ (∀ i, 0 ≤ i → i < D 1 0 → (0 ≤ D 11 i ∧ D 11 i < D 0 0) ∧ (0 ≤ D 12 i ∧ D 12 i < D 0 0) ∧ (0 ≤ D 13 i ∧ D 13 i ≤ 99999) ∧ (1 ≤ D 15 i ∧ D 15 i ≤ 99))
/-- two views say the same -/
def pEq (D E : pDv) : Prop := D 0 0 = E 0 0 ∧ D 1 0 = E 1 0 ∧ D 2 0 = E 2 0 ∧ D 3 0 = E 3 0 ∧ D 4 0 = E 4 0 ∧ D 5 0 = E 5 0
  ∧ (∀ i, 0 ≤ i → i < E 0 0 → D 7 i = E 7 i ∧ D 8 i = E 8 i ∧ D 9 i = E 9 i ∧ D 10 i = E 10 i)
  ∧ (∀ i, 0 ≤ i → i < E 1 0 → D 11 i = E 11 i ∧ D 12 i = E 12 i ∧ D 13 i = E 13 i)
/-- .. and of high and weight -/
def pEqS (D E : pDv) : Prop := (∀ i, 0 ≤ i → i < E 0 0 → D 14 i = E 14 i) ∧ (∀ i, 0 ≤ i → i < E 1 0 → D 15 i = E 15 i)
/-- a passage as the class writes it and as the reference does -/
def pPg (c v : Int) : Prop := 0 ≤ c ∧ c ≤ 1009999 ∧ c / 10 % 10 < 7 ∧ c % 10 < 9 ∧ v = (c / 100 * 7 + c / 10 % 10) * 9 + c % 10
def pBook (M : Mem) (s : Int) (A : Int → Int) (W : Int) : Prop := M s 15 = min W 40 ∧ 0 ≤ W ∧ ∀ i, 0 ≤ i → i < min W 40 → pPg (M (s + 10) i) (A (2106 + (W - min W 40 + i) % 8500))
/-- the act j of a Whole w -/
def pActAt (M : Mem) (w : Int) (A : Int → Int) (j : Int) : Int := w + 14 + 11 * ((M (w + 12) 1 - A 4 + j) % 30)
def pAct (M : Mem) (w : Int) (A : Int → Int) (j : Int) : Prop :=
  pOK 9999 (pvR A (186 + 64 * j)) ∧ pEq (pvM M (pActAt M w A j)) (pvR A (186 + 64 * j)) ∧ pBook M (pActAt M w A j) A (A (186 + 64 * j + 6))
/-- between an act (D) and what came next (E): steps and ships told since -/
def pNext (A : Int → Int) (D E : pDv) : Prop := D 0 0 ≤ E 0 0 ∧ D 1 0 ≤ E 1 0 ∧ D 6 0 ≤ E 6 0 ∧ E 6 0 ≤ D 6 0 + 280
  ∧ (∀ i, D 0 0 ≤ i → i < E 0 0 → E 7 i = A (21 + 8 * i) ∧ E 8 i = A (22 + 8 * i) ∧ E 9 i = A (23 + 8 * i) ∧ E 10 i = 0)
  ∧ (∀ i, D 1 0 ≤ i → i < E 1 0 → E 11 i = A (92 + 6 * i) ∧ E 12 i = A (93 + 6 * i) ∧ E 13 i = 0)
def pActs (M : Mem) (w : Int) (A : Int → Int) : Prop :=
  (0 ≤ M (w + 12) 1 ∧ M (w + 12) 1 < 30) ∧ M (w + 12) 2 = A 4 ∧ (0 ≤ A 4 ∧ A 4 ≤ 30)
  ∧ (∀ j, 0 ≤ j → j < A 4 → pAct M w A j)
  ∧ (∀ j, 0 ≤ j → j + 1 < A 4 → pNext A (pvR A (186 + 64 * j)) (pvR A (186 + 64 * (j + 1))))
  ∧ (0 < A 4 → pNext A (pvR A (186 + 64 * (A 4 - 1))) (pvA A))
def pTold (M : Mem) (t : Int) (A : Int → Int) : Prop :=
  M t 0 = A 5 ∧ (0 ≤ A 5 ∧ A 5 ≤ 8) ∧ (∀ i, 0 ≤ i → i < A 5 → M (t + 1) i = A (130 + 2 * i) ∧ M (t + 2) i = A (131 + 2 * i) ∧ 0 ≤ A (130 + 2 * i) ∧ A (130 + 2 * i) ≤ 8 ∧ 0 ≤ A (131 + 2 * i) ∧ A (131 + 2 * i) ≤ 99)
  ∧ M t 3 = A 6 ∧ (0 ≤ A 6 ∧ A 6 ≤ 10) ∧ (∀ i, 0 ≤ i → i < A 6 → M (t + 3) i = A (146 + i) ∧ 0 ≤ A (146 + i) ∧ A (146 + i) ≤ 99)
  ∧ M t 6 = A 7 ∧ (0 ≤ A 7 ∧ A 7 ≤ 15) ∧ (∀ i, 0 ≤ i → i < A 7 → M (t + 5) i = bOr (bShl 1 (A (156 + 2 * i))) (bShl 1 (A (157 + 2 * i))) ∧ 0 ≤ A (156 + 2 * i) ∧ A (156 + 2 * i) ≤ 9 ∧ 0 ≤ A (157 + 2 * i) ∧ A (157 + 2 * i) ≤ 9)
def pWhole (M : Mem) (w : Int) (A : Int → Int) : Prop :=
  pOK 9999 (pvA A) ∧ pEq (pvM M (w + 1)) (pvA A) ∧ pEqS (pvM M (w + 1)) (pvA A) ∧ pBook M (w + 1) A (A 12)
  ∧ pActs M w A ∧ pTold M (w + 344) A ∧ M w 3 = A 2 ∧ (0 ≤ A 2 ∧ A 2 ≤ 4) ∧ M w 4 = A 3 ∧ (-1 ≤ A 3 ∧ A 3 < A 2)
def pSeas (M : Mem) : Prop := ∀ s, isSea s → (0 ≤ M s 0 ∧ M s 0 ≤ 9) ∧ (0 ≤ M s 6 ∧ M s 6 ≤ 7) ∧ (0 ≤ M s 15 ∧ M s 15 ≤ 40)
def pTape (M N : Mem) : Prop := M 703 1 = N 801 4 ∧ (0 ≤ N 801 4 ∧ N 801 4 ≤ 300) ∧ ∀ i, 0 ≤ i → i < N 801 4 → M 704 i = N 805 i ∧ 0 ≤ N 805 i ∧ N 805 i ≤ 255
def pFault (M N : Mem) : Prop := M 703 2 = N 801 5 ∧ M 703 3 = N 801 6
def pRul (M : Mem) : Prop := M 0 0 = (if M 2 4 = -1 then 706 else 773 + 7 * M 2 4) ∧ ∀ i, 0 ≤ i → i < 5 → M 712 i ≤ M 711 i
/-! a text as read: class text at 773 + 7 i, the reference's at 729 i of its array 804 -/
def pNm (v : Int) : Int := if v = 0 then 135 else if v = 1 then 133 else if v = 2 then 146 else if v = 3 then 140 else if v = 4 then 141 else if v = 5 then 142 else if v = 6 then 147 else if v = 7 then 148 else 149
def pOp (o v : Int) : Int := if o = 0 then 3 else if o = 1 then pNm v else if o = 2 then 150 else if o = 3 then 151 else if o = 4 then 6 else if o = 5 then 43 else if o = 6 then 45 else if o = 7 then 42 else if o = 8 then 47 else if o = 10 then 60 else if o = 11 then 1 else if o = 12 then 62 else if o = 13 then 2 else if o = 14 then 61 else if o = 15 then 35 else if o = 20 then 154 else if o = 21 then 153 else 152
def pCd (op arg o v : Int) : Prop := op = pOp o v ∧ (o = 0 → arg = v) ∧ (o = 2 → arg = pNm v) ∧ (o = 3 → arg = pNm v)
def pStep (o v n b n' b' : Int) : Prop := (o = 0 ∧ 0 ≤ v ∧ v ≤ 9999 ∧ n + b ≤ 60 ∧ n' = n + 1 ∧ b' = b) ∨ (o = 1 ∧ 0 ≤ v ∧ v ≤ 8 ∧ n + b ≤ 60 ∧ n' = n + 1 ∧ b' = b)
  ∨ (2 ≤ o ∧ o ≤ 3 ∧ 2 ≤ v ∧ v ≤ 6 ∧ n + b ≤ 60 ∧ n' = n + 1 ∧ b' = b) ∨ (o = 4 ∧ 1 ≤ n ∧ n' = n ∧ b' = b) ∨ (5 ≤ o ∧ o ≤ 8 ∧ 2 ≤ n ∧ n' = n - 1 ∧ b' = b)
  ∨ (10 ≤ o ∧ o ≤ 15 ∧ n = 2 ∧ n' = 0 ∧ b' = b + 1) ∨ (o = 20 ∧ n = 0 ∧ 1 ≤ b ∧ n' = 0 ∧ b' = b) ∨ (21 ≤ o ∧ o ≤ 22 ∧ n = 0 ∧ 2 ≤ b ∧ n' = 0 ∧ b' = b - 1)
def pWf (o v : Int → Int) (f t n1 b1 : Int) : Prop := ∃ n b : Int → Int, n f = 0 ∧ b f = 0 ∧ n t = n1 ∧ b t = b1 ∧ ∀ i, f ≤ i → i < t → pStep (o i) (v i) (n i) (b i) (n (i + 1)) (b (i + 1)) ∧ 0 ≤ n i ∧ 0 ≤ b i
def pNf (s : Int) : Int := if s = 5 then 4 else if s = 6 then 3 else if s = 7 then 1 else if s = 10 then 1 else 2
def pClause (M N : Mem) (c x k : Int) : Prop :=
  (0 ≤ N 804 (x + 1 + 5 * k) ∧ N 804 (x + 1 + 5 * k) ≤ 11) ∧ M (c + 1) k = 128 + N 804 (x + 1 + 5 * k)
  ∧ (N 804 (x + 1 + 5 * k) ≤ 4 → (0 ≤ N 804 (x + 2 + 5 * k) ∧ N 804 (x + 2 + 5 * k) < N 804 (x + 3 + 5 * k) ∧ N 804 (x + 3 + 5 * k) ≤ 300)
      ∧ M (c + 5) (N 804 (x + 1 + 5 * k)) = N 804 (x + 2 + 5 * k) ∧ M (c + 6) (N 804 (x + 1 + 5 * k)) = N 804 (x + 3 + 5 * k)
      ∧ (∀ i, N 804 (x + 2 + 5 * k) ≤ i → i < N 804 (x + 3 + 5 * k) → pCd (M (c + 3) i) (M (c + 4) i) (N 804 (x + 121 + 2 * i)) (N 804 (x + 122 + 2 * i)))
      ∧ pWf (fun i => N 804 (x + 121 + 2 * i)) (fun i => N 804 (x + 122 + 2 * i)) (N 804 (x + 2 + 5 * k)) (N 804 (x + 3 + 5 * k)) (if N 804 (x + 1 + 5 * k) = 4 then 0 else 1) (if N 804 (x + 1 + 5 * k) = 4 then 1 else 0))
  ∧ (5 ≤ N 804 (x + 1 + 5 * k) → ∀ q, 0 ≤ q → q < pNf (N 804 (x + 1 + 5 * k)) → M (c + 2) (4 * k + q) = N 804 (x + 2 + 5 * k + q) ∧ 0 ≤ N 804 (x + 2 + 5 * k + q) ∧ N 804 (x + 2 + 5 * k + q) ≤ 999)
def pText (M N : Mem) (c x : Int) : Prop := M c 0 = N 804 x ∧ (0 ≤ N 804 x ∧ N 804 x ≤ 24) ∧ (∀ k, 0 ≤ k → k < N 804 x → pClause M N c x k)
  ∧ (∀ k q, 0 ≤ k → k < q → q < N 804 x → N 804 (x + 1 + 5 * k) ≤ 4 → N 804 (x + 1 + 5 * q) ≠ N 804 (x + 1 + 5 * k))
  ∧ (∀ l, 0 ≤ l → l < 5 → (∀ k, 0 ≤ k → k < N 804 x → N 804 (x + 1 + 5 * k) ≠ l) → M (c + 6) l ≤ M (c + 5) l)
/-- the two programs' stores say the same -/
def pRel (M N : Mem) : Prop := pWhole M 2 (N 802) ∧ pWhole M 352 (N 803) ∧ pSeas M ∧ (∀ i, 0 ≤ i → i < M 2 3 → pText M N (773 + 7 * i) (729 * i)) ∧ pTape M N ∧ pFault M N ∧ pRul M ∧ N 801 28 = 1 ∧ M 352 3 ≤ M 2 3
/-- one step of the law: the answers are the same, and the stores say the same again -/
def pSim (a b : Option (Int × Mem)) (N : Mem) : Prop := ∃ v M' N', a = some (v, M') ∧ b = some (v, N') ∧ pRel M' N'
/-! frames: what is written elsewhere doesn't matter -/
theorem pvM_same {M M' : Mem} {s : Int} (h : ∀ x, s ≤ x → x < s + 11 → ∀ i, M' x i = M x i) : pvM M' s = pvM M s := by
  funext k i
  unfold pvM
  split <;> first | exact h _ (by omega) (by omega) _ | rfl
theorem pBook_same {M M' : Mem} {s W : Int} {A A' : Int → Int} (h : ∀ x, s ≤ x → x < s + 11 → ∀ i, M' x i = M x i) (hA : ∀ i, 2106 ≤ i → A' i = A i) (hb : pBook M s A W) : pBook M' s A' W := by
  obtain ⟨a, b, c⟩ := hb
  refine ⟨by rw [h s (by omega) (by omega)]; exact a, b, fun i h0 h1 => ?_⟩
  rw [h (s + 10) (by omega) (by omega), hA _ (by omega)]
  exact c i h0 h1
theorem pTold_same {M M' : Mem} {t : Int} {A A' : Int → Int} (h : ∀ x, t ≤ x → x < t + 6 → x ≠ t + 4 → ∀ i, M' x i = M x i) (hA : ∀ i, (5 ≤ i ∧ i ≤ 7) ∨ (130 ≤ i ∧ i < 186) → A' i = A i) (hb : pTold M t A) : pTold M' t A' := by
  unfold pTold at *
  have e0 := h t (by omega) (by omega) (by omega)
  have e1 := h (t + 1) (by omega) (by omega) (by omega)
  have e2 := h (t + 2) (by omega) (by omega) (by omega)
  have e3 := h (t + 3) (by omega) (by omega) (by omega)
  have e5 := h (t + 5) (by omega) (by omega) (by omega)
  obtain ⟨a1, a2, a3, a4, a5, a6, a7, a8, a9⟩ := hb
  rw [hA 5 (by omega), hA 6 (by omega), hA 7 (by omega), e0, e0, e0]
  refine ⟨a1, a2, fun i h0 h1 => ?_, a4, a5, fun i h0 h1 => ?_, a7, a8, fun i h0 h1 => ?_⟩
  · rw [e1, e2, hA _ (by omega), hA _ (by omega)]
    exact a3 i h0 h1
  · rw [e3, hA _ (by omega)]
    exact a6 i h0 h1
  · rw [e5, hA _ (by omega), hA _ (by omega)]
    exact a9 i h0 h1
theorem pActs_same {M M' : Mem} {w : Int} {A : Int → Int} (h : ∀ x, w + 12 ≤ x → x < w + 344 → ∀ i, M' x i = M x i) (hb : pActs M w A) : pActs M' w A := by
  unfold pActs at *
  obtain ⟨a1, a2, a3, a4, a5, a6⟩ := hb
  have e := h (w + 12) (by omega) (by omega)
  refine ⟨by rw [e]; exact a1, by rw [e]; exact a2, a3, fun j h0 h1 => ?_, a5, a6⟩
  obtain ⟨b1, b2, b3⟩ := a4 j h0 h1
  have e2 : pActAt M' w A j = pActAt M w A j := by unfold pActAt; rw [e]
  have e3 : ∀ x, pActAt M w A j ≤ x → x < pActAt M w A j + 11 → ∀ i, M' x i = M x i := fun x h0 h1 => h x (by unfold pActAt at h0; omega) (by unfold pActAt at h1; omega)
  refine ⟨b1, ?_, ?_⟩
  · rw [e2, pvM_same e3]
    exact b2
  · rw [e2]
    exact pBook_same e3 (fun _ _ => rfl) b3
theorem pWhole_same {M M' : Mem} {w : Int} {A : Int → Int} (h : ∀ x, w ≤ x → x < w + 350 → x ≠ w + 348 → ∀ i, M' x i = M x i) (hb : pWhole M w A) : pWhole M' w A := by
  unfold pWhole at *
  obtain ⟨a1, a2, a3, a4, a5, a6, a7, a8, a9, a10⟩ := hb
  have e := h w (by omega) (by omega) (by omega)
  have e1 : pvM M' (w + 1) = pvM M (w + 1) := pvM_same (fun x h0 h1 => h x (by omega) (by omega) (by omega))
  refine ⟨a1, by rw [e1]; exact a2, by rw [e1]; exact a3, pBook_same (fun x h0 h1 => h x (by omega) (by omega) (by omega)) (fun _ _ => rfl) a4, pActs_same (fun x h0 h1 => h x (by omega) (by omega) (by omega)) a5, pTold_same (fun x h0 h1 h2 => h x (by omega) (by omega) (by omega)) (fun _ _ => rfl) a6, by rw [e]; exact a7, a8, by rw [e]; exact a9, a10⟩
theorem pText_same {M M' N N' : Mem} {c x : Int} (h : ∀ y, c ≤ y → y < c + 7 → ∀ i, M' y i = M y i) (hN : ∀ i, x ≤ i → i < x + 729 → N' 804 i = N 804 i) (hb : pText M N c x) : pText M' N' c x := by
  unfold pText at *
  obtain ⟨a1, a2, a3, a4, a5⟩ := hb
  have e0 := hN x (by omega) (by omega)
  rw [e0, h c (by omega) (by omega)]
  refine ⟨a1, a2, fun k h0 h1 => ?_, fun k q h0 h1 h2 => ?_, fun l h0 h1 h2 => ?_⟩
  · have b := a3 k h0 h1
    unfold pClause at *
    have n1 := hN (x + 1 + 5 * k) (by omega) (by omega)
    have n2 := hN (x + 2 + 5 * k) (by omega) (by omega)
    have n3 := hN (x + 3 + 5 * k) (by omega) (by omega)
    rw [n1, n2, n3, h (c + 1) (by omega) (by omega)]
    obtain ⟨b1, b2, b3, b4⟩ := b
    refine ⟨b1, b2, fun g => ?_, fun g q q0 q1 => ?_⟩
    · obtain ⟨c1, c2, c3, c4, c5⟩ := b3 g
      refine ⟨c1, by rw [h (c + 5) (by omega) (by omega)]; exact c2, by rw [h (c + 6) (by omega) (by omega)]; exact c3, fun i i0 i1 => ?_, ?_⟩
      · rw [h (c + 3) (by omega) (by omega), h (c + 4) (by omega) (by omega), hN _ (by omega) (by omega), hN _ (by omega) (by omega)]
        exact c4 i i0 i1
      · obtain ⟨n, b, d1, d2, d3, d4, d5⟩ := c5
        refine ⟨n, b, d1, d2, d3, d4, fun i i0 i1 => ?_⟩
        have := d5 i i0 i1
        dsimp only
        rw [hN _ (by omega) (by omega), hN _ (by omega) (by omega)]
        exact this
    · have : q < 4 := by
        unfold pNf at q1
        split at q1 <;> (try split at q1) <;> (try split at q1) <;> (try split at q1) <;> omega
      rw [h (c + 2) (by omega) (by omega), hN _ (by omega) (by omega)]
      exact b4 g q q0 q1
  · rw [hN _ (by omega) (by omega), hN _ (by omega) (by omega)]
    exact a4 k q h0 h1 h2
  · rw [h (c + 6) (by omega) (by omega), h (c + 5) (by omega) (by omega)]
    refine a5 l h0 h1 (fun k k0 k1 => ?_)
    have := h2 k k0 k1
    rw [hN _ (by omega) (by omega)] at this
    exact this
