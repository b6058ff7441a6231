set_option linter.unusedVariables false
set_option linter.unusedSimpArgs false
/-! ===== an hour: the ships at a rope ===== -/
def pSh (M N : Mem) (s : Int) : Prop := (M s 6 = N 802 1 ∧ 0 ≤ N 802 1 ∧ N 802 1 ≤ 7) ∧ ∀ i, 0 ≤ i → i < N 802 1 → (M (s + 6) i = N 802 (88 + 6 * i) ∧ 1 ≤ N 802 (88 + 6 * i) ∧ N 802 (88 + 6 * i) ≤ 99) ∧ (M (s + 7) i = N 802 (89 + 6 * i) ∧ 0 ≤ N 802 (89 + 6 * i) ∧ N 802 (89 + 6 * i) < N 802 0) ∧ (M (s + 8) i = N 802 (90 + 6 * i) ∧ 0 ≤ N 802 (90 + 6 * i) ∧ N 802 (90 + 6 * i) < N 802 0) ∧ (M (s + 9) i = N 802 (91 + 6 * i) ∧ 0 ≤ N 802 (91 + 6 * i) ∧ N 802 (91 + 6 * i) ≤ 99999)
def pHr (M N : Mem) (s H : Int) : Prop := (M s 11 = N 802 8 ∧ 0 ≤ N 802 8 ∧ N 802 8 ≤ H) ∧ (M s 12 = N 802 9 ∧ 0 ≤ N 802 9 ∧ N 802 9 ≤ 99999999) ∧ (M s 13 = N 802 10 ∧ 0 ≤ N 802 10 ∧ N 802 10 ≤ 99999999) ∧ (M s 14 = N 802 11 ∧ 0 ≤ N 802 11 ∧ N 802 11 ≤ 30312) ∧ (0 ≤ M s 15 ∧ M s 15 ≤ 40)
def pLv (M N : Mem) (s H : Int) : Prop := pSt M N s ∧ pSh M N s ∧ pHr M N s H
/-- a ship's payment and its passage, in the class -/
def pPM (M M' : Mem) (s q st v : Int) : Prop := (∀ x, x ≠ s → x ≠ s + 7 → x ≠ s + 9 → x ≠ s + 10 → ∀ j, M' x j = M x j) ∧ (∀ j, j ≠ 15 → M' s j = M s j) ∧ M' s 15 = min 40 (M s 15 + 1)
  ∧ (∀ j, M' (s + 7) j = if j = q then st else M (s + 7) j) ∧ (∀ j, M' (s + 9) j = if j = q then min 99999 (M (s + 9) q + v) else M (s + 9) j)
  ∧ (∀ j, 0 ≤ j → j < min 40 (M s 15 + 1) → M' (s + 10) j = if j + 1 = min 40 (M s 15 + 1) then M s 11 * 100 + q * 10 + st else if M s 15 = 40 then M (s + 10) (j + 1) else M (s + 10) j)
theorem up_if {M : Mem} {x i v j : Int} : upM M x i v x j = if j = i then v else M x j := by unfold upM; simp
theorem l_pm {M : Mem} {s q st v : Int} (q0 : 0 ≤ q) (q1 : q < 7) (v0 : 0 ≤ v) (v1 : v ≤ 9999) (p0 : 0 ≤ M (s + 9) q) (p1 : M (s + 9) q ≤ 99999) (t0 : 0 ≤ st) (t1 : st ≤ 9) (h0 : 0 ≤ M s 11) (h1 : M s 11 ≤ 10100) (b0 : 0 ≤ M s 15) (b1 : M s 15 ≤ 40) :
    ∃ M1 M2, f_X5_pay s q v M = some M1 ∧ f_X5_moveTo s q st M1 = some M2 ∧ pPM M M2 s q st v := by
  have e1 : f_X5_pay s q v M = some (upM M (s + 9) q (min 99999 (M (s + 9) q + v))) := by
    unfold f_X5_pay
    rw [p_ck ⟨q0, q1⟩, p_wI (by omega) (by omega)]
    rfl
  generalize hM1 : upM M (s + 9) q (min 99999 (M (s + 9) q + v)) = M1 at e1
  have m1 : ∀ x, x ≠ s + 9 → ∀ j, M1 x j = M x j := fun x hx j => by rw [← hM1, up_nex hx]
  have m2 : ∀ j, M1 (s + 9) j = if j = q then min 99999 (M (s + 9) q + v) else M (s + 9) j := fun j => by rw [← hM1, up_if]
  have a15 := m1 s (by omega) 15
  have a11 := m1 s (by omega) 11
  suffices h : ∃ M2, f_X5_moveTo s q st M1 = some M2 ∧ pPM M M2 s q st v by
    obtain ⟨M2, k1, k2⟩ := h
    exact ⟨M1, M2, e1, k1, k2⟩
  unfold f_X5_moveTo f_X5_moveTo_J41
  by_cases c : M s 15 = 40
  · rw [c] at a15
    simp (disch := omega) only [p_ck, p_lt, p_wI, up_nex, up_nei, up_eq, cp_nex, a15, a11, if_neg, Int.reduceSub, Int.reduceAdd]
    refine ⟨_, rfl, fun x a b d e j => ?_, fun j hj => ?_, ?_, fun j => ?_, fun j => ?_, fun j j0 j1 => ?_⟩
    · simp (disch := omega) only [up_nex, cp_nex]
      exact m1 x (by omega) j
    · simp (disch := omega) only [up_nex, up_nei, cp_nex]
      exact m1 s (by omega) j
    · simp (disch := omega) only [up_eq]
      omega
    · simp (disch := omega) only [up_nex, cp_nex]
      rw [up_if, m1 (s + 7) (by omega)]
    · simp (disch := omega) only [up_nex, cp_nex]
      exact m2 j
    · rw [c, show min 40 (40 + 1) = (40 : Int) by omega] at j1
      rw [c, show min 40 (40 + 1) = (40 : Int) by omega]
      by_cases e : j = 39
      · subst e
        rw [if_pos (by omega)]
        simp (disch := omega) only [up_nex, up_eq]
      · rw [if_neg (by omega), if_pos rfl]
        simp (disch := omega) only [up_nex, up_nei]
        rw [cp_in (by omega)]
        simp (disch := omega) only [up_nex]
        rw [m1 (s + 10) (by omega)]
        exact congrArg (M (s + 10)) (by omega)
  · simp (disch := omega) only [p_ck, p_lt, p_wI, up_nex, up_nei, up_eq, a15, a11, if_pos]
    refine ⟨_, rfl, fun x a b d e j => ?_, fun j hj => ?_, ?_, fun j => ?_, fun j => ?_, fun j j0 j1 => ?_⟩
    · simp (disch := omega) only [up_nex]
      exact m1 x (by omega) j
    · simp (disch := omega) only [up_nex, up_nei]
      exact m1 s (by omega) j
    · simp (disch := omega) only [up_eq]
      omega
    · simp (disch := omega) only [up_nex]
      rw [up_if, m1 (s + 7) (by omega)]
    · simp (disch := omega) only [up_nex]
      exact m2 j
    · by_cases e : j = M s 15
      · subst e
        rw [if_pos (by omega)]
        simp (disch := omega) only [up_nex, up_eq]
      · rw [if_neg (by omega), if_neg c]
        simp (disch := omega) only [up_nex, up_nei]
        exact m1 (s + 10) (by omega) j
/-- the same in the reference -/
def pGo (N N' : Mem) (q st v : Int) : Prop := (∀ x, x ≠ 801 → x ≠ 802 → x ≠ 809 → ∀ j, N' x j = N x j) ∧ (∀ j, j ≠ 29 → N' 801 j = N 801 j) ∧ N' 801 29 = wI (N 801 29 + 1) ∧ (∀ j, N' 809 j = if j = q then 1 else N 809 j)
  ∧ N' 802 (91 + 6 * q) = min 99999 (N 802 (91 + 6 * q) + v) ∧ N' 802 (89 + 6 * q) = st ∧ (∀ j, j ≠ 91 + 6 * q → j ≠ 89 + 6 * q → j ≠ 12 → j < 2106 → N' 802 j = N 802 j)
  ∧ ((N 801 28 = 0 ∧ N' 802 12 = N 802 12 ∧ (∀ j, 2106 ≤ j → N' 802 j = N 802 j)) ∨ (N 801 28 = 1 ∧ N' 802 12 = N 802 12 + 1 ∧ N' 802 (2106 + N 802 12 % 8500) = (N 802 8 * 7 + q) * 9 + st ∧ (∀ j, 2106 ≤ j → j ≠ 2106 + N 802 12 % 8500 → N' 802 j = N 802 j)))
theorem l_go {N : Mem} {q st v : Int} (q0 : 0 ≤ q) (q1 : q < 7) (v0 : 0 ≤ v) (v1 : v ≤ 9999) (p0 : 0 ≤ N 802 (91 + 6 * q)) (p1 : N 802 (91 + 6 * q) ≤ 99999) (t0 : 0 ≤ st) (t1 : st ≤ 9) (h0 : 0 ≤ N 802 8) (h1 : N 802 8 ≤ 10100) (b0 : 0 ≤ N 802 12) (b1 : N 802 12 ≤ 1000000) (w : N 801 28 = 0 ∨ N 801 28 = 1) :
    ∃ N', f_X12_go q st v N = some N' ∧ pGo N N' q st v := by
  unfold f_X12_go
  have e3 : 88 + 6 * q + 3 = 91 + 6 * q := by omega
  have e1 : 88 + 6 * q + 1 = 89 + 6 * q := by omega
  simp (disch := omega) only [p_ck, p_lt, p_get, p_set, Option.bind_some, e1, e3, up_nex, up_nei, up_eq, p_wI (x := N 802 (91 + 6 * q) + v), p_cut]
  have em : max 0 (min (N 802 (91 + 6 * q) + v) 99999) = min 99999 (N 802 (91 + 6 * q) + v) := by omega
  rw [em]
  rcases w with w | w
  · rw [if_neg (by omega)]
    refine ⟨_, rfl, fun x a b d j => ?_, fun j hj => ?_, ?_, fun j => ?_, ?_, ?_, fun j a b d e => ?_, Or.inl ⟨w, ?_, fun j hj => ?_⟩⟩
    · simp (disch := omega) only [up_nex]
    · simp (disch := omega) only [up_nex, up_nei]
    · simp (disch := omega) only [up_nex, up_eq]
    · simp (disch := omega) only [up_nex]
      rw [up_if]
    · simp (disch := omega) only [up_nei, up_eq]
    · simp (disch := omega) only [up_eq]
    · simp (disch := omega) only [up_nei, up_nex]
    · simp (disch := omega) only [up_nei, up_nex]
    · simp (disch := omega) only [up_nei, up_nex]
  · rw [if_pos (by omega), p_iRem b0]
    simp (disch := omega) only [p_wI (x := 2106 + N 802 12 % 8500), p_ck, p_lt, up_nei, up_nex, up_eq, p_wI (x := N 802 12 + 1), p_wI (x := N 802 8 * 7), p_wI (x := N 802 8 * 7 + q), p_wI (x := (N 802 8 * 7 + q) * 9), p_wI (x := (N 802 8 * 7 + q) * 9 + st)]
    refine ⟨_, rfl, fun x a b d j => ?_, fun j hj => ?_, ?_, fun j => ?_, ?_, ?_, fun j a b d e => ?_, Or.inr ⟨w, ?_, ?_, fun j hj hj2 => ?_⟩⟩
    · simp (disch := omega) only [up_nex]
    · simp (disch := omega) only [up_nex, up_nei]
    · simp (disch := omega) only [up_nex, up_eq]
    · simp (disch := omega) only [up_nex]
      rw [up_if]
    · simp (disch := omega) only [up_nei, up_eq]
    · simp (disch := omega) only [up_nei, up_eq]
    · simp (disch := omega) only [up_nei, up_nex]
    · simp (disch := omega) only [up_nei, up_eq]
    · simp (disch := omega) only [up_nei, up_eq]
    · simp (disch := omega) only [up_nei, up_nex]
theorem p_cntF : ∀ a : Fin 128, ∀ j : Fin 7, pCnt a.val ≤ 7 ∧ (a.val.testBit j.val = false → pCnt (a.val ||| 2 ^ j.val) = pCnt a.val + 1) := by decide +kernel
theorem p_cnt7 {p : Nat} (h : p < 128) : pCnt p ≤ 7 := (p_cntF ⟨p, h⟩ ⟨0, by decide⟩).1
theorem p_cntAdd {p j : Nat} (h : p < 128) (hj : j < 7) (hb : p.testBit j = false) : pCnt (p ||| 2 ^ j) = pCnt p + 1 := (p_cntF ⟨p, h⟩ ⟨j, hj⟩).2 hb
/-- while ships pass: p passed so far -/
def pRp (M N : Mem) (s H P0 W0 : Int) (p : Nat) : Prop := pLv M N s H ∧ p < 128 ∧ (∀ j : Nat, j < 7 → N 809 j = if p.testBit j then 1 else 0) ∧ (0 ≤ P0 → P0 ≤ 1000000 → N 801 29 = P0 + pCnt p)
  ∧ ((s = 3 ∧ N 801 28 = 1 ∧ N 802 12 = W0 + pCnt p ∧ pBook M 3 (N 802) (N 802 12)) ∨ (s = 762 ∧ N 801 28 = 0 ∧ N 802 12 = W0))
/-- what has changed by then -/
def pFp (M0 N0 M N : Mem) (s W0 : Int) (p : Nat) : Prop := (∀ x, ¬ (s ≤ x ∧ x < s + 11) → x ≠ 713 → ∀ j, M x j = M0 x j) ∧ (∀ x, ¬ (801 ≤ x ∧ x ≤ 802) → ¬ (807 ≤ x ∧ x ≤ 809) → ∀ j, N x j = N0 x j) ∧ (∀ j, ¬ (21 ≤ j ∧ j ≤ 24) → j ≠ 29 → N 801 j = N0 801 j) ∧ pStat (N0 802) (N 802)
  ∧ (∀ i, 2106 ≤ i → (∀ t, 0 ≤ t → t < pCnt p → i ≠ 2106 + (W0 + t) % 8500) → N 802 i = N0 802 i) ∧ (s = 762 → ∀ i, 130 ≤ i → N 802 i = N0 802 i) ∧ (∀ i, 8 ≤ i → i ≤ 11 → N 802 i = N0 802 i)
  ∧ (∀ i, 0 ≤ i → i < 7 → N 802 (90 + 6 * i) = N0 802 (90 + 6 * i) ∧ (N0 802 (89 + 6 * i) = N0 802 (90 + 6 * i) → N 802 (89 + 6 * i) = N0 802 (89 + 6 * i)))
theorem pStat_trans {A B C : Int → Int} (h : pStat A B) (g : pStat B C) : pStat A C := by
  obtain ⟨h1, h2, h3⟩ := h
  obtain ⟨g1, g2, g3⟩ := g
  refine ⟨fun i hi => (g1 i hi).trans (h1 i hi), fun s s0 s1 => ?_, fun s s0 s1 => ?_⟩
  · obtain ⟨a, b, c, d⟩ := h2 s s0 s1
    obtain ⟨a', b', c', d'⟩ := g2 s s0 s1
    exact ⟨a'.trans a, b'.trans b, c'.trans c, d'.trans d⟩
  · obtain ⟨a, b, c⟩ := h3 s s0 s1
    obtain ⟨a', b', c'⟩ := g3 s s0 s1
    exact ⟨a'.trans a, b'.trans b, c'.trans c⟩
theorem pStat_rfl {A : Int → Int} : pStat A A := ⟨fun _ _ => rfl, fun _ _ _ => ⟨rfl, rfl, rfl, rfl⟩, fun _ _ _ => ⟨rfl, rfl, rfl⟩⟩
/-- asking a law changes nothing of this -/
theorem pLv_fr {M M' N N' : Mem} {s H : Int} (h : pLv M N s H) (hsx : s + 11 ≤ 713 ∨ 713 < s) (hM : ∀ x, x ≠ 713 → ∀ j, M' x j = M x j) (hN : ∀ j, N' 802 j = N 802 j) : pLv M' N' s H := by
  obtain ⟨a, b, c⟩ := h
  refine ⟨pSt_same a (fun x _ _ => hM x (by omega)) hN, ?_, ?_⟩
  · unfold pSh at b ⊢
    simp only [hM s (by omega), hM (s + 6) (by omega), hM (s + 7) (by omega), hM (s + 8) (by omega), hM (s + 9) (by omega), hN]
    exact b
  · unfold pHr at c ⊢
    simp only [hM s (by omega), hN]
    exact c
theorem pRp_fr {M M' N N' : Mem} {s H P0 W0 : Int} {p : Nat} (h : pRp M N s H P0 W0 p) (hs : s = 3 ∨ s = 762) (f : pFr M M' N N') : pRp M' N' s H P0 W0 p := by
  obtain ⟨a, b, c, d, e⟩ := h
  obtain ⟨f1, f2, f3⟩ := f
  refine ⟨pLv_fr a (by omega) f1 (f2 802 (by decide) (by decide) (by decide)), b, fun j hj => by rw [f2 809 (by decide) (by decide) (by decide)]; exact c j hj, by rw [f3 29 (by decide)]; exact d, ?_⟩
  rw [f3 28 (by decide), f2 802 (by decide) (by decide) (by decide)]
  rcases e with ⟨e1, e2, e3, e4⟩ | e
  · exact Or.inl ⟨e1, e2, e3, pBook_same (fun x _ _ => f1 x (by omega)) (fun i _ => f2 802 (by decide) (by decide) (by decide) i) e4⟩
  · exact Or.inr e
theorem pFp_fr {M0 N0 M M' N N' : Mem} {s W0 : Int} {p : Nat} (h : pFp M0 N0 M N s W0 p) (f : pFr M M' N N') : pFp M0 N0 M' N' s W0 p := by
  obtain ⟨a, b, c, d, e, g, g7, g8⟩ := h
  obtain ⟨f1, f2, f3⟩ := f
  have e2 : N' 802 = N 802 := funext (f2 802 (by decide) (by decide) (by decide))
  refine ⟨fun x h1 h2 j => by rw [f1 x h2]; exact a x h1 h2 j, fun x h1 h2 j => by rw [f2 x (by omega) (by omega) (by omega)]; exact b x h1 h2 j, fun j h1 h2 => by rw [f3 j h1]; exact c j h1 h2, by rw [e2]; exact d, by rw [e2]; exact e, by rw [e2]; exact g, by rw [e2]; exact g7, by rw [e2]; exact g8⟩
