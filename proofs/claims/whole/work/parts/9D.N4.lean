set_option linter.unusedVariables false
set_option linter.unusedSimpArgs false
/-! text: the two readers' stores, and the pile's settling -/
/-- the operations in their order: those written, then those that wait on the pile, its top first -/
def oX (N : Mem) (x : Int) (j : Int) : Int := if j < N 801 13 then N 804 (x + 121 + 2 * j) else N 806 (N 801 16 - 1 - (j - N 801 13))
def uX (N : Mem) (x : Int) (j : Int) : Int := if j < N 801 13 then N 804 (x + 122 + 2 * j) else 0
/-- an operation that may wait -/
def isOp (o : Int) : Prop := (4 ≤ o ∧ o ≤ 8) ∨ (10 ≤ o ∧ o ≤ 15) ∨ (20 ≤ o ∧ o ≤ 22)
/-- how many of those above p are opens -/
def opn (A : Int → Int) (p : Int) : Nat → Int
  | 0 => 0
  | k + 1 => opn A p k + (if A (p + (k : Int)) = 4 ∨ A (p + (k : Int)) = 20 then 1 else 0)
/-- the places of a text -/
def pCx (c x : Int) : Prop := isTx c ∧ 773 ≤ c ∧ 7 * x = 729 * (c - 773) ∧ 0 ≤ x ∧ x ≤ 2187
/-- the codes; p: the pile's height below which nothing is the class's now -/
def pCo (M N : Mem) (c x p : Int) : Prop := (M c 3 = N 801 13 + (N 801 16 - p) ∧ 0 ≤ N 801 13 ∧ 0 ≤ p ∧ p ≤ N 801 16)
  ∧ (∀ j, 0 ≤ j → j < N 801 13 → pCd (M (c + 3) j) (M (c + 4) j) (N 804 (x + 121 + 2 * j)) (N 804 (x + 122 + 2 * j)))
  ∧ (∀ t, 0 ≤ t → t < N 801 16 - p → M (c + 3) (N 801 13 + t) = pOp (N 806 (N 801 16 - 1 - t)) 0)
/-- the stores while a law is read -/
def pPs (M N : Mem) (c x l p : Int) : Prop := pTp M N l ∧ pTok M N l ∧ (M 0 1 = c ∧ N 801 12 = x) ∧ pCo M N c x p ∧ N 801 13 + N 801 16 ≤ N 801 8 ∧ N 801 16 ≤ 150
/-- what the reading of a law leaves alone -/
def fPM (c : Int) (M M' : Mem) : Prop := ∀ y j, ¬ (y = 703 ∧ 5 ≤ j ∧ j ≤ 8) → ¬ (y = c + 3 ∨ y = c + 4) → ¬ (y = c ∧ j = 3) → M' y j = M y j
def fPN (x p : Int) (N N' : Mem) : Prop := (∀ y j, ¬ (y = 801 ∧ ((7 ≤ j ∧ j ≤ 11) ∨ j = 13 ∨ (16 ≤ j ∧ j ≤ 18))) → y ≠ 804 → y ≠ 806 → N' y j = N y j)
  ∧ (∀ j, ¬ (x + 121 + 2 * N 801 13 ≤ j ∧ j < x + 729) → N' 804 j = N 804 j) ∧ (∀ j, j < p → N' 806 j = N 806 j) ∧ N 801 13 ≤ N' 801 13 ∧ N 801 8 ≤ N' 801 8
theorem fPM_rfl {c : Int} {M : Mem} : fPM c M M := fun _ _ _ _ _ => rfl
theorem fPM_trans {c : Int} {M M1 M2 : Mem} (a : fPM c M M1) (b : fPM c M1 M2) : fPM c M M2 := fun y j h1 h2 h3 => (b y j h1 h2 h3).trans (a y j h1 h2 h3)
theorem fPN_rfl {x p : Int} {N : Mem} : fPN x p N N := ⟨fun _ _ _ _ _ => rfl, fun _ _ => rfl, fun _ _ => rfl, Int.le_refl _, Int.le_refl _⟩
theorem fPN_trans {x p q : Int} {N N1 N2 : Mem} (hp : p ≤ q) (a : fPN x p N N1) (b : fPN x q N1 N2) : fPN x p N N2 := by
  obtain ⟨a1, a2, a3, a4, a5⟩ := a
  obtain ⟨b1, b2, b3, b4, b5⟩ := b
  exact ⟨fun y j h1 h2 h3 => (b1 y j h1 h2 h3).trans (a1 y j h1 h2 h3), fun j h => (b2 j (by omega)).trans (a2 j h), fun j h => (b3 j (by omega)).trans (a3 j h), by omega, by omega⟩
theorem fPN_kN {x p : Int} {N N' : Mem} (k : kN N N') (h : N 801 8 ≤ N' 801 8) : fPN x p N N' :=
  ⟨fun y j h1 h2 h3 => k y j (by omega), fun j _ => k 804 j (by omega), fun j _ => k 806 j (by omega), by rw [k 801 13 (by omega)]; exact Int.le_refl _, h⟩
theorem fPM_kM {c : Int} {M M' : Mem} (k : kM M M') : fPM c M M' := fun y j h1 _ _ => k y j h1
theorem p_rank (o : Int) : (o = 4 → f_X12_rank o = 7) ∧ ((o = 7 ∨ o = 8) → f_X12_rank o = 6) ∧ ((o = 5 ∨ o = 6) → f_X12_rank o = 5) ∧ ((10 ≤ o ∧ o ≤ 15) → f_X12_rank o = 4) ∧ (o = 20 → f_X12_rank o = 3) ∧ (o = 21 → f_X12_rank o = 2) ∧ (o = 22 → f_X12_rank o = 1) ∧ (o = 40 → f_X12_rank o = 0) := by
  unfold f_X12_rank
  refine ⟨?_, ?_, ?_, ?_, ?_, ?_, ?_, ?_⟩ <;> intro h
  · subst h; decide
  · rcases h with h | h <;> subst h <;> decide
  · rcases h with h | h <;> subst h <;> decide
  · rw [if_pos (by omega), if_pos (by omega), if_pos (by omega), if_pos (by omega), if_neg (by omega)]
  · subst h; decide
  · subst h; decide
  · subst h; decide
  · subst h; decide
theorem p_opOp {o v : Int} (h : isOp o) : pOp o v = pOp o 0 := by
  unfold isOp at h
  unfold pOp
  rw [if_neg (show ¬ o = 0 by omega), if_neg (show ¬ o = 1 by omega), if_neg (show ¬ o = 0 by omega), if_neg (show ¬ o = 1 by omega)]
/-- one code by the reference -/
theorem l_emit {N : Mem} {x k o v : Int} (h1 : N 801 12 = x) (hx : 0 ≤ x ∧ x ≤ 2187) (h2 : N 801 13 = k) (hk : 0 ≤ k ∧ k ≤ 300) : f_X12_emit o v N = some (upM (upM (upM N 804 (x + 121 + 2 * k) o) 804 (x + 122 + 2 * k) v) 801 13 (k + 1)) := by
  unfold f_X12_emit
  rw [h1, h2, p_wI (x := x + 121) (by omega) (by omega), p_wI (x := 2 * k) (by omega) (by omega), p_wI (x := x + 121 + 2 * k) (by omega) (by omega), p_ck (by omega), p_lt, up_nex (by decide), up_nex (by decide), h1, h2, p_wI (x := x + 121) (by omega) (by omega), p_wI (x := 2 * k) (by omega) (by omega), p_wI (x := x + 121 + 2 * k) (by omega) (by omega), p_wI (x := x + 121 + 2 * k + 1) (by omega) (by omega), p_ck (by omega), p_lt, p_lt, up_nex (by decide), up_nex (by decide), h2, p_wI (x := k + 1) (by omega) (by omega), show x + 121 + 2 * k + 1 = x + 122 + 2 * k by omega]
/-- one code by the class -/
theorem l_addC {M : Mem} {c k o v : Int} (hc : 773 ≤ c) (h2 : M c 3 = k) (hk : 0 ≤ k ∧ k < 300) : f_X6_addCode c o v M = some (upM (upM (upM M (c + 3) k o) (c + 4) k v) c 3 (k + 1)) := by
  unfold f_X6_addCode
  rw [h2, if_neg (by omega), p_ck (by omega), p_lt, up_nex (by omega), h2, p_ck (by omega), p_lt, up_nex (by omega), up_nex (by omega), h2, p_lt, p_wI (by omega) (by omega)]
/-- one that waited is written -/
theorem l_pop {M N : Mem} {c x l p r : Int} (hc : pCx c x) (h : pPs M N c x l p) (hp : p < N 801 16) (ho : isOp (N 806 (N 801 16 - 1))) (hr : r ≤ f_X12_rank (N 806 (N 801 16 - 1))) (h17 : -1000 ≤ N 801 17 ∧ N 801 17 ≤ 1000) :
    ∃ N', (∀ n, f_X12_settle_L0 (n + 1) r N = f_X12_settle_L0 n r N') ∧ pPs M N' c x l p ∧ fPN x p N N' ∧ N' 801 16 = N 801 16 - 1 ∧ (∀ j, N' 806 j = N 806 j) ∧ N' 801 17 = N 801 17 - (if N 806 (N 801 16 - 1) = 4 ∨ N 806 (N 801 16 - 1) = 20 then 1 else 0) ∧ N' 801 18 = N 801 18 ∧ N' 801 13 = N 801 13 + 1 ∧ (∀ j, j < M c 3 → oX N' x j = oX N x j ∧ uX N' x j = uX N x j) := by
  obtain ⟨tp, tok, ⟨hc1, hx1⟩, ⟨⟨k1, k2, k3, k4⟩, k5, k6⟩, few, top⟩ := h
  obtain ⟨x1, x2, x3, x4, x5⟩ := hc
  have l300 := tp.2.2.2.1
  have tl := tok.2.2.2.2.2.1
  generalize hk : N 801 13 = k at *
  generalize hq : N 801 16 = q at *
  generalize hoo : N 806 (q - 1) = o at *
  have E : f_X12_emit o 0 (upM N 801 16 (q - 1)) = some (upM (upM (upM (upM N 801 16 (q - 1)) 804 (x + 121 + 2 * k) o) 804 (x + 122 + 2 * k) 0) 801 13 (k + 1)) := l_emit (by rw [up_nei (by decide)]; exact hx1) ⟨x4, x5⟩ (by rw [up_nei (by decide)]; exact hk) (by omega)
  generalize hB : upM (upM (upM (upM N 801 16 (q - 1)) 804 (x + 121 + 2 * k) o) 804 (x + 122 + 2 * k) 0) 801 13 (k + 1) = B at *
  have run : ∀ n, f_X12_settle_L0 (n + 1) r N = (if o = 4 then f_X12_settle_L0 n r (upM B 801 17 (N 801 17 - 1)) else if o ≠ 20 then f_X12_settle_L0 n r B else f_X12_settle_L0 n r (upM B 801 17 (N 801 17 - 1))) := by
    intro n
    have b16 : B 801 16 = q - 1 := by rw [← hB, up_nei (by decide), up_nex (by decide), up_nex (by decide), up_eq]
    have b17 : B 801 17 = N 801 17 := by rw [← hB, up_nei (by decide), up_nex (by decide), up_nex (by decide), up_nei (by decide)]
    have b806 : B 806 (q - 1) = o := by rw [← hB, up_nex (by decide), up_nex (by decide), up_nex (by decide), up_nex (by decide)]; exact hoo
    rw [f_X12_settle_L0, hq, if_neg (by omega), p_wI (x := q - 1) (by omega) (by omega), p_ck (by omega), hoo, if_neg (by omega), p_lt, up_eq, p_ck (by omega), up_nex (by decide), hoo, E, Option.bind_some, b16, b806, p_ck (by omega), b17, p_wI (x := N 801 17 - 1) (by omega) (by omega)]
    rfl
  -- what B says
  have fin : ∀ N', (∀ y j, ¬ (y = 801 ∧ j = 17) → N' y j = B y j) → pPs M N' c x l p ∧ fPN x p N N' ∧ N' 801 16 = q - 1 ∧ (∀ j, N' 806 j = N 806 j) ∧ N' 801 18 = N 801 18 ∧ N' 801 13 = k + 1 ∧ (∀ j, j < M c 3 → oX N' x j = oX N x j ∧ uX N' x j = uX N x j) := by
    intro N' f
    have g : ∀ y j, ¬ (y = 801 ∧ (j = 13 ∨ j = 16 ∨ j = 17)) → y ≠ 804 → N' y j = N y j := by
      intro y j a b
      rw [f y j (by omega), ← hB, up_ne (by omega), up_nex b, up_nex b, up_ne (by omega)]
    have e16 : N' 801 16 = q - 1 := by rw [f _ _ (by omega), ← hB, up_nei (by decide), up_nex (by decide), up_nex (by decide), up_eq]
    have e13 : N' 801 13 = k + 1 := by rw [f _ _ (by omega), ← hB, up_eq]
    have eo : N' 804 (x + 121 + 2 * k) = o := by rw [f _ _ (by omega), ← hB, up_nex (by decide), up_nei (by omega), up_eq]
    have ev : N' 804 (x + 122 + 2 * k) = 0 := by rw [f _ _ (by omega), ← hB, up_nex (by decide), up_eq]
    have e4 : ∀ j, j ≠ x + 121 + 2 * k → j ≠ x + 122 + 2 * k → N' 804 j = N 804 j := by
      intro j a b
      rw [f _ _ (by omega), ← hB, up_nex (by decide), up_nei b, up_nei a, up_nex (by decide)]
    have e6 : ∀ j, N' 806 j = N 806 j := fun j => g 806 j (by omega) (by decide)
    have e8 : N' 801 8 = N 801 8 := g _ _ (by omega) (by decide)
    refine ⟨⟨⟨tp.1, by rw [g _ _ (by omega) (by decide)]; exact tp.2.1, tp.2.2.1, tp.2.2.2.1, fun i i0 i1 => by rw [g _ _ (by omega) (by decide)]; exact tp.2.2.2.2 i i0 i1⟩, ?_, ⟨hc1, by rw [g _ _ (by omega) (by decide)]; exact hx1⟩, ⟨⟨by omega, by omega, k3, by omega⟩, fun j j0 j1 => ?_, fun t t0 t1 => ?_⟩, by omega, by omega⟩, ⟨fun y j a b d => g y j (by omega) b, fun j a => e4 j (by omega) (by omega), fun j _ => e6 j, by omega, by omega⟩, e16, e6, g _ _ (by omega) (by decide), e13, fun j hj => ?_⟩
    · unfold pTok at *
      rw [g 801 7 (by omega) (by decide), e8, g 801 9 (by omega) (by decide), g 801 10 (by omega) (by decide), g 801 11 (by omega) (by decide)]
      exact tok
    · by_cases z : j = k
      · subst z
        have w := k6 0 (by omega) (by omega)
        rw [show q - 1 - 0 = q - 1 by omega, hoo, Int.add_zero] at w
        rw [eo, ev, w]
        unfold isOp at ho
        exact ⟨rfl, by omega, by omega, by omega⟩
      · rw [e4 _ (by omega) (by omega), e4 _ (by omega) (by omega)]
        exact k5 j j0 (by omega)
    · rw [e13, e16, e6, show k + 1 + t = k + (t + 1) by omega, show q - 1 - 1 - t = q - 1 - (t + 1) by omega]
      exact k6 (t + 1) (by omega) (by omega)
    · unfold oX uX
      rw [e13, e16, hk, hq]
      by_cases a : j < k
      · rw [if_pos (by omega), if_pos a, if_pos (by omega), if_pos a, e4 _ (by omega) (by omega), e4 _ (by omega) (by omega)]
        exact ⟨rfl, rfl⟩
      · rw [if_neg a, if_neg a]
        by_cases b : j = k
        · subst b
          rw [if_pos (by omega), if_pos (by omega), eo, ev, show q - 1 - (j - j) = q - 1 by omega, hoo]
          exact ⟨rfl, rfl⟩
        · rw [if_neg (by omega), if_neg (by omega), e6, show q - 1 - 1 - (j - (k + 1)) = q - 1 - (j - k) by omega]
          exact ⟨rfl, rfl⟩
  by_cases a : o = 4 ∨ o = 20
  · obtain ⟨f1, f2, f3, f4, f5, f6, f7⟩ := fin (upM B 801 17 (N 801 17 - 1)) (fun y j z => up_ne z)
    refine ⟨upM B 801 17 (N 801 17 - 1), fun n => ?_, f1, f2, f3, f4, by rw [up_eq, if_pos a], f5, f6, f7⟩
    rw [run]
    by_cases b : o = 4
    · rw [if_pos b]
    · rw [if_neg b, if_neg (show ¬ o ≠ 20 by omega)]
  · obtain ⟨f1, f2, f3, f4, f5, f6, f7⟩ := fin B (fun y j z => rfl)
    refine ⟨B, fun n => ?_, f1, f2, f3, f4, ?_, f5, f6, f7⟩
    · rw [run, if_neg (by omega), if_pos (by omega)]
    · rw [if_neg a, ← hB, up_nei (by decide), up_nex (by decide), up_nex (by decide), up_nei (by decide), Int.sub_zero]
