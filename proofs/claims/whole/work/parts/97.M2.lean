set_option linter.unusedVariables false
set_option linter.unusedSimpArgs false
/-! unions of states: the reference's search, and both together -/
theorem l_takes3 {M N : Mem} {t w hh : Int} (hL : pLaw M N) (hs : pSt M N 3) (ht : 0 ≤ t ∧ t < N 802 0) (h11 : M 3 11 = hh) (hh0 : 0 ≤ hh ∧ hh ≤ 10100) (hwt : 0 ≤ w ∧ w ≤ 198) :
    ∃ v, (0 ≤ v ∧ v ≤ 9999) ∧ (∀ (n : Nat) (M2 : Mem), 400 ≤ n → pLaw M2 N → pSt M2 N 3 → M2 3 11 = hh → ∃ M3, f_X2_takes n 3 t w M2 = some (v, M3) ∧ pFM M2 M3) ∧ (∀ (n : Nat) (N2 : Mem), 400 ≤ n → pFN N N2 → ∃ N3, f_X12_takesOf n t hh w N2 = some (v, N3) ∧ pFN N N3) := by
  obtain ⟨v, h0, -, hB⟩ := l_takesC hL hs ht h11 hh0 hwt (Or.inl rfl)
  obtain ⟨N1, b0, -⟩ := hB 400 N (Nat.le_refl _) pFN_rfl
  refine ⟨v, h0, fun n M2 hn l2 s2 e2 => ?_, hB⟩
  obtain ⟨v2, M3, N3, b1, b2, b3, b3', b4⟩ := s_takes (s := 3) (st := t) (w := w) (hh := hh) (n1 := n) (n2 := 400) l2 s2 ht e2 hh0 hwt (by omega) hn (Nat.le_refl _)
  rw [b0] at b2
  have : v = v2 := by injection b2 with z; injection z
  subst this
  exact ⟨M3, b1, b4.1⟩
/-- the tolls of the states -/
def pTo (M N : Mem) (F : Int → Int) : Prop := ∀ t, 0 ≤ t ∧ t < N 802 0 → (0 ≤ F t ∧ F t ≤ 9999) ∧ (∀ (n : Nat) (M2 : Mem), 400 ≤ n → pLaw M2 N → pSt M2 N 3 → M2 3 11 = N 802 8 → ∃ M3, f_X2_takes n 3 t 10 M2 = some (F t, M3) ∧ pFM M2 M3) ∧ (∀ (n : Nat) (N2 : Mem), 400 ≤ n → pFN N N2 → ∃ N3, f_X12_takesOf n t (N 802 8) 10 N2 = some (F t, N3) ∧ pFN N N3)
theorem l_pTo {M N : Mem} (h : pRel M N) : ∃ F, pTo M N F := by
  have hl := pLv_of (H := 9999) h (by omega)
  have h8 := (pR_num h).2.2.1
  exact p_choice (P := fun t => 0 ≤ t ∧ t < N 802 0) (fun t ht => l_takes3 (pLaw_of h) hl.1 ht h8.1 (by omega) (by decide))
def fV (M0 M : Mem) : Prop := ∀ x, x ≠ 713 → ¬ (758 ≤ x ∧ x ≤ 761) → ∀ j, M x j = M0 x j
theorem l_tolM {M0 N : Mem} {F : Int → Int} {n : Nat} (h : pRel M0 N) (hn : N 802 0 = n) (hF : pTo M0 N F) (x1 x2 : Int) : ∀ (f m i : Nat) (M : Mem), n - i < f → f + 400 ≤ m → i ≤ n → fV M0 M → (∀ t : Nat, t < i → M 758 t = F t) → ∃ M', f_X11_states_L40 m x1 x2 i M = some M' ∧ fV M0 M' ∧ (∀ t : Nat, t < n → M' 758 t = F t) := by
  have h1 := (pR_num h).1
  have h8 := (pR_num h).2.2.1
  have hl := pLv_of (H := 9999) h (by omega)
  intro f
  induction f with
  | zero => intro m i M g0; omega
  | succ f ih =>
    intro m i M g0 g1 g2 fM hj
    obtain ⟨m, rfl⟩ : ∃ m', m = m' + 1 := ⟨m - 1, by omega⟩
    rw [f_X11_states_L40, fM 3 (by decide) (by decide), h1.1, hn]
    by_cases c : i = n
    · subst c
      rw [if_pos (by omega)]
      exact ⟨M, rfl, fM, hj⟩
    · obtain ⟨M3, b1, b2⟩ := (hF i ⟨by omega, by omega⟩).2.1 m M (by omega) (pLaw_same (pLaw_of h) (fM 0 (by decide) (by decide) 0) (fun x hx => fM x (by omega) (by omega)) rfl (fun _ => rfl)) (pSt_same hl.1 (fun x x0 x1 => fM x (by omega) (by omega)) (fun _ => rfl)) (by rw [fM 3 (by decide) (by decide)]; exact h8.1)
      rw [if_neg (by omega), b1, Option.bind_some]
      dsimp only
      rw [p_ck (by omega), p_lt, p_wI (by omega) (by omega), show (i : Int) + 1 = ((i + 1 : Nat) : Int) by omega]
      refine ih m (i + 1) _ (by omega) (by omega) (by omega) (fun x h1 h2 j => by rw [up_nex (by omega), b2 x h1]; exact fM x h1 h2 j) (fun t ht => ?_)
      by_cases e : t = i
      · subst e; rw [up_eq]
      · rw [up_nei (by omega), b2 758 (by decide)]
        exact hj t (by omega)
section RefS
variable {M0 N0 : Mem} {F : Int → Int} {n : Nat} {k : Int}
theorem l_worthN (hn : N0 802 0 = n) (n9 : n ≤ 9) (hk : 0 ≤ k ∧ k ≤ 999) (hF : pTo M0 N0 F) {s : Nat} (hs : s < 1024) : ∀ (f m i b : Nat) (acc : Int) (N : Mem), n - i < f → f + 400 ≤ m → b ≤ i → i ≤ n → (i = n → b = n) → pFN N0 N → -900000 * (b : Int) ≤ acc → acc ≤ 900000 * (b : Int) →
    ∃ N', f_X12_worthOf_L11 m s k acc (sm F b (i - b)) ((i - b : Nat) : Int) i N = some (acc + qWt (qW F k) b (pCut s i (n - i)), N') ∧ pFN N0 N' := by
  have hT : ∀ t : Int, 0 ≤ t → t < n → 0 ≤ F t ∧ F t ≤ 9999 := fun t a b => (hF t ⟨a, by omega⟩).1
  intro f
  induction f with
  | zero => intro m i b acc N g0; omega
  | succ f ih =>
    intro m i b acc N g0 g1 bi im hb fN a0 a1
    obtain ⟨m, rfl⟩ : ∃ m', m = m' + 1 := ⟨m - 1, by omega⟩
    have e0 : N 802 0 = n := by rw [fN.1 802 (by decide) (by decide) (by decide)]; exact hn
    have e8 : N 802 8 = N0 802 8 := fN.1 802 (by decide) (by decide) (by decide) 8
    rw [f_X12_worthOf_L11, e0, e8]
    by_cases c : i = n
    · subst c
      rw [if_pos (by omega), show i - i = 0 by omega]
      refine ⟨N, ?_, fN⟩
      rw [pCut, qWt, Int.add_zero]
    · obtain ⟨N3, b1, b2⟩ := (hF i ⟨by omega, by omega⟩).2.2 m N (by omega) fN
      have Fi := hT i (by omega) (by omega)
      have sb := sm_in hT (i - b) (i := b) (by omega)
      have e3 : N3 802 0 = n := by rw [b2.1 802 (by decide) (by decide) (by decide)]; exact hn
      have smS : sm F b (i + 1 - b) = sm F b (i - b) + F i := by
        rw [show i + 1 - b = (i - b) + 1 by omega, sm, show b + (i - b) = i by omega]
      rw [if_neg (by omega), b1, Option.bind_some]
      dsimp only
      simp only [e3]
      rw [p_has hs (by omega)]
      rw [p_wI (x := sm F b (i - b) + F i) (by omega) (by omega), p_wI (x := ((i - b : Nat) : Int) + 1) (by omega) (by omega), p_wI (x := (i : Int) + 1) (by omega) (by omega)]
      rw [← smS]
      rw [show ((i - b : Nat) : Int) + 1 = ((i + 1 - b : Nat) : Int) by omega, show (i : Int) + 1 = ((i + 1 : Nat) : Int) by omega]
      obtain ⟨d, hd⟩ : ∃ d, n - i = d + 1 := ⟨n - i - 1, by omega⟩
      have hd2 : n - (i + 1) = d := by omega
      -- a cut here
      have cut : (d = 0 ∨ s.testBit i = true) → ∃ N', f_X12_worthOf_L11_J70 m (fun x3 x4 x5 x6 M => f_X12_worthOf_L11 m s k x3 x4 x5 x6 M) s k acc (sm F b (i + 1 - b)) ((i + 1 - b : Nat) : Int) i N3 = some (acc + qWt (qW F k) b (pCut s i (n - i)), N') ∧ pFN N0 N' := by
        intro z
        have q := qW_in hT n9 hk (b := b) (d := i + 1 - b) (by omega)
        have w := qW_bd hT n9 hk b (i + 1) (by omega) (by omega)
        unfold f_X12_worthOf_L11_J70
        rw [p_wI (x := ((i + 1 - b : Nat) : Int) - 1) (by omega) (by omega), p_wI (x := ((i + 1 - b : Nat) : Int) * (((i + 1 - b : Nat) : Int) - 1)) (by omega) (by omega)]
        rw [show iDiv (((i + 1 - b : Nat) : Int) * (((i + 1 - b : Nat) : Int) - 1)) 2 = qD (i + 1 - b) from rfl]
        rw [p_wI (x := sm F b (i + 1 - b) * ((i + 1 - b : Nat) : Int)) (by omega) (by omega), p_wI (x := k * qD (i + 1 - b)) (by omega) (by omega), p_wI (x := sm F b (i + 1 - b) * ((i + 1 - b : Nat) : Int) - k * qD (i + 1 - b)) (by omega) (by omega)]
        rw [show sm F b (i + 1 - b) * ((i + 1 - b : Nat) : Int) - k * qD (i + 1 - b) = qW F k b (i + 1) from rfl]
        rw [p_lt, p_wI (x := acc + qW F k b (i + 1)) (by omega) (by omega), p_wI (x := (i : Int) + 1) (by omega) (by omega), show (i : Int) + 1 = ((i + 1 : Nat) : Int) by omega]
        have z0 : sm F (i + 1) (i + 1 - (i + 1)) = 0 := by rw [show i + 1 - (i + 1) = 0 by omega]; rfl
        obtain ⟨N', c1, c2⟩ := ih m (i + 1) (i + 1) (acc + qW F k b (i + 1)) N3 (by omega) (by omega) (Nat.le_refl _) (by omega) (fun z => z) b2 (by omega) (by omega)
        rw [z0, show i + 1 - (i + 1) = 0 by omega] at c1
        refine ⟨N', ?_, c2⟩
        rw [hd, pCut, if_pos z, qWt, ← Int.add_assoc, ← hd2]
        exact c1
      cases y : s.testBit i
      · rw [if_neg (by simp)]
        by_cases e : n = i + 1
        · rw [if_pos (by omega)]
          exact cut (Or.inl (by omega))
        · rw [if_neg (by omega)]
          obtain ⟨N', c1, c2⟩ := ih m (i + 1) b acc N3 (by omega) (by omega) (by omega) (by omega) (fun z => by omega) b2 a0 a1
          refine ⟨N', ?_, c2⟩
          rw [c1, hd, pCut, if_neg (fun z => z.elim (fun w => by omega) (fun w => by rw [y] at w; simp at w)), hd2]
      · rw [if_pos (by simp)]
        exact cut (Or.inr y)
/-- the first cut that differs -/
theorem l_ahd {s t : Nat} (hn1 : 1 ≤ n) (n9 : n ≤ 9) (hs : s < 2 ^ (n - 1)) (ht : t < 2 ^ (n - 1)) : ∀ (f m i : Nat), 8 - i < f → f ≤ m → i ≤ 8 → ∃ q, f_X12_isAhead_L30 m s t i = some q ∧ ∃ v, f_X12_isAhead_J55 m t q = some v ∧ ((v = 1 ∧ i + 1 < n ∧ ∀ d, i + d + 1 = n → pFst (pCut t i (d + 1)) (pCut s i (d + 1))) ∨ (v = 0 ∧ ∀ d, i + d + 1 = n → (pCut t i (d + 1) = pCut s i (d + 1) ∨ pFst (pCut s i (d + 1)) (pCut t i (d + 1))))) := by
  have p8 : 2 ^ (n - 1) ≤ 256 := Nat.le_trans (Nat.pow_le_pow_right (by omega) (show n - 1 ≤ 8 by omega)) (by decide)
  intro f
  induction f with
  | zero => intro m i g0; omega
  | succ f ih =>
    intro m i g0 g1 g2
    obtain ⟨m, rfl⟩ : ∃ m', m = m' + 1 := ⟨m - 1, by omega⟩
    rw [f_X12_isAhead_L30]
    by_cases c : i = 8
    · subst c
      rw [if_pos (by omega)]
      refine ⟨_, rfl, 0, ?_, Or.inr ⟨rfl, fun d hd => Or.inl ?_⟩⟩
      · unfold f_X12_isAhead_J55
        rw [if_pos (by omega)]
      · rw [show d = 0 by omega]
        rfl
    · rw [if_neg (by omega), p_has (by omega) (by omega), p_has (by omega) (by omega), p_wI (x := (i : Int) + 1) (by omega) (by omega), show (i : Int) + 1 = ((i + 1 : Nat) : Int) by omega]
      by_cases e : s.testBit i = t.testBit i
      · rw [e, if_neg (fun z => z rfl)]
        obtain ⟨q, q1, v, q2, q3⟩ := ih m (i + 1) (by omega) (by omega) (by omega)
        refine ⟨q, q1, v, q2, ?_⟩
        rcases q3 with ⟨r1, r2⟩ | ⟨r1, r2⟩
        · refine Or.inl ⟨r1, by omega, fun d hd => ?_⟩
          cases d with
          | zero => exact absurd r2.1 (by omega)
          | succ d => exact (pCut_on e.symm).1 (r2.2 d (by omega))
        · refine Or.inr ⟨r1, fun d hd => ?_⟩
          cases d with
          | zero => exact Or.inl rfl
          | succ d =>
            rcases r2 d (by omega) with w | w
            · exact Or.inl ((pCut_on e.symm).2 w)
            · exact Or.inr ((pCut_on e).1 w)
      · have bi : i < n - 1 := by
          by_cases z : i < n - 1
          · exact z
          · refine absurd ?_ e
            rw [p_hi hs (by omega), p_hi ht (by omega)]
        refine ⟨i, ?_, ?_⟩
        · rw [if_pos ?_]
          cases y : s.testBit i <;> cases y2 : t.testBit i
          · rw [y, y2] at e; exact absurd rfl e
          · simp
          · simp
          · rw [y, y2] at e; exact absurd rfl e
        · unfold f_X12_isAhead_J55
          rw [if_neg (by omega), p_has (by omega) (by omega)]
          cases y2 : t.testBit i
          · have y : s.testBit i = true := by
              cases y : s.testBit i
              · rw [y, y2] at e; exact absurd rfl e
              · rfl
            rw [if_pos (by simp)]
            exact ⟨0, rfl, Or.inr ⟨rfl, fun d hd => Or.inr (pCut_fst d i y y2 (by omega))⟩⟩
          · have y : s.testBit i = false := by
              cases y : s.testBit i
              · rfl
              · rw [y, y2] at e; exact absurd rfl e
            rw [if_pos rfl, if_neg (by decide)]
            exact ⟨1, rfl, Or.inl ⟨rfl, by omega, fun d hd => pCut_fst d i y2 y (by omega)⟩⟩
end RefS
