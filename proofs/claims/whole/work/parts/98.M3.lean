set_option linter.unusedVariables false
set_option linter.unusedSimpArgs false
/-! unions of states: the whole search, and both together -/
section RefT
variable {M0 N0 : Mem} {F : Int → Int} {n : Nat} {k : Int}
theorem pCut_cnt {s : Nat} (hn1 : 1 ≤ n) (n9 : n ≤ 9) (hs : s < 2 ^ (n - 1)) : (pCut s 0 n).length = pCnt s + 1 := by
  obtain ⟨d, rfl⟩ : ∃ d, n = d + 1 := ⟨n - 1, by omega⟩
  have a := pCut_len (s := s) d 0
  have b := cB_top (s := s) (n := d) (by simpa using hs) (by omega)
  have c : cB s 0 = 0 := rfl
  rw [show 0 + d = d by omega] at a
  omega
theorem l_isAhead {s t m : Nat} (hn1 : 1 ≤ n) (n9 : n ≤ 9) (hs : s < 2 ^ (n - 1)) (ht : t < 2 ^ (n - 1)) (hm : 20 ≤ m) (W : Nat → Nat → Int) (hw : qWt W 0 (pCut s 0 n) = qWt W 0 (pCut t 0 n)) :
    ∃ v, f_X12_isAhead m s t = some v ∧ ((v = 1 ∧ pGe W 0 (pCut s 0 n) (pCut t 0 n)) ∨ (v = 0 ∧ pGe W 0 (pCut t 0 n) (pCut s 0 n))) := by
  have p8 : 2 ^ (n - 1) ≤ 256 := Nat.le_trans (Nat.pow_le_pow_right (by omega) (show n - 1 ≤ 8 by omega)) (by decide)
  have cs := pCut_cnt hn1 n9 hs
  have ct := pCut_cnt hn1 n9 ht
  unfold f_X12_isAhead
  rw [p_bits (by omega) (by omega), p_bits (by omega) (by omega), Option.bind_some, Option.bind_some]
  by_cases c : pCnt s = pCnt t
  · rw [if_pos (by omega)]
    obtain ⟨q, q1, v, q2, q3⟩ := l_ahd hn1 n9 hs ht 20 m 0 (by omega) (by omega) (by omega)
    have q1' : f_X12_isAhead_L30 m s t 0 = some q := q1
    rw [q1', Option.bind_some]
    refine ⟨v, q2, ?_⟩
    rcases q3 with ⟨r1, r0, r2⟩ | ⟨r1, r2⟩
    · have := r2 (n - 1) (by omega)
      rw [show n - 1 + 1 = n by omega] at this
      exact Or.inl ⟨r1, Or.inr ⟨by omega, Or.inr ⟨by omega, Or.inr this⟩⟩⟩
    · have := r2 (n - 1) (by omega)
      rw [show n - 1 + 1 = n by omega] at this
      exact Or.inr ⟨r1, Or.inr ⟨by omega, Or.inr ⟨by omega, this⟩⟩⟩
  · rw [if_neg (by omega), Option.bind_some, Option.bind_some]
    by_cases d : pCnt t ≤ pCnt s
    · rw [if_pos (by omega)]
      exact ⟨0, rfl, Or.inr ⟨rfl, Or.inr ⟨by omega, Or.inl (by omega)⟩⟩⟩
    · rw [if_neg (by omega)]
      exact ⟨1, rfl, Or.inl ⟨rfl, Or.inr ⟨by omega, Or.inl (by omega)⟩⟩⟩
theorem l_worthN0 (hn : N0 802 0 = n) (n9 : n ≤ 9) (hk : 0 ≤ k ∧ k ≤ 999) (hF : pTo M0 N0 F) {s m : Nat} (hs : s < 1024) (hm : 500 ≤ m) {N : Mem} (fN : pFN N0 N) :
    ∃ N', f_X12_worthOf m s k N = some (qWt (qW F k) 0 (pCut s 0 n), N') ∧ pFN N0 N' := by
  obtain ⟨N', e1, e2⟩ := l_worthN hn n9 hk hF hs 20 m 0 0 0 N (by omega) (by omega) (Nat.le_refl _) (by omega) (fun z => z) fN (by omega) (by omega)
  have e1' : f_X12_worthOf_L11 m s k 0 0 0 0 N = some (0 + qWt (qW F k) 0 (pCut s 0 (n - 0)), N') := e1
  refine ⟨N', ?_, e2⟩
  unfold f_X12_worthOf
  rw [e1', Option.bind_some, Int.zero_add, Nat.sub_zero]
theorem l_states50 (hn : N0 802 0 = n) (hn1 : 1 ≤ n) (n9 : n ≤ 9) (hk : 0 ≤ k ∧ k ≤ 999) (hF : pTo M0 N0 F) (x2 : Int) : ∀ (f m s t : Nat) (N : Mem), 2 ^ (n - 1) - s < f → f + 500 ≤ m → s ≤ 2 ^ (n - 1) → t < 2 ^ (n - 1) → pFN N0 N → (∀ u, u < s → pGe (qW F k) 0 (pCut t 0 n) (pCut u 0 n)) →
    ∃ (t' : Nat) (N' : Mem), f_X12_states_L50 m k x2 t (qWt (qW F k) 0 (pCut t 0 n)) s N = some ((t' : Int), qWt (qW F k) 0 (pCut t' 0 n), N') ∧ pFN N0 N' ∧ t' < 2 ^ (n - 1) ∧ (∀ u, u < 2 ^ (n - 1) → pGe (qW F k) 0 (pCut t' 0 n) (pCut u 0 n)) := by
  have p8 : 2 ^ (n - 1) ≤ 256 := Nat.le_trans (Nat.pow_le_pow_right (by omega) (show n - 1 ≤ 8 by omega)) (by decide)
  intro f
  induction f with
  | zero => intro m s t N g0; omega
  | succ f ih =>
    intro m s t N g0 g1 sm ht fN hinv
    obtain ⟨m, rfl⟩ : ∃ m', m = m' + 1 := ⟨m - 1, by omega⟩
    have e0 : N 802 0 = n := by rw [fN.1 802 (by decide) (by decide) (by decide)]; exact hn
    rw [f_X12_states_L50, e0, p_wI (x := (n : Int) - 1) (by omega) (by omega), show (n : Int) - 1 = ((n - 1 : Nat) : Int) by omega, p_shl1 (by omega)]
    by_cases c : s = 2 ^ (n - 1)
    · subst c
      rw [if_pos (Int.le_refl _)]
      exact ⟨t, N, rfl, fN, ht, hinv⟩
    · obtain ⟨N1, b1, b2⟩ := l_worthN0 hn n9 hk hF (s := s) (m := m) (by omega) (by omega) fN
      rw [if_neg (by omega), b1, Option.bind_some]
      dsimp only
      rw [p_wI (x := (s : Int) + 1) (by omega) (by omega), show (s : Int) + 1 = ((s + 1 : Nat) : Int) by omega]
      have keep : pGe (qW F k) 0 (pCut t 0 n) (pCut s 0 n) → ∃ (t' : Nat) (N' : Mem), f_X12_states_L50 m k x2 t (qWt (qW F k) 0 (pCut t 0 n)) ((s + 1 : Nat) : Int) N1 = some ((t' : Int), qWt (qW F k) 0 (pCut t' 0 n), N') ∧ pFN N0 N' ∧ t' < 2 ^ (n - 1) ∧ (∀ u, u < 2 ^ (n - 1) → pGe (qW F k) 0 (pCut t' 0 n) (pCut u 0 n)) := by
        intro z
        refine ih m (s + 1) t N1 (by omega) (by omega) (by omega) ht b2 (fun u hu => ?_)
        by_cases e : u = s
        · subst e; exact z
        · exact hinv u (by omega)
      have take : pGe (qW F k) 0 (pCut s 0 n) (pCut t 0 n) → ∃ (t' : Nat) (N' : Mem), f_X12_states_L50 m k x2 s (qWt (qW F k) 0 (pCut s 0 n)) ((s + 1 : Nat) : Int) N1 = some ((t' : Int), qWt (qW F k) 0 (pCut t' 0 n), N') ∧ pFN N0 N' ∧ t' < 2 ^ (n - 1) ∧ (∀ u, u < 2 ^ (n - 1) → pGe (qW F k) 0 (pCut t' 0 n) (pCut u 0 n)) := by
        intro z
        refine ih m (s + 1) s N1 (by omega) (by omega) (by omega) (by omega) b2 (fun u hu => ?_)
        by_cases e : u = s
        · subst e; exact pGe_rfl
        · exact pGe_trans z (hinv u (by omega))
      by_cases d : qWt (qW F k) 0 (pCut s 0 n) < qWt (qW F k) 0 (pCut t 0 n)
      · rw [if_pos d]
        exact keep (Or.inl d)
      · rw [if_neg d]
        by_cases e : qWt (qW F k) 0 (pCut s 0 n) = qWt (qW F k) 0 (pCut t 0 n)
        · rw [if_neg (fun z => z e)]
          obtain ⟨v, v1, v2⟩ := l_isAhead hn1 n9 (show s < 2 ^ (n - 1) by omega) ht (m := m) (by omega) (qW F k) e
          rw [v1, Option.bind_some]
          rcases v2 with ⟨w1, w2⟩ | ⟨w1, w2⟩
          · rw [if_pos (by omega)]
            exact take w2
          · rw [if_neg (by omega)]
            exact keep w2
        · rw [if_pos e]
          exact take (Or.inl (by omega))
/-- the least ways of the two: the same -/
theorem l_same (hn1 : 1 ≤ n) (n9 : n ≤ 9) {t : Nat} {l : List Nat} (ht : t < 2 ^ (n - 1)) (h1 : ∀ u, u < 2 ^ (n - 1) → pGe (qW F k) 0 (pCut t 0 n) (pCut u 0 n)) (hl : pPath n 0 l) (h2 : ∀ l', pPath n 0 l' → pGe (qW F k) 0 l l') : l = pCut t 0 n := by
  have p1 := pCut_path (s := t) n 0 0 (Nat.zero_add n) (Nat.le_refl _) (by omega)
  obtain ⟨s, s1, s2⟩ := pCut_of (n := n) n 0 0 l (Nat.zero_add n) (Nat.le_refl _) hl (fun x hx => (pPath_gt l 0 hl x hx).1) (by omega)
  have s3 : s < 2 ^ (n - 1) := Nat.lt_pow_two_of_testBit s (fun i hi => by
    cases z : s.testBit i
    · rfl
    · have := s1 i z; omega)
  refine pGe_anti (h2 _ p1) ?_
  rw [← s2]
  exact h1 s s3
end RefT
theorem cB_mask {s p : Nat} (hs : s < 256) (hp : p ≤ 8) : pCnt (s &&& (2 ^ p - 1)) = cB s p := by
  have : ∀ a : Fin 256, ∀ q : Fin 9, pCnt (a.val &&& (2 ^ q.val - 1)) = cB a.val q.val := by decide +kernel
  exact this ⟨s, hs⟩ ⟨p, by omega⟩
theorem s_states {M N : Mem} {nA nB : Nat} {p q : Int} (h : pRel M N) (hA : 2000 ≤ nA) (hB : 2000 ≤ nB) : pSim (f_X11_states nA p q M) (f_X12_states nB p q N) N := by
  have n1 : (1 : Int) ≠ 0 := by decide
  have n10 : ¬ (1 : Int) = 0 := by decide
  have n0 : ¬ (0 : Int) ≠ 0 := by decide
  have h1 := (pR_num h).1
  unfold f_X11_states f_X12_states
  rw [p_isB, p_isIn, p_isStepM h, p_isStepN h, h1.1]
  by_cases hp : 0 ≤ p ∧ p ≤ 999
  · rw [if_pos hp, if_neg n10, if_neg n10]
    by_cases hz : N 802 0 = 0
    · rw [if_pos hz, if_pos hz]
      exact ⟨_, M, N, rfl, rfl, h⟩
    · rw [if_neg hz, if_neg hz]
      obtain ⟨n, hn⟩ : ∃ n : Nat, N 802 0 = n := ⟨(N 802 0).toNat, by omega⟩
      have n9 : n ≤ 9 := by omega
      have hn1 : 1 ≤ n := by omega
      have p8 : 2 ^ (n - 1) ≤ 256 := Nat.le_trans (Nat.pow_le_pow_right (by omega) (show n - 1 ≤ 8 by omega)) (by decide)
      obtain ⟨F, hF⟩ := l_pTo h
      obtain ⟨M1, a1, a2, a3⟩ := l_tolM h hn hF p q 20 nA 0 M (by omega) (by omega) (by omega) (fun _ _ _ _ => rfl) (fun t ht => by omega)
      have hT : pTol M1 n F := ⟨n9, fun t t0 t1 => ⟨by have := a3 t.toNat (by omega); rw [show ((t.toNat : Nat) : Int) = t by omega] at this; exact this, (hF t ⟨t0, by omega⟩).1⟩⟩
      obtain ⟨M2, b1, b2, b3⟩ := l_unite hT (k := p) hp (m := nA) (by omega)
      obtain ⟨N1, c1, c2⟩ := l_worthN0 hn n9 hp hF (s := 0) (m := nB) (by omega) (by omega) pFN_rfl
      have tp : 0 < 2 ^ (n - 1) := Nat.two_pow_pos _
      obtain ⟨t, N2, d1, d2, d3, d4⟩ := l_states50 hn hn1 n9 hp hF q 300 nB 1 0 N1 (by omega) (by omega) (by omega) tp c2 (fun u hu => by rw [show u = 0 by omega]; exact pGe_rfl)
      obtain ⟨l, l1, l2, l3, l4, l5⟩ := b3 0 (by omega)
      have el := l_same hn1 n9 d3 d4 l1 l5
      have a1' : f_X11_states_L40 nA p q 0 M = some M1 := a1
      have e10 : M1 3 0 = n := by rw [a2 3 (by decide) (by decide), h1.1]; exact hn
      have c1' : f_X12_worthOf nB 0 p N = some (qWt (qW F p) 0 (pCut 0 0 n), N1) := c1
      have d1' : f_X12_states_L50 nB p q 0 (qWt (qW F p) 0 (pCut 0 0 n)) 1 N1 = some ((t : Int), qWt (qW F p) 0 (pCut t 0 n), N2) := d1
      have rel : pRel M2 N2 := by
        have f : ∀ x, x ≠ 713 → ¬ (758 ≤ x ∧ x ≤ 761) → ∀ j, M2 x j = M x j := fun x x1 x2 j => by rw [b2 x (by omega)]; exact a2 x x1 x2 j
        refine pRel_same h (f 0 (by decide) (by decide) 0) (fun x x0 x1 x2 x3 x4 i => f x (by omega) (by omega) i) ?_ (fun x x0 x1 i => d2.1 x (by omega) (by omega) (by omega) i) ⟨d2.2 4 (by omega), d2.2 5 (by omega), d2.2 6 (by omega), d2.2 28 (by omega)⟩
        rw [f 762 (by decide) (by decide), f 762 (by decide) (by decide), f 762 (by decide) (by decide)]
        exact h.2.2.1 762 (Or.inr (Or.inr (Or.inl rfl)))
      have e759 : M2 759 0 = qWt (qW F p) 0 (pCut t 0 n) := by
        have : M2 759 ((0 : Nat) : Int) = _ := l2
        rw [el] at this
        exact this
      unfold f_X12_states_J37
      by_cases hq : q = -1
      · rw [if_pos hq, if_pos hq, a1', Option.bind_some, e10, b1, Option.bind_some, if_neg (fun z => z hq), c1', Option.bind_some]
        dsimp only
        rw [d1', Option.bind_some]
        dsimp only
        rw [if_neg (fun z => z hq), e759]
        exact ⟨_, M2, N2, rfl, rfl, rel⟩
      · rw [if_neg hq, if_neg hq]
        by_cases hs : 0 ≤ q ∧ q < N 802 0
        · rw [if_pos hs, if_pos n1, if_pos n1, a1', Option.bind_some, e10, b1, Option.bind_some, if_pos hq, c1', Option.bind_some]
          dsimp only
          rw [d1', Option.bind_some]
          dsimp only
          rw [if_pos hq]
          obtain ⟨st, hst⟩ : ∃ st : Nat, q = st := ⟨q.toNat, by omega⟩
          subst hst
          have ps : 2 ^ st ≤ 256 := Nat.le_trans (Nat.pow_le_pow_right (by omega) (show st ≤ 8 by omega)) (by decide)
          have ps1 : 0 < 2 ^ st := Nat.two_pow_pos _
          rw [p_shl1 (by omega), p_wI (by omega) (by omega), show ((2 ^ st : Nat) : Int) - 1 = ((2 ^ st - 1 : Nat) : Int) by omega, p_and (by omega) (by omega), p_bits (Nat.lt_of_le_of_lt Nat.and_le_left (by omega)) (by omega), cB_mask (by omega) (by omega), Option.bind_some]
          -- the class follows its ends
          cases l with
          | nil => have : 0 = n := l1; omega
          | cons x l =>
            have fo : M2 761 ((0 : Nat) : Int) = x := l4.1
            have fo' : M2 761 0 = x := fo
            have up := l_unionOf (M := M2) (p := st) (n := n) (by omega) n9 20 nA 0 x l (by omega) (by omega) (by have := l1.1; omega) (pPath_le l x l1.2) l1.2 l4.2
            have cu := pCut_upTo (s := t) (p := st) (n - 1) 0 (by omega) (by omega)
            have c0 : cB t 0 = 0 := rfl
            rw [show n - 1 + 1 = n by omega, ← el] at cu
            have up' : f_X8_unionOf_L12 nA st 0 x 0 M2 = some ((0 + (x :: l).countP (fun y => decide (y ≤ st)) : Nat) : Int) := up
            unfold f_X8_unionOf
            rw [fo', up', Option.bind_some, Option.bind_some, show 0 + (x :: l).countP (fun y => decide (y ≤ st)) = cB t st by omega]
            exact ⟨_, M2, N2, rfl, rfl, rel⟩
        · rw [if_neg hs, if_neg n0, if_neg n0]
          exact ⟨_, M, N, rfl, rfl, h⟩
  · rw [if_neg hp, if_pos rfl, if_pos rfl]
    exact ⟨_, M, N, rfl, rfl, h⟩
