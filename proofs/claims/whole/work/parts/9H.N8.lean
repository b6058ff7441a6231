set_option linter.unusedVariables false
set_option linter.unusedSimpArgs false
/-! text: the class writes what waits on the reference's pile; minus -/
theorem l_wait {M N : Mem} {c x l p f nn b n2 b2 : Int} (hc : pCx c x) (h : pPs M N c x l (p + 1)) (h0 : 0 ≤ p) (ho : isOp (N 806 p)) (hw : pWf (oX N x) (uX N x) f (M c 3) nn b) (hf : f ≤ M c 3) (n0 : 0 ≤ nn) (b0 : 0 ≤ b) (hst : pStep (N 806 p) 0 nn b n2 b2) :
    ∃ M', f_X6_addCode c (pOp (N 806 p) 0) 0 M = some M' ∧ pPs M' N c x l p ∧ fPM c M M' ∧ M' c 3 = M c 3 + 1 ∧ pWf (oX N x) (uX N x) f (M' c 3) n2 b2 ∧ (∀ j, M' 703 j = M 703 j) := by
  obtain ⟨tp, tok, ⟨hc1, hx1⟩, ⟨⟨k1, k2, k3, k4⟩, k5, k6⟩, few, top⟩ := h
  obtain ⟨x1, x2, x3, x4, x5⟩ := hc
  have l300 := tp.2.2.2.1
  have t8 := tok.2.2.2.2.2.1
  have A := l_addC (o := pOp (N 806 p) 0) (v := 0) x2 (rfl : M c 3 = M c 3) (by omega)
  have g : ∀ y j, ¬ (y = c + 3 ∧ j = M c 3) → ¬ (y = c + 4 ∧ j = M c 3) → ¬ (y = c ∧ j = 3) → upM (upM (upM M (c + 3) (M c 3) (pOp (N 806 p) 0)) (c + 4) (M c 3) 0) c 3 (M c 3 + 1) y j = M y j := fun y j a b d => by rw [up_ne d, up_ne b, up_ne a]
  have eo : oX N x (M c 3) = N 806 p ∧ uX N x (M c 3) = 0 := by
    unfold oX uX
    rw [if_neg (by omega), if_neg (by omega), k1, show N 801 16 - 1 - (N 801 13 + (N 801 16 - (p + 1)) - N 801 13) = p by omega]
    exact ⟨rfl, rfl⟩
  refine ⟨_, A, ⟨⟨?_, tp.2.1, tp.2.2.1, tp.2.2.2.1, fun i i0 i1 => ?_⟩, ?_, ⟨?_, hx1⟩, ⟨⟨?_, k2, h0, by omega⟩, fun j j0 j1 => ?_, fun t t0 t1 => ?_⟩, few, top⟩, fun y j z1 z2 z3 => ?_, up_eq, ?_, fun j => ?_⟩
  · rw [g _ _ (by omega) (by omega) (by omega)]; exact tp.1
  · rw [g _ _ (by omega) (by omega) (by omega)]; exact tp.2.2.2.2 i i0 i1
  · unfold pTok at *
    rw [g 703 5 (by omega) (by omega) (by omega), g 703 6 (by omega) (by omega) (by omega), g 703 7 (by omega) (by omega) (by omega), g 703 8 (by omega) (by omega) (by omega)]
    exact tok
  · rw [g _ _ (by omega) (by omega) (by omega)]; exact hc1
  · rw [up_eq]; omega
  · rw [g _ _ (by omega) (by omega) (by omega), g _ _ (by omega) (by omega) (by omega)]
    exact k5 j j0 j1
  · by_cases z : t = N 801 16 - (p + 1)
    · rw [show N 801 13 + t = M c 3 by omega, up_nex (by omega), up_nex (by omega), up_eq, show N 801 16 - 1 - t = p by omega]
    · rw [g _ _ (by omega) (by omega) (by omega)]
      exact k6 t t0 (by omega)
  · rw [up_ne (by omega), up_ne (by omega), up_ne (by omega)]
  · rw [up_eq]
    exact pWf_one hw hf n0 b0 (by rw [eo.1, eo.2]; exact hst)
  · exact g _ _ (by omega) (by omega) (by omega)
/-- one, or a failure -/
def okOne (nA m sel : Nat) (D a c x l : Int) : Prop := ∀ (M N : Mem) (p d nn b f : Int), qPre a c x l p d nn b f M N → D ≤ d → p ≤ 5 + 3 * d → (M 703 6 ≠ 154 ∨ noNot N) → ∃ v M', f_rd nA m sel d 0 M = some (v, M') ∧ ((v = 1 ∧ qOne a c x l p d nn b f M N M') ∨ (v = 0 ∧ qFail a c x M N M'))
/-- what begins with a minus: on the pile it waits at p -/
def okMin (nA m : Nat) (D a c x l : Int) : Prop := ∀ (M N : Mem) (p d nn b f : Int), qPre a c x l (p + 1) (d + 1) nn b f M N → D ≤ d + 1 → 0 ≤ p → 0 ≤ d → p ≤ 5 + 3 * d → nn + b ≤ p → N 806 p = 4 → ∃ v M', f_rd nA m 3 (d + 1) 0 M = some (v, M') ∧ ((v = 1 ∧ qOne a c x l p d nn b f M N M') ∨ (v = 0 ∧ qFail a c x M N M'))
theorem noNot_top {N : Mem} (h0 : 0 < N 801 16) (h1 : N 801 16 ≤ 159) (hr : ¬ (1 ≤ f_X12_rank (N 806 (N 801 16 - 1)) ∧ f_X12_rank (N 806 (N 801 16 - 1)) ≤ 3)) (ho : ∀ n, 400 ≤ n → ∃ v, f_X12_isAskHere n N = some v) : noNot N := by
  intro n hn
  obtain ⟨v, hv⟩ := ho n hn
  unfold f_X12_isAskAhead
  rw [hv, Option.bind_some]
  by_cases c : v = 0
  · rw [if_pos c]
  · rw [if_neg c, if_neg (show ¬ N 801 16 = 0 by omega), p_wI (by omega) (by omega), p_ck (by omega), p_isIn, if_neg hr, if_pos rfl]
theorem l_isOpen7 {N : Mem} (h1 : N 801 16 ≤ 159) : ∀ (k n : Nat) (i : Int), i < k → k + 1 ≤ n → -1 ≤ i → i < N 801 16 → ∃ v, f_X12_isOpen_L7 n i N = some v ∧ ((v = -1 ∧ ∀ j, 0 ≤ j → j ≤ i → N 806 j < 40) ∨ (0 ≤ v ∧ v ≤ i ∧ 40 ≤ N 806 v)) := by
  intro k
  induction k with
  | zero =>
    intro n i g0 g1 g2 g3
    obtain ⟨n, rfl⟩ : ∃ n', n = n' + 1 := ⟨n - 1, by omega⟩
    rw [f_X12_isOpen_L7, if_pos (by omega)]
    exact ⟨i, rfl, Or.inl ⟨by omega, fun j a b => by omega⟩⟩
  | succ k ih =>
    intro n i g0 g1 g2 g3
    obtain ⟨n, rfl⟩ : ∃ n', n = n' + 1 := ⟨n - 1, by omega⟩
    rw [f_X12_isOpen_L7]
    by_cases c : i < 0
    · rw [if_pos c]
      exact ⟨i, rfl, Or.inl ⟨by omega, fun j a b => by omega⟩⟩
    · rw [if_neg c, p_ck (by omega), p_wI (x := i + (-1)) (by omega) (by omega)]
      by_cases d : 40 ≤ N 806 i
      · rw [if_pos d]
        exact ⟨i, rfl, Or.inr ⟨by omega, Int.le_refl _, d⟩⟩
      · rw [if_neg d]
        obtain ⟨v, v1, v2⟩ := ih n (i + (-1)) (by omega) (by omega) (by omega) (by omega)
        refine ⟨v, v1, ?_⟩
        rcases v2 with ⟨a, b⟩ | ⟨a, b, e⟩
        · refine Or.inl ⟨a, fun j j0 j1 => ?_⟩
          by_cases z : j = i
          · subst z; omega
          · exact b j j0 (by omega)
        · exact Or.inr ⟨a, by omega, e⟩
/-- is a bracket open -/
def pOpen (N : Mem) : Prop := ∃ j, 0 ≤ j ∧ j < N 801 16 ∧ 40 ≤ N 806 j
theorem l_isOpen {N : Mem} (h0 : 0 ≤ N 801 16) (h1 : N 801 16 ≤ 159) : ∃ v, (∀ n, 200 ≤ n → f_X12_isOpen n N = some v) ∧ ((v = 1 ∧ pOpen N) ∨ (v = 0 ∧ ¬ pOpen N)) := by
  have run : ∀ n, 200 ≤ n → ∃ v, f_X12_isOpen n N = some v ∧ ((v = 1 ∧ pOpen N) ∨ (v = 0 ∧ ¬ pOpen N)) := by
    intro n hn
    obtain ⟨v, v1, v2⟩ := l_isOpen7 h1 170 n (N 801 16 - 1) (by omega) (by omega) (by omega) (by omega)
    unfold f_X12_isOpen f_X12_isOpen_J28
    rw [p_wI (x := N 801 16 - 1) (by omega) (by omega), v1, Option.bind_some]
    rcases v2 with ⟨a, b⟩ | ⟨a, b, e⟩
    · rw [if_pos (by omega)]
      exact ⟨0, rfl, Or.inr ⟨rfl, fun ⟨j, j0, j1, j2⟩ => by have := b j j0 (by omega); omega⟩⟩
    · rw [if_neg (by omega)]
      exact ⟨1, rfl, Or.inl ⟨rfl, v, a, by omega, e⟩⟩
  obtain ⟨v, v1, v2⟩ := run 200 (Nat.le_refl _)
  refine ⟨v, fun n hn => ?_, v2⟩
  obtain ⟨u, u1, u2⟩ := run n hn
  rw [u1]
  congr 1
  rcases v2 with ⟨a, b⟩ | ⟨a, b⟩ <;> rcases u2 with ⟨e, g⟩ | ⟨e, g⟩
  · omega
  · exact absurd b g
  · exact absurd g b
  · omega
theorem l_askHere {N : Mem} (h0 : 0 ≤ N 801 16) (h1 : N 801 16 ≤ 159) : ∃ v, (∀ n, 200 ≤ n → f_X12_isAskHere n N = some v) ∧ ((v = 1 ∧ N 801 19 ≠ 0 ∧ ¬ pOpen N) ∨ (v = 0 ∧ (N 801 19 = 0 ∨ pOpen N))) := by
  obtain ⟨v, v1, v2⟩ := l_isOpen h0 h1
  by_cases c : N 801 19 = 0
  · exact ⟨0, fun n hn => by unfold f_X12_isAskHere; rw [if_pos c], Or.inr ⟨rfl, Or.inl c⟩⟩
  · rcases v2 with ⟨a, b⟩ | ⟨a, b⟩
    · exact ⟨0, fun n hn => by unfold f_X12_isAskHere; rw [if_neg c, v1 n hn, Option.bind_some, if_pos (by omega)], Or.inr ⟨rfl, Or.inr b⟩⟩
    · exact ⟨1, fun n hn => by unfold f_X12_isAskHere; rw [if_neg c, v1 n hn, Option.bind_some, if_neg (by omega)], Or.inl ⟨rfl, c, b⟩⟩
theorem noNot_of {N : Mem} (h0 : 0 < N 801 16) (h1 : N 801 16 ≤ 159) (hr : ¬ (1 ≤ f_X12_rank (N 806 (N 801 16 - 1)) ∧ f_X12_rank (N 806 (N 801 16 - 1)) ≤ 3)) : noNot N := by
  obtain ⟨v, v1, -⟩ := l_askHere (by omega) h1
  exact noNot_top h0 h1 hr (fun n hn => ⟨v, v1 n (by omega)⟩)
/-- behind a minus -/
theorem l_minus {nA m : Nat} {D a c x l : Int} (hc : pCx c x) (R : okOne nA m 2 D a c x l) : okMin nA (m + 1) D a c x l := by
  intro M N p d nn b f hq hD p0 d0 p1 nb h4
  have hq' := hq
  obtain ⟨q1, q2, q3, q4, q5, q6, q7, q8, q9⟩ := hq
  have top := q1.2.2.2.2.2
  obtain ⟨v, M1, r1, r2⟩ := R M N (p + 1) (d + 1) nn b f hq' hD (by omega) (Or.inr (noNot_of (by omega) (by omega) (by rw [q2, show p + 1 - 1 = p by omega, h4]; decide)))
  show ∃ v M', b_X4_readMinus nA (f_rd nA m) (d + 1) M = some (v, M') ∧ _
  unfold b_X4_readMinus
  rw [r1, Option.bind_some]
  rcases r2 with ⟨v1, N3, k, s1, s2, s3, s4, s5, s6, s7, s8, s9⟩ | ⟨v0, s⟩
  · rw [if_pos (show (v, M1).1 ≠ 0 from by show v ≠ 0; omega)]
    have e4 : N3 806 p = 4 := by rw [s7.2.2.1 p (by omega)]; exact h4
    have cM : M1 0 1 = c := s2.2.2.1.1
    have fl : f ≤ M1 c 3 := by
      have := s2.2.2.2.1.1
      have := q1.2.2.2.1.1
      have := s7.2.2.2.1
      omega
    obtain ⟨M2, w1, w2, w3, w4, w5, w6⟩ := l_wait hc s2 p0 (by rw [e4]; unfold isOp; omega) s8 fl (by omega) q8.2.1 (by rw [e4]; exact Or.inr (Or.inr (Or.inr (Or.inl ⟨rfl, by omega, rfl, rfl⟩))))
    obtain ⟨N4, g1, g2, g3, g4, g5, g6, g7, g8, g9⟩ := l_pop (r := 7) hc w2 (by omega) (by rw [s3, show p + 1 - 1 = p by omega, e4]; unfold isOp; omega) (by rw [s3, show p + 1 - 1 = p by omega, e4]; decide) (by omega)
    rw [show pOp (N3 806 p) 0 = 6 by rw [e4]; decide] at w1
    show ∃ v M', ck (isTx (M1 0 1)) ((f_X6_addCode (M1 0 1) 6 0 M1).bind fun q4 => some (1, q4)) = some (v, M') ∧ _
    rw [cM, p_ck hc.1, w1, Option.bind_some]
    refine ⟨1, M2, rfl, Or.inl ⟨rfl, N4, k, fun N5 hs n hn => ?_, g2, by omega, ?_, by rw [g7]; exact s5, fPM_trans s6 w3, ?_, ?_, ?_⟩⟩
    · obtain ⟨g, gg, hs⟩ := hs
      refine s1 N5 ⟨g + 1, by omega, fun n hn => ?_⟩ n hn
      obtain ⟨n, rfl⟩ : ∃ n', n = n' + 1 := ⟨n - 1, by omega⟩
      have := hs n (by omega)
      unfold f_X12_settle at this ⊢
      rw [g1]
      exact this
    · rw [g6, s3, show p + 1 - 1 = p by omega, e4, if_pos (Or.inl rfl), s4]; omega
    · exact fPN_trans (Int.le_refl _) ⟨s7.1, s7.2.1, fun j hj => s7.2.2.1 j (by omega), s7.2.2.2.1, s7.2.2.2.2⟩ g3
    · exact pWf_same w5 (fun j j0 j1 => g9 j j1)
    · have := g3.2.2.2.2
      omega
  · rw [if_neg (show ¬ (v, M1).1 ≠ 0 from fun z => z v0)]
    exact ⟨0, M1, rfl, Or.inr ⟨rfl, s⟩⟩
