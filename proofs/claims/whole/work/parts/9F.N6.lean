set_option linter.unusedVariables false
set_option linter.unusedSimpArgs false
/-! text: one code on both sides -/
theorem pWf_same {o v o' v' : Int → Int} {f t n1 b1 : Int} (h : pWf o v f t n1 b1) (ho : ∀ j, f ≤ j → j < t → o' j = o j ∧ v' j = v j) : pWf o' v' f t n1 b1 := by
  obtain ⟨n, b, h1, h2, h3, h4, h5⟩ := h
  refine ⟨n, b, h1, h2, h3, h4, fun i i0 i1 => ?_⟩
  rw [(ho i i0 i1).1, (ho i i0 i1).2]
  exact h5 i i0 i1
theorem pWf_one {o v : Int → Int} {f t n1 b1 n2 b2 : Int} (h : pWf o v f t n1 b1) (ft : f ≤ t) (n0 : 0 ≤ n1) (b0 : 0 ≤ b1) (s : pStep (o t) (v t) n1 b1 n2 b2) : pWf o v f (t + 1) n2 b2 := by
  obtain ⟨n, b, h1, h2, h3, h4, h5⟩ := h
  refine ⟨fun i => if i ≤ t then n i else n2, fun i => if i ≤ t then b i else b2, (if_pos ft).trans h1, (if_pos ft).trans h2, if_neg (by omega), if_neg (by omega), fun i i0 i1 => ?_⟩
  dsimp only
  by_cases c : i = t
  · subst c
    rw [if_pos (show i ≤ i from Int.le_refl _), if_pos (show i ≤ i from Int.le_refl _), if_neg (show ¬ i + 1 ≤ i by omega), if_neg (show ¬ i + 1 ≤ i by omega), h3, h4]
    exact ⟨s, n0, b0⟩
  · rw [if_pos (by omega), if_pos (by omega), if_pos (by omega), if_pos (by omega)]
    exact h5 i i0 (by omega)
/-- a code of its own: written by both, nothing waits above p -/
theorem l_cod1 {M N : Mem} {c x l p op arg o v : Int} (hc : pCx c x) (h : pPs M N c x l p) (hq : N 801 16 = p) (hcd : pCd op arg o v) (hne : N 801 9 ≠ 0) {nA : Nat} (hA : 700 ≤ nA) :
    ∃ M1 M' N1 N2, f_X6_addCode c op arg M = some M1 ∧ f_X4_advance nA M1 = some M' ∧ f_X12_emit o v N = some N1 ∧ (∀ n, 700 ≤ n → f_X12_nextToken n N1 = some N2) ∧ pPs M' (upM N2 801 18 1) c x l p ∧ fPM c M M' ∧ fPN x p N (upM N2 801 18 1) ∧ N 801 8 + 1 ≤ N2 801 8
      ∧ N2 801 16 = p ∧ N2 801 17 = N 801 17 ∧ N2 801 13 = N 801 13 + 1 ∧ (∀ j, N2 806 j = N 806 j) ∧ (∀ j, j < M c 3 → oX (upM N2 801 18 1) x j = oX N x j ∧ uX (upM N2 801 18 1) x j = uX N x j) ∧ oX (upM N2 801 18 1) x (M c 3) = o ∧ uX (upM N2 801 18 1) x (M c 3) = v ∧ M' c 3 = M c 3 + 1 := by
  have hh := h
  obtain ⟨tp, tok, ⟨hc1, hx1⟩, ⟨⟨k1, k2, k3, k4⟩, k5, k6⟩, few, top⟩ := h
  have hcx := hc
  obtain ⟨x1, x2, x3, x4, x5⟩ := hc
  have l300 := tp.2.2.2.1
  have tl := tok.2.2.1
  have t8 := tok.2.2.2.2.2.2.2.2 hne
  generalize hk : N 801 13 = k at *
  have kc : M c 3 = k := by omega
  have A : f_X6_addCode c op arg M = some (upM (upM (upM M (c + 3) k op) (c + 4) k arg) c 3 (k + 1)) := l_addC x2 kc (by omega)
  have E : f_X12_emit o v N = some (upM (upM (upM N 804 (x + 121 + 2 * k) o) 804 (x + 122 + 2 * k) v) 801 13 (k + 1)) := l_emit hx1 ⟨x4, x5⟩ hk (by omega)
  generalize hMA : upM (upM (upM M (c + 3) k op) (c + 4) k arg) c 3 (k + 1) = MA at *
  generalize hNE : upM (upM (upM N 804 (x + 121 + 2 * k) o) 804 (x + 122 + 2 * k) v) 801 13 (k + 1) = NE at *
  have gM : ∀ y j, ¬ (y = c + 3 ∧ j = k) → ¬ (y = c + 4 ∧ j = k) → ¬ (y = c ∧ j = 3) → MA y j = M y j := fun y j a b d => by rw [← hMA, up_ne d, up_ne b, up_ne a]
  have gN : ∀ y j, ¬ (y = 804 ∧ (j = x + 121 + 2 * k ∨ j = x + 122 + 2 * k)) → ¬ (y = 801 ∧ j = 13) → NE y j = N y j := fun y j a b => by rw [← hNE, up_ne b, up_ne (by omega), up_ne (by omega)]
  have m3 : MA c 3 = k + 1 := by rw [← hMA, up_eq]
  have mo : MA (c + 3) k = op := by rw [← hMA, up_nex (by omega), up_nex (by omega), up_eq]
  have ma : MA (c + 4) k = arg := by rw [← hMA, up_nex (by omega), up_eq]
  have n13 : NE 801 13 = k + 1 := by rw [← hNE, up_eq]
  have no : NE 804 (x + 121 + 2 * k) = o := by rw [← hNE, up_nex (by decide), up_nei (by omega), up_eq]
  have nv : NE 804 (x + 122 + 2 * k) = v := by rw [← hNE, up_nex (by decide), up_eq]
  have tpA : pTp MA NE l := ⟨by rw [gM _ _ (by omega) (by omega) (by omega)]; exact tp.1, by rw [gN _ _ (by omega) (by omega)]; exact tp.2.1, tp.2.2.1, tp.2.2.2.1, fun i i0 i1 => by rw [gM _ _ (by omega) (by omega) (by omega), gN _ _ (by omega) (by omega)]; exact tp.2.2.2.2 i i0 i1⟩
  have tokA : pTok MA NE l := by
    unfold pTok at *
    rw [gM 703 5 (by omega) (by omega) (by omega), gM 703 6 (by omega) (by omega) (by omega), gM 703 7 (by omega) (by omega) (by omega), gM 703 8 (by omega) (by omega) (by omega), gN 801 7 (by omega) (by omega), gN 801 8 (by omega) (by omega), gN 801 9 (by omega) (by omega), gN 801 10 (by omega) (by omega), gN 801 11 (by omega) (by omega)]
    exact tok
  obtain ⟨M', N2, a1, a2, a3, a4, a5, a6, a7⟩ := l_adv0 tpA tokA hA
  have n7 : NE 801 7 = N 801 7 := gN _ _ (by omega) (by omega)
  have e16 : N2 801 16 = p := by rw [a4 _ _ (by omega), gN _ _ (by omega) (by omega)]; exact hq
  have e13 : N2 801 13 = k + 1 := by rw [a4 _ _ (by omega)]; exact n13
  have e806 : ∀ j, N2 806 j = N 806 j := fun j => by rw [a4 _ _ (by omega), gN _ _ (by omega) (by omega)]
  have e804 : ∀ j, N2 804 j = NE 804 j := fun j => a4 _ _ (by omega)
  have f3 : ∀ j, M' (c + 3) j = MA (c + 3) j := fun j => a3 _ _ (by omega)
  have f4 : ∀ j, M' (c + 4) j = MA (c + 4) j := fun j => a3 _ _ (by omega)
  have fc : M' c 3 = k + 1 := by rw [a3 _ _ (by omega)]; exact m3
  refine ⟨MA, M', NE, N2, A, a1, E, a2, ⟨⟨a5.1, by rw [up_nei (by decide)]; exact a5.2.1, a5.2.2.1, a5.2.2.2.1, fun i i0 i1 => by rw [up_nex (by decide)]; exact a5.2.2.2.2 i i0 i1⟩, ?_, ⟨?_, ?_⟩, ⟨⟨?_, ?_, k3, ?_⟩, fun j j0 j1 => ?_, fun t t0 t1 => ?_⟩, ?_, ?_⟩, ?_, ⟨fun y j b1 b2 b3 => ?_, fun j b => ?_, fun j b => ?_, ?_, ?_⟩, ?_, e16, ?_, e13, e806, fun j hj => ?_, ?_, ?_, by omega⟩
  · unfold pTok at *
    simp only [up_nei (M := N2) (x := 801) (i := 18) (v := 1) (j := 7) (by decide), up_nei (M := N2) (x := 801) (i := 18) (v := 1) (j := 8) (by decide), up_nei (M := N2) (x := 801) (i := 18) (v := 1) (j := 9) (by decide), up_nei (M := N2) (x := 801) (i := 18) (v := 1) (j := 10) (by decide), up_nei (M := N2) (x := 801) (i := 18) (v := 1) (j := 11) (by decide)]
    exact a6
  · rw [a3 _ _ (by omega), gM _ _ (by omega) (by omega) (by omega)]; exact hc1
  · rw [up_nei (by decide), a4 _ _ (by omega), gN _ _ (by omega) (by omega)]; exact hx1
  · rw [up_nei (by decide), up_nei (by decide)]; omega
  · rw [up_nei (by decide)]; omega
  · rw [up_nei (by decide)]; omega
  · rw [up_nei (by decide)] at j1
    rw [up_nex (by decide), up_nex (by decide), e804, e804, f3, f4]
    by_cases z : j = k
    · subst z
      rw [mo, ma, no, nv]; exact hcd
    · rw [gM _ _ (by omega) (by omega) (by omega), gM _ _ (by omega) (by omega) (by omega), gN _ _ (by omega) (by omega), gN _ _ (by omega) (by omega)]
      exact k5 j j0 (by omega)
  · rw [up_nei (by decide)] at t1; omega
  · rw [up_nei (by decide), up_nei (by decide), up_nei (by decide)]; omega
  · rw [up_nei (by decide)]; omega
  · intro y j b1 b2 b3
    rw [a3 y j b1, gM y j (by omega) (by omega) b3]
  · rw [up_ne (by omega), a4 y j (by omega), gN y j (by omega) (by omega)]
  · rw [up_nex (by decide), e804, gN _ _ (by omega) (by omega)]
  · rw [up_nex (by decide), e806]
  · rw [up_nei (by decide)]; omega
  · rw [up_nei (by decide)]; omega
  · omega
  · rw [a4 _ _ (by omega), gN _ _ (by omega) (by omega)]
  · unfold oX uX
    rw [up_nei (j := 13) (by decide), up_nei (j := 16) (by decide), up_nex (y := 804) (by decide), up_nex (y := 806) (by decide), up_nex (y := 804) (by decide), e13, hk, if_pos (show j < k + 1 by omega), if_pos (show j < k by omega), if_pos (show j < k + 1 by omega), if_pos (show j < k by omega), e804, e804, gN _ _ (by omega) (by omega), gN _ _ (by omega) (by omega)]
    exact ⟨rfl, rfl⟩
  · unfold oX
    rw [up_nei (by decide), up_nei (by decide), up_nex (by decide), e13, if_pos (by omega), e804, kc]
    exact no
  · unfold uX
    rw [up_nei (by decide), up_nex (by decide), e13, if_pos (by omega), e804, kc]
    exact nv
