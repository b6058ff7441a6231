set_option linter.unusedVariables false
set_option linter.unusedSimpArgs false
theorem p_iDiv {a b : Int} (h : 0 ≤ a) (h2 : a ≤ 2147483647) (h3 : 0 < b) : iDiv a b = a / b := by
  unfold iDiv
  rw [Int.tdiv_eq_ediv_of_nonneg h]
  have h4 : 0 ≤ a / b := Int.ediv_nonneg h (by omega)
  have h5 : a / b ≤ a := Int.ediv_le_self b h
  exact p_wI (by omega) (by omega)
theorem p_iRem {a b : Int} (h : 0 ≤ a) : iRem a b = a % b := Int.tmod_eq_emod_of_nonneg h
theorem p_shown {N : Mem} : f_X12_shown N = min (N 802 12) 40 := by unfold f_X12_shown; split <;> omega
theorem s_book {M N : Mem} {p q : Int} (h : pRel M N) : ∃ v, f_X11_book p q M = some v ∧ f_X12_book p q N = some v := by
  have h1 := pR_num h
  have hb : ∀ i, 0 ≤ i → i < min (N 802 12) 40 → pPg (M 13 i) (N 802 (2106 + (N 802 12 - min (N 802 12) 40 + i) % 8500)) := h.1.2.2.2.1.2.2
  clear h
  unfold f_X11_book f_X12_book
  rw [p_shown, p_isB, p_isIn]
  by_cases hp : p = -1
  · subst hp
    rw [if_neg (by decide), if_neg (by decide), h1.2.2.2.2.2.2.1]
    exact ⟨_, rfl, rfl⟩
  · rw [if_pos hp, if_pos hp]
    have hw : wI (M 3 15 - 1) = min (N 802 12) 40 - 1 := by rw [h1.2.2.2.2.2.2.1]; exact p_wI (by omega) (by omega)
    have hw2 : wI (min (N 802 12) 40 - 1) = min (N 802 12) 40 - 1 := p_wI (by omega) (by omega)
    rw [hw, hw2]
    by_cases hi : 0 ≤ p ∧ p ≤ min (N 802 12) 40 - 1
    · obtain ⟨g1, g2, g3, g4, g5⟩ := hb p hi.1 (by omega)
      rw [if_pos hi, if_pos (show (1 : Int) ≠ 0 by decide), if_pos (show (1 : Int) ≠ 0 by decide)]
      rw [p_wI (x := N 802 12 - min (N 802 12) 40) (by omega) (by omega), p_wI (x := N 802 12 - min (N 802 12) 40 + p) (by omega) (by omega), p_iRem (a := N 802 12 - min (N 802 12) 40 + p) (by omega), p_wI (x := 2106 + (N 802 12 - min (N 802 12) 40 + p) % 8500) (by omega) (by omega), p_ck (by omega)]
      simp only [p_ck (show 0 ≤ p ∧ p < 40 by omega), p_lt, g5]
      have d1 : iDiv (M 13 p) 100 = M 13 p / 100 := p_iDiv g1 (by omega) (by omega)
      have d2 : iDiv (M 13 p) 10 = M 13 p / 10 := p_iDiv g1 (by omega) (by omega)
      have d3 : iRem (M 13 p / 10) 10 = M 13 p / 10 % 10 := p_iRem (by omega)
      have d4 : iRem (M 13 p) 10 = M 13 p % 10 := p_iRem (by omega)
      rw [d1, d2, d3, d4, p_iDiv (b := 9) (by omega) (by omega) (by omega), p_iDiv (b := 63) (by omega) (by omega) (by omega), p_iRem (b := 7) (by omega), p_iRem (b := 9) (by omega)]
      have k1 : ((M 13 p / 100 * 7 + M 13 p / 10 % 10) * 9 + M 13 p % 10) / 63 = M 13 p / 100 := by omega
      have k2 : ((M 13 p / 100 * 7 + M 13 p / 10 % 10) * 9 + M 13 p % 10) / 9 % 7 = M 13 p / 10 % 10 := by omega
      have k3 : ((M 13 p / 100 * 7 + M 13 p / 10 % 10) * 9 + M 13 p % 10) % 9 = M 13 p % 10 := by omega
      rw [k1, k2, k3]
      by_cases q0 : q = 0
      · rw [if_pos q0, if_neg (by omega)]
        exact ⟨_, rfl, p_ck (by omega)⟩
      · by_cases q1 : q = 1
        · rw [if_neg q0, if_pos q1, if_pos q0, if_neg (by omega)]
          exact ⟨_, rfl, p_ck (by omega)⟩
        · by_cases q2 : q = 2
          · rw [if_neg q0, if_neg q1, if_pos q2, if_pos q0, if_pos q1, if_neg (by omega)]
            exact ⟨_, rfl, p_ck (by omega)⟩
          · rw [if_neg q0, if_neg q1, if_neg q2, if_pos q0, if_pos q1, if_pos q2]
            exact ⟨_, rfl, p_ck (by omega)⟩
    · rw [if_neg hi]
      refine ⟨-2, ?_, ?_⟩ <;> simp
/-! views that say the same -/
def pSame (E D : pDv) : Prop := (E 0 0 = D 0 0 ∧ E 1 0 = D 1 0 ∧ E 2 0 = D 2 0 ∧ E 3 0 = D 3 0 ∧ E 4 0 = D 4 0 ∧ E 5 0 = D 5 0 ∧ E 6 0 = D 6 0)
  ∧ (∀ i, 0 ≤ i → i < D 0 0 → E 7 i = D 7 i ∧ E 8 i = D 8 i ∧ E 9 i = D 9 i ∧ E 10 i = D 10 i ∧ E 14 i = D 14 i)
  ∧ (∀ i, 0 ≤ i → i < D 1 0 → E 11 i = D 11 i ∧ E 12 i = D 12 i ∧ E 13 i = D 13 i ∧ E 15 i = D 15 i)
theorem pOK_same {H : Int} {E D : pDv} (e : pSame E D) (h : pOK H D) : pOK H E := by
  obtain ⟨⟨e0, e1, e2, e3, e4, e5, e6⟩, f, g⟩ := e
  obtain ⟨a0, a1, a2, a3, a4, a5, a6, a7, a8⟩ := h
  refine ⟨by rw [e0]; exact a0, by rw [e1]; exact a1, by rw [e2]; exact a2, by rw [e3]; exact a3, by rw [e4]; exact a4, by rw [e5]; exact a5, by rw [e6, e2]; exact a6, fun i h0 h1 => ?_, fun i h0 h1 => ?_⟩
  · rw [e0] at h1
    obtain ⟨p, q, r, s, t⟩ := f i h0 h1
    rw [p, q, r, s, t]
    exact a7 i h0 h1
  · rw [e1] at h1
    obtain ⟨p, q, r, s⟩ := g i h0 h1
    rw [p, q, r, s, e0]
    exact a8 i h0 h1
theorem pEq_same {V E D : pDv} (e : pSame E D) (h : pEq V D) : pEq V E := by
  obtain ⟨⟨e0, e1, e2, e3, e4, e5, e6⟩, f, g⟩ := e
  obtain ⟨a0, a1, a2, a3, a4, a5, a6, a7⟩ := h
  refine ⟨by rw [e0]; exact a0, by rw [e1]; exact a1, by rw [e2]; exact a2, by rw [e3]; exact a3, by rw [e4]; exact a4, by rw [e5]; exact a5, fun i h0 h1 => ?_, fun i h0 h1 => ?_⟩
  · rw [e0] at h1
    obtain ⟨p, q, r, s, t⟩ := f i h0 h1
    rw [p, q, r, s]
    exact a6 i h0 h1
  · rw [e1] at h1
    obtain ⟨p, q, r, s⟩ := g i h0 h1
    rw [p, q, r]
    exact a7 i h0 h1
theorem pEqS_same {V E D : pDv} (e : pSame E D) (h : pEqS V D) : pEqS V E := by
  obtain ⟨⟨e0, e1, e2, e3, e4, e5, e6⟩, f, g⟩ := e
  refine ⟨fun i h0 h1 => ?_, fun i h0 h1 => ?_⟩
  · rw [e0] at h1
    rw [(f i h0 h1).2.2.2.2]
    exact h.1 i h0 h1
  · rw [e1] at h1
    rw [(g i h0 h1).2.2.2]
    exact h.2 i h0 h1
theorem pSame_A {A A' : Int → Int} (hn : 0 ≤ A 0 ∧ A 0 ≤ 9) (hs : 0 ≤ A 1 ∧ A 1 ≤ 7) (h : ∀ i, (0 ≤ i ∧ i ≤ 1) ∨ (8 ≤ i ∧ i ≤ 12) ∨ (16 ≤ i ∧ i < 130) → A' i = A i) : pSame (pvA A') (pvA A) := by
  refine ⟨⟨h _ (by omega), h _ (by omega), h _ (by omega), h _ (by omega), h _ (by omega), h _ (by omega), h _ (by omega)⟩, fun i h0 h1 => ?_, fun i h0 h1 => ?_⟩
  · change i < A 0 at h1
    exact ⟨h _ (by omega), h _ (by omega), h _ (by omega), h _ (by omega), h _ (by omega)⟩
  · change i < A 1 at h1
    exact ⟨h _ (by omega), h _ (by omega), h _ (by omega), h _ (by omega)⟩
theorem pSame_R {A A' : Int → Int} {x : Int} (hx : 186 ≤ x) (hx2 : x + 64 ≤ 2106) (hn : 0 ≤ A x ∧ A x ≤ 9) (hs : 0 ≤ A (x + 1) ∧ A (x + 1) ≤ 7) (h : ∀ i, (16 ≤ i ∧ i < 130) ∨ (186 ≤ i ∧ i < 2106) → A' i = A i) : pSame (pvR A' x) (pvR A x) := by
  refine ⟨⟨h _ (by omega), h _ (by omega), h _ (by omega), h _ (by omega), h _ (by omega), h _ (by omega), h _ (by omega)⟩, fun i h0 h1 => ?_, fun i h0 h1 => ?_⟩
  · change i < A x at h1
    exact ⟨h _ (by omega), h _ (by omega), h _ (by omega), h _ (by omega), h _ (by omega)⟩
  · change i < A (x + 1) at h1
    exact ⟨h _ (by omega), h _ (by omega), h _ (by omega), h _ (by omega)⟩
theorem pNext_same {A A' : Int → Int} {D D' E E' : pDv} (d : pSame D' D) (e : pSame E' E) (hE : E 0 0 ≤ 9 ∧ E 1 0 ≤ 7) (hD : 0 ≤ D 0 0 ∧ 0 ≤ D 1 0) (h : ∀ i, 16 ≤ i → i < 130 → A' i = A i) (hb : pNext A D E) : pNext A' D' E' := by
  obtain ⟨⟨d0, d1, d2, d3, d4, d5, d6⟩, df, dg⟩ := d
  obtain ⟨⟨e0, e1, e2, e3, e4, e5, e6⟩, ef, eg⟩ := e
  obtain ⟨b1, b2, b3, b4, b5, b6⟩ := hb
  refine ⟨by omega, by omega, by omega, by omega, fun i h0 h1 => ?_, fun i h0 h1 => ?_⟩
  · obtain ⟨p, q, r, s, t⟩ := ef i (by omega) (by omega)
    rw [p, q, r, s, h _ (by omega) (by omega), h _ (by omega) (by omega), h _ (by omega) (by omega)]
    exact b5 i (by omega) (by omega)
  · obtain ⟨p, q, r, s⟩ := eg i (by omega) (by omega)
    rw [p, q, r, h _ (by omega) (by omega), h _ (by omega) (by omega)]
    exact b6 i (by omega) (by omega)
/-- the acts, where the reference's array keeps what they speak of -/
theorem pActs_A {M : Mem} {w : Int} {A A' : Int → Int} (h4 : A' 4 = A 4) (h : ∀ i, (0 ≤ i ∧ i ≤ 1) ∨ (8 ≤ i ∧ i ≤ 12) ∨ (16 ≤ i ∧ i < 130) ∨ 186 ≤ i → A' i = A i) (hA : pOK 9999 (pvA A)) (hb : pActs M w A) : pActs M w A' := by
  obtain ⟨a1, a2, a3, a4, a5, a6⟩ := hb
  have sR : ∀ j, 0 ≤ j → j < A 4 → pSame (pvR A' (186 + 64 * j)) (pvR A (186 + 64 * j)) := fun j h0 h1 => pSame_R (by omega) (by omega) (a4 j h0 h1).1.1 (a4 j h0 h1).1.2.1 (fun i hi => h i (by omega))
  have sA : pSame (pvA A') (pvA A) := pSame_A hA.1 hA.2.1 (fun i hi => h i (by omega))
  refine ⟨a1, by rw [h4]; exact a2, by rw [h4]; exact a3, fun j h0 h1 => ?_, fun j h0 h1 => ?_, fun h0 => ?_⟩
  · rw [h4] at h1
    obtain ⟨b1, b2, b3⟩ := a4 j h0 h1
    have e : pActAt M w A' j = pActAt M w A j := by unfold pActAt; rw [h4]
    refine ⟨pOK_same (sR j h0 h1) b1, by rw [e]; exact pEq_same (sR j h0 h1) b2, ?_⟩
    rw [e, h (186 + 64 * j + 6) (by omega)]
    exact pBook_same (fun _ _ _ _ => rfl) (fun i hi => h i (by omega)) b3
  · rw [h4] at h1
    have q1 := a4 j h0 (by omega)
    have q2 := a4 (j + 1) (by omega) h1
    exact pNext_same (sR j h0 (by omega)) (sR (j + 1) (by omega) h1) ⟨q2.1.1.2, q2.1.2.1.2⟩ ⟨q1.1.1.1, q1.1.2.1.1⟩ (fun i i0 i1 => h i (by omega)) (a5 j h0 h1)
  · rw [h4] at h0
    rw [h4]
    have q1 := a4 (A 4 - 1) (by omega) (by omega)
    exact pNext_same (sR (A 4 - 1) (by omega) (by omega)) sA ⟨hA.1.2, hA.2.1.2⟩ ⟨q1.1.1.1, q1.1.2.1.1⟩ (fun i i0 i1 => h i (by omega)) (a6 h0)
/-! told words -/
theorem pWhole_told {M M' : Mem} {w : Int} {A A' : Int → Int} (hM : ∀ x, w ≤ x → x < w + 344 → ∀ i, M' x i = M x i) (hA : ∀ i, ¬ (5 ≤ i ∧ i ≤ 7) → ¬ (130 ≤ i ∧ i < 186) → A' i = A i) (hb : pWhole M w A) (ht : pTold M' (w + 344) A') : pWhole M' w A' := by
  obtain ⟨a1, a2, a3, a4, a5, a6, a7, a8, a9, a10⟩ := hb
  have e1 : pvM M' (w + 1) = pvM M (w + 1) := pvM_same (fun x h0 h1 => hM x (by omega) (by omega))
  have sA : pSame (pvA A') (pvA A) := pSame_A a1.1 a1.2.1 (fun i hi => hA i (by omega) (by omega))
  refine ⟨pOK_same sA a1, by rw [e1]; exact pEq_same sA a2, by rw [e1]; exact pEqS_same sA a3, ?_, ?_, ht, ?_, ?_, ?_, ?_⟩
  · rw [hA 12 (by omega) (by omega)]
    exact pBook_same (fun x h0 h1 => hM x (by omega) (by omega)) (fun i hi => hA i (by omega) (by omega)) a4
  · exact pActs_same (M := M) (fun x h0 h1 => hM x (by omega) (by omega)) (pActs_A (hA 4 (by omega) (by omega)) (fun i hi => hA i (by omega) (by omega)) a1 a5)
  · rw [hA 2 (by omega) (by omega), hM w (by omega) (by omega)]; exact a7
  · rw [hA 2 (by omega) (by omega)]; exact a8
  · rw [hA 3 (by omega) (by omega), hM w (by omega) (by omega)]; exact a9
  · rw [hA 3 (by omega) (by omega), hA 2 (by omega) (by omega)]; exact a10
