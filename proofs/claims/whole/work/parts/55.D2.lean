set_option linter.unusedVariables false
set_option linter.unusedSimpArgs false
theorem s_end {M N : Mem} {p : Int} (h : pRel M N) : ∃ v M' N', f_X11_end p M = (v, M') ∧ f_X12_end p N = (v, N') ∧ pRel M' N' := by
  have h3 := (pR_ctl h).2.2.2.1
  unfold f_X11_end f_X12_end
  rw [p_isB, p_isIn, h3.1]
  by_cases c : 0 ≤ p ∧ p ≤ N 801 4
  · rw [if_pos c]
    simp only [p_lt]
    refine ⟨p, upM M 703 1 p, upM N 801 4 p, by simp, by simp, ?_⟩
    obtain ⟨a1, a2, a3, a4, a5, a6, a7, a8, a9⟩ := h
    have e2 : upM N 801 4 p 802 = N 802 := funext (fun i => up_nex (by omega))
    have e3 : upM N 801 4 p 803 = N 803 := funext (fun i => up_nex (by omega))
    refine ⟨?_, ?_, fun s hs => ?_, fun i i0 i1 => ?_, ?_, ?_, ?_, ?_, ?_⟩
    · rw [e2]; exact pWhole_same (fun x y z q i => up_nex (by omega)) a1
    · rw [e3]; exact pWhole_same (fun x y z q i => up_nex (by omega)) a2
    · have : s ≠ 703 := by rcases hs with r | r | r | ⟨j, r⟩ | ⟨j, r⟩ <;> omega
      rw [up_nex this, up_nex this, up_nex this]
      exact a3 s hs
    · rw [up_nex (by omega)] at i1
      exact pText_same (fun y y0 y1 i => up_nex (by omega)) (fun j _ _ => up_nex (by omega)) (a4 i i0 i1)
    · obtain ⟨b1, b2, b3⟩ := a5
      refine ⟨by rw [up_eq, up_eq], by rw [up_eq]; omega, fun i i0 i1 => ?_⟩
      rw [up_eq] at i1
      rw [up_nex (by omega), up_nex (by omega)]
      exact b3 i i0 (by omega)
    · unfold pFault
      rw [up_nei (by omega), up_nei (by omega), up_nei (by omega), up_nei (by omega)]
      exact a6
    · unfold pRul
      rw [up_nex (by omega), up_nex (by omega)]
      refine ⟨a7.1, fun i i0 i1 => ?_⟩
      rw [up_nex (by omega), up_nex (by omega)]
      exact a7.2 i i0 i1
    · rw [up_nei (by omega)]; exact a8
    · rw [up_nex (by omega), up_nex (by omega)]; exact a9
  · rw [if_neg c]
    exact ⟨-1, M, N, rfl, rfl, h⟩
theorem pWhole_ruling {M M' : Mem} {w t : Int} {A A' : Int → Int} (hM : ∀ x, w < x → x < w + 350 → x ≠ w + 348 → ∀ i, M' x i = M x i) (h3 : M' w 3 = M w 3) (h4 : M' w 4 = t) (hA : ∀ i, i ≠ 3 → A' i = A i) (ht : A' 3 = t) (t0 : -1 ≤ t) (t1 : t < A 2) (hb : pWhole M w A) : pWhole M' w A' := by
  obtain ⟨a1, a2, a3, a4, a5, a6, a7, a8, a9, a10⟩ := hb
  have e1 : pvM M' (w + 1) = pvM M (w + 1) := pvM_same (fun x h0 h1 => hM x (by omega) (by omega) (by omega))
  have sA : pSame (pvA A') (pvA A) := pSame_A a1.1 a1.2.1 (fun i hi => hA i (by omega))
  refine ⟨pOK_same sA a1, by rw [e1]; exact pEq_same sA a2, by rw [e1]; exact pEqS_same sA a3, ?_, ?_, ?_, ?_, ?_, ?_, ?_⟩
  · rw [hA 12 (by omega)]
    exact pBook_same (fun x h0 h1 => hM x (by omega) (by omega) (by omega)) (fun i hi => hA i (by omega)) a4
  · exact pActs_same (M := M) (fun x h0 h1 => hM x (by omega) (by omega) (by omega)) (pActs_A (hA 4 (by omega)) (fun i hi => hA i (by omega)) a1 a5)
  · exact pTold_same (fun x h0 h1 h2 => hM x (by omega) (by omega) (by omega)) (fun i hi => hA i (by omega)) a6
  · rw [hA 2 (by omega), h3]; exact a7
  · rw [hA 2 (by omega)]; exact a8
  · rw [h4, ht]
  · rw [ht, hA 2 (by omega)]; exact ⟨t0, t1⟩
theorem s_by {M N : Mem} {p : Int} (h : pRel M N) : ∃ v M' N', f_X11_by p M = some (v, M') ∧ f_X12_by p N = (v, N') ∧ pRel M' N' := by
  have h2 := (pR_ctl h).2.1
  have h3 := (pR_ctl h).2.2.1
  unfold f_X12_by
  rw [p_isIn, p_wI (x := N 802 2 - 1) (by omega) (by omega)]
  by_cases c : -1 ≤ p ∧ p ≤ N 802 2 - 1
  · rw [if_pos c]
    simp only [p_lt]
    have e : f_X11_by p M = some (1, upM (upM M 2 4 p) 0 0 (if p = -1 then 706 else 773 + 7 * p)) := by
      have e1 : f_X11_by_J15 p M = some (1, upM (upM M 2 4 p) 0 0 (if p = -1 then 706 else 773 + 7 * p)) := by
        unfold f_X11_by_J15 f_X11_chooseRuler f_X11_isText
        simp only [p_lt, up_eq]
        rw [up_nei (by omega), p_isB, p_wI (x := M 2 3 - 1) (by omega) (by omega)]
        by_cases q : p = -1
        · subst q
          rw [if_neg (show ¬ ((0 : Int) ≤ -1 ∧ -1 ≤ M 2 3 - 1) by omega), if_pos rfl, if_pos rfl]
          rfl
        · rw [if_pos (show 0 ≤ p ∧ p ≤ M 2 3 - 1 by omega), if_neg (by decide), p_ck (by omega), if_neg q]
          rfl
      unfold f_X11_by
      by_cases q : p = -1
      · rw [if_pos q]; exact e1
      · rw [if_neg q]
        unfold f_X11_isText
        rw [p_isB, p_wI (x := M 2 3 - 1) (by omega) (by omega), if_pos (show 0 ≤ p ∧ p ≤ M 2 3 - 1 by omega), if_pos (by decide)]
        exact e1
    refine ⟨1, _, _, e, rfl, ?_⟩
    obtain ⟨a1, a2, a3, a4, a5, a6, a7, a8, a9⟩ := h
    have hM : ∀ x, x ≠ 2 → x ≠ 0 → ∀ i, upM (upM M 2 4 p) 0 0 (if p = -1 then 706 else 773 + 7 * p) x i = M x i := fun x x2 x0 i => by rw [up_nex x0, up_nex x2]
    have hM2 : ∀ i, i ≠ 4 → upM (upM M 2 4 p) 0 0 (if p = -1 then 706 else 773 + 7 * p) 2 i = M 2 i := fun i hi => by rw [up_nex (by omega), up_nei hi]
    have e3 : upM N 802 3 p 803 = N 803 := funext (fun i => up_nex (by omega))
    refine ⟨?_, ?_, fun s hs => ?_, fun i i0 i1 => ?_, ?_, ?_, ?_, ?_, ?_⟩
    · exact pWhole_ruling (fun x x0 x1 _ => hM x (by omega) (by omega)) (hM2 3 (by omega)) (by rw [up_nex (by omega), up_eq]) (fun i hi => up_nei hi) up_eq c.1 (by omega) a1
    · rw [e3]; exact pWhole_same (fun x y z q => hM x (by omega) (by omega)) a2
    · have : s ≠ 2 ∧ s ≠ 0 := by rcases hs with r | r | r | ⟨j, r⟩ | ⟨j, r⟩ <;> omega
      rw [hM s this.1 this.2, hM s this.1 this.2, hM s this.1 this.2]
      exact a3 s hs
    · rw [hM2 3 (by omega)] at i1
      exact pText_same (fun y y0 y1 => hM y (by omega) (by omega)) (fun j _ _ => up_nex (by omega)) (a4 i i0 i1)
    · obtain ⟨b1, b2, b3⟩ := a5
      unfold pTape
      rw [hM 703 (by omega) (by omega), up_nex (show ¬ (801 : Int) = 802 by omega)]
      refine ⟨b1, b2, fun i i0 i1 => ?_⟩
      rw [hM 704 (by omega) (by omega), up_nex (by omega)]
      exact b3 i i0 i1
    · unfold pFault
      rw [hM 703 (by omega) (by omega), hM 703 (by omega) (by omega), up_nex (by omega), up_nex (by omega)]
      exact a6
    · unfold pRul
      refine ⟨?_, fun i i0 i1 => ?_⟩
      · rw [up_eq, up_nex (by omega), up_eq]
      · rw [hM 712 (by omega) (by omega), hM 711 (by omega) (by omega)]
        exact a7.2 i i0 i1
    · rw [up_nex (by omega)]; exact a8
    · rw [hM2 3 (by omega), hM 352 (by omega) (by omega)]; exact a9
  · rw [if_neg c]
    refine ⟨0, M, N, ?_, rfl, h⟩
    unfold f_X11_by f_X11_isText
    rw [if_neg (by omega), p_isB, p_wI (x := M 2 3 - 1) (by omega) (by omega), if_neg (show ¬ (0 ≤ p ∧ p ≤ M 2 3 - 1) by omega), if_neg (by decide)]
