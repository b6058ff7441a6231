set_option linter.unusedVariables false
theorem pRel_tape {M N M' N' : Mem} (h : pRel M N) (ht : pTape M' N') (hM : ∀ x, x ≠ 703 → x ≠ 704 → ∀ i, M' x i = M x i) (hM3 : ∀ i, i ≠ 1 → M' 703 i = M 703 i) (hN : ∀ x, x ≠ 801 → x ≠ 805 → ∀ i, N' x i = N x i) (hN1 : ∀ i, i ≠ 4 → N' 801 i = N 801 i) : pRel M' N' := by
  obtain ⟨a1, a2, a3, a4, a5, a6, a7, a8, a9⟩ := h
  have e2 : N' 802 = N 802 := funext (hN 802 (by omega) (by omega))
  have e3 : N' 803 = N 803 := funext (hN 803 (by omega) (by omega))
  refine ⟨?_, ?_, fun s hs => ?_, fun i i0 i1 => ?_, ht, ?_, ?_, ?_, ?_⟩
  · rw [e2]; exact pWhole_same (fun x y z q => hM x (by omega) (by omega)) a1
  · rw [e3]; exact pWhole_same (fun x y z q => hM x (by omega) (by omega)) a2
  · have : s ≠ 703 ∧ s ≠ 704 := by rcases hs with r | r | r | ⟨j, r⟩ | ⟨j, r⟩ <;> omega
    rw [hM s this.1 this.2, hM s this.1 this.2, hM s this.1 this.2]
    exact a3 s hs
  · rw [hM 2 (by omega) (by omega)] at i1
    exact pText_same (fun y y0 y1 => hM y (by omega) (by omega)) (fun j _ _ => hN 804 (by omega) (by omega) j) (a4 i i0 i1)
  · unfold pFault
    rw [hM3 2 (by omega), hM3 3 (by omega), hN1 5 (by omega), hN1 6 (by omega)]
    exact a6
  · unfold pRul
    rw [hM 0 (by omega) (by omega), hM 2 (by omega) (by omega)]
    refine ⟨a7.1, fun i i0 i1 => ?_⟩
    rw [hM 712 (by omega) (by omega), hM 711 (by omega) (by omega)]
    exact a7.2 i i0 i1
  · rw [hN1 28 (by omega)]; exact a8
  · rw [hM 2 (by omega) (by omega), hM 352 (by omega) (by omega)]; exact a9
theorem p_fourR {M N : Mem} {n : Nat} {v t : Int} (h : pRel M N) (ht : N 801 4 = t) (h4 : t + 4 ≤ 300) (hn : 10 ≤ n) : ∃ M' N', f_X4_addFour n v M = some M' ∧ f_X12_four n v N = some N' ∧ pRel M' N' ∧ N' 801 4 = t + 4 := by
  obtain ⟨M', N', a1, a2, a3, a4, a5, a6, a7, a8⟩ := p_four (v := v) h.2.2.2.2.1 ht h4 hn
  exact ⟨M', N', a1, a2, pRel_tape h a3 a5 a6 a7 a8, a4⟩
theorem s_feed {M N : Mem} {n : Nat} {a b c d e : Int} (h : pRel M N) (hn : 10 ≤ n) : pSim (f_X11_feed n a b c d e M) (f_X12_feed n a b c d e N) N := by
  have h3 := (pR_ctl h).2.2.2.1
  unfold f_X11_feed f_X12_feed
  rw [h3.1, p_wI (x := N 801 4 + 20) (by omega) (by omega)]
  by_cases q : N 801 4 + 20 ≤ 300
  · obtain ⟨M1, N1, a1, a2, a3, a4⟩ := p_fourR (v := a) h rfl (by omega) hn
    obtain ⟨M2, N2, b1, b2, b3, b4⟩ := p_fourR (v := b) a3 a4 (by omega) hn
    obtain ⟨M3, N3, c1, c2, c3, c4⟩ := p_fourR (v := c) b3 b4 (by omega) hn
    obtain ⟨M4, N4, d1, d2, d3, d4⟩ := p_fourR (v := d) c3 c4 (by omega) hn
    obtain ⟨M5, N5, e1, e2, e3, e4⟩ := p_fourR (v := e) d3 d4 (by omega) hn
    rw [if_pos q, if_pos q, a1, a2]
    simp only [Option.bind_some]
    rw [b1, b2]
    simp only [Option.bind_some]
    rw [c1, c2]
    simp only [Option.bind_some]
    rw [d1, d2]
    simp only [Option.bind_some]
    rw [e1, e2]
    simp only [Option.bind_some]
    refine ⟨M5 703 1, M5, N5, rfl, ?_, e3⟩
    rw [(pR_ctl e3).2.2.2.1.1]
  · rw [if_neg q, if_neg q]
    exact ⟨-1, M, N, rfl, rfl, h⟩
