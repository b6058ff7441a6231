set_option linter.unusedVariables false
set_option linter.unusedSimpArgs false
/-! text: one onto the pile -/
theorem l_pshT {M N N1 : Mem} {c x l q o w : Int} (hc : pCx c x) (h : pPs M N c x l q) (hq : N 801 16 = q) (hne : N 801 9 ≠ 0) (hq1 : q ≤ 140) {nA : Nat} (hA : 700 ≤ nA)
    (g : ∀ y j, ¬ (y = 801 ∧ (j = 16 ∨ j = 17 ∨ j = 18)) → ¬ (y = 806 ∧ j = q) → N1 y j = N y j) (g16 : N1 801 16 = q + 1) (g17 : N1 801 17 = w) (g18 : N1 801 18 = 0) (g6 : N1 806 q = o) :
    ∃ M' N3, f_X4_advance nA M = some M' ∧ (∀ n, 700 ≤ n → f_X12_nextToken n N1 = some N3) ∧ kM M M' ∧ pPs M' N3 c x l (q + 1) ∧ N3 801 16 = q + 1 ∧ N3 801 17 = w ∧ N3 801 18 = 0 ∧ N3 806 q = o ∧ fPN x q N N3 ∧ N 801 8 + 1 ≤ N3 801 8 ∧ (∀ j, j < M c 3 → oX N3 x j = oX N x j ∧ uX N3 x j = uX N x j) ∧ N3 801 13 = N 801 13 := by
  obtain ⟨tp, tok, ⟨hc1, hx1⟩, ⟨⟨k1, k2, k3, k4⟩, k5, k6⟩, few, top⟩ := h
  obtain ⟨x1, x2, x3, x4, x5⟩ := hc
  have t8 := tok.2.2.2.2.2.2.2.2 hne
  have tp1 : pTp M N1 l := ⟨tp.1, by rw [g _ _ (by omega) (by omega)]; exact tp.2.1, tp.2.2.1, tp.2.2.2.1, fun i i0 i1 => by rw [g _ _ (by omega) (by omega)]; exact tp.2.2.2.2 i i0 i1⟩
  have tok1 : pTok M N1 l := by
    unfold pTok at *
    rw [g 801 7 (by omega) (by omega), g 801 8 (by omega) (by omega), g 801 9 (by omega) (by omega), g 801 10 (by omega) (by omega), g 801 11 (by omega) (by omega)]
    exact tok
  obtain ⟨M', N3, a1, a2, a3, a4, a5, a6, a7⟩ := l_adv0 tp1 tok1 hA
  have n7 : N1 801 7 = N 801 7 := g _ _ (by omega) (by omega)
  have e16 : N3 801 16 = q + 1 := by rw [a4 _ _ (by omega)]; exact g16
  have e13 : N3 801 13 = N 801 13 := by rw [a4 _ _ (by omega), g _ _ (by omega) (by omega)]
  have e804 : ∀ j, N3 804 j = N 804 j := fun j => by rw [a4 _ _ (by omega), g _ _ (by omega) (by omega)]
  have mc : ∀ y j, y ≠ 703 → M' y j = M y j := fun y j hy => a3 y j (by omega)
  refine ⟨M', N3, a1, a2, a3, ⟨a5, a6, ⟨by rw [mc _ _ (by decide)]; exact hc1, by rw [a4 _ _ (by omega), g _ _ (by omega) (by omega)]; exact hx1⟩, ⟨⟨?_, by omega, by omega, by omega⟩, fun j j0 j1 => ?_, fun t t0 t1 => by omega⟩, by omega, by omega⟩, e16, by rw [a4 _ _ (by omega)]; exact g17, by rw [a4 _ _ (by omega)]; exact g18, by rw [a4 _ _ (by omega)]; exact g6, ⟨fun y j b1 b2 b3 => ?_, fun j _ => e804 j, fun j hj => ?_, by omega, by omega⟩, by omega, fun j hj => ?_, e13⟩
  · rw [mc _ _ (by omega)]; omega
  · rw [mc _ _ (by omega), mc _ _ (by omega), e804, e804]
    exact k5 j j0 (by omega)
  · rw [a4 y j (by omega), g y j (by omega) (by omega)]
  · rw [a4 _ _ (by omega), g _ _ (by omega) (by omega)]
  · unfold oX uX
    rw [e13, if_pos (show j < N 801 13 by omega), if_pos (show j < N 801 13 by omega), if_pos (show j < N 801 13 by omega), if_pos (show j < N 801 13 by omega), e804, e804]
    exact ⟨rfl, rfl⟩
/-- a bracket: its part, then the closing one -/
def okPar (nA m : Nat) (D a c x l : Int) : Prop := ∀ (M N : Mem) (p d nn b f : Int), qPre a c x l (p + 1) (d + 1) nn b f M N → D ≤ d + 1 → 0 ≤ p → 0 ≤ d → p ≤ 5 + 3 * d → nn + b ≤ p → N 806 p = 40 → ∃ v M', f_rd nA m 4 (d + 1) 0 M = some (v, M') ∧ ((v = 1 ∧ qOne a c x l p d nn b f M N M') ∨ (v = 0 ∧ qFail a c x M N M'))
/-- further on: what was read from N2 is read from N -/
theorem qOne_on {a c x l p d nn b f : Int} {M N M2 N2 M' : Mem} (h : qOne a c x l p d nn b f M2 N2 M') (hr : ∀ n, 1000 ≤ n → f_X12_parsed_L20 (n + 1) a N = f_X12_parsed_L20 n a N2) (fM : fPM c M M2) (fN : fPN x p N N2) (h8 : N 801 8 + 1 ≤ N2 801 8) : qOne a c x l p d nn b f M N M' := by
  obtain ⟨N3, k, s1, s2, s3, s4, s5, s6, s7, s8, s9⟩ := h
  have := fN.2.2.2.2
  refine ⟨N3, k + 1, fun N4 hs n hn => ?_, s2, s3, s4, s5, fPM_trans fM s6, fPN_trans (Int.le_refl _) fN s7, s8, by omega⟩
  rw [show n + (k + 1) = (n + k) + 1 by omega, hr (n + k) (by omega)]
  exact s1 N4 hs n hn
theorem qFail_on {a c x p : Int} {M N M2 N2 M' : Mem} (h : qFail a c x M2 N2 M') (hr : ∀ n, 1000 ≤ n → f_X12_parsed_L20 (n + 1) a N = f_X12_parsed_L20 n a N2) (fM : fPM c M M2) (fN : fPN x p N N2) (h0 : 0 ≤ N 801 13) (h8 : N 801 8 + 1 ≤ N2 801 8) : qFail a c x M N M' := by
  obtain ⟨N', e, k, s1, s2, s3, s4, s5, s6, s7⟩ := h
  refine ⟨N', e, k + 1, fun n hn => ?_, s2, s3, s4, gPM_trans (gPM_of fM) s5, gPN_trans (gPN_of fN h0) s6, by omega⟩
  rw [show n + (k + 1) = (n + k) + 1 by omega, hr (n + k) (by omega)]
  exact s1 n hn
/-- a bracket or a minus opens -/
theorem l_opnT {M N : Mem} {a c x l p d nn b f o : Int} (hc : pCx c x) (hq : qPre a c x l p d nn b f M N) (hp : p ≤ 5 + 3 * d) (hd : d < 8) (hne : N 801 9 ≠ 0) {nA : Nat} (hA : 700 ≤ nA) (hb : ∀ n, 1000 ≤ n → f_X12_beginOne n N = (f_X12_opened n o N).bind fun q => some (q.1, q.2)) :
    ∃ M2 N2, f_X4_advance nA M = some M2 ∧ (∀ n, 1000 ≤ n → f_X12_parsed_L20 (n + 1) a N = f_X12_parsed_L20 n a N2) ∧ qPre a c x l (p + 1) (d + 1) nn b f M2 N2 ∧ N2 806 p = o ∧ fPM c M M2 ∧ fPN x p N N2 ∧ N 801 8 + 1 ≤ N2 801 8 := by
  obtain ⟨q1, q2, q3, q4, q5, q6, q7, q8, q9⟩ := hq
  have c1 := q1.2.2.2.1.1
  have hcx := hc
  obtain ⟨x1, x2, x3, x4, x5⟩ := hc
  obtain ⟨M2, N2, a1, a2, a3, a4, a5, a6, a7, a8, a9, a10, a11, a12⟩ := l_pshT (N1 := upM (upM (upM N 801 17 (d + 1)) 806 p o) 801 16 (p + 1)) (o := o) (w := d + 1) hcx q1 q2 hne (by omega) hA
    (fun y j z1 z2 => by rw [up_ne (by omega), up_ne (by omega), up_ne (by omega)]) up_eq (by rw [up_nei (by decide), up_nex (by decide), up_eq]) (by rw [up_nei (by decide), up_nex (by decide), up_nei (by decide)]; exact q4) (by rw [up_nex (by decide), up_eq])
  have mc : M2 c 3 = M c 3 := a3 _ _ (by omega)
  refine ⟨M2, N2, a1, fun n hn => ?_, ⟨a4, a5, a6, a7, ?_, ?_, ?_, ?_, by omega⟩, a8, fPM_kM a3, a9, a10⟩
  · rw [f_X12_parsed_L20, if_pos q4, hb n hn]
    unfold f_X12_opened
    rw [q3, if_pos (by omega), p_wI (x := d + 1) (by omega) (by omega), p_lt, up_nei (by decide), q2, p_ck (by omega), p_lt, up_nex (by decide), up_nei (by decide), q2, p_wI (x := p + 1) (by omega) (by omega), p_lt, a2 n (by omega)]
    rfl
  · rw [a9.1 _ _ (by omega) (by decide) (by decide)]; exact q5
  · rw [a3 _ _ (by omega), a9.1 _ _ (by omega) (by decide) (by decide)]; exact q6
  · rw [mc]
    exact pWf_same q7 (fun j j0 j1 => a11 j j1)
  · rw [mc]; omega
