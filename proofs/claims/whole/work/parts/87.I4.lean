set_option linter.unusedVariables false
set_option linter.unusedSimpArgs false
theorem p_choiceL {P : Int → Prop} {Q : Int → (Int → Int → Int) → Prop} (h : ∀ t, P t → ∃ v, Q t v) : ∃ F : Int → Int → Int → Int, ∀ t, P t → Q t (F t) :=
  ⟨fun t => @dite _ (P t) (Classical.propDecidable _) (fun q => Classical.choose (h t q)) (fun _ => fun _ _ => 0), fun t q => by
    show Q t (@dite _ (P t) (Classical.propDecidable _) (fun q => Classical.choose (h t q)) (fun _ => fun _ _ => 0))
    rw [dif_pos q]
    exact Classical.choose_spec (h t q)⟩
theorem l_voy158 {N1 : Mem} {R n a : Int} {F : Int → Int} {E : Int → Int → Int → Int} (hR1 : 1 ≤ R) (hR : R ≤ 8) (hn : n ≤ 48) (hc : ∀ q, 0 ≤ q → q < 48 * R → N1 813 q = F q ∧ 0 ≤ F q ∧ F q ≤ 9999) (hE : ∀ H, (R ≤ H ∧ H ≤ n) → vIsL (fun k t => F (48 * k + t)) R H (E H)) :
    ∀ (f m : Nat) (h found least : Int) (N : Mem), n + 1 - h < f → f + 300 ≤ m → R < h → h ≤ n + 1 → (∀ x, x ≠ 814 → ∀ j, N x j = N1 x j) → R ≤ found → found < h → least = E found 0 0 → (∀ H, R ≤ H → H < h → least ≤ E H 0 0 ∧ (E H 0 0 = least → found ≤ H)) →
      ∃ found' least' N', f_X12_voyage_L158 m n a R found least h N = some (found', least', N') ∧ (∀ x, x ≠ 814 → ∀ j, N' x j = N1 x j) ∧ R ≤ found' ∧ found' ≤ n ∧ least' = E found' 0 0 ∧ (∀ H, R ≤ H → H ≤ n → least' ≤ E H 0 0 ∧ (E H 0 0 = least' → found' ≤ H)) := by
  intro f
  induction f with
  | zero => intro m h found least N g0; omega
  | succ f ih =>
    intro m h found least N g0 g1 g2 g3 fr r0 r1 r2 r3
    obtain ⟨m, rfl⟩ : ∃ m', m = m' + 1 := ⟨m - 1, by omega⟩
    rw [f_X12_voyage_L158]
    by_cases c : n < h
    · rw [if_pos c]
      exact ⟨found, least, N, rfl, fr, r0, by omega, r2, fun H H0 H1 => r3 H H0 (by omega)⟩
    · obtain ⟨N2, b1, b2, b3⟩ := l_leastBy (F := F) (R := R) (H := h) hR1 hR (by omega) (by omega) (N := N) (fun q q0 q1 => by rw [fr 813 (by decide)]; exact hc q q0 q1) (n := m) (by omega)
      have u : N2 814 0 = E h 0 0 := by
        have := vUniq b3 (hE h ⟨by omega, by omega⟩) (R - 1).toNat 0 (by omega) (Int.le_refl _) 48 0 (by omega) (Int.le_refl _)
        rw [show (49 * (0 : Int) + 0) = 0 by decide] at this
        exact this
      rw [if_neg c, b1, Option.bind_some]
      dsimp only
      rw [p_wI (x := h + 1) (by omega) (by omega), u]
      by_cases d : E h 0 0 < least
      · rw [if_pos d]
        refine ih m (h + 1) h (E h 0 0) N2 (by omega) (by omega) (by omega) (by omega) (fun x hx j => by rw [b2 x hx, fr x hx]) (by omega) (by omega) rfl (fun H H0 H1 => ?_)
        by_cases e : H = h
        · subst e; exact ⟨Int.le_refl _, fun _ => Int.le_refl _⟩
        · have := r3 H H0 (by omega)
          exact ⟨by omega, fun z => by omega⟩
      · rw [if_neg d]
        refine ih m (h + 1) found least N2 (by omega) (by omega) (by omega) (by omega) (fun x hx j => by rw [b2 x hx, fr x hx]) r0 (by omega) r2 (fun H H0 H1 => ?_)
        by_cases e : H = h
        · subst e; exact ⟨by omega, fun z => by omega⟩
        · exact r3 H H0 (by omega)
theorem s_voyage {M N : Mem} {nA nB : Nat} {p q r s i : Int} (h : pRel M N) (hA : 2000 ≤ nA) (hB : 2000 ≤ nB) : pSim (f_X11_voyage nA p q r s i M) (f_X12_voyage nB p q r s i N) N := by
  have n1 : (1 : Int) ≠ 0 := by decide
  have n10 : ¬ (1 : Int) = 0 := by decide
  have n0 : ¬ (0 : Int) ≠ 0 := by decide
  have h1 := (pR_num h).1
  have h8 := (pR_num h).2.2.1
  unfold f_X11_voyage f_X12_voyage
  rw [p_isW, p_isIn, p_isStepM h, p_isStepM h, p_isStepN h, p_isStepN h, p_isB, p_isB, p_isIn]
  by_cases c1 : 1 ≤ p ∧ p ≤ 99
  · rw [if_pos c1, if_neg n10, if_neg n10]
    by_cases c2 : 0 ≤ q ∧ q < N 802 0
    · rw [if_pos c2, if_neg n10, if_neg n10]
      by_cases c3 : 0 ≤ r ∧ r < N 802 0
      · rw [if_pos c3, if_neg n10, if_neg n10]
        by_cases c4 : r ≤ q
        · rw [if_pos c4, if_pos c4]
          exact ⟨-100, M, N, rfl, rfl, h⟩
        · rw [if_neg c4, if_neg c4, p_wI (x := r - q) (by omega) (by omega), p_wI (x := r - q - 1) (by omega) (by omega)]
          by_cases c5 : 1 ≤ s ∧ s ≤ 48
          · rw [if_pos c5, if_pos n1, if_pos n1]
            by_cases c6 : s < r - q
            · rw [if_pos c6]
              have e : (if i < -2 then some ((-100 : Int), N) else if r - q ≤ i then some (-100, N) else if r - q ≤ s then ((f_X12_voyage_L77 nB p q s i (r - q) 0 N).bind fun q15 => (f_X12_leastBy nB (r - q) (r - q) q15).bind fun q16 => (f_X12_voyage_L158 nB s i (r - q) (r - q) q16.1 (wI ((r - q) + 1)) q16.2).bind fun q20 => (f_X12_leastBy nB (r - q) q20.1 q20.2.2).bind fun q21 => (f_X12_findGoes nB (r - q) q20.1 q21.2).bind fun q22 => if i ≠ (-2) then (if i ≠ (-1) then (ck (0 ≤ i ∧ i < 8) (some ((q22 815 i), q22))) else (some (q20.1, q22))) else (some (q20.2.1, q22))) else (some ((-100), N))) = some (-100, N) := by
                by_cases d1 : i < -2
                · rw [if_pos d1]
                · rw [if_neg d1]
                  by_cases d2 : r - q ≤ i
                  · rw [if_pos d2]
                  · rw [if_neg d2, if_neg (by omega)]
              rw [e]
              exact ⟨-100, M, N, rfl, rfl, h⟩
            · rw [if_neg c6]
              by_cases c7 : -2 ≤ i ∧ i ≤ r - q - 1
              · rw [if_pos c7, if_pos n1, if_neg (show ¬ i < -2 by omega), if_neg (show ¬ r - q ≤ i by omega), if_pos (show r - q ≤ s by omega)]
                obtain ⟨R, hR⟩ : ∃ R, R = r - q := ⟨_, rfl⟩
                rw [← hR, p_wI (x := R + 1) (by omega) (by omega)]
                obtain ⟨M1, N1', a1, a2, a3, a4⟩ := l_ahead (nB := nB) h (by omega)
                obtain ⟨nA', hA'⟩ : ∃ m, nA = m + 1 := ⟨nA - 1, by omega⟩
                have e0 : f_X11_lookAhead nA 0 M = some M1 := by
                  unfold f_X11_lookAhead
                  rw [a1, Option.bind_some, hA', f_X11_lookAhead_L13, if_pos (by decide)]
                  rfl
                have hS : pSt M1 N 762 := pSt_same a3.1.1 (fun _ _ _ _ => rfl) (fun j => (a4 j).symm)
                have hL : pLaw M1 N := pLaw_same (pLaw_of h) (a3.2.2.1.1 0 (by decide) (by decide) 0) (fun x hx => a3.2.2.1.1 x (by omega) (by omega)) rfl (fun _ => rfl)
                have h11 : M1 762 11 = N 802 8 := by rw [a3.1.2.2.1.1, a4]
                obtain ⟨F, hF⟩ := l_pToll (w := p) (fr := q) (R := R) hL hS h8.2 c2.1 (by omega) (by omega)
                obtain ⟨N2, b1, b2, b3⟩ := l_cost77 hF h8.2 c2.1 (by omega) (by omega) s i 20 nB 0 N (by omega) (by omega) (Int.le_refl _) (by omega) pFV_rfl (fun q q0 q1 => by omega)
                have hc : ∀ q, 0 ≤ q → q < 48 * R → N2 813 q = F q ∧ 0 ≤ F q ∧ F q ≤ 9999 := fun q q0 q1 => ⟨b3 q q0 q1, (hF q ⟨q0, q1⟩).1⟩
                have hc' : ∀ k t, 0 ≤ k → k < R → 0 ≤ t → t < 48 → 0 ≤ (fun k t => F (48 * k + t)) k t ∧ (fun k t => F (48 * k + t)) k t ≤ 9999 := fun k t k0 k1 t0 t1 => (hc (48 * k + t) (by omega) (by omega)).2
                obtain ⟨E, hE⟩ := p_choiceL (P := fun H => R ≤ H ∧ H ≤ s) (Q := fun H L => vIsL (fun k t => F (48 * k + t)) R H L) (fun H hH => by
                  obtain ⟨N3, -, -, y⟩ := l_leastBy (F := F) (R := R) (H := H) (by omega) (by omega) (by omega) (by omega) hc (n := 200) (Nat.le_refl _)
                  exact ⟨_, y⟩)
                obtain ⟨N3, d1, d2, d3⟩ := l_leastBy (F := F) (R := R) (H := R) (by omega) (by omega) (by omega) (by omega) hc (n := nB) (by omega)
                have uR : N3 814 0 = E R 0 0 := by
                  have := vUniq d3 (hE R ⟨by omega, by omega⟩) (R - 1).toNat 0 (by omega) (Int.le_refl _) 48 0 (by omega) (Int.le_refl _)
                  rw [show (49 * (0 : Int) + 0) = 0 by decide] at this
                  exact this
                obtain ⟨found, least, N4, f1, f2, f3, f4, f5, f6⟩ := l_voy158 (a := i) (R := R) (n := s) (N1 := N2) (by omega) (by omega) (by omega) hc hE 60 nB (R + 1) R (E R 0 0) N3 (by omega) (by omega) (by omega) (by omega) d2 (Int.le_refl _) (by omega) rfl (fun H H0 H1 => by
                  have : H = R := by omega
                  subst this
                  exact ⟨Int.le_refl _, fun _ => Int.le_refl _⟩)
                obtain ⟨N5, g1, g2, g3⟩ := l_leastBy (F := F) (R := R) (H := found) (by omega) (by omega) (by omega) (by omega) (N := N4) (fun q q0 q1 => by rw [f2 813 (by decide)]; exact hc q q0 q1) (n := nB) (by omega)
                obtain ⟨M3, m1, m2, m3⟩ := l_planM (n := s) hF hL hS h11 h8.2 c2.1 (by omega) (by omega) (by omega) (by omega) (by omega) (m := nA) (by omega)
                have hE' : ∀ H, R ≤ H → H ≤ s → vE (fun k t => F (48 * k + t)) R H (vExt R H (E H)) := fun H q0 q1 => vExt_E hc' (by omega) (by omega) (by omega) (hE H ⟨q0, q1⟩)
                obtain ⟨w1, w2, w3, w4, w5, w6⟩ := vMain hc' (by omega) (by omega) (by omega) (by omega) m3 hE' R.toNat 0 (by omega) (Int.le_refl _) (s - R).toNat 0 (by omega) (Int.le_refl _)
                have ext : ∀ H, vExt R H (E H) 0 0 = E H 0 0 := fun H => by unfold vExt; rw [if_neg (by omega)]
                simp only [ext] at w1 w2
                have hC : vC M3 0 0 = found := by
                  have y1 := w1 found f3 f4
                  have y2 := f6 (vC M3 0 0) w3 w4
                  have y3 := y1.2 (by omega)
                  have y4 := y2.2 (by omega)
                  omega
                have hP0 : vP M3 0 0 = least := by
                  rw [← hC] at f5
                  omega
                obtain ⟨N6, k1, k2, k3⟩ := l_findGoes (N := N5) (F := F) (R := R) (n' := s) (H := found) (fun q q0 q1 => by rw [g2 813 (by decide), f2 813 (by decide)]; exact hc q q0 q1) (by omega) (by omega) (by omega) (by omega) m3 (fun H q0 q1 => hE H ⟨q0, q1⟩) hC f3 f4 g3 (n := nB) (by omega)
                have rel : pRel M3 N6 := by
                  have fN : ∀ x, x ≠ 801 → x ≠ 807 → x ≠ 808 → x ≠ 813 → x ≠ 814 → x ≠ 815 → ∀ j, N6 x j = N x j := fun x x0 x1 x2 x3 x4 x5 j => by rw [k2 x x5, g2 x x4, f2 x x4]; exact b2.1 x x0 x1 x2 x3 x4 x5 j
                  have f8 : ∀ j, ¬ (21 ≤ j ∧ j ≤ 24) → N6 801 j = N 801 j := fun j hj => by rw [k2 801 (by decide), g2 801 (by decide), f2 801 (by decide)]; exact b2.2 j hj
                  refine pRel_same h (by rw [m2.1 0 (by decide) (by decide) (by decide)]; exact a3.2.2.1.1 0 (by decide) (by decide) 0) (fun x x0 x1 x2 _ _ j => by rw [m2.1 x (by omega) (by omega) (by omega)]; exact a3.2.2.1.1 x (by omega) (by omega) j) ?_ (fun x x0 x1 j => fN x (by omega) (by omega) (by omega) (by omega) (by omega) (by omega) j) ⟨f8 4 (by decide), f8 5 (by decide), f8 6 (by decide), f8 28 (by decide)⟩
                  rw [m2.2 0 (by decide), m2.2 6 (by decide), m2.2 15 (by decide)]
                  exact a3.2.2.1.2
                rw [e0, Option.bind_some, m1, Option.bind_some, b1, Option.bind_some, d1, Option.bind_some]
                dsimp only
                rw [uR, f1, Option.bind_some]
                dsimp only
                rw [g1, Option.bind_some]
                dsimp only
                rw [k1, Option.bind_some]
                by_cases e2 : i = -2
                · rw [if_neg (fun z => z e2), if_neg (fun z => z e2)]
                  exact ⟨_, M3, N6, rfl, by rw [show M3 (719 + 0) 0 = least from hP0], rel⟩
                · rw [if_pos e2, if_pos e2]
                  by_cases e1 : i = -1
                  · rw [if_neg (fun z => z e1), if_neg (fun z => z e1)]
                    exact ⟨_, M3, N6, rfl, by rw [show M3 (729 + 0) 0 = found from hC], rel⟩
                  · rw [if_pos e1, if_pos e1, p_ck (by omega)]
                    obtain ⟨ii, hi⟩ : ∃ ii : Nat, i = ii := ⟨i.toNat, by omega⟩
                    have path := vPath hc' (by omega) (by omega) (by omega) (by omega) m3 hE' hC
                    have ho := l_hoursOf (R := R) (M := M3) (fun j hj => by have := path j hj; omega) (by omega) (p := ii) (by omega) 20 nA 0 (by omega) (by omega) (by omega)
                    have ho' : f_X9_hoursAheadOf nA i M3 = some (vG (vGo M3) ii) := by
                      unfold f_X9_hoursAheadOf
                      rw [hi]
                      have ho2 : f_X9_hoursAheadOf_L11 nA (ii : Int) (M3 (739 + 0) 0) 1 M3 = some (vG (vGo M3) ii) := ho
                      rw [ho2]
                      rfl
                    rw [ho', Option.bind_some]
                    exact ⟨_, M3, N6, rfl, by rw [hi, k3 ii (by omega)], rel⟩
              · rw [if_neg c7, if_neg n0]
                by_cases d1 : i < -2
                · rw [if_pos d1]
                  exact ⟨-100, M, N, rfl, rfl, h⟩
                · rw [if_neg d1, if_pos (by omega)]
                  exact ⟨-100, M, N, rfl, rfl, h⟩
          · rw [if_neg c5, if_neg n0, if_neg n0]
            exact ⟨-100, M, N, rfl, rfl, h⟩
      · rw [if_neg c3, if_pos rfl, if_pos rfl]
        exact ⟨-100, M, N, rfl, rfl, h⟩
    · rw [if_neg c2, if_pos rfl, if_pos rfl]
      exact ⟨-100, M, N, rfl, rfl, h⟩
  · rw [if_neg c1, if_pos rfl, if_pos rfl]
    exact ⟨-100, M, N, rfl, rfl, h⟩
