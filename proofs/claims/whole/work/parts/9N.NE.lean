set_option linter.unusedVariables false
set_option linter.unusedSimpArgs false
/-! text: brackets, and all of arithmetic -/
theorem q_btn {M N : Mem} (kd : pKd M N) (h : nj 3 (M 703 6)) {n : Nat} (ha : f_X12_isAskHere n N = some 0) : f_X12_betweenOf n N = some (-1) := by
  have ka := kd_all kd
  have k43 := ka.2.2.2.1 43 (by unfold isSg; omega)
  have k45 := ka.2.2.2.1 45 (by unfold isSg; omega)
  have k42 := ka.2.2.2.1 42 (by unfold isSg; omega)
  have k47 := ka.2.2.2.1 47 (by unfold isSg; omega)
  have h1 := h.1 (by decide)
  have h2 := h.2.1 (by decide)
  unfold f_X12_betweenOf
  rw [if_pos (show N 801 9 ≠ 43 from fun z => h2.1 (k43.mp z)), if_pos (show N 801 9 ≠ 45 from fun z => h2.2 (k45.mp z)), if_pos (show N 801 9 ≠ 42 from fun z => h1.1 (k42.mp z)), if_pos (show N 801 9 ≠ 47 from fun z => h1.2 (k47.mp z)), ha, Option.bind_some, if_neg (by decide)]
theorem l_par {nA m : Nat} {D a c x l : Int} (hc : pCx c x) (hA : 1100 ≤ nA) (R : okPart nA m 3 5 2 3 D a c x l) : okPar nA (m + 1) D a c x l := by
  intro M N p d nn b f hq hD p0 d0 p1 nb h40
  have hq' := hq
  have hcx := hc
  obtain ⟨x1, x2, x3, x4, x5⟩ := hc
  obtain ⟨q1, q2, q3, q4, q5, q6, q7, q8, q9⟩ := hq
  have g13 := q1.2.2.2.1.1.2.1
  have top := q1.2.2.2.2.2
  have r40 : f_X12_rank 40 = 0 := by decide
  obtain ⟨v, M1, r1, r2⟩ := R M N (p + 1) (d + 1) nn b f hq' hD (by omega) (Or.inr (by rw [show p + 1 - 1 = p by omega, h40, r40]; decide)) (Or.inr (noNot_of (by omega) (by omega) (by rw [q2, show p + 1 - 1 = p by omega, h40, r40]; decide)))
  show ∃ v M', b_X4_readParted nA (f_rd nA m) (d + 1) M = some (v, M') ∧ _
  unfold b_X4_readParted
  rw [r1, Option.bind_some]
  rcases r2 with ⟨v1, N1, k1, w1, s1, s2, s3, s4, s5, s6, s7, s8, s9, s10, s11⟩ | ⟨v0, u⟩
  · rw [if_pos (show (v, M1).1 ≠ 0 from by show v ≠ 0; omega)]
    have kd : pKd M1 N1 := s2.2.1.2.2.2.2.2.2.1
    have ka := kd_all kd
    have k41 := ka.2.2.2.1 41 (by unfold isSg; omega)
    have e40 : N1 806 p = 40 := by rw [s8.2.2.1 p (by omega)]; exact h40
    have op : pOpen N1 := ⟨p, p0, by omega, by omega⟩
    have t150 := s2.2.2.2.2.2
    obtain ⟨vo, o1, o2⟩ := l_isOpen (N := N1) (by omega) (by omega)
    have vo1 : vo = 1 := by
      rcases o2 with ⟨z, -⟩ | ⟨-, z⟩
      · exact z
      · exact absurd op z
    subst vo1
    obtain ⟨va, h1, h2⟩ := l_askHere (N := N1) (by omega) (by omega)
    have va0 : va = 0 := by
      rcases h2 with ⟨-, -, z⟩ | ⟨z, -⟩
      · exact absurd op z
      · exact z
    subst va0
    have bet : ∀ n, 200 ≤ n → f_X12_betweenOf n N1 = some (-1) := fun n hn => q_btn kd s11 (h1 n hn)
    by_cases t41 : M1 703 6 = 41
    · show ∃ v M', (if M1 703 6 = 41 then ((f_X4_advance nA M1).bind fun q4 => some (1, q4)) else _) = some (v, M') ∧ _
      rw [if_pos t41]
      obtain ⟨N2, g1, g2, g3, g4, g5, g6, g7, g8⟩ := l_settle (r := 1) (d := d + 1) hcx w1 N1 s2 s3.1 (fun j y0 y1 => ⟨(s4 j y0 y1).1, by have := (s4 j y0 y1).2; omega⟩) (Or.inr (by rw [show p + 1 - 1 = p by omega, e40, r40]; decide)) q9.1 (by omega) s5
      have gg : ∀ y j, ¬ (y = 801 ∧ (j = 16 ∨ j = 17)) → upM (upM N2 801 16 p) 801 17 d y j = N2 y j := fun y j z => by rw [up_ne (by omega), up_ne (by omega)]
      obtain ⟨tp2, tok2, ⟨hc2, hx2⟩, ⟨⟨k_1, k_2, k_3, k_4⟩, k_5, k_6⟩, few2, top2⟩ := g2
      have tp3 : pTp M1 (upM (upM N2 801 16 p) 801 17 d) l := ⟨tp2.1, by rw [gg _ _ (by omega)]; exact tp2.2.1, tp2.2.2.1, tp2.2.2.2.1, fun i i0 i1 => by rw [gg _ _ (by omega)]; exact tp2.2.2.2.2 i i0 i1⟩
      have tok3 : pTok M1 (upM (upM N2 801 16 p) 801 17 d) l := by
        unfold pTok at *
        rw [gg 801 7 (by omega), gg 801 8 (by omega), gg 801 9 (by omega), gg 801 10 (by omega), gg 801 11 (by omega)]
        exact tok2
      obtain ⟨M2, N3, a1, a2, a3, a4, a5, a6, a7⟩ := l_adv0 tp3 tok3 (nA := nA) (by omega)
      have e8 : (upM (upM N2 801 16 p) 801 17 d) 801 7 = N2 801 7 := gg _ _ (by omega)
      have le2 := tok2.2.2.2.2.2.2.2.1
      have n3 : ∀ y j, ¬ (y = 801 ∧ ((7 ≤ j ∧ j ≤ 11) ∨ j = 16 ∨ j = 17)) → N3 y j = N2 y j := fun y j z => by rw [a4 _ _ (by omega), gg _ _ (by omega)]
      have e16 : N3 801 16 = p := by rw [a4 _ _ (by omega), up_nei (by decide), up_eq]
      have e17 : N3 801 17 = d := by rw [a4 _ _ (by omega), up_eq]
      have e13 : N3 801 13 = N2 801 13 := n3 _ _ (by omega)
      have mm : ∀ y j, y ≠ 703 → M2 y j = M1 y j := fun y j z => a3 _ _ (by omega)
      have hw3 : fPN x p N N3 := by
        refine ⟨fun y j b1 b2 b3 => ?_, fun j b1 => ?_, fun j hj => ?_, ?_, ?_⟩
        · rw [n3 y j (by omega), g3.1 y j b1 b2 b3, s8.1 y j b1 b2 b3]
        · have := s8.2.2.2.1
          rw [n3 _ _ (by omega), g3.2.1 j (by omega), s8.2.1 j b1]
        · rw [n3 _ _ (by omega), g3.2.2.1 j (by omega), s8.2.2.1 j (by omega)]
        · have := s8.2.2.2.1; have := g3.2.2.2.1; omega
        · have := s8.2.2.2.2; have := g3.2.2.2.2; omega
      rw [a1, Option.bind_some]
      refine ⟨1, M2, rfl, Or.inl ⟨rfl, N3, k1 + 1, fun N4 hs n hn => ?_, ⟨a5, a6, ⟨by rw [mm _ _ (by decide)]; exact hc2, by rw [n3 _ _ (by omega)]; exact hx2⟩, ⟨⟨by rw [mm _ _ (by omega)]; omega, by omega, p0, by omega⟩, fun j j0 j1 => ?_, fun t t0 t1 => by omega⟩, by omega, by omega⟩, e16, e17, by rw [n3 _ _ (by omega), g6]; exact s6, fPM_trans s7 (fPM_kM a3), hw3, ?_, ?_⟩⟩
      · obtain ⟨g, gl, hs⟩ := hs
        rw [show n + (k1 + 1) = (n + 1) + k1 by omega, s1 (n + 1) (by omega), f_X12_parsed_L20, if_neg (by omega)]
        unfold f_X12_behindOne
        have st := g1 n (by omega)
        have nt := a2 n (by omega)
        have s7' := hs n (by omega)
        rw [bet n (by omega), Option.bind_some, if_pos (by decide), o1 n (by omega), Option.bind_some, if_neg (by decide), if_pos (k41.mpr t41)]
        rw [show f_X12_settle n 1 N1 = some N2 by unfold f_X12_settle; rw [st]; rfl, Option.bind_some, g4, p_wI (x := p + 1 - 1) (by omega) (by omega), show p + 1 - 1 = p by omega, p_lt, up_nei (by decide), g5, p_wI (x := d + 1 - 1) (by omega) (by omega), show d + 1 - 1 = d by omega, p_lt, nt, Option.bind_some, s7', Option.bind_some]
        rfl
      · rw [mm _ _ (by omega), mm _ _ (by omega), n3 _ _ (by omega), n3 _ _ (by omega)]
        exact k_5 j j0 (by omega)
      · rw [mm _ _ (by omega)]
        refine pWf_same s9 (fun j j0 j1 => ?_)
        obtain ⟨u1, u2⟩ := g8 j j1
        rw [← u1, ← u2]
        unfold oX uX
        rw [e13, if_pos (by omega), if_pos (by omega), if_pos (by omega), if_pos (by omega), n3 _ _ (by omega), n3 _ _ (by omega)]
        exact ⟨rfl, rfl⟩
      · have := g3.2.2.2.2
        have := tok2.2.2.2.2.2.2.2.2 (fun z => by have := (kd_all tok2.2.2.2.2.2.2.1).2.1.mp z; omega)
        omega
    · show ∃ v M', (if M1 703 6 = 41 then ((f_X4_advance nA M1).bind fun q4 => some (1, q4)) else (lt (f_X4_failBy 1 M1) fun q5 => ck (q5.1 = 0 ∨ q5.1 = 1) (some (q5.1, q5.2)))) = some (v, M') ∧ _
      rw [if_neg t41, l_fb]
      refine ⟨0, _, rfl, Or.inr ⟨rfl, N1, 1, k1 + 1, fun n hn => ?_, by decide, by rw [up_nei (by decide), up_eq], by rw [up_eq]; exact s2.2.1.2.2.2.1, fun y j z1 z2 z3 => ?_, gPN_of s8 g13, by have := pPs300 s2; omega⟩⟩
      · rw [show n + (k1 + 1) = (n + 1) + k1 by omega, s1 (n + 1) (by omega), f_X12_parsed_L20, if_neg (by omega)]
        unfold f_X12_behindOne
        rw [bet n (by omega), Option.bind_some, if_pos (by decide), o1 n (by omega), Option.bind_some, if_neg (by decide), if_neg (fun z => t41 (k41.mp z)), Option.bind_some, if_pos rfl, o1 n (by omega), Option.bind_some, if_pos (by decide)]
      · rw [up_ne (by omega), up_ne (by omega)]
        exact gPM_of s7 y j z1 z2 z3
  · rw [if_neg (show ¬ (v, M1).1 ≠ 0 from fun z => z v0)]
    exact ⟨0, M1, rfl, Or.inr ⟨rfl, u⟩⟩
/-- all of arithmetic, whatever opens -/
theorem l_arith {nA : Nat} {a c x l : Int} (hc : pCx c x) (hA : 1100 ≤ nA) : ∀ (t m : Nat), okPar nA (m + 5 * t) (9 - t) a c x l ∧ okMin nA (m + 5 * t) (9 - t) a c x l := by
  intro t
  induction t with
  | zero =>
    intro m
    constructor
    · intro M N p d nn b f hq hD
      have := hq.2.2.2.2.2.2.2.2
      omega
    · intro M N p d nn b f hq hD
      have := hq.2.2.2.2.2.2.2.2
      omega
  | succ t ih =>
    intro m
    have one : ∀ m, okOne nA (m + 5 * t + 1) 2 (8 - t) a c x l := fun m => l_readOne hc (by omega) (by
      have := (ih m).2
      rw [show (8 - (t : Int)) + 1 = 9 - t by omega]
      exact this) (by
      have := (ih m).1
      rw [show (8 - (t : Int)) + 1 = 9 - t by omega]
      exact this)
    have e : (9 : Int) - ((t + 1 : Nat) : Int) = 8 - t := by omega
    rw [e, show m + 5 * (t + 1) = m + 5 * t + 1 + 1 + 1 + 1 + 1 by omega]
    refine ⟨l_par hc hA (l_partA (B := 1) (s := 3) hc hA (Or.inl ⟨rfl, rfl⟩) (by decide) (by decide) (l_partA (B := 0) (s := 4) hc hA (Or.inr ⟨rfl, rfl⟩) (by decide) (by decide) (l_part5 hc (one m)))), ?_⟩
    have := one (m + 3)
    rw [show m + 3 + 5 * t + 1 = m + 5 * t + 1 + 1 + 1 + 1 by omega] at this
    exact l_minus hc this
theorem l_part3 {nA : Nat} {a c x l : Int} (hc : pCx c x) (hA : 1100 ≤ nA) (m : Nat) (hm : 49 ≤ m) : okPart nA m 3 5 2 3 0 a c x l := by
  obtain ⟨m, rfl⟩ : ∃ m', m = m' + 5 * 9 + 1 + 1 + 1 + 1 := ⟨m - 49, by omega⟩
  have one : okOne nA (m + 5 * 9 + 1) 2 0 a c x l := l_readOne hc (by omega) (by have := (l_arith (nA := nA) (a := a) (l := l) hc hA 8 (m + 5)).2; rw [show m + 5 + 5 * 8 = m + 5 * 9 by omega] at this; exact this) (by have := (l_arith (nA := nA) (a := a) (l := l) hc hA 8 (m + 5)).1; rw [show m + 5 + 5 * 8 = m + 5 * 9 by omega] at this; exact this)
  exact l_partA (B := 1) (s := 3) hc hA (Or.inl ⟨rfl, rfl⟩) (by decide) (by decide) (l_partA (B := 0) (s := 4) hc hA (Or.inr ⟨rfl, rfl⟩) (by decide) (by decide) (l_part5 hc one))
