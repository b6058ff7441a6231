set_option linter.unusedVariables false
set_option linter.unusedSimpArgs false
/-! text: a law's reading ends -/
/-- all is written, nothing waits -/
def qDone (a c x l b1 n1 f : Int) (M N M' : Mem) : Prop := ∃ (N' : Mem) (k : Nat), (∀ n, 1000 ≤ n → f_X12_parsed_L20 (n + k) a N = some (0, N')) ∧ pPs M' N' c x l 0 ∧ N' 801 16 = 0 ∧ fPM c M M' ∧ fPN x 0 N N' ∧ pWf (oX N' x) (uX N' x) f (M' c 3) n1 b1 ∧ N 801 8 + (k : Int) ≤ N' 801 8 + 1
theorem l_endSettle {M1 N1 : Mem} {c x l rk : Int} {w : Nat} (hc : pCx c x) (h : pPs M1 N1 c x l 0) (hw : N1 801 16 = 0 + (w : Int)) (h1 : 1 ≤ rk) (hall : ∀ j, 0 ≤ j → j < N1 801 16 → isOp (N1 806 j) ∧ rk ≤ f_X12_rank (N1 806 j)) (h17 : N1 801 17 = 0 + opn (N1 806) 0 w) :
    ∃ N', (∀ n, 200 ≤ n → f_X12_settle n 1 N1 = some N') ∧ pPs M1 N' c x l 0 ∧ fPN x 0 N1 N' ∧ N' 801 16 = 0 ∧ (∀ j, j < M1 c 3 → oX N' x j = oX N1 x j ∧ uX N' x j = uX N1 x j) := by
  have t150 := h.2.2.2.2.2
  obtain ⟨N2, g1, g2, g3, g4, g5, g6, g7, g8⟩ := l_settle (r := 1) (d := 0) hc w N1 h hw (fun j y0 y1 => ⟨(hall j y0 y1).1, by have := (hall j y0 y1).2; omega⟩) (Or.inl rfl) (by decide) (by decide) h17
  refine ⟨N2, fun n hn => ?_, g2, g3, g4, g8⟩
  unfold f_X12_settle
  rw [g1 n (by omega)]
  rfl
theorem l_endNum {M N M1 : Mem} {c x l f : Int} (hc : pCx c x) (h19 : N 801 19 = 0) (h : qPart 0 c x l 0 0 1 0 f 5 2 3 M N M1) : qDone 0 c x l 0 1 f M N M1 := by
  obtain ⟨N1, k1, w1, s1, s2, s3, s4, s5, s6, s7, s8, s9, s10, s11⟩ := h
  have kd : pKd M1 N1 := s2.2.1.2.2.2.2.2.2.1
  have t150 := s2.2.2.2.2.2
  have no1 : ¬ pOpen N1 := by
    rintro ⟨j, j0, j1, j2⟩
    have := (s4 j j0 j1).1
    unfold isOp at this
    omega
  have e19 : N1 801 19 = 0 := by rw [s8.1 _ _ (by omega) (by decide) (by decide)]; exact h19
  obtain ⟨va, h1, h2⟩ := l_askHere (N := N1) (by omega) (by omega)
  have va0 : va = 0 := by
    rcases h2 with ⟨-, z, -⟩ | ⟨z, -⟩
    · exact absurd e19 z
    · exact z
  subst va0
  obtain ⟨vo, o1, o2⟩ := l_isOpen (N := N1) (by omega) (by omega)
  have vo0 : vo = 0 := by
    rcases o2 with ⟨-, z⟩ | ⟨z, -⟩
    · exact absurd z no1
    · exact z
  subst vo0
  obtain ⟨N2, g1, g2, g3, g4, g5⟩ := l_endSettle hc s2 s3.1 (by decide) s4 s5
  refine ⟨N2, k1 + 1, fun n hn => ?_, g2, g4, s7, fPN_trans (Int.le_refl _) s8 g3, pWf_same s9 (fun j _ j1 => g5 j j1), ?_⟩
  · rw [show n + (k1 + 1) = (n + 1) + k1 by omega, s1 (n + 1) (by omega), f_X12_parsed_L20, if_neg (by omega)]
    unfold f_X12_behindOne
    rw [q_btn kd s11 (h1 n (by omega)), Option.bind_some, if_pos (by decide), o1 n (by omega), Option.bind_some, if_pos rfl, Option.bind_some, if_pos rfl]
    dsimp only
    rw [o1 n (by omega), Option.bind_some, if_neg (by decide), if_pos rfl]
    unfold f_X12_parsed_L20_J57
    rw [g1 n (by omega)]
    rfl
  · have := g3.2.2.2.2; omega
theorem l_endAsk {M N M1 : Mem} {c x l f : Int} (hc : pCx c x) (h19 : N 801 19 = 1) (h : qAsk c x l 0 0 1 f 1 13 0 M N M1) : qDone 1 c x l 1 0 f M N M1 := by
  obtain ⟨N1, k1, w1, s1, s2, s3, s4, s5, s6, s7, s8, s9, s10, s11, s12⟩ := h
  have kd : pKd M1 N1 := s2.2.1.2.2.2.2.2.2.1
  have t150 := s2.2.2.2.2.2
  have no1 : ¬ pOpen N1 := by
    rintro ⟨j, j0, j1, j2⟩
    have := (s4 j j0 j1).1
    unfold isOp at this
    omega
  have e19 : N1 801 19 = 1 := by rw [s8.1 _ _ (by omega) (by decide) (by decide)]; exact h19
  obtain ⟨va, h1, h2⟩ := l_askHere (N := N1) (by omega) (by omega)
  have va1 : va = 1 := by
    rcases h2 with ⟨z, -, -⟩ | ⟨-, z⟩
    · exact z
    · rcases z with z | z
      · omega
      · exact absurd z no1
  subst va1
  obtain ⟨vo, o1, o2⟩ := l_isOpen (N := N1) (by omega) (by omega)
  have vo0 : vo = 0 := by
    rcases o2 with ⟨-, z⟩ | ⟨z, -⟩
    · exact absurd z no1
    · exact z
  subst vo0
  have cm : ∀ n, 200 ≤ n → f_X12_isCompared n N1 = some 1 := fun n hn => l_cmp1 (Int.le_refl 0) (by omega) s12 hn
  have nj3 : nj 3 (M1 703 6) := ⟨fun _ => s11.1 (by decide), fun _ => s11.2.1 (by decide), fun z => by omega, fun z => by omega⟩
  have bet : ∀ n, 200 ≤ n → f_X12_betweenOf n N1 = some (-1) := fun n hn => by
    rw [q_bta kd nj3 (h1 n hn), cm n hn, Option.bind_some, if_pos (by decide), if_neg (s11.2.2.1 (by decide)), if_neg (s11.2.2.2 (by decide))]
  obtain ⟨N2, g1, g2, g3, g4, g5⟩ := l_endSettle hc s2 s3.1 (by decide) s4 s5
  refine ⟨N2, k1 + 1, fun n hn => ?_, g2, g4, s7, fPN_trans (Int.le_refl _) s8 g3, pWf_same s9 (fun j _ j1 => g5 j j1), ?_⟩
  · rw [show n + (k1 + 1) = (n + 1) + k1 by omega, s1 (n + 1) (by omega), f_X12_parsed_L20, if_neg (by omega)]
    unfold f_X12_behindOne
    rw [bet n (by omega), Option.bind_some, if_pos (by decide), o1 n (by omega), Option.bind_some, if_pos rfl, Option.bind_some, if_pos rfl]
    dsimp only
    rw [o1 n (by omega), Option.bind_some, if_neg (by decide), if_neg (by decide), cm n (by omega), Option.bind_some, if_pos (by decide)]
    unfold f_X12_parsed_L20_J57
    rw [g1 n (by omega)]
    rfl
  · have := g3.2.2.2.2; omega
