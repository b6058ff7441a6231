set_option linter.unusedVariables false
set_option linter.unusedSimpArgs false
/-! text: which numbers a clause has -/
def tbOf (s : Int) : List (Int × Int × Int) := if s = 5 then [(-1, 1, 99), (((wCd 12 : Nat) : Int), 0, 99), (((wCd 13 : Nat) : Int), 0, 999), (((wCd 14 : Nat) : Int), 0, 999)] else if s = 6 then [(-1, 1, 99), (((wCd 15 : Nat) : Int), 0, 8), (((wCd 16 : Nat) : Int), 0, 8)] else if s = 7 then [(-1, 1, 60)] else if s = 8 then [(-1, 0, 8), (((wCd 17 : Nat) : Int), 1, 999)] else if s = 9 then [(-1, 0, 8), (((wCd 16 : Nat) : Int), 0, 99)] else if s = 10 then [(-1, 0, 8)] else [(-1, 0, 6), (((wCd 16 : Nat) : Int), 0, 8)]
theorem tb_len {s : Int} (h : 5 ≤ s ∧ s ≤ 11) : ((tbOf s).length : Int) = pNf s := by
  have : s = 5 ∨ s = 6 ∨ s = 7 ∨ s = 8 ∨ s = 9 ∨ s = 10 ∨ s = 11 := by omega
  rcases this with z | z | z | z | z | z | z <;> subst z <;> decide
theorem bind_eta {o : Option (Int × Mem)} : (o.bind fun q => some (q.1, q.2)) = o := by cases o <;> rfl
theorem r_fig {n : Nat} {p w lo hi : Int} {N : Mem} (h : w = -1) (ts : List (Int × Int × Int)) : rNums n p ((w, lo, hi) :: ts) N = (f_X12_figure n p lo hi N).bind fun q => if q.1 = 0 then rNums n (p + 1) ts q.2 else some (q.1, q.2) := by
  rw [rNums, if_pos h]
theorem r_wrd {n : Nat} {p w lo hi : Int} {N : Mem} (h : w ≠ -1) (ts : List (Int × Int × Int)) : rNums n p ((w, lo, hi) :: ts) N = (f_X12_worded n w p lo hi N).bind fun q => if q.1 = 0 then rNums n (p + 1) ts q.2 else some (q.1, q.2) := by
  rw [rNums, if_neg h]
theorem r_nil {n : Nat} {p : Int} {N : Mem} : rNums n p [] N = some (0, N) := rfl
theorem r_end {o : Option (Int × Mem)} : (o.bind fun q => if q.1 = 0 then some ((0 : Int), q.2) else some (q.1, q.2)) = o := by
  cases o with
  | none => rfl
  | some q =>
    rw [Option.bind_some]
    by_cases z : q.1 = 0
    · rw [if_pos z, ← z]
    · rw [if_neg z]
theorem l_bodyN {n : Nat} {s p : Int} {N : Mem} (hs : 5 ≤ s ∧ s ≤ 11) (hp : 0 ≤ p ∧ p ≤ 2900) : f_X12_body n s p N = rNums n (p + 1) (tbOf s) N := by
  obtain ⟨-, -, -, -, -, -, -, -, -, -, -, -⟩ := cw
  obtain ⟨c12, c13, c14, c15, c16, c17, -⟩ := cw2
  have n12 : ((wCd 12 : Nat) : Int) ≠ -1 := by omega
  have n13 : ((wCd 13 : Nat) : Int) ≠ -1 := by omega
  have n14 : ((wCd 14 : Nat) : Int) ≠ -1 := by omega
  have n15 : ((wCd 15 : Nat) : Int) ≠ -1 := by omega
  have n16 : ((wCd 16 : Nat) : Int) ≠ -1 := by omega
  have n17 : ((wCd 17 : Nat) : Int) ≠ -1 := by omega
  have w1 : wI (p + 1) = p + 1 := p_wI (by omega) (by omega)
  have w2 : wI (p + 2) = p + 1 + 1 := by rw [p_wI (by omega) (by omega)]; omega
  have w3 : wI (p + 3) = p + 1 + 1 + 1 := by rw [p_wI (by omega) (by omega)]; omega
  have w4 : wI (p + 4) = p + 1 + 1 + 1 + 1 := by rw [p_wI (by omega) (by omega)]; omega
  have pr : ∀ hi w lo2 hi2, w ≠ -1 → f_X12_pair n p hi w lo2 hi2 N = rNums n (p + 1) [(-1, 0, hi), (w, lo2, hi2)] N := by
    intro hi w lo2 hi2 hw
    unfold f_X12_pair
    simp only [r_fig rfl, r_wrd hw, r_nil, r_end, w1, w2, bind_eta]
  have : s = 5 ∨ s = 6 ∨ s = 7 ∨ s = 8 ∨ s = 9 ∨ s = 10 ∨ s = 11 := by omega
  unfold f_X12_body
  simp only [bind_eta]
  rcases this with z | z | z | z | z | z | z <;> subst z
  · rw [if_neg (by decide), if_pos rfl, show tbOf 5 = [(-1, 1, 99), (((wCd 12 : Nat) : Int), 0, 99), (((wCd 13 : Nat) : Int), 0, 999), (((wCd 14 : Nat) : Int), 0, 999)] from rfl]
    unfold f_X12_stepClause f_X12_stepClause_J37 f_X12_stepClause_J66
    rw [c12, c13, c14, w1, w2, w3, w4, r_fig rfl]
    cases f_X12_figure n (p + 1) 1 99 N with
    | none => rfl
    | some q =>
      simp only [Option.bind_some, bind_eta]
      by_cases z : q.1 = 0
      · rw [if_neg (fun y => y z), if_pos z, r_wrd n12]
        cases f_X12_worded n ((wCd 12 : Nat) : Int) (p + 1 + 1) 0 99 q.2 with
        | none => rfl
        | some q2 =>
          simp only [Option.bind_some, bind_eta]
          by_cases z2 : q2.1 = 0
          · rw [if_neg (fun y => y z2), if_pos z2, r_wrd n13]
            cases f_X12_worded n ((wCd 13 : Nat) : Int) (p + 1 + 1 + 1) 0 999 q2.2 with
            | none => rfl
            | some q3 =>
              simp only [Option.bind_some]
              by_cases z3 : q3.1 = 0
              · rw [if_pos z3, if_pos z3, r_wrd n14]
                simp only [r_nil, r_end]
              · rw [if_neg z3, if_neg z3]
          · rw [if_pos z2, if_neg z2, if_neg z2]
      · rw [if_pos z, if_neg z, if_pos z, if_neg z]
  · rw [if_neg (by decide), if_neg (by decide), if_pos rfl, show tbOf 6 = [(-1, 1, 99), (((wCd 15 : Nat) : Int), 0, 8), (((wCd 16 : Nat) : Int), 0, 8)] from rfl]
    unfold f_X12_shipClause f_X12_shipClause_J33
    rw [c15, c16, w1, w2, w3, r_fig rfl]
    cases f_X12_figure n (p + 1) 1 99 N with
    | none => rfl
    | some q =>
      simp only [Option.bind_some, bind_eta]
      by_cases z : q.1 = 0
      · rw [if_neg (fun y => y z), if_pos z, r_wrd n15]
        cases f_X12_worded n ((wCd 15 : Nat) : Int) (p + 1 + 1) 0 8 q.2 with
        | none => rfl
        | some q2 =>
          simp only [Option.bind_some, bind_eta]
          by_cases z2 : q2.1 = 0
          · rw [if_pos z2, if_pos z2, r_wrd n16]
            simp only [r_nil, r_end]
          · rw [if_neg z2, if_neg z2]
      · rw [if_pos z, if_neg z, if_neg z]
  · rw [if_neg (by decide), if_neg (by decide), if_neg (by decide), if_pos rfl, show tbOf 7 = [(-1, 1, 60)] from rfl, r_fig rfl, w1]
    simp only [r_nil, r_end]
  · rw [if_neg (by decide), if_neg (by decide), if_neg (by decide), if_neg (by decide), if_pos rfl, show tbOf 8 = [(-1, 0, 8), (((wCd 17 : Nat) : Int), 1, 999)] from rfl, c17]
    exact pr _ _ _ _ n17
  · rw [if_neg (by decide), if_neg (by decide), if_neg (by decide), if_neg (by decide), if_neg (by decide), if_pos rfl, show tbOf 9 = [(-1, 0, 8), (((wCd 16 : Nat) : Int), 0, 99)] from rfl, c16]
    exact pr _ _ _ _ n16
  · rw [if_neg (by decide), if_neg (by decide), if_neg (by decide), if_neg (by decide), if_neg (by decide), if_neg (by decide), if_pos rfl, show tbOf 10 = [(-1, 0, 8)] from rfl, r_fig rfl, w1]
    simp only [r_nil, r_end]
  · rw [if_neg (by decide), if_neg (by decide), if_neg (by decide), if_neg (by decide), if_neg (by decide), if_neg (by decide), if_neg (by decide), if_pos rfl, show tbOf 11 = [(-1, 0, 6), (((wCd 16 : Nat) : Int), 0, 8)] from rfl, c16]
    exact pr _ _ _ _ n16
/-- where a clause's numbers begin in the class's tables -/
def tbAt (s : Int) : Int := if s = 5 then 0 else if s = 6 then 4 else if s = 7 then 7 else if s = 8 then 8 else if s = 9 then 10 else if s = 10 then 12 else 13
theorem tb_ok {s : Int} (h : 5 ≤ s ∧ s ≤ 11) : okTab (tbOf s) (tbAt s) ∧ stA [0, 4, 7, 8, 10, 12, 13, 15] (s - 5 + 1) = tbAt s + ((tbOf s).length : Int) ∧ 0 ≤ tbAt s ∧ tbAt s + ((tbOf s).length : Int) ≤ 15 ∧ stA [0, 4, 7, 8, 10, 12, 13, 15] (s - 5) = tbAt s ∧ (tbOf s).length ≤ 4 ∧ 1 ≤ (tbOf s).length := by
  have : s = 5 ∨ s = 6 ∨ s = 7 ∨ s = 8 ∨ s = 9 ∨ s = 10 ∨ s = 11 := by omega
  rcases this with z | z | z | z | z | z | z <;> subst z
  · exact ⟨⟨by decide, Or.inl ⟨rfl, by decide⟩, by decide, Or.inr ⟨12, by decide, rfl, by decide⟩, by decide, Or.inr ⟨13, by decide, rfl, by decide⟩, by decide, Or.inr ⟨14, by decide, rfl, by decide⟩, trivial⟩, by decide⟩
  · exact ⟨⟨by decide, Or.inl ⟨rfl, by decide⟩, by decide, Or.inr ⟨15, by decide, rfl, by decide⟩, by decide, Or.inr ⟨16, by decide, rfl, by decide⟩, trivial⟩, by decide⟩
  · exact ⟨⟨by decide, Or.inl ⟨rfl, by decide⟩, trivial⟩, by decide⟩
  · exact ⟨⟨by decide, Or.inl ⟨rfl, by decide⟩, by decide, Or.inr ⟨17, by decide, rfl, by decide⟩, trivial⟩, by decide⟩
  · exact ⟨⟨by decide, Or.inl ⟨rfl, by decide⟩, by decide, Or.inr ⟨16, by decide, rfl, by decide⟩, trivial⟩, by decide⟩
  · exact ⟨⟨by decide, Or.inl ⟨rfl, by decide⟩, trivial⟩, by decide⟩
  · exact ⟨⟨by decide, Or.inl ⟨rfl, by decide⟩, by decide, Or.inr ⟨16, by decide, rfl, by decide⟩, trivial⟩, by decide⟩
/-- a clause's numbers, by both -/
theorem l_numbers {M N : Mem} {c l s k p : Int} {nA : Nat} (hs : 5 ≤ s ∧ s ≤ 11) (h : pRn M N c l) (hA : 800 ≤ nA) (hk : M c 0 = k) (k0 : 0 ≤ k ∧ k < 24) (hp : 0 ≤ p ∧ p ≤ 2900) :
    qNum c l (4 * k) (4 * k + pNf s) (p + 1) (p + 1 + pNf s) (pNf s) M N (f_X4_readNumbers nA (s - 5) M) (fun n => f_X12_body n s p N) (fun M' => some (1, M')) := by
  obtain ⟨t1, t2, t3, t4, t5, t6, t7⟩ := tb_ok hs
  have t8 := tb_len hs
  unfold f_X4_readNumbers
  rw [h.2.2.1, p_ck h.2.2.2.1, p_ck (by omega), hk, p_wI (x := k * 4) (by omega) (by omega), t5, show k * 4 = 4 * k by omega]
  have := l_nums (x1 := s - 5) (by omega) (tbOf s) nA (4 * k) (tbAt s) (p + 1) M N t1 t2 t3 t4 (by omega) (by omega) (by omega) (by omega) (by omega) h
  rw [t8] at this
  simp only [l_bodyN hs hp]
  exact this
