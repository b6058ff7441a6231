set_option linter.unusedVariables false
set_option linter.unusedSimpArgs false
theorem cp_nex {M : Mem} {x0 sp x1 dp n y j : Int} (h : ¬ y = x1) : cpM M x0 sp x1 dp n y j = M y j := if_neg (fun q => h q.1)
theorem cp_in {M : Mem} {x0 sp x1 n j : Int} (h : 0 ≤ j ∧ j < n) : cpM M x0 sp x1 0 n x1 j = M x0 (sp + j) := by unfold cpM; rw [if_pos ⟨rfl, by omega, by omega⟩, Int.sub_zero]
theorem cp_out {M : Mem} {x0 sp x1 n j : Int} (h : ¬ (0 ≤ j ∧ j < n)) : cpM M x0 sp x1 0 n x1 j = M x1 j := by unfold cpM; rw [if_neg (by omega)]
/-- what a copy of the changing part of a sea leaves -/
def pGone (k p : Int) (M M' : Mem) : Prop := (∀ x, ¬ (k ≤ x ∧ x < k + 11) → ∀ i, M' x i = M x i) ∧ M' k 0 = M k 0 ∧ M' k 6 = M k 6 ∧ (∀ i, M' (k + 1) i = M (k + 1) i) ∧ (∀ i, M' (k + 6) i = M (k + 6) i)
  ∧ M' k 11 = M p 11 ∧ M' k 12 = M p 12 ∧ M' k 13 = M p 13 ∧ M' k 14 = M p 14 ∧ M' k 15 = M p 15
  ∧ (∀ i, 0 ≤ i → i < M p 0 → M' (k + 2) i = M (p + 2) i ∧ M' (k + 3) i = M (p + 3) i ∧ M' (k + 4) i = M (p + 4) i ∧ M' (k + 5) i = M (p + 5) i)
  ∧ (∀ i, M p 0 ≤ i → M' (k + 2) i = M (k + 2) i ∧ M' (k + 3) i = M (k + 3) i ∧ M' (k + 4) i = M (k + 4) i ∧ M' (k + 5) i = M (k + 5) i)
  ∧ (∀ i, 0 ≤ i → i < M p 6 → M' (k + 7) i = M (p + 7) i ∧ M' (k + 8) i = M (p + 8) i ∧ M' (k + 9) i = M (p + 9) i)
  ∧ (∀ i, M p 6 ≤ i → M' (k + 7) i = M (k + 7) i ∧ M' (k + 8) i = M (k + 8) i ∧ M' (k + 9) i = M (k + 9) i)
  ∧ (∀ i, 0 ≤ i → i < M p 15 → M' (k + 10) i = M (p + 10) i)
theorem l_goBack {M : Mem} {k p : Int} (hkp : k + 11 ≤ p ∨ p + 11 ≤ k) (h0 : 0 ≤ M p 0 ∧ M p 0 ≤ 9) (h6 : 0 ≤ M p 6 ∧ M p 6 ≤ 7) (h15 : 0 ≤ M p 15 ∧ M p 15 ≤ 40) : ∃ M', f_X5_goBackTo k p M = some M' ∧ pGone k p M M' := by
  unfold f_X5_goBackTo
  simp (disch := omega) only [p_lt, cp_nex, up_nex, up_nei, p_ck]
  refine ⟨_, rfl, fun x hx i => ?_, ?_, ?_, fun i => ?_, fun i => ?_, ?_, ?_, ?_, ?_, ?_, fun i i0 i1 => ⟨?_, ?_, ?_, ?_⟩, fun i i0 => ⟨?_, ?_, ?_, ?_⟩, fun i i0 i1 => ⟨?_, ?_, ?_⟩, fun i i0 => ⟨?_, ?_, ?_⟩, fun i i0 i1 => ?_⟩
  all_goals simp (disch := omega) only [cp_nex, up_nex, up_nei, up_eq, cp_in, cp_out, Int.zero_add]
theorem l_copySea {M : Mem} {k p : Int} (hkp : k + 11 ≤ p ∨ p + 11 ≤ k) (h0 : 0 ≤ M p 0 ∧ M p 0 ≤ 9) (h6 : 0 ≤ M p 6 ∧ M p 6 ≤ 7) (h15 : 0 ≤ M p 15 ∧ M p 15 ≤ 40) :
    ∃ M', f_X5_copyFrom k p M = some M' ∧ (∀ x, ¬ (k ≤ x ∧ x < k + 11) → ∀ i, M' x i = M x i) ∧ pEq (pvM M' k) (pvM M p) ∧ pEqS (pvM M' k) (pvM M p) ∧ M' k 15 = M p 15 ∧ (∀ i, 0 ≤ i → i < M p 15 → M' (k + 10) i = M (p + 10) i) := by
  unfold f_X5_copyFrom
  simp only [p_lt]
  generalize hM1 : cpM (cpM (upM (upM M k 0 (M p 0)) k 6 (upM M k 0 (M p 0) p 6)) (p + 1) 0 (k + 1) 0 9) (p + 6) 0 (k + 6) 0 7 = M1
  have e : ∀ x, ¬ (k ≤ x ∧ x < k + 11) → ∀ i, M1 x i = M x i := by
    intro x hx i
    rw [← hM1]
    simp (disch := omega) only [cp_nex, up_nex, up_nei, up_eq]
  have ep : ∀ x, p ≤ x → x < p + 11 → ∀ i, M1 x i = M x i := fun x a b i => e x (by omega) i
  have ep0 := ep p (by omega) (by omega)
  obtain ⟨M', g1, g2, g3, g4, g5, g6, g7, g8, g9, g10, g11, g12, g13, g14, g15, g16⟩ := l_goBack (M := M1) hkp (by rw [ep0]; exact h0) (by rw [ep0]; exact h6) (by rw [ep0]; exact h15)
  refine ⟨M', by rw [g1]; rfl, fun x hx i => by rw [g2 x hx, e x hx], ⟨?_, ?_, ?_, ?_, ?_, ?_, fun i i0 i1 => ?_, fun i i0 i1 => ?_⟩, ⟨fun i i0 i1 => ?_, fun i i0 i1 => ?_⟩, by rw [g11, ep0], fun i i0 i1 => by rw [g16 i i0 (by rw [ep0]; exact i1), ep _ (by omega) (by omega)]⟩
  · show M' k 0 = M p 0
    rw [g3, ← hM1]
    simp (disch := omega) only [cp_nex, up_nex, up_nei, up_eq]
  · show M' k 6 = M p 6
    rw [g4, ← hM1]
    simp (disch := omega) only [cp_nex, up_nex, up_nei, up_eq]
  · show M' k 11 = M p 11
    rw [g7, ep0]
  · show M' k 12 = M p 12
    rw [g8, ep0]
  · show M' k 13 = M p 13
    rw [g9, ep0]
  · show M' k 14 = M p 14
    rw [g10, ep0]
  · change i < M p 0 at i1
    have := g12 i i0 (by rw [ep0]; exact i1)
    rw [ep _ (by omega) (by omega), ep _ (by omega) (by omega), ep _ (by omega) (by omega), ep _ (by omega) (by omega)] at this
    exact this
  · change i < M p 6 at i1
    have := g14 i i0 (by rw [ep0]; exact i1)
    rw [ep _ (by omega) (by omega), ep _ (by omega) (by omega), ep _ (by omega) (by omega)] at this
    exact this
  · change i < M p 0 at i1
    show M' (k + 1) i = M (p + 1) i
    rw [g5, ← hM1]
    simp (disch := omega) only [cp_nex, up_nex, up_nei, up_eq, cp_in, Int.zero_add]
  · change i < M p 6 at i1
    show M' (k + 6) i = M (p + 6) i
    rw [g6, ← hM1]
    simp (disch := omega) only [cp_nex, up_nex, up_nei, up_eq, cp_in, Int.zero_add]
