set_option linter.unusedVariables false
set_option linter.unusedSimpArgs false
/-! ===== the two fresh stores say the same ===== -/
theorem ini_arr {x : Int} (h0 : x ≠ 0) (hk : 20 ≤ (K0 x).1) (j : Int) : ini x j = 0 := by
  unfold ini
  rw [if_neg h0]
  unfold iXk
  rw [if_neg (by omega), if_neg (by omega), if_neg (by omega), if_neg (by omega)]
  rfl
theorem ini_sea {s : Int} (h : isSea s) : ini s 0 = 0 ∧ ini s 6 = 0 ∧ ini s 15 = 0 := by
  have k : K0 s = (5, 17) := (sea_F h).1
  have h0 : s ≠ 0 := by rcases h with r | r | r | ⟨j, r⟩ | ⟨j, r⟩ <;> omega
  have e : ∀ j, ini s j = (iXk s.toNat (5, 17)).getD j.toNat 0 := fun j => by
    unfold ini
    rw [if_neg h0, k]
  exact ⟨(e 0).trans rfl, (e 6).trans rfl, (e 15).trans rfl⟩
theorem pWhole_ini {w : Int} {A : Int → Int} (hw : w = 2 ∨ w = 352) (hA : ∀ j, 0 ≤ j → j < 10606 → A j = if j = 3 then -1 else if j = 11 then 83 else 0) : pWhole ini w A := by
  have a0 : ∀ j, 0 ≤ j → j < 10606 → j ≠ 3 → j ≠ 11 → A j = 0 := fun j h0 h1 h2 h3 => by rw [hA j h0 h1, if_neg h2, if_neg h3]
  have a3 : A 3 = -1 := by rw [hA 3 (by decide) (by decide), if_pos rfl]
  have a11 : A 11 = 83 := by rw [hA 11 (by decide) (by decide), if_neg (by decide), if_pos rfl]
  have z0 := a0 0 (by decide) (by decide) (by decide) (by decide)
  have z1 := a0 1 (by decide) (by decide) (by decide) (by decide)
  have z2 := a0 2 (by decide) (by decide) (by decide) (by decide)
  have z4 := a0 4 (by decide) (by decide) (by decide) (by decide)
  have z5 := a0 5 (by decide) (by decide) (by decide) (by decide)
  have z6 := a0 6 (by decide) (by decide) (by decide) (by decide)
  have z7 := a0 7 (by decide) (by decide) (by decide) (by decide)
  have z8 := a0 8 (by decide) (by decide) (by decide) (by decide)
  have z9 := a0 9 (by decide) (by decide) (by decide) (by decide)
  have z10 := a0 10 (by decide) (by decide) (by decide) (by decide)
  have z12 := a0 12 (by decide) (by decide) (by decide) (by decide)
  have m : ini (w + 1) 0 = 0 ∧ ini (w + 1) 6 = 0 ∧ ini (w + 1) 11 = 0 ∧ ini (w + 1) 12 = 0 ∧ ini (w + 1) 13 = 0 ∧ ini (w + 1) 14 = 83 ∧ ini (w + 1) 15 = 0 ∧ ini (w + 12) 1 = 0 ∧ ini (w + 12) 2 = 0 ∧ ini (w + 344) 0 = 0 ∧ ini (w + 344) 3 = 0 ∧ ini (w + 344) 6 = 0 ∧ ini w 3 = 0 ∧ ini w 4 = -1 := by
    rcases hw with z | z <;> subst z <;> decide +kernel
  obtain ⟨m0, m6, m11, m12, m13, m14, m15, c1, c2, t0, t3, t6, w3, w4⟩ := m
  have d0 : pvA A 0 0 = 0 := z0
  have d1 : pvA A 1 0 = 0 := z1
  have d2 : pvA A 2 0 = 0 := z8
  have d3 : pvA A 3 0 = 0 := z9
  have d4 : pvA A 4 0 = 0 := z10
  have d5 : pvA A 5 0 = 83 := a11
  have d6 : pvA A 6 0 = 0 := z12
  have q0 : pvM ini (w + 1) 0 0 = 0 := m0
  have q1 : pvM ini (w + 1) 1 0 = 0 := m6
  have q2 : pvM ini (w + 1) 2 0 = 0 := m11
  have q3 : pvM ini (w + 1) 3 0 = 0 := m12
  have q4 : pvM ini (w + 1) 4 0 = 0 := m13
  have q5 : pvM ini (w + 1) 5 0 = 83 := m14
  unfold pWhole
  refine ⟨?_, ?_, ?_, ?_, ?_, ?_, ?_, ?_, ?_, ?_⟩
  · unfold pOK
    rw [d0, d1, d2, d3, d4, d5, d6]
    exact ⟨by decide, by decide, by decide, by decide, by decide, by decide, by decide, fun i h0 h1 => by omega, fun i h0 h1 => by omega⟩
  · unfold pEq
    rw [d0, d1, d2, d3, d4, d5, q0, q1, q2, q3, q4, q5]
    exact ⟨rfl, rfl, rfl, rfl, rfl, rfl, fun i h0 h1 => by omega, fun i h0 h1 => by omega⟩
  · unfold pEqS
    rw [d0, d1]
    exact ⟨fun i h0 h1 => by omega, fun i h0 h1 => by omega⟩
  · unfold pBook
    rw [m15, z12]
    exact ⟨by decide, by decide, fun i h0 h1 => by
      have e : min (0 : Int) 40 = 0 := by decide
      rw [e] at h1
      omega⟩
  · unfold pActs
    rw [c1, c2, z4]
    exact ⟨by decide, rfl, by decide, fun j h0 h1 => by omega, fun j h0 h1 => by omega, fun h => by omega⟩
  · unfold pTold
    rw [t0, t3, t6, z5, z6, z7]
    exact ⟨rfl, by decide, fun i h0 h1 => by omega, rfl, by decide, fun i h0 h1 => by omega, rfl, by decide, fun i h0 h1 => by omega⟩
  · rw [w3, z2]
  · rw [z2]; decide
  · rw [w4, a3]
  · rw [a3, z2]; decide
theorem pRel_ini : ∃ N1 N', N1 = upM (upM ini 802 11 83) 802 3 (-1) ∧ f_X12_copy 12000 802 803 N1 = some N' ∧ pRel ini N' := by
  obtain ⟨N1, hN1⟩ : ∃ N1, N1 = upM (upM ini 802 11 83) 802 3 (-1) := ⟨_, rfl⟩
  obtain ⟨N', e1, e2, e3, e4⟩ := l_copyN (p := 802) (q := 803) (by decide) 10700 12000 0 N1 (by omega) (by omega) (by decide) (by decide)
  have k802 : 20 ≤ (K0 802).1 := by rw [kd_802]; decide
  have n802 : ∀ j, N1 802 j = if j = 3 then -1 else if j = 11 then 83 else 0 := by
    intro j
    by_cases a : j = 3
    · subst a; rw [if_pos rfl, hN1, up_eq]
    · rw [if_neg a, hN1, up_nei a]
      by_cases b : j = 11
      · subst b; rw [if_pos rfl, up_eq]
      · rw [if_neg b, up_nei b]; exact ini_arr (by decide) k802 j
  have f801 : ∀ j, N' 801 j = ini 801 j := fun j => by rw [e2 801 (by decide), hN1, up_nex (by decide), up_nex (by decide)]
  refine ⟨N1, N', hN1, ?_, ?_, ?_, ?_, ?_, ?_, ?_, ?_, ?_, ?_⟩
  · unfold f_X12_copy
    rw [e1]
    rfl
  · exact pWhole_ini (Or.inl rfl) (fun j j0 j1 => by rw [e2 802 (by decide)]; exact n802 j)
  · exact pWhole_ini (Or.inr rfl) (fun j j0 j1 => by rw [e3 j j0 j1]; exact n802 j)
  · intro s hs
    obtain ⟨s1, s2, s3⟩ := ini_sea hs
    rw [s1, s2, s3]
    decide
  · intro i i0 i1
    have : ini 2 3 = 0 := by decide +kernel
    omega
  · refine ⟨by rw [f801]; decide +kernel, by rw [f801]; decide +kernel, fun i i0 i1 => ?_⟩
    rw [f801, show ini 801 4 = 0 by decide +kernel] at i1
    omega
  · exact ⟨by rw [f801]; decide +kernel, by rw [f801]; decide +kernel⟩
  · refine ⟨by decide +kernel, fun i i0 i1 => ?_⟩
    rw [ini_arr (x := 712) (by decide) (by decide +kernel), ini_arr (x := 711) (by decide) (by decide +kernel)]
    exact Int.le_refl _
  · rw [f801]; decide +kernel
  · decide +kernel
