set_option linter.unusedVariables false
set_option linter.unusedSimpArgs false
/-! taken back -/
section UndoR
variable {N : Mem} {s x : Int}
theorem l_und1 (m : Nat) (hx : 186 ≤ x) (hx2 : x ≤ 2042) (h0 : 0 ≤ s) (h1 : s < 9) : ∃ N', f_X12_undoStep (m + 4) s x 1 N = some N' ∧ (∀ y, y ≠ 802 → ∀ j, N' y j = N y j) ∧ (∀ j, ¬ (17 + 8 * s ≤ j ∧ j < 21 + 8 * s) → N' 802 j = N 802 j)
    ∧ N' 802 (17 + 8 * s) = N 802 (x + 7 + 4 * s) ∧ N' 802 (18 + 8 * s) = N 802 (x + 8 + 4 * s) ∧ N' 802 (19 + 8 * s) = N 802 (x + 9 + 4 * s) ∧ N' 802 (20 + 8 * s) = N 802 (x + 10 + 4 * s) := by
  simp (disch := omega) only [f_X12_undoStep, f_X12_undoStep_L3, f_X12_undoStep_L3_J47, f_X12_undoStep_J80, p_wI, p_ck, p_put, Option.bind_some, if_neg, if_pos, up_nei, Int.reduceAdd]
  refine ⟨_, rfl, fun y hy j => ?_, fun j hj => ?_, ?_, ?_, ?_, ?_⟩
  · simp (disch := omega) only [up_nex]
  · simp (disch := omega) only [up_nei]
  · rw [show 17 + 8 * s = 16 + 8 * s + 1 by omega]
    simp (disch := omega) only [up_nei, up_eq]
    exact congrArg (N 802) (by omega)
  · rw [show 18 + 8 * s = 16 + 8 * s + 2 by omega]
    simp (disch := omega) only [up_nei, up_eq]
    exact congrArg (N 802) (by omega)
  · rw [show 19 + 8 * s = 16 + 8 * s + 3 by omega]
    simp (disch := omega) only [up_nei, up_eq]
    exact congrArg (N 802) (by omega)
  · rw [show 20 + 8 * s = 16 + 8 * s + 4 by omega]
    simp (disch := omega) only [up_nei, up_eq]
    try exact congrArg (N 802) (by omega)
theorem l_und0 (m : Nat) (hx : 186 ≤ x) (hx2 : x ≤ 2042) (h0 : 0 ≤ s) (h1 : s < 9) : ∃ N', f_X12_undoStep (m + 4) s x 0 N = some N' ∧ (∀ y, y ≠ 802 → ∀ j, N' y j = N y j) ∧ (∀ j, ¬ (17 + 8 * s ≤ j ∧ j < 21 + 8 * s) → N' 802 j = N 802 j)
    ∧ N' 802 (17 + 8 * s) = N 802 (21 + 8 * s) ∧ N' 802 (18 + 8 * s) = N 802 (22 + 8 * s) ∧ N' 802 (19 + 8 * s) = N 802 (23 + 8 * s) ∧ N' 802 (20 + 8 * s) = 0 := by
  simp (disch := omega) only [f_X12_undoStep, f_X12_undoStep_L3, f_X12_undoStep_L3_J47, f_X12_undoStep_J80, p_wI, p_ck, p_put, p_at, Option.bind_some, if_true, if_neg, if_pos, up_nei, Int.reduceAdd]
  refine ⟨_, rfl, fun y hy j => ?_, fun j hj => ?_, ?_, ?_, ?_, ?_⟩
  · simp (disch := omega) only [up_nex]
  · simp (disch := omega) only [up_nei]
  · rw [show 17 + 8 * s = 16 + 8 * s + 1 by omega]
    simp (disch := omega) only [up_nei, up_eq]
    exact congrArg (N 802) (by omega)
  · rw [show 18 + 8 * s = 16 + 8 * s + 2 by omega]
    simp (disch := omega) only [up_nei, up_eq]
    exact congrArg (N 802) (by omega)
  · rw [show 19 + 8 * s = 16 + 8 * s + 3 by omega]
    simp (disch := omega) only [up_nei, up_eq]
    exact congrArg (N 802) (by omega)
  · rw [show 20 + 8 * s = 16 + 8 * s + 4 by omega]
    simp (disch := omega) only [up_nei, up_eq]
theorem l_uns1 (m : Nat) (hx : 186 ≤ x) (hx2 : x ≤ 2042) (h0 : 0 ≤ s) (h1 : s < 7) : ∃ N', f_X12_undoShip (m + 4) s x 1 N = some N' ∧ (∀ y, y ≠ 802 → ∀ j, N' y j = N y j) ∧ (∀ j, ¬ (89 + 6 * s ≤ j ∧ j < 92 + 6 * s) → N' 802 j = N 802 j)
    ∧ N' 802 (89 + 6 * s) = N 802 (x + 43 + 3 * s) ∧ N' 802 (90 + 6 * s) = N 802 (x + 44 + 3 * s) ∧ N' 802 (91 + 6 * s) = N 802 (x + 45 + 3 * s) := by
  simp (disch := omega) only [f_X12_undoShip, f_X12_undoShip_L3, f_X12_undoShip_L3_J47, f_X12_undoShip_J80, p_wI, p_ck, p_set, Option.bind_some, if_neg, if_pos, up_nei, Int.reduceAdd]
  refine ⟨_, rfl, fun y hy j => ?_, fun j hj => ?_, ?_, ?_, ?_⟩
  · simp (disch := omega) only [up_nex]
  · simp (disch := omega) only [up_nei]
  · rw [show 89 + 6 * s = 88 + 6 * s + 1 by omega]
    simp (disch := omega) only [up_nei, up_eq]
    exact congrArg (N 802) (by omega)
  · rw [show 90 + 6 * s = 88 + 6 * s + 2 by omega]
    simp (disch := omega) only [up_nei, up_eq]
    exact congrArg (N 802) (by omega)
  · rw [show 91 + 6 * s = 88 + 6 * s + 3 by omega]
    simp (disch := omega) only [up_nei, up_eq]
    try exact congrArg (N 802) (by omega)
theorem l_uns0 (m : Nat) (hx : 186 ≤ x) (hx2 : x ≤ 2042) (h0 : 0 ≤ s) (h1 : s < 7) : ∃ N', f_X12_undoShip (m + 4) s x 0 N = some N' ∧ (∀ y, y ≠ 802 → ∀ j, N' y j = N y j) ∧ (∀ j, ¬ (89 + 6 * s ≤ j ∧ j < 92 + 6 * s) → N' 802 j = N 802 j)
    ∧ N' 802 (89 + 6 * s) = N 802 (92 + 6 * s) ∧ N' 802 (90 + 6 * s) = N 802 (93 + 6 * s) ∧ N' 802 (91 + 6 * s) = 0 := by
  simp (disch := omega) only [f_X12_undoShip, f_X12_undoShip_L3, f_X12_undoShip_L3_J47, f_X12_undoShip_J80, p_wI, p_ck, p_set, p_get, Option.bind_some, if_true, if_neg, if_pos, up_nei, Int.reduceAdd]
  refine ⟨_, rfl, fun y hy j => ?_, fun j hj => ?_, ?_, ?_, ?_⟩
  · simp (disch := omega) only [up_nex]
  · simp (disch := omega) only [up_nei]
  · rw [show 89 + 6 * s = 88 + 6 * s + 1 by omega]
    simp (disch := omega) only [up_nei, up_eq]
    exact congrArg (N 802) (by omega)
  · rw [show 90 + 6 * s = 88 + 6 * s + 2 by omega]
    simp (disch := omega) only [up_nei, up_eq]
    exact congrArg (N 802) (by omega)
  · rw [show 91 + 6 * s = 88 + 6 * s + 3 by omega]
    simp (disch := omega) only [up_nei, up_eq]
theorem l_und37 (m : Nat) (hx : 186 ≤ x) (hx2 : x ≤ 2042) : ∃ N', f_X12_undo_L37 (m + 6) x 0 N = some N' ∧ (∀ y, y ≠ 802 → ∀ j, N' y j = N y j) ∧ (∀ j, ¬ (8 ≤ j ∧ j < 13) → N' 802 j = N 802 j) ∧ N' 802 8 = N 802 (x + 2) ∧ N' 802 9 = N 802 (x + 3) ∧ N' 802 10 = N 802 (x + 4) ∧ N' 802 11 = N 802 (x + 5) ∧ N' 802 12 = N 802 (x + 6) := by
  simp (disch := omega) only [f_X12_undo_L37, Int.reduceAdd, p_wI, p_ck, p_lt, if_pos, if_neg, up_nei]
  refine ⟨_, rfl, fun y hy j => ?_, fun j hj => ?_, ?_, ?_, ?_, ?_, ?_⟩
  · simp (disch := omega) only [up_nex]
  · simp (disch := omega) only [up_nei]
  all_goals simp (disch := omega) only [up_nei, up_eq]
  all_goals exact congrArg (N 802) (by omega)
end UndoR
/-- the reference's steps, taken back to x -/
theorem l_und69 {A : Int → Int} {x : Int} (hx : 186 ≤ x) (hx2 : x ≤ 2042) (n9 : A 0 ≤ 9) : ∀ (k n : Nat) (i : Int) (N : Mem), A 0 - i < k → k + 4 ≤ n → 0 ≤ i → i ≤ A 0 → (∀ j, (∀ t, 0 ≤ t → t < i → ¬ (17 + 8 * t ≤ j ∧ j < 21 + 8 * t)) → N 802 j = A j) →
    ∃ N', f_X12_undo_L69 n x i N = some N' ∧ (∀ y, y ≠ 802 → ∀ j, N' y j = N y j) ∧ (∀ j, (∀ t, 0 ≤ t → t < i → ¬ (17 + 8 * t ≤ j ∧ j < 21 + 8 * t)) → (∀ t, 0 ≤ t → t < A 0 → ¬ (17 + 8 * t ≤ j ∧ j < 21 + 8 * t)) → N' 802 j = A j) ∧ (∀ t, 0 ≤ t → t < i → ∀ j, 17 + 8 * t ≤ j → j < 21 + 8 * t → N' 802 j = N 802 j)
      ∧ (∀ t, i ≤ t → t < A 0 → t < A x → N' 802 (17 + 8 * t) = A (x + 7 + 4 * t) ∧ N' 802 (18 + 8 * t) = A (x + 8 + 4 * t) ∧ N' 802 (19 + 8 * t) = A (x + 9 + 4 * t) ∧ N' 802 (20 + 8 * t) = A (x + 10 + 4 * t))
      ∧ (∀ t, i ≤ t → t < A 0 → A x ≤ t → N' 802 (17 + 8 * t) = A (21 + 8 * t) ∧ N' 802 (18 + 8 * t) = A (22 + 8 * t) ∧ N' 802 (19 + 8 * t) = A (23 + 8 * t) ∧ N' 802 (20 + 8 * t) = 0) := by
  intro k
  induction k with
  | zero => intro n i N h0; omega
  | succ k ih =>
    intro n i N h0 h1 i0 i1 hN
    obtain ⟨m, rfl⟩ : ∃ m, n = m + 4 + 1 := ⟨n - 5, by omega⟩
    rw [f_X12_undo_L69, hN 0 (fun t t0 t1 => by omega)]
    by_cases c : A 0 ≤ i
    · rw [if_pos c]
      exact ⟨N, rfl, fun _ _ _ => rfl, fun j hj _ => hN j hj, fun _ _ _ _ _ _ => rfl, fun t t0 t1 => by omega, fun t t0 t1 => by omega⟩
    · rw [if_neg c, p_ck (by omega), hN x (fun t t0 t1 => by omega)]
      unfold f_X12_undo_L69_J97
      have step : ∀ (N1 : Mem), (∀ y, y ≠ 802 → ∀ j, N1 y j = N y j) → (∀ j, ¬ (17 + 8 * i ≤ j ∧ j < 21 + 8 * i) → N1 802 j = N 802 j)
          → (i < A x → N1 802 (17 + 8 * i) = A (x + 7 + 4 * i) ∧ N1 802 (18 + 8 * i) = A (x + 8 + 4 * i) ∧ N1 802 (19 + 8 * i) = A (x + 9 + 4 * i) ∧ N1 802 (20 + 8 * i) = A (x + 10 + 4 * i))
          → (A x ≤ i → N1 802 (17 + 8 * i) = A (21 + 8 * i) ∧ N1 802 (18 + 8 * i) = A (22 + 8 * i) ∧ N1 802 (19 + 8 * i) = A (23 + 8 * i) ∧ N1 802 (20 + 8 * i) = 0) →
          ∃ N', f_X12_undo_L69 (m + 4) x (wI (i + 1)) N1 = some N' ∧ (∀ y, y ≠ 802 → ∀ j, N' y j = N y j) ∧ (∀ j, (∀ t, 0 ≤ t → t < i → ¬ (17 + 8 * t ≤ j ∧ j < 21 + 8 * t)) → (∀ t, 0 ≤ t → t < A 0 → ¬ (17 + 8 * t ≤ j ∧ j < 21 + 8 * t)) → N' 802 j = A j) ∧ (∀ t, 0 ≤ t → t < i → ∀ j, 17 + 8 * t ≤ j → j < 21 + 8 * t → N' 802 j = N 802 j)
            ∧ (∀ t, i ≤ t → t < A 0 → t < A x → N' 802 (17 + 8 * t) = A (x + 7 + 4 * t) ∧ N' 802 (18 + 8 * t) = A (x + 8 + 4 * t) ∧ N' 802 (19 + 8 * t) = A (x + 9 + 4 * t) ∧ N' 802 (20 + 8 * t) = A (x + 10 + 4 * t))
            ∧ (∀ t, i ≤ t → t < A 0 → A x ≤ t → N' 802 (17 + 8 * t) = A (21 + 8 * t) ∧ N' 802 (18 + 8 * t) = A (22 + 8 * t) ∧ N' 802 (19 + 8 * t) = A (23 + 8 * t) ∧ N' 802 (20 + 8 * t) = 0) := by
        intro N1 e1 e2 e3 e4
        rw [p_wI (by omega) (by omega)]
        obtain ⟨N', a1, a2, a3, a4, a5, a6⟩ := ih (m + 4) (i + 1) N1 (by omega) (by omega) (by omega) (by omega) (fun j hj => by
          rw [e2 j (hj i i0 (by omega))]
          exact hN j (fun t t0 t1 => hj t t0 (by omega)))
        refine ⟨N', a1, fun y hy j => by rw [a2 y hy, e1 y hy], fun j hj hj2 => a3 j (fun t t0 t1 => hj2 t t0 (by omega)) hj2, fun t t0 t1 j j0 j1 => by rw [a4 t t0 (by omega) j j0 j1, e2 j (by omega)], fun t t0 t1 t2 => ?_, fun t t0 t1 t2 => ?_⟩
        · by_cases q : t = i
          · subst q
            rw [a4 t i0 (by omega) _ (by omega) (by omega), a4 t i0 (by omega) _ (by omega) (by omega), a4 t i0 (by omega) _ (by omega) (by omega), a4 t i0 (by omega) _ (by omega) (by omega)]
            exact e3 t2
          · exact a5 t (by omega) t1 t2
        · by_cases q : t = i
          · subst q
            rw [a4 t i0 (by omega) _ (by omega) (by omega), a4 t i0 (by omega) _ (by omega) (by omega), a4 t i0 (by omega) _ (by omega) (by omega), a4 t i0 (by omega) _ (by omega) (by omega)]
            exact e4 t2
          · exact a6 t (by omega) t1 t2
      by_cases d : A x ≤ i
      · obtain ⟨N1, b1, b2, b3, b4, b5, b6, b7⟩ := l_und0 (N := N) m hx hx2 i0 (by omega)
        rw [if_pos d, b1, Option.bind_some]
        refine step N1 b2 b3 (fun z => by omega) (fun _ => ?_)
        rw [b4, b5, b6, b7, hN _ (fun t t0 t1 => by omega), hN _ (fun t t0 t1 => by omega), hN _ (fun t t0 t1 => by omega)]
        exact ⟨rfl, rfl, rfl, rfl⟩
      · obtain ⟨N1, b1, b2, b3, b4, b5, b6, b7⟩ := l_und1 (N := N) m hx hx2 i0 (by omega)
        rw [if_neg d, b1, Option.bind_some]
        refine step N1 b2 b3 (fun _ => ?_) (fun z => by omega)
        rw [b4, b5, b6, b7, hN _ (fun t t0 t1 => by omega), hN _ (fun t t0 t1 => by omega), hN _ (fun t t0 t1 => by omega), hN _ (fun t t0 t1 => by omega)]
        exact ⟨rfl, rfl, rfl, rfl⟩
theorem l_und108 {A : Int → Int} {x : Int} (hx : 186 ≤ x) (hx2 : x ≤ 2042) (n7 : A 1 ≤ 7) : ∀ (k n : Nat) (i : Int) (N : Mem), A 1 - i < k → k + 4 ≤ n → 0 ≤ i → i ≤ A 1 → (∀ j, (∀ t, 0 ≤ t → t < i → ¬ (89 + 6 * t ≤ j ∧ j < 92 + 6 * t)) → N 802 j = A j) →
    ∃ N', f_X12_undo_L108 n x i N = some N' ∧ (∀ y, y ≠ 802 → ∀ j, N' y j = N y j) ∧ (∀ j, (∀ t, 0 ≤ t → t < i → ¬ (89 + 6 * t ≤ j ∧ j < 92 + 6 * t)) → (∀ t, 0 ≤ t → t < A 1 → ¬ (89 + 6 * t ≤ j ∧ j < 92 + 6 * t)) → N' 802 j = A j) ∧ (∀ t, 0 ≤ t → t < i → ∀ j, 89 + 6 * t ≤ j → j < 92 + 6 * t → N' 802 j = N 802 j)
      ∧ (∀ t, i ≤ t → t < A 1 → t < A (x + 1) → N' 802 (89 + 6 * t) = A (x + 43 + 3 * t) ∧ N' 802 (90 + 6 * t) = A (x + 44 + 3 * t) ∧ N' 802 (91 + 6 * t) = A (x + 45 + 3 * t))
      ∧ (∀ t, i ≤ t → t < A 1 → A (x + 1) ≤ t → N' 802 (89 + 6 * t) = A (92 + 6 * t) ∧ N' 802 (90 + 6 * t) = A (93 + 6 * t) ∧ N' 802 (91 + 6 * t) = 0) := by
  intro k
  induction k with
  | zero => intro n i N h0; omega
  | succ k ih =>
    intro n i N h0 h1 i0 i1 hN
    obtain ⟨m, rfl⟩ : ∃ m, n = m + 4 + 1 := ⟨n - 5, by omega⟩
    rw [f_X12_undo_L108, hN 1 (fun t t0 t1 => by omega)]
    by_cases c : A 1 ≤ i
    · rw [if_pos c]
      exact ⟨N, rfl, fun _ _ _ => rfl, fun j hj _ => hN j hj, fun _ _ _ _ _ _ => rfl, fun t t0 t1 => by omega, fun t t0 t1 => by omega⟩
    · rw [if_neg c, p_wI (x := x + 1) (by omega) (by omega), p_ck (by omega), hN (x + 1) (fun t t0 t1 => by omega)]
      unfold f_X12_undo_L108_J138
      have step : ∀ (N1 : Mem), (∀ y, y ≠ 802 → ∀ j, N1 y j = N y j) → (∀ j, ¬ (89 + 6 * i ≤ j ∧ j < 92 + 6 * i) → N1 802 j = N 802 j)
          → (i < A (x + 1) → N1 802 (89 + 6 * i) = A (x + 43 + 3 * i) ∧ N1 802 (90 + 6 * i) = A (x + 44 + 3 * i) ∧ N1 802 (91 + 6 * i) = A (x + 45 + 3 * i))
          → (A (x + 1) ≤ i → N1 802 (89 + 6 * i) = A (92 + 6 * i) ∧ N1 802 (90 + 6 * i) = A (93 + 6 * i) ∧ N1 802 (91 + 6 * i) = 0) →
          ∃ N', f_X12_undo_L108 (m + 4) x (wI (i + 1)) N1 = some N' ∧ (∀ y, y ≠ 802 → ∀ j, N' y j = N y j) ∧ (∀ j, (∀ t, 0 ≤ t → t < i → ¬ (89 + 6 * t ≤ j ∧ j < 92 + 6 * t)) → (∀ t, 0 ≤ t → t < A 1 → ¬ (89 + 6 * t ≤ j ∧ j < 92 + 6 * t)) → N' 802 j = A j) ∧ (∀ t, 0 ≤ t → t < i → ∀ j, 89 + 6 * t ≤ j → j < 92 + 6 * t → N' 802 j = N 802 j)
            ∧ (∀ t, i ≤ t → t < A 1 → t < A (x + 1) → N' 802 (89 + 6 * t) = A (x + 43 + 3 * t) ∧ N' 802 (90 + 6 * t) = A (x + 44 + 3 * t) ∧ N' 802 (91 + 6 * t) = A (x + 45 + 3 * t))
            ∧ (∀ t, i ≤ t → t < A 1 → A (x + 1) ≤ t → N' 802 (89 + 6 * t) = A (92 + 6 * t) ∧ N' 802 (90 + 6 * t) = A (93 + 6 * t) ∧ N' 802 (91 + 6 * t) = 0) := by
        intro N1 e1 e2 e3 e4
        rw [p_wI (by omega) (by omega)]
        obtain ⟨N', a1, a2, a3, a4, a5, a6⟩ := ih (m + 4) (i + 1) N1 (by omega) (by omega) (by omega) (by omega) (fun j hj => by
          rw [e2 j (hj i i0 (by omega))]
          exact hN j (fun t t0 t1 => hj t t0 (by omega)))
        refine ⟨N', a1, fun y hy j => by rw [a2 y hy, e1 y hy], fun j hj hj2 => a3 j (fun t t0 t1 => hj2 t t0 (by omega)) hj2, fun t t0 t1 j j0 j1 => by rw [a4 t t0 (by omega) j j0 j1, e2 j (by omega)], fun t t0 t1 t2 => ?_, fun t t0 t1 t2 => ?_⟩
        · by_cases q : t = i
          · subst q
            rw [a4 t i0 (by omega) _ (by omega) (by omega), a4 t i0 (by omega) _ (by omega) (by omega), a4 t i0 (by omega) _ (by omega) (by omega)]
            exact e3 t2
          · exact a5 t (by omega) t1 t2
        · by_cases q : t = i
          · subst q
            rw [a4 t i0 (by omega) _ (by omega) (by omega), a4 t i0 (by omega) _ (by omega) (by omega), a4 t i0 (by omega) _ (by omega) (by omega)]
            exact e4 t2
          · exact a6 t (by omega) t1 t2
      by_cases d : A (x + 1) ≤ i
      · obtain ⟨N1, b1, b2, b3, b4, b5, b6⟩ := l_uns0 (N := N) m hx hx2 i0 (by omega)
        rw [if_pos d, b1, Option.bind_some]
        refine step N1 b2 b3 (fun z => by omega) (fun _ => ?_)
        rw [b4, b5, b6, hN _ (fun t t0 t1 => by omega), hN _ (fun t t0 t1 => by omega)]
        exact ⟨rfl, rfl, rfl⟩
      · obtain ⟨N1, b1, b2, b3, b4, b5, b6⟩ := l_uns1 (N := N) m hx hx2 i0 (by omega)
        rw [if_neg d, b1, Option.bind_some]
        refine step N1 b2 b3 (fun _ => ?_) (fun z => by omega)
        rw [b4, b5, b6, hN _ (fun t t0 t1 => by omega), hN _ (fun t t0 t1 => by omega), hN _ (fun t t0 t1 => by omega)]
        exact ⟨rfl, rfl, rfl⟩
