set_option linter.unusedVariables false
set_option linter.unusedSimpArgs false
theorem l_keep13 : ∀ (k n : Nat) (i : Int) (N : Mem), k ≤ n → 0 ≤ i → i ≤ 1856 → 1856 - i < k → ∃ N', f_X12_keep_L13 n i N = some N' ∧ (∀ x, x ≠ 802 → ∀ j, N' x j = N x j) ∧ (∀ j, ¬ (186 + i ≤ j ∧ j < 2042) → N' 802 j = N 802 j) ∧ (∀ j, 186 + i ≤ j → j < 2042 → N' 802 j = N 802 (j + 64)) := by
  intro k
  induction k with
  | zero => intro n i N _ h0 h1 h2; omega
  | succ k ih =>
    intro n i N hn h0 h1 h2
    obtain ⟨n, rfl⟩ : ∃ m, n = m + 1 := ⟨n - 1, by omega⟩
    rw [f_X12_keep_L13]
    by_cases c : 1856 ≤ i
    · rw [if_pos c]
      exact ⟨N, rfl, fun x _ j => rfl, fun j _ => rfl, fun j a b => by omega⟩
    · simp (disch := omega) only [p_wI, p_ck, p_lt, if_neg c]
      obtain ⟨N', g1, g2, g3, g4⟩ := ih n (i + 1) (upM N 802 (186 + i) (N 802 (250 + i))) (by omega) (by omega) (by omega) (by omega)
      refine ⟨N', g1, fun x hx j => by rw [g2 x hx, up_nex hx], fun j hj => by rw [g3 j (by omega), up_nei (by omega)], fun j j0 j1 => ?_⟩
      by_cases q : j = 186 + i
      · subst q
        rw [g3 _ (by omega), up_eq]
        congr 1
        omega
      · rw [g4 j (by omega) j1, up_nei (by omega)]
theorem l_keep98 {x : Int} (hx : 186 ≤ x) (hx2 : x ≤ 2042) (m : Nat) (N : Mem) : ∃ N', f_X12_keep_L98 (m + 6) x 0 N = some N' ∧ (∀ y, y ≠ 802 → ∀ j, N' y j = N y j) ∧ (∀ j, ¬ (x + 2 ≤ j ∧ j < x + 7) → N' 802 j = N 802 j) ∧ (∀ k, 0 ≤ k → k < 5 → N' 802 (x + 2 + k) = N 802 (8 + k)) := by
  simp (disch := omega) only [f_X12_keep_L98, Int.reduceAdd, p_wI, p_ck, p_lt, if_pos, if_neg, up_nei, up_nex, up_eq]
  refine ⟨_, rfl, fun y hy j => ?_, fun j hj => ?_, fun k k0 k1 => ?_⟩
  · simp (disch := omega) only [up_nex]
  · simp (disch := omega) only [up_nei]
  · have : k = 0 ∨ k = 1 ∨ k = 2 ∨ k = 3 ∨ k = 4 := by omega
    rcases this with r | r | r | r | r <;> subst r <;> simp (disch := omega) only [up_nei, up_eq] <;> rfl
theorem l_keep138 {x s : Int} (hx : 186 ≤ x) (hx2 : x ≤ 2042) (h0 : 0 ≤ s) (h1 : s < 9) (m : Nat) (N : Mem) : ∃ N', f_X12_keep_L138 (m + 5) x s 0 N = some N' ∧ (∀ y, y ≠ 802 → ∀ j, N' y j = N y j) ∧ (∀ j, ¬ (x + 7 + 4 * s ≤ j ∧ j < x + 11 + 4 * s) → N' 802 j = N 802 j) ∧ (∀ k, 0 ≤ k → k < 4 → N' 802 (x + 7 + 4 * s + k) = N 802 (17 + 8 * s + k)) := by
  simp (disch := omega) only [f_X12_keep_L138, Int.reduceAdd, p_wI, p_ck, p_lt, if_pos, if_neg, up_nei, up_nex, up_eq, p_at, Option.bind_some]
  refine ⟨_, rfl, fun y hy j => ?_, fun j hj => ?_, fun k k0 k1 => ?_⟩
  · simp (disch := omega) only [up_nex]
  · simp (disch := omega) only [up_nei]
  · have : k = 0 ∨ k = 1 ∨ k = 2 ∨ k = 3 := by omega
    rcases this with r | r | r | r <;> subst r <;> simp (disch := omega) only [up_nei, up_eq] <;> congr 1 <;> omega
theorem l_keep188 {x s : Int} (hx : 186 ≤ x) (hx2 : x ≤ 2042) (h0 : 0 ≤ s) (h1 : s < 7) (m : Nat) (N : Mem) : ∃ N', f_X12_keep_L188 (m + 4) x s 0 N = some N' ∧ (∀ y, y ≠ 802 → ∀ j, N' y j = N y j) ∧ (∀ j, ¬ (x + 43 + 3 * s ≤ j ∧ j < x + 46 + 3 * s) → N' 802 j = N 802 j) ∧ (∀ k, 0 ≤ k → k < 3 → N' 802 (x + 43 + 3 * s + k) = N 802 (89 + 6 * s + k)) := by
  simp (disch := omega) only [f_X12_keep_L188, Int.reduceAdd, p_wI, p_ck, p_lt, if_pos, if_neg, up_nei, up_nex, up_eq, p_get, Option.bind_some]
  refine ⟨_, rfl, fun y hy j => ?_, fun j hj => ?_, fun k k0 k1 => ?_⟩
  · simp (disch := omega) only [up_nex]
  · simp (disch := omega) only [up_nei]
  · have : k = 0 ∨ k = 1 ∨ k = 2 := by omega
    rcases this with r | r | r <;> subst r <;> simp (disch := omega) only [up_nei, up_eq] <;> congr 1 <;> omega
theorem l_keep130 {x : Int} (hx : 186 ≤ x) (hx2 : x ≤ 2042) : ∀ (k n : Nat) (s : Int) (N : Mem), k + 6 ≤ n → 0 ≤ s → s ≤ 9 → 9 - s < k → ∃ N', f_X12_keep_L130 n x s N = some N' ∧ (∀ y, y ≠ 802 → ∀ j, N' y j = N y j) ∧ (∀ j, ¬ (x + 7 + 4 * s ≤ j ∧ j < x + 43) → N' 802 j = N 802 j) ∧ (∀ t q, s ≤ t → t < 9 → 0 ≤ q → q < 4 → N' 802 (x + 7 + 4 * t + q) = N 802 (17 + 8 * t + q)) := by
  intro k
  induction k with
  | zero => intro n s N _ h0 h1 h2; omega
  | succ k ih =>
    intro n s N hn h0 h1 h2
    obtain ⟨n, rfl⟩ : ∃ m, n = m + 6 := ⟨n - 6, by omega⟩
    rw [f_X12_keep_L130]
    by_cases c : 9 ≤ s
    · rw [if_pos c]
      exact ⟨N, rfl, fun y _ j => rfl, fun j _ => rfl, fun t q a b => by omega⟩
    · obtain ⟨N1, a1, a2, a3, a4⟩ := l_keep138 hx hx2 h0 (by omega) n N
      rw [if_neg c, a1, Option.bind_some, p_wI (by omega) (by omega)]
      obtain ⟨N', g1, g2, g3, g4⟩ := ih (n + 5) (s + 1) N1 (by omega) (by omega) (by omega) (by omega)
      refine ⟨N', g1, fun y hy j => by rw [g2 y hy, a2 y hy], fun j hj => by rw [g3 j (by omega), a3 j (by omega)], fun t q t0 t1 q0 q1 => ?_⟩
      by_cases e : t = s
      · subst e
        rw [g3 _ (by omega), a4 q q0 q1]
      · rw [g4 t q (by omega) t1 q0 q1, a3 _ (by omega)]
theorem l_keep180 {x : Int} (hx : 186 ≤ x) (hx2 : x ≤ 2042) : ∀ (k n : Nat) (s : Int) (N : Mem), k + 6 ≤ n → 0 ≤ s → s ≤ 7 → 7 - s < k → ∃ N', f_X12_keep_L180 n x s N = some N' ∧ (∀ y, y ≠ 802 → ∀ j, N' y j = N y j) ∧ (∀ j, ¬ (x + 43 + 3 * s ≤ j ∧ j < x + 64) → N' 802 j = N 802 j) ∧ (∀ t q, s ≤ t → t < 7 → 0 ≤ q → q < 3 → N' 802 (x + 43 + 3 * t + q) = N 802 (89 + 6 * t + q)) := by
  intro k
  induction k with
  | zero => intro n s N _ h0 h1 h2; omega
  | succ k ih =>
    intro n s N hn h0 h1 h2
    obtain ⟨n, rfl⟩ : ∃ m, n = m + 6 := ⟨n - 6, by omega⟩
    rw [f_X12_keep_L180]
    by_cases c : 7 ≤ s
    · rw [if_pos c]
      exact ⟨N, rfl, fun y _ j => rfl, fun j _ => rfl, fun t q a b => by omega⟩
    · obtain ⟨N1, a1, a2, a3, a4⟩ := l_keep188 hx hx2 h0 (by omega) (n + 1) N
      rw [if_neg c, a1, Option.bind_some, p_wI (by omega) (by omega)]
      obtain ⟨N', g1, g2, g3, g4⟩ := ih (n + 5) (s + 1) N1 (by omega) (by omega) (by omega) (by omega)
      refine ⟨N', g1, fun y hy j => by rw [g2 y hy, a2 y hy], fun j hj => by rw [g3 j (by omega), a3 j (by omega)], fun t q t0 t1 q0 q1 => ?_⟩
      by_cases e : t = s
      · subst e
        rw [g3 _ (by omega), a4 q q0 q1]
      · rw [g4 t q (by omega) t1 q0 q1, a3 _ (by omega)]
/-- the reference's new act: it says what the sea says -/
theorem l_keepJ {N : Mem} {n : Nat} (hn : 40 ≤ n) (h0 : 0 ≤ N 802 4) (h1 : N 802 4 < 30) : ∃ N', f_X12_keep_J56 n N = some N' ∧ (∀ y, y ≠ 802 → ∀ j, N' y j = N y j) ∧ N' 802 4 = N 802 4 + 1
    ∧ (∀ j, j ≠ 4 → ¬ (186 + 64 * N 802 4 ≤ j ∧ j < 250 + 64 * N 802 4) → N' 802 j = N 802 j)
    ∧ (N' 802 (186 + 64 * N 802 4) = N 802 0 ∧ N' 802 (186 + 64 * N 802 4 + 1) = N 802 1)
    ∧ (∀ k, 0 ≤ k → k < 5 → N' 802 (186 + 64 * N 802 4 + 2 + k) = N 802 (8 + k))
    ∧ (∀ t q, 0 ≤ t → t < 9 → 0 ≤ q → q < 4 → N' 802 (186 + 64 * N 802 4 + 7 + 4 * t + q) = N 802 (17 + 8 * t + q))
    ∧ (∀ t q, 0 ≤ t → t < 7 → 0 ≤ q → q < 3 → N' 802 (186 + 64 * N 802 4 + 43 + 3 * t + q) = N 802 (89 + 6 * t + q)) := by
  generalize hx : 186 + 64 * N 802 4 = x
  have hx1 : 186 ≤ x := by omega
  have hx2 : x ≤ 2042 := by omega
  have w : wI (186 + wI (64 * N 802 4)) = x := by rw [p_wI (x := 64 * N 802 4) (by omega) (by omega), p_wI (by omega) (by omega)]; exact hx
  unfold f_X12_keep_J56
  rw [w]
  simp (disch := omega) only [p_wI, p_ck, p_lt]
  obtain ⟨m, rfl⟩ : ∃ m, n = m + 6 := ⟨n - 6, by omega⟩
  obtain ⟨N1, a1, a2, a3, a4⟩ := l_keep98 hx1 hx2 m (upM (upM N 802 x (N 802 0)) 802 (x + 1) (upM N 802 x (N 802 0) 802 1))
  obtain ⟨N2, b1, b2, b3, b4⟩ := l_keep130 hx1 hx2 20 (m + 6) 0 N1 (by omega) (by omega) (by omega) (by omega)
  obtain ⟨N3, c1, c2, c3, c4⟩ := l_keep180 hx1 hx2 20 (m + 6) 0 N2 (by omega) (by omega) (by omega) (by omega)
  rw [a1, Option.bind_some, b1, Option.bind_some, c1, Option.bind_some]
  have z : N3 802 4 = N 802 4 := by rw [c3 _ (by omega), b3 _ (by omega), a3 _ (by omega), up_nei (by omega), up_nei (by omega)]
  refine ⟨_, rfl, fun y hy j => ?_, ?_, fun j hj hj2 => ?_, ⟨?_, ?_⟩, fun k k0 k1 => ?_, fun t q t0 t1 q0 q1 => ?_, fun t q t0 t1 q0 q1 => ?_⟩
  · rw [up_nex hy, c2 y hy, b2 y hy, a2 y hy, up_nex hy, up_nex hy]
  · rw [up_eq, z, p_wI (by omega) (by omega)]
  · rw [up_nei hj, c3 _ (by omega), b3 _ (by omega), a3 _ (by omega), up_nei (by omega), up_nei (by omega)]
  · rw [up_nei (by omega), c3 _ (by omega), b3 _ (by omega), a3 _ (by omega), up_nei (by omega), up_eq]
  · rw [up_nei (by omega), c3 _ (by omega), b3 _ (by omega), a3 _ (by omega), up_eq, up_nei (by omega)]
  · rw [up_nei (by omega), c3 _ (by omega), b3 _ (by omega), a4 k k0 k1, up_nei (by omega), up_nei (by omega)]
  · rw [up_nei (by omega), c3 _ (by omega), b4 t q t0 t1 q0 q1, a3 _ (by omega), up_nei (by omega), up_nei (by omega)]
  · rw [up_nei (by omega), c4 t q t0 t1 q0 q1, b3 _ (by omega), a3 _ (by omega), up_nei (by omega), up_nei (by omega)]
