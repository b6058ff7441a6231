set_option linter.unusedVariables false
set_option linter.unusedSimpArgs false
/-! text: one thing asked -/
/-- the top's last comparison stands above p -/
def isCmp (N : Mem) (p : Int) : Prop := ∃ j, p ≤ j ∧ j < N 801 16 ∧ f_X12_rank (N 806 j) = 4 ∧ ∀ i, j < i → i < N 801 16 → 4 < f_X12_rank (N 806 i)
def qAsk (c x l p d b2 f rk B L : Int) (M N M' : Mem) : Prop := ∃ (N' : Mem) (k w : Nat), (∀ n, 1000 ≤ n → f_X12_parsed_L20 (n + k) 1 N = f_X12_parsed_L20 n 1 N') ∧ pPs M' N' c x l p ∧ (N' 801 16 = p + (w : Int) ∧ (w : Int) ≤ B) ∧ (∀ j, p ≤ j → j < N' 801 16 → isOp (N' 806 j) ∧ rk ≤ f_X12_rank (N' 806 j)) ∧ N' 801 17 = d + opn (N' 806) p w ∧ N' 801 18 = 1 ∧ fPM c M M' ∧ fPN x p N N' ∧ pWf (oX N' x) (uX N' x) f (M' c 3) 0 b2 ∧ (N 801 8 + (k : Int) ≤ N' 801 8 ∧ (1 : Int) ≤ k) ∧ nj L (M' 703 6) ∧ isCmp N' p
def okAsk (nA m : Nat) (D c x l : Int) : Prop := ∀ (M N : Mem) (p d b f : Int), qPre 1 c x l p d 0 b f M N → D ≤ d → p ≤ 2 + d → (p = 0 ∨ (1 ≤ f_X12_rank (N 806 (p - 1)) ∧ f_X12_rank (N 806 (p - 1)) ≤ 3)) → ¬ pOpen N → ∃ v M', f_rd nA m 1 d 0 M = some (v, M') ∧ ((v = 1 ∧ qAsk c x l p d (b + 1) f 3 (11 - d) 2 M N M') ∨ (v = 0 ∧ qFail 1 c x M N M'))
theorem l_cmp7 {N : Mem} (h1 : N 801 16 ≤ 159) : ∀ (k n : Nat) (i : Int), i < k → k + 1 ≤ n → -1 ≤ i → i < N 801 16 → ∃ v, f_X12_isCompared_L7 n i N = some v ∧ -1 ≤ v ∧ v ≤ i ∧ (0 ≤ v → f_X12_rank (N 806 v) ≤ 4) ∧ (∀ j, v < j → j ≤ i → 4 < f_X12_rank (N 806 j)) := by
  intro k
  induction k with
  | zero =>
    intro n i g0 g1 g2 g3
    obtain ⟨n, rfl⟩ : ∃ n', n = n' + 1 := ⟨n - 1, by omega⟩
    rw [f_X12_isCompared_L7, if_pos (by omega)]
    exact ⟨i, rfl, g2, Int.le_refl _, fun z => by omega, fun j a b => by omega⟩
  | succ k ih =>
    intro n i g0 g1 g2 g3
    obtain ⟨n, rfl⟩ : ∃ n', n = n' + 1 := ⟨n - 1, by omega⟩
    rw [f_X12_isCompared_L7]
    by_cases c : i < 0
    · rw [if_pos c]
      exact ⟨i, rfl, g2, Int.le_refl _, fun z => by omega, fun j a b => by omega⟩
    · rw [if_neg c, p_ck (by omega), p_wI (x := i + (-1)) (by omega) (by omega)]
      by_cases d : f_X12_rank (N 806 i) ≤ 4
      · rw [if_pos d]
        exact ⟨i, rfl, g2, Int.le_refl _, fun _ => d, fun j a b => by omega⟩
      · rw [if_neg d]
        obtain ⟨v, v1, v2, v3, v4, v5⟩ := ih n (i + (-1)) (by omega) (by omega) (by omega) (by omega)
        refine ⟨v, v1, v2, by omega, v4, fun j a b => ?_⟩
        by_cases z : j = i
        · subst z; omega
        · exact v5 j a (by omega)
/-- compared: just if the last of rank 4 or less is a comparison -/
theorem l_cmp1 {N : Mem} {p : Int} (h0 : 0 ≤ p) (h1 : N 801 16 ≤ 159) (h : isCmp N p) {n : Nat} (hn : 200 ≤ n) : f_X12_isCompared n N = some 1 := by
  obtain ⟨j, j0, j1, j2, j3⟩ := h
  obtain ⟨v, v1, v2, v3, v4, v5⟩ := l_cmp7 h1 170 n (N 801 16 - 1) (by omega) (by omega) (by omega) (by omega)
  have e : v = j := by
    by_cases a : v < j
    · have := v5 j a (by omega); omega
    · by_cases b : j < v
      · have := j3 v b (by omega)
        have := v4 (by omega)
        omega
      · omega
  subst e
  unfold f_X12_isCompared f_X12_isCompared_J30
  rw [p_wI (x := N 801 16 - 1) (by omega) (by omega), v1, Option.bind_some, if_neg (by omega), p_ck (by omega), if_neg (fun z => z j2)]
theorem l_cmp0 {N : Mem} {p : Int} (h0 : 0 ≤ p) (hp : p ≤ N 801 16) (h1 : N 801 16 ≤ 159) (h : ∀ j, p ≤ j → j < N 801 16 → 4 < f_X12_rank (N 806 j)) (hr : p = 0 ∨ f_X12_rank (N 806 (p - 1)) < 4) {n : Nat} (hn : 200 ≤ n) : f_X12_isCompared n N = some 0 := by
  obtain ⟨v, v1, v2, v3, v4, v5⟩ := l_cmp7 h1 170 n (N 801 16 - 1) (by omega) (by omega) (by omega) (by omega)
  have e : v = p - 1 := by
    by_cases a : v < p - 1
    · have := v5 (p - 1) a (by omega)
      rcases hr with z | z <;> omega
    · by_cases b : p ≤ v
      · have := h v b (by omega)
        have := v4 (by omega)
        omega
      · omega
  subst e
  unfold f_X12_isCompared f_X12_isCompared_J30
  rw [p_wI (x := N 801 16 - 1) (by omega) (by omega), v1, Option.bind_some]
  rcases hr with z | z
  · rw [if_pos (by omega)]
  · by_cases y : p - 1 < 0
    · rw [if_pos y]
    · rw [if_neg y, p_ck (by omega), if_pos (by omega)]
/-- between, where it is asked and nothing of arithmetic follows -/
theorem q_bta {M N : Mem} (kd : pKd M N) (h : nj 3 (M 703 6)) {n : Nat} (ha : f_X12_isAskHere n N = some 1) : f_X12_betweenOf n N = (f_X12_isCompared n N).bind fun q7 => if q7 ≠ 0 then (if M 703 6 = 153 then some 21 else if M 703 6 = 152 then some 22 else some (-1)) else some (cpO (M 703 6)) := by
  have ka := kd_all kd
  have k43 := ka.2.2.2.1 43 (by unfold isSg; omega)
  have k45 := ka.2.2.2.1 45 (by unfold isSg; omega)
  have k42 := ka.2.2.2.1 42 (by unfold isSg; omega)
  have k47 := ka.2.2.2.1 47 (by unfold isSg; omega)
  have h1 := h.1 (by decide)
  have h2 := h.2.1 (by decide)
  obtain ⟨-, -, -, -, -, -, -, -, -, -, -, -, cor, cand, -⟩ := cw2
  have w152 := q_word kd (i := 24) (by decide) cor
  have w153 := q_word kd (i := 25) (by decide) cand
  rw [show (128 : Int) + ((24 : Nat) : Int) = 152 by decide] at w152
  rw [show (128 : Int) + ((25 : Nat) : Int) = 153 by decide] at w153
  have e : ∀ (P : Prop) [Decidable P], ((if P then (1 : Int) else 0) = 0) = ¬ P := by
    intro P _
    by_cases c : P
    · simp [c]
    · simp [c]
  unfold f_X12_betweenOf
  rw [if_pos (show N 801 9 ≠ 43 from fun z => h2.1 (k43.mp z)), if_pos (show N 801 9 ≠ 45 from fun z => h2.2 (k45.mp z)), if_pos (show N 801 9 ≠ 42 from fun z => h1.1 (k42.mp z)), if_pos (show N 801 9 ≠ 47 from fun z => h1.2 (k47.mp z)), ha, Option.bind_some, if_pos (by decide), w152, w153, q_comp kd]
  simp only [e, ite_not]
theorem notOpen {N N1 : Mem} {x p : Int} (h : ¬ pOpen N) (hq : p ≤ N 801 16) (f : fPN x p N N1) (ho : ∀ j, p ≤ j → j < N1 801 16 → N1 806 j < 40) : ¬ pOpen N1 := by
  rintro ⟨j, j0, j1, j2⟩
  by_cases z : j < p
  · rw [f.2.2.1 j z] at j2
    exact h ⟨j, j0, by omega, j2⟩
  · have := ho j (by omega) j1
    omega
theorem cpO_in (t : Int) : (cpO t = -1 ∧ ¬ (t = 60 ∨ t = 62 ∨ t = 61 ∨ t = 35 ∨ t = 1 ∨ t = 2)) ∨ (10 ≤ cpO t ∧ cpO t ≤ 15 ∧ pOp (cpO t) 0 = t ∧ (t = 60 ∨ t = 62 ∨ t = 61 ∨ t = 35 ∨ t = 1 ∨ t = 2)) := by
  by_cases c : t = 60 ∨ t = 62 ∨ t = 61 ∨ t = 35 ∨ t = 1 ∨ t = 2
  · right
    rcases c with c | c | c | c | c | c <;> subst c <;> decide
  · left
    unfold cpO
    rw [if_neg (by omega), if_neg (by omega), if_neg (by omega), if_neg (by omega), if_neg (by omega), if_neg (by omega)]
    exact ⟨rfl, c⟩
