set_option linter.unusedVariables false
set_option linter.unusedSimpArgs false
/-! text: what the two sides ask of a token -/
theorem cw : f_X12_w5 116 97 107 101 115 = (wCd 0 : Nat) ∧ f_X12_w5 104 97 117 108 115 = (wCd 1 : Nat) ∧ f_X12_w5 119 101 97 114 115 = (wCd 2 : Nat) ∧ f_X12_w5 102 108 111 119 115 = (wCd 3 : Nat) ∧ f_X12_w5 102 97 108 108 115 = (wCd 4 : Nat) ∧ f_X12_w4 115 116 101 112 = (wCd 5 : Nat) ∧ f_X12_w4 115 104 105 112 = (wCd 6 : Nat) ∧ f_X12_w4 104 111 117 114 = (wCd 7 : Nat) ∧ f_X12_w5 102 108 111 111 100 = (wCd 8 : Nat) ∧ f_X12_w5 114 97 105 115 101 = (wCd 9 : Nat) ∧ f_X12_w4 109 101 110 100 = (wCd 10 : Nat) ∧ f_X12_w4 98 105 110 100 = (wCd 11 : Nat) := by decide +kernel
theorem cw2 : f_X12_w4 115 105 108 108 = (wCd 12 : Nat) ∧ f_X12_w5 119 97 116 101 114 = (wCd 13 : Nat) ∧ f_X12_w4 102 105 115 104 = (wCd 14 : Nat) ∧ f_X12_w2 111 110 = (wCd 15 : Nat) ∧ f_X12_w2 116 111 = (wCd 16 : Nat) ∧ f_X12_w2 98 121 = (wCd 17 : Nat) ∧ f_X12_w4 104 105 103 104 = (wCd 18 : Nat) ∧ f_X12_w4 119 111 114 110 = (wCd 19 : Nat) ∧ f_X12_w6 119 101 105 103 104 116 = (wCd 20 : Nat) ∧ f_X12_w5 111 116 104 101 114 = (wCd 21 : Nat) ∧ f_X12_w5 97 98 111 118 101 = (wCd 22 : Nat) ∧ f_X12_w5 98 101 108 111 119 = (wCd 23 : Nat) ∧ f_X12_w2 111 114 = (wCd 24 : Nat) ∧ f_X12_w3 97 110 100 = (wCd 25 : Nat) ∧ f_X12_w3 110 111 116 = (wCd 26 : Nat) := by decide +kernel
theorem kd_all {t v k u w : Int} (h : pKind t v k u w) : (k = 1 ↔ t = 3) ∧ (k = 0 ↔ t = 4) ∧ (t = 3 → 0 ≤ u ∧ v = min 10000 u) ∧ (∀ s, isSg s → (k = s ↔ t = s)) ∧ (k = 4 ↔ t = 1) ∧ (k = 5 ↔ t = 2) ∧ (∀ i : Nat, i < 27 → ((k = 2 ∧ w = (wCd i : Nat)) ↔ t = 128 + (i : Int))) ∧ (0 ≤ k ∧ k ≤ 62 ∧ 1 ≤ t ∧ t ≤ 154) := by
  unfold pKind at h
  rcases h with h | h | ⟨h1, ⟨i, i1, i2, i3⟩ | ⟨i2, i3⟩⟩ | h | h | h | ⟨h1, h2⟩
  · exact ⟨by omega, by omega, by omega, fun s hs => by unfold isSg at hs; omega, by omega, by omega, fun i hi => by omega, by omega⟩
  · exact ⟨by omega, by omega, by omega, fun s hs => by unfold isSg at hs; omega, by omega, by omega, fun i hi => by omega, by omega⟩
  · refine ⟨by omega, by omega, by omega, fun s hs => by unfold isSg at hs; omega, by omega, by omega, fun j hj => ?_, by omega⟩
    constructor
    · rintro ⟨-, z⟩
      have := w_one ⟨i, i1⟩ ⟨j, hj⟩ (by dsimp only; omega)
      dsimp only at this
      omega
    · intro z
      have : j = i := by omega
      subst this
      exact ⟨h1, i3⟩
  · exact ⟨by omega, by omega, by omega, fun s hs => by unfold isSg at hs; omega, by omega, by omega, fun j hj => ⟨fun z => absurd z.2 (i3 j hj), fun z => by omega⟩, by omega⟩
  · exact ⟨by omega, by omega, by omega, fun s hs => by unfold isSg at hs; omega, by omega, by omega, fun i hi => by omega, by omega⟩
  · exact ⟨by omega, by omega, by omega, fun s hs => by unfold isSg at hs; omega, by omega, by omega, fun i hi => by omega, by omega⟩
  · exact ⟨by omega, by omega, by omega, fun s hs => by unfold isSg at hs; omega, by omega, by omega, fun i hi => by omega, by omega⟩
  · subst h2
    unfold isSg at h1
    exact ⟨by omega, by omega, by omega, fun s hs => by omega, by omega, by omega, fun i hi => by omega, by omega⟩
/-- a token as both sides have it -/
def pKd (M N : Mem) : Prop := pKind (M 703 6) (M 703 8) (N 801 9) (N 801 10) (N 801 11)
theorem q_word {M N : Mem} (h : pKd M N) {i : Nat} (hi : i < 27) {p : Int} (hp : p = (wCd i : Nat)) : f_X12_isWord p N = if M 703 6 = 128 + (i : Int) then 1 else 0 := by
  have g := (kd_all h).2.2.2.2.2.2.1 i hi
  subst hp
  unfold f_X12_isWord
  by_cases c : M 703 6 = 128 + (i : Int)
  · obtain ⟨g1, g2⟩ := g.mpr c
    rw [if_pos c, if_neg (fun z => z g1), if_neg (fun z => z ((q_cmp _ _).mpr g2))]
  · rw [if_neg c]
    by_cases d : N 801 9 = 2
    · rw [if_neg (fun z => z d), if_pos (fun z => c (g.mp ⟨d, (q_cmp _ _).mp z⟩))]
    · rw [if_pos d]
theorem q_cmpw {M N : Mem} (h : pKd M N) (h2 : N 801 9 = 2) {i : Nat} (hi : i < 27) {p : Int} (hp : p = (wCd i : Nat)) : (lCmp (N 801 11) p ≠ 0) = ¬ M 703 6 = 128 + (i : Int) := by
  have g := (kd_all h).2.2.2.2.2.2.1 i hi
  subst hp
  apply propext
  constructor
  · intro z y
    exact z ((q_cmp _ _).mpr (g.mpr y).2)
  · intro z y
    exact z (g.mp ⟨h2, (q_cmp _ _).mp y⟩)
/-- a name's number -/
def nmO (t : Int) : Int := if t = 135 then 0 else if t = 133 then 1 else if t = 146 then 2 else if t = 140 then 3 else if t = 141 then 4 else if t = 142 then 5 else if t = 147 then 6 else if t = 148 then 7 else if t = 149 then 8 else -1
theorem q_name {M N : Mem} (h : pKd M N) : f_X12_nameOf N = nmO (M 703 6) := by
  have g := kd_all h
  obtain ⟨-, -, -, -, -, c133, -, c135, -⟩ := cw
  obtain ⟨c140, c141, c142, -, -, -, c146, c147, c148, c149, -⟩ := cw2
  unfold f_X12_nameOf nmO
  by_cases d : N 801 9 = 2
  · rw [if_pos d]
    simp only [q_cmpw h d (i := 7) (by decide) c135, q_cmpw h d (i := 5) (by decide) c133, q_cmpw h d (i := 18) (by decide) c146, q_cmpw h d (i := 12) (by decide) c140, q_cmpw h d (i := 13) (by decide) c141, q_cmpw h d (i := 14) (by decide) c142, q_cmpw h d (i := 19) (by decide) c147, q_cmpw h d (i := 20) (by decide) c148, q_cmpw h d (i := 21) (by decide) c149, ite_not]
    rfl
  · have ng : ∀ i : Nat, i < 27 → M 703 6 ≠ 128 + (i : Int) := fun i hi z => d ((g.2.2.2.2.2.2.1 i hi).mpr z).1
    have n1 := ng 7 (by decide)
    have n2 := ng 5 (by decide)
    have n3 := ng 18 (by decide)
    have n4 := ng 12 (by decide)
    have n5 := ng 13 (by decide)
    have n6 := ng 14 (by decide)
    have n7 := ng 19 (by decide)
    have n8 := ng 20 (by decide)
    have n9 := ng 21 (by decide)
    rw [if_neg d, if_neg (by omega), if_neg (by omega), if_neg (by omega), if_neg (by omega), if_neg (by omega), if_neg (by omega), if_neg (by omega), if_neg (by omega), if_neg (by omega)]
theorem q_sort {M N : Mem} (h : pKd M N) : f_X12_sortOf N = if 128 ≤ M 703 6 ∧ M 703 6 ≤ 139 then M 703 6 - 128 else -1 := by
  obtain ⟨c0, c1, c2, c3, c4, c5, c6, c7, c8, c9, c10, c11⟩ := cw
  unfold f_X12_sortOf
  rw [q_word h (i := 0) (by decide) c0, q_word h (i := 1) (by decide) c1, q_word h (i := 2) (by decide) c2, q_word h (i := 3) (by decide) c3, q_word h (i := 4) (by decide) c4, q_word h (i := 5) (by decide) c5, q_word h (i := 6) (by decide) c6, q_word h (i := 7) (by decide) c7, q_word h (i := 8) (by decide) c8, q_word h (i := 9) (by decide) c9, q_word h (i := 10) (by decide) c10, q_word h (i := 11) (by decide) c11]
  have e : ∀ (P : Prop) [Decidable P], ((if P then (1 : Int) else 0) = 0) = ¬ P := by
    intro P _
    by_cases c : P
    · simp [c]
    · simp [c]
  simp only [e, ite_not]
  by_cases r : 128 ≤ M 703 6 ∧ M 703 6 ≤ 139
  · rw [if_pos r]
    have : M 703 6 = 128 ∨ M 703 6 = 129 ∨ M 703 6 = 130 ∨ M 703 6 = 131 ∨ M 703 6 = 132 ∨ M 703 6 = 133 ∨ M 703 6 = 134 ∨ M 703 6 = 135 ∨ M 703 6 = 136 ∨ M 703 6 = 137 ∨ M 703 6 = 138 ∨ M 703 6 = 139 := by omega
    rcases this with z | z | z | z | z | z | z | z | z | z | z | z <;> rw [z] <;> decide
  · rw [if_neg r, if_neg (by omega), if_neg (by omega), if_neg (by omega), if_neg (by omega), if_neg (by omega), if_neg (by omega), if_neg (by omega), if_neg (by omega), if_neg (by omega), if_neg (by omega), if_neg (by omega), if_neg (by omega)]
/-- a comparison's number -/
def cpO (t : Int) : Int := if t = 60 then 10 else if t = 1 then 11 else if t = 62 then 12 else if t = 2 then 13 else if t = 61 then 14 else if t = 35 then 15 else -1
theorem q_comp {M N : Mem} (h : pKd M N) : f_X12_compareOf N = cpO (M 703 6) := by
  obtain ⟨g1, g2, g3, g4, g5, g6, g7, g8⟩ := kd_all h
  have s60 := g4 60 (by unfold isSg; omega)
  have s62 := g4 62 (by unfold isSg; omega)
  have s61 := g4 61 (by unfold isSg; omega)
  have s35 := g4 35 (by unfold isSg; omega)
  unfold f_X12_compareOf cpO
  simp only [ne_eq, ite_not, s60, s62, s61, s35, g5, g6]
theorem q_isName (t : Int) : (f_X4_isName t = 1 ∧ 0 ≤ nmO t ∧ nmO t ≤ 8 ∧ pNm (nmO t) = t) ∨ (f_X4_isName t = 0 ∧ nmO t = -1) := by
  by_cases c : t = 135 ∨ t = 133 ∨ t = 140 ∨ t = 141 ∨ t = 142 ∨ t = 146 ∨ t = 147 ∨ t = 148 ∨ t = 149
  · left
    rcases c with c | c | c | c | c | c | c | c | c <;> subst c <;> decide
  · right
    unfold f_X4_isName nmO
    constructor
    · rw [if_neg (by omega), if_neg (by omega), if_neg (by omega), if_neg (by omega), if_neg (by omega), if_neg (by omega), if_neg (by omega), if_neg (by omega), if_pos (by omega)]
    · rw [if_neg (by omega), if_neg (by omega), if_neg (by omega), if_neg (by omega), if_neg (by omega), if_neg (by omega), if_neg (by omega), if_neg (by omega), if_neg (by omega)]
theorem q_figs {M N : Mem} (h : pKd M N) (t3 : M 703 6 = 3) : N 801 9 = 1 ∧ ((M 703 8 ≤ 9999) ↔ (N 801 10 ≤ 9999)) ∧ (M 703 8 ≤ 9999 → M 703 8 = N 801 10) ∧ 0 ≤ N 801 10 ∧ 0 ≤ M 703 8 ∧ M 703 8 ≤ 10000 := by
  have g := kd_all h
  have := g.2.2.1 t3
  exact ⟨g.1.mpr t3, by omega, by omega, by omega, by omega, by omega⟩
