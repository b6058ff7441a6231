set_option linter.unusedVariables false
set_option linter.unusedSimpArgs false
/-! unions of states: ways to cut the row, the best of them -/
/-- a way on from i: where each union ends -/
def pPath (n : Nat) : Nat → List Nat → Prop
  | i, [] => i = n
  | i, j :: l => i < j ∧ pPath n j l
theorem pPath_le {n : Nat} : ∀ (l : List Nat) (i : Nat), pPath n i l → i ≤ n
  | [], i, h => Nat.le_of_eq h
  | j :: l, i, h => by have := pPath_le l j h.2; have := h.1; omega
theorem pPath_gt {n : Nat} : ∀ (l : List Nat) (i : Nat), pPath n i l → ∀ x ∈ l, i < x ∧ x ≤ n
  | [], i, h, x, hx => by simp at hx
  | j :: l, i, h, x, hx => by
    rcases List.mem_cons.mp hx with e | e
    · subst e
      exact ⟨h.1, pPath_le l x h.2⟩
    · have := pPath_gt l j h.2 x e
      have := h.1
      omega
theorem pPath_len {n : Nat} : ∀ (l : List Nat) (i : Nat), pPath n i l → l.length + i ≤ n
  | [], i, h => by have : i = n := h; simp; omega
  | j :: l, i, h => by have := pPath_len l j h.2; have := h.1; rw [List.length_cons]; omega
def qWt (W : Nat → Nat → Int) : Nat → List Nat → Int
  | _, [] => 0
  | i, j :: l => W i j + qWt W j l
theorem qWt_in {W : Nat → Nat → Int} {n : Nat} {C : Int} (hC : 0 ≤ C ∧ C ≤ 2000000) (hW : ∀ i j, i < j → j ≤ n → -C ≤ W i j ∧ W i j ≤ C) : ∀ (l : List Nat) (i : Nat), pPath n i l → -(C * (l.length : Int)) ≤ qWt W i l ∧ qWt W i l ≤ C * (l.length : Int)
  | [], i, h => by simp [qWt]
  | j :: l, i, h => by
    have a := qWt_in hC hW l j h.2
    have b := hW i j h.1 (pPath_le l j h.2)
    rw [qWt, List.length_cons]
    have e : C * ((l.length + 1 : Nat) : Int) = C * (l.length : Int) + C := by
      rw [show ((l.length + 1 : Nat) : Int) = (l.length : Int) + 1 by omega, Int.mul_add, Int.mul_one]
    rw [e]
    omega
/-- the first that differs, among ways -/
def pFst : List Nat → List Nat → Prop
  | x :: xs, y :: ys => x < y ∨ (x = y ∧ pFst xs ys)
  | _, _ => False
theorem pFst_irr : ∀ V : List Nat, ¬ pFst V V
  | [] => fun z => z
  | x :: V => fun z => by
    rcases z with z | z
    · omega
    · exact pFst_irr V z.2
theorem pFst_trans : ∀ A B C : List Nat, pFst A B → pFst B C → pFst A C
  | [], _, _ => fun h => by cases h
  | _ :: _, [], _ => fun h => by cases h
  | _ :: _, _ :: _, [] => fun _ h => by cases h
  | x :: A, y :: B, z :: C => fun h g => by
    rcases h with h | h <;> rcases g with g | g
    · exact Or.inl (by omega)
    · exact Or.inl (by omega)
    · exact Or.inl (by omega)
    · exact Or.inr ⟨h.1.trans g.1, pFst_trans A B C h.2 g.2⟩
/-- A is at least as good a way on from i as B -/
def pGe (W : Nat → Nat → Int) (i : Nat) (A B : List Nat) : Prop := qWt W i B < qWt W i A ∨ (qWt W i B = qWt W i A ∧ (A.length < B.length ∨ (A.length = B.length ∧ (A = B ∨ pFst B A))))
theorem pGe_rfl {W : Nat → Nat → Int} {i : Nat} {A : List Nat} : pGe W i A A := Or.inr ⟨rfl, Or.inr ⟨rfl, Or.inl rfl⟩⟩
theorem pGe_trans {W : Nat → Nat → Int} {i : Nat} {A B C : List Nat} (h : pGe W i A B) (g : pGe W i B C) : pGe W i A C := by
  rcases h with h | ⟨h1, h2⟩
  · rcases g with g | ⟨g1, g2⟩
    · exact Or.inl (by omega)
    · exact Or.inl (by omega)
  · rcases g with g | ⟨g1, g2⟩
    · exact Or.inl (by omega)
    · refine Or.inr ⟨by omega, ?_⟩
      rcases h2 with h2 | ⟨h2, h3⟩
      · rcases g2 with g2 | ⟨g2, g3⟩
        · exact Or.inl (by omega)
        · exact Or.inl (by omega)
      · rcases g2 with g2 | ⟨g2, g3⟩
        · exact Or.inl (by omega)
        · refine Or.inr ⟨by omega, ?_⟩
          rcases h3 with h3 | h3
          · subst h3; exact g3
          · rcases g3 with g3 | g3
            · subst g3; exact Or.inr h3
            · exact Or.inr (pFst_trans _ _ _ g3 h3)
theorem pGe_anti {W : Nat → Nat → Int} {i : Nat} {A B : List Nat} (h : pGe W i A B) (g : pGe W i B A) : A = B := by
  rcases h with h | ⟨h1, h2⟩
  · rcases g with g | ⟨g1, g2⟩ <;> omega
  · rcases g with g | ⟨g1, g2⟩
    · omega
    · rcases h2 with h2 | ⟨h2, h3⟩
      · rcases g2 with g2 | ⟨g2, g3⟩ <;> omega
      · rcases g2 with g2 | ⟨g2, g3⟩
        · omega
        · rcases h3 with h3 | h3
          · exact h3
          · rcases g3 with g3 | g3
            · exact g3.symm
            · exact absurd (pFst_trans _ _ _ h3 g3) (pFst_irr _)
theorem pGe_cons {W : Nat → Nat → Int} {i j : Nat} {A B : List Nat} (h : pGe W j A B) : pGe W i (j :: A) (j :: B) := by
  unfold pGe
  rw [qWt, qWt, List.length_cons, List.length_cons]
  rcases h with h | ⟨h1, h2⟩
  · exact Or.inl (by omega)
  · refine Or.inr ⟨by omega, ?_⟩
    rcases h2 with h2 | ⟨h2, h3⟩
    · exact Or.inl (by omega)
    · refine Or.inr ⟨by omega, ?_⟩
      rcases h3 with h3 | h3
      · exact Or.inl (by rw [h3])
      · exact Or.inr (Or.inr ⟨rfl, h3⟩)
/-- the way that a set of cuts says, from i, with d + 1 places yet to go -/
def pCut (s : Nat) : Nat → Nat → List Nat
  | _, 0 => []
  | i, d + 1 => if d = 0 ∨ s.testBit i = true then (i + 1) :: pCut s (i + 1) d else pCut s (i + 1) d
theorem pCut_path {s n : Nat} : ∀ (d i b : Nat), i + d = n → b ≤ i → (d = 0 → b = n) → pPath n b (pCut s i d) := by
  intro d
  induction d with
  | zero => intro i b h1 h2 h3; exact h3 rfl
  | succ d ih =>
    intro i b h1 h2 h3
    rw [pCut]
    by_cases c : d = 0 ∨ s.testBit i = true
    · rw [if_pos c]
      exact ⟨by omega, ih (i + 1) (i + 1) (by omega) (Nat.le_refl _) (by omega)⟩
    · rw [if_neg c]
      exact ih (i + 1) b (by omega) (by omega) (fun z => absurd (Or.inl z) c)
theorem pCut_same {s t : Nat} : ∀ (d i : Nat), (∀ j, i ≤ j → s.testBit j = t.testBit j) → pCut s i d = pCut t i d := by
  intro d
  induction d with
  | zero => intro i h; rfl
  | succ d ih =>
    intro i h
    rw [pCut, pCut, h i (Nat.le_refl _), ih (i + 1) (fun j hj => h j (by omega))]
/-- every way is a set's -/
theorem pCut_of {n : Nat} : ∀ (d i b : Nat) (l : List Nat), i + d = n → b ≤ i → pPath n b l → (∀ x ∈ l, i < x) → (d = 0 → l = []) → ∃ s, (∀ j, s.testBit j = true → i ≤ j ∧ j + 1 < n) ∧ pCut s i d = l := by
  intro d
  induction d with
  | zero => intro i b l h1 h2 h3 h4 h5; exact ⟨0, fun j hj => by simp at hj, (h5 rfl).symm⟩
  | succ d ih =>
    intro i b l h1 h2 h3 h4 h5
    cases l with
    | nil =>
      have : b = n := h3
      omega
    | cons x l =>
      have x0 := h4 x List.mem_cons_self
      have xn := pPath_le l x h3.2
      by_cases c : x = i + 1
      · subst c
        obtain ⟨s, s1, s2⟩ := ih (i + 1) (i + 1) l (by omega) (Nat.le_refl _) h3.2 (fun y hy => (pPath_gt l _ h3.2 y hy).1) (fun z => by
          cases l with
          | nil => rfl
          | cons y l => have := (pPath_gt _ _ h3.2 y List.mem_cons_self); omega)
        by_cases e : d = 0
        · refine ⟨s, fun j hj => by have := s1 j hj; omega, ?_⟩
          rw [pCut, if_pos (Or.inl e), s2]
        · refine ⟨s ||| 2 ^ i, fun j hj => ?_, ?_⟩
          · rw [Nat.testBit_or, Bool.or_eq_true, Nat.testBit_two_pow, decide_eq_true_iff] at hj
            rcases hj with hj | hj
            · have := s1 j hj; omega
            · omega
          · rw [pCut, if_pos (Or.inr (by rw [Nat.testBit_or, Nat.testBit_two_pow]; simp)), ← s2]
            congr 1
            refine pCut_same d (i + 1) (fun j hj => ?_)
            rw [Nat.testBit_or, Nat.testBit_two_pow]
            have : ¬ i = j := by omega
            simp [this]
      · have d0 : d ≠ 0 := by omega
        obtain ⟨s, s1, s2⟩ := ih (i + 1) b (x :: l) (by omega) (by omega) h3 (fun y hy => by
          rcases List.mem_cons.mp hy with e | e
          · omega
          · have := (pPath_gt l x h3.2 y e).1; omega) (fun z => absurd z d0)
        refine ⟨s, fun j hj => by have := s1 j hj; omega, ?_⟩
        rw [pCut, if_neg ?_, s2]
        rintro (z | z)
        · exact d0 z
        · have := s1 i z; omega
theorem pCut_len {s : Nat} : ∀ (d i : Nat), (pCut s i (d + 1)).length + cB s i = cB s (i + d) + 1 := by
  intro d
  induction d with
  | zero => intro i; simp [pCut]; omega
  | succ d ih =>
    intro i
    have := ih (i + 1)
    have c := cB_succ s i
    rw [pCut]
    rw [show i + (d + 1) = i + 1 + d by omega]
    by_cases e : s.testBit i = true
    · rw [if_pos (Or.inr e), List.length_cons]
      rw [if_pos e] at c
      omega
    · rw [if_neg (show ¬ (d + 1 = 0 ∨ s.testBit i = true) from fun z => z.elim (fun w => by omega) e)]
      rw [if_neg e] at c
      omega
theorem pCut_upTo {s p : Nat} : ∀ (d i : Nat), i ≤ p → p ≤ i + d → (pCut s i (d + 1)).countP (fun x => decide (x ≤ p)) + cB s i = cB s p := by
  intro d
  induction d with
  | zero =>
    intro i h1 h2
    have : p = i := by omega
    subst this
    simp [pCut]
  | succ d ih =>
    intro i h1 h2
    by_cases q : i = p
    · subst q
      have : ∀ x ∈ pCut s i (d + 1 + 1), ¬ x ≤ i := by
        intro x hx
        have := (pPath_gt _ i (pCut_path (s := s) (n := i + (d + 1 + 1)) (d + 1 + 1) i i rfl (Nat.le_refl _) (by omega)) x hx).1
        omega
      rw [List.countP_eq_zero.mpr (fun x hx => by simp; have := this x hx; omega)]
      omega
    · have := ih (i + 1) (by omega) (by omega)
      have c := cB_succ s i
      rw [pCut]
      by_cases e : s.testBit i = true
      · rw [if_pos (Or.inr e), List.countP_cons]
        rw [if_pos e] at c
        have : decide (i + 1 ≤ p) = true := by simp; omega
        rw [if_pos this]
        omega
      · rw [if_neg (show ¬ (d + 1 = 0 ∨ s.testBit i = true) from fun z => z.elim (fun w => by omega) e)]
        rw [if_neg e] at c
        omega
theorem cB_top {s n : Nat} (hs : s < 2 ^ n) (hn : n ≤ 10) : cB s n = pCnt s := by
  have key : ∀ d, n + d ≤ 10 → cB s (n + d) = cB s n := by
    intro d
    induction d with
    | zero => intro h; rfl
    | succ d ih =>
      intro h
      rw [show n + (d + 1) = (n + d) + 1 by omega, cB_succ, ih (by omega), p_hi hs (by omega), if_neg (by simp)]
      omega
  have := key (10 - n) (by omega)
  rw [show n + (10 - n) = 10 by omega] at this
  rw [← this]
  rfl
/-- equal in number, and alike up to i: the first that differs -/
theorem pCut_fst {s t : Nat} : ∀ (d i : Nat), s.testBit i = true → t.testBit i = false → 0 < d → pFst (pCut s i (d + 1)) (pCut t i (d + 1)) := by
  intro d i h1 h2 h3
  have ng : ¬ (d = 0 ∨ t.testBit i = true) := by
    rintro (z | z)
    · omega
    · rw [h2] at z; simp at z
  rw [pCut, pCut, if_pos (Or.inr h1), if_neg ng]
  have hp := pCut_path (s := t) (n := i + 1 + d) d (i + 1) (i + 1) rfl (Nat.le_refl _) (by omega)
  cases e : pCut t (i + 1) d with
  | nil =>
    rw [e] at hp
    have : i + 1 = i + 1 + d := hp
    omega
  | cons y l =>
    have := (pPath_gt _ _ hp y (by rw [e]; exact List.mem_cons_self)).1
    exact Or.inl this
theorem pCut_on {s t : Nat} {d i : Nat} (h : s.testBit i = t.testBit i) : (pFst (pCut s (i + 1) d) (pCut t (i + 1) d) → pFst (pCut s i (d + 1)) (pCut t i (d + 1))) ∧ (pCut s (i + 1) d = pCut t (i + 1) d → pCut s i (d + 1) = pCut t i (d + 1)) := by
  rw [pCut, pCut, h]
  by_cases c : d = 0 ∨ t.testBit i = true
  · rw [if_pos c, if_pos c]
    exact ⟨fun z => Or.inr ⟨rfl, z⟩, fun z => by rw [z]⟩
  · rw [if_neg c, if_neg c]
    exact ⟨fun z => z, fun z => z⟩
