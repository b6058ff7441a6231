set_option linter.unusedVariables false
set_option linter.unusedSimpArgs false
/-! text: the class's list of words -/
def wA (i : Nat) : Nat := [0, 6, 12, 18, 24, 30, 35, 40, 45, 51, 57, 62, 67, 72, 78, 83, 86, 89, 92, 97, 102, 109, 115, 121, 127, 130, 134, 138].getD i 0
def wLn (i : Nat) : Nat := [5, 5, 5, 5, 5, 4, 4, 4, 5, 5, 4, 4, 4, 5, 4, 2, 2, 2, 4, 4, 6, 5, 5, 5, 2, 3, 3].getD i 0
def wCd (i : Nat) : Nat := [499850634611, 448311684211, 512801993331, 439905908595, 439721159795, 1937007984, 1936222576, 1752135026, 439905906532, 491260572517, 1835363940, 1651076708, 1936288876, 512736126322, 1718186856, 28526, 29807, 25209, 1751738216, 2003792494, 131277443786868, 478694368626, 418263299685, 422608400247, 28530, 6385252, 7237492].getD i 0
def sN (j : Nat) : Nat := (strC0 (j : Int)).toNat
theorem w_tab : ∀ i : Fin 27, wA (i.val + 1) = wA i.val + wLn i.val + 1 ∧ wA (i.val + 1) ≤ 138 ∧ 1 ≤ wLn i.val ∧ wLn i.val ≤ 6 ∧ strC0 ((wA i.val + wLn i.val : Nat) : Int) = 32 ∧ wc sN (wA i.val) (wLn i.val) = wCd i.val ∧ wCd i.val < 281474976710656 := by decide +kernel
theorem w_let : ∀ i : Fin 27, ∀ c : Fin 6, c.val < wLn i.val → strC0 ((wA i.val + c.val : Nat) : Int) ≠ 32 ∧ (97 ≤ strC0 ((wA i.val + c.val : Nat) : Int) ∧ strC0 ((wA i.val + c.val : Nat) : Int) ≤ 122) := by decide +kernel
theorem w_one : ∀ i j : Fin 27, wCd i.val = wCd j.val → i.val = j.val := by decide +kernel
section Word
variable {M : Mem} {B : Nat → Nat} {p L : Nat}
/-- the word i stands there -/
def isW (B : Nat → Nat) (p L i : Nat) : Prop := L = wLn i ∧ ∀ t, t < L → B (p + t) = sN (wA i + t)
def pFnd (B : Nat → Nat) (p L i : Nat) (v : Int) : Prop := (∃ k : Nat, k < 27 ∧ v = 128 + (k : Int) ∧ isW B p L k) ∨ (v = 5 ∧ ∀ k, i ≤ k → k < 27 → ¬ isW B p L k)
theorem l_word (hB : ∀ t : Nat, t < L → M 704 ((p + t : Nat) : Int) = B (p + t)) (hp : p + L ≤ 300) : ∀ (f n i c : Nat) (fl : Int), 138 - (wA i + c) < f → f ≤ n → (i < 27 ∧ c ≤ wLn i) ∨ (i = 27 ∧ c = 0) → ((fl = 1 ∧ ∀ t, t < c → t < L ∧ B (p + t) = sN (wA i + t)) ∨ (fl = 0 ∧ ¬ isW B p L i)) →
    ∃ v, f_X4_wordBetween_L13 n p ((p + L : Nat) : Int) (128 + (i : Int)) c fl ((wA i + c : Nat) : Int) M = some v ∧ pFnd B p L i v := by
  intro f
  induction f with
  | zero => intro n i c fl g0; omega
  | succ f ih =>
    intro n i c fl g0 g1 g2 g3
    obtain ⟨n, rfl⟩ : ∃ n', n = n' + 1 := ⟨n - 1, by omega⟩
    rw [f_X4_wordBetween_L13]
    by_cases e : i = 27
    · subst e
      have c0 : c = 0 := by omega
      subst c0
      have : wA 27 = 138 := by decide
      rw [if_pos (by omega)]
      exact ⟨5, rfl, Or.inr ⟨rfl, fun k a b => by omega⟩⟩
    · have i27 : i < 27 := by omega
      have cl : c ≤ wLn i := by omega
      obtain ⟨t1, t2, t3, t4, t5, t6, t7⟩ := w_tab ⟨i, i27⟩
      dsimp only at t1 t2 t3 t4 t5 t6 t7
      clear g2
      rw [if_neg (by omega), p_ck (by omega)]
      -- on to the next word
      have next : ¬ isW B p L i → ∃ v, f_X4_wordBetween_L13 n p ((p + L : Nat) : Int) (128 + ((i + 1 : Nat) : Int)) ((0 : Nat) : Int) 1 ((wA (i + 1) + 0 : Nat) : Int) M = some v ∧ pFnd B p L i v := by
        intro nw
        obtain ⟨v, v1, v2⟩ := ih n (i + 1) 0 1 (by omega) (by omega) (by omega) (Or.inl ⟨rfl, fun t ht => by omega⟩)
        refine ⟨v, v1, ?_⟩
        rcases v2 with h | ⟨h1, h2⟩
        · exact Or.inl h
        · refine Or.inr ⟨h1, fun k a b => ?_⟩
          by_cases q : k = i
          · subst q; exact nw
          · exact h2 k (by omega) b
      by_cases d : c = wLn i
      · subst d
        rw [t5, if_pos rfl, p_wI (x := 128 + (i : Int) + 1) (by omega) (by omega), p_wI (x := ((wA i + wLn i : Nat) : Int) + 1) (by omega) (by omega), show (128 + (i : Int) + 1) = 128 + ((i + 1 : Nat) : Int) by omega, show ((wA i + wLn i : Nat) : Int) + 1 = ((wA (i + 1) + 0 : Nat) : Int) by omega, show ((p + L : Nat) : Int) - (p : Int) = (L : Int) by omega, p_wI (x := (L : Int)) (by omega) (by omega)]
        rcases g3 with ⟨h1, h2⟩ | ⟨h1, h2⟩
        · subst h1
          rw [if_neg (by decide)]
          by_cases q : wLn i = L
          · rw [if_neg (by omega)]
            refine ⟨_, rfl, Or.inl ⟨i, i27, rfl, q.symm, fun t ht => (h2 t (by omega)).2⟩⟩
          · rw [if_pos (by omega)]
            exact next (fun z => q z.1.symm)
        · subst h1
          rw [if_pos rfl]
          exact next h2
      · have le := w_let ⟨i, i27⟩ ⟨c, by omega⟩ (by show c < wLn i; omega)
        dsimp only at le
        rw [if_neg le.1, p_wI (x := (c : Int) + 1) (by omega) (by omega), p_wI (x := ((wA i + c : Nat) : Int) + 1) (by omega) (by omega), show (c : Int) + 1 = ((c + 1 : Nat) : Int) by omega, show ((wA i + c : Nat) : Int) + 1 = ((wA i + (c + 1) : Nat) : Int) by omega]
        rcases g3 with ⟨h1, h2⟩ | ⟨h1, h2⟩
        · subst h1
          rw [if_neg (by decide), p_wI (x := (p : Int) + (c : Int)) (by omega) (by omega)]
          by_cases q : L ≤ c
          · rw [if_pos (by omega)]
            exact ih n i (c + 1) 0 (by omega) (by omega) (Or.inl ⟨i27, by omega⟩) (Or.inr ⟨rfl, fun z => by have := z.1; omega⟩)
          · have b := hB c (by omega)
            rw [if_neg (by omega), p_ck (by omega), show (p : Int) + (c : Int) = ((p + c : Nat) : Int) by omega, b]
            by_cases y : B (p + c) = sN (wA i + c)
            · have y2 : (B (p + c) : Int) = strC0 ((wA i + c : Nat) : Int) := by rw [y]; unfold sN; omega
              rw [if_neg (fun z => z y2)]
              refine ih n i (c + 1) 1 (by omega) (by omega) (Or.inl ⟨i27, by omega⟩) (Or.inl ⟨rfl, fun t ht => ?_⟩)
              by_cases z : t = c
              · subst z; exact ⟨by omega, y⟩
              · exact h2 t (by omega)
            · have y2 : ¬ (B (p + c) : Int) = strC0 ((wA i + c : Nat) : Int) := fun z => y (by unfold sN; omega)
              rw [if_pos y2]
              exact ih n i (c + 1) 0 (by omega) (by omega) (Or.inl ⟨i27, by omega⟩) (Or.inr ⟨rfl, fun z => y (z.2 c (by omega))⟩)
        · subst h1
          rw [if_pos rfl]
          exact ih n i (c + 1) 0 (by omega) (by omega) (Or.inl ⟨i27, by omega⟩) (Or.inr ⟨rfl, h2⟩)
theorem wc_same {B C : Nat → Nat} {a b : Nat} : ∀ d, (∀ t, t < d → B (a + t) = C (b + t)) → wc B a d = wc C b d := by
  intro d
  induction d with
  | zero => intro h; rfl
  | succ d ih =>
    intro h
    rw [wc, wc, ih (fun t ht => h t (by omega)), h d (by omega)]
theorem wc_inj {B C : Nat → Nat} {a b : Nat} (hB : ∀ t, B (a + t) < 256) (hC : ∀ t, C (b + t) < 256) : ∀ d, d ≤ 7 → wc B a d = wc C b d → ∀ t, t < d → B (a + t) = C (b + t) := by
  intro d
  induction d with
  | zero => intro h e t ht; omega
  | succ d ih =>
    intro h e t ht
    rw [wc, wc, if_pos (by omega), if_pos (by omega)] at e
    have b1 := hB d
    have b2 := hC d
    by_cases c : t = d
    · subst c; omega
    · exact ih (by omega) (by omega) t (by omega)
/-- the word stands there just if the number is its number -/
theorem isW_wc {k : Nat} (hk : k < 27) (h1 : 1 ≤ L) (hB : ∀ j, B j < 256) (hB1 : ∀ t, t < L → 1 ≤ B (p + t)) : isW B p L k ↔ wc B p L = wCd k := by
  obtain ⟨t1, t2, t3, t4, t5, t6, t7⟩ := w_tab ⟨k, hk⟩
  dsimp only at t1 t2 t3 t4 t5 t6 t7
  have sl : ∀ j, sN j < 256 := by
    intro j
    by_cases c : j < 138
    · have : ∀ i : Fin 138, sN i.val < 256 := by decide +kernel
      exact this ⟨j, c⟩
    · unfold sN strC0
      rw [show ((j : Int)).toNat = j by omega]
      have : strL0.length = 138 := by decide +kernel
      rw [List.getD_eq_getElem?_getD, List.getElem?_eq_none (by omega)]
      decide
  constructor
  · rintro ⟨e1, e2⟩
    rw [← t6, ← e1]
    exact wc_same L (fun t ht => e2 t ht)
  · intro e
    by_cases c : L ≤ 7
    · have lt1 := wc_lt (B := B) (a := p) (fun d => hB _) L c
      have lt2 := wc_lt (B := sN) (a := wA k) (fun d => sl _) (wLn k) (by omega)
      have sb : ∀ d, d < wLn k → 1 ≤ sN (wA k + d) := by
        intro d hd
        have := w_let ⟨k, hk⟩ ⟨d, by omega⟩ hd
        dsimp only at this
        unfold sN
        omega
      -- the first letters are not 0
      have ge : ∀ (C : Nat → Nat) (a : Nat), (∀ j, C j < 256) → ∀ d, 1 ≤ d → d ≤ 7 → (∀ t, t < d → 1 ≤ C (a + t)) → 256 ^ (d - 1) ≤ wc C a d := by
        intro C a hC d
        induction d with
        | zero => intro h; omega
        | succ d ih =>
          intro q1 q2 q3
          have b := q3 d (by omega)
          rw [wc, if_pos (by omega)]
          by_cases z : d = 0
          · subst z; simp [wc]; exact b
          · have := ih (by omega) (by omega) (fun t ht => q3 t (by omega))
            obtain ⟨e, rfl⟩ : ∃ e, d = e + 1 := ⟨d - 1, by omega⟩
            simp only [Nat.add_sub_cancel] at this ⊢
            rw [Nat.pow_succ]
            omega
      have g1 := ge B p hB L h1 c hB1
      have g2 := ge sN (wA k) sl (wLn k) t3 (by omega) sb
      have el : L = wLn k := by
        by_cases z : L < wLn k
        · have := Nat.pow_le_pow_right (show 0 < 256 by decide) (show L ≤ wLn k - 1 by omega)
          omega
        · by_cases z2 : wLn k < L
          · have := Nat.pow_le_pow_right (show 0 < 256 by decide) (show wLn k ≤ L - 1 by omega)
            omega
          · omega
      refine ⟨el, wc_inj (fun t => hB _) (fun t => sl _) L c ?_⟩
      rw [e, ← t6, el]
    · exfalso
      obtain ⟨d, rfl⟩ : ∃ d, L = d + 1 := ⟨L - 1, by omega⟩
      rw [wc, if_neg (by omega)] at e
      omega
end Word
