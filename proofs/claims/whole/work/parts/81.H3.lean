set_option linter.unusedVariables false
set_option linter.unusedSimpArgs false
/-! what falls -/
theorem pRel_fr {M M' N N' : Mem} (h : pRel M N) (f : pFr M M' N N') : pRel M' N' := by
  refine pRel_same h (f.1 0 (by decide) 0) (fun x x0 x1 x2 _ _ => f.1 x (by omega)) ?_ (fun x x0 x1 => f.2.1 x (by omega) (by omega) (by omega)) ⟨f.2.2 4 (by omega), f.2.2 5 (by omega), f.2.2 6 (by omega), f.2.2 28 (by omega)⟩
  rw [f.1 762 (by decide), f.1 762 (by decide), f.1 762 (by decide)]
  exact h.2.2.1 762 (Or.inr (Or.inr (Or.inl rfl)))
def pFM (M M' : Mem) : Prop := ∀ x, x ≠ 713 → ∀ j, M' x j = M x j
def pFN (N N' : Mem) : Prop := (∀ x, x ≠ 801 → x ≠ 807 → x ≠ 808 → ∀ j, N' x j = N x j) ∧ (∀ j, ¬ (21 ≤ j ∧ j ≤ 24) → N' 801 j = N 801 j)
theorem pFM_trans {M M1 M2 : Mem} (a : pFM M M1) (b : pFM M1 M2) : pFM M M2 := fun x hx j => (b x hx j).trans (a x hx j)
theorem pFN_trans {N N1 N2 : Mem} (a : pFN N N1) (b : pFN N1 N2) : pFN N N2 := ⟨fun x h1 h2 h3 j => (b.1 x h1 h2 h3 j).trans (a.1 x h1 h2 h3 j), fun j hj => (b.2 j hj).trans (a.2 j hj)⟩
theorem pFM_rfl {M : Mem} : pFM M M := fun _ _ _ => rfl
theorem pFN_rfl {N : Mem} : pFN N N := ⟨fun _ _ _ _ _ => rfl, fun _ _ => rfl⟩
theorem p_choice {P : Int → Prop} {Q : Int → Int → Prop} (h : ∀ t, P t → ∃ v, Q t v) : ∃ F : Int → Int, ∀ t, P t → Q t (F t) :=
  ⟨fun t => @dite _ (P t) (Classical.propDecidable _) (fun q => Classical.choose (h t q)) (fun _ => 0), fun t q => by
    show Q t (@dite _ (P t) (Classical.propDecidable _) (fun q => Classical.choose (h t q)) (fun _ => 0))
    rw [dif_pos q]
    exact Classical.choose_spec (h t q)⟩
section Stable
variable {M N : Mem} {s hh : Int}
/-- whether it falls on: one answer, whatever was asked before -/
theorem l_fallsC {t w : Int} (hL : pLaw M N) (hs : pSt M N s) (ht : 0 ≤ t ∧ t < N 802 0) (hhh : M s 11 = hh) (hh0 : 0 ≤ hh ∧ hh ≤ 10100) (h8 : N 802 8 = hh) (hwt : 0 ≤ w ∧ w ≤ 198) (hsx : s = 3 ∨ s = 762) :
    ∃ v, (v = 0 ∨ v = 1) ∧ (∀ (n : Nat) (M2 : Mem), 400 ≤ n → pFM M M2 → ∃ M3, f_X2_falls n s t w M2 = some (v, M3) ∧ pFM M M3) ∧ (∀ (n : Nat) (N2 : Mem), 400 ≤ n → pFN N N2 → ∃ N3, f_X12_isFalling n t w N2 = some (v, N3) ∧ pFN N N3) := by
  obtain ⟨v, M', N', a1, a2, a3, a4⟩ := s_falls (n1 := 400) (n2 := 400) hL hs ht hhh hh0 h8 hwt (by omega) (Nat.le_refl _) (Nat.le_refl _)
  refine ⟨v, a3, fun n M2 hn f => ?_, fun n N2 hn f => ?_⟩
  · have g : pFr M M2 N N := ⟨f, fun _ _ _ _ _ => rfl, fun _ _ => rfl⟩
    obtain ⟨v2, M3, N3, b1, b2, b3, b4⟩ := s_falls (n1 := n) (n2 := 400) (pLaw_fr hL g) (pSt_fr hs hsx g) ht (by rw [f s (by omega)]; exact hhh) hh0 h8 hwt (by omega) hn (Nat.le_refl _)
    rw [a2] at b2
    have : v = v2 := by injection b2 with z; injection z
    subst this
    exact ⟨M3, b1, pFM_trans f b4.1⟩
  · have g : pFr M M N N2 := ⟨fun _ _ _ => rfl, f⟩
    have e2 : ∀ j, N2 802 j = N 802 j := f.1 802 (by decide) (by decide) (by decide)
    obtain ⟨v2, M3, N3, b1, b2, b3, b4⟩ := s_falls (n1 := 400) (n2 := n) (pLaw_fr hL g) (pSt_fr hs hsx g) (by rw [e2]; exact ht) hhh hh0 (by rw [e2]; exact h8) hwt (by omega) (Nat.le_refl _) hn
    rw [a1] at b1
    have : v = v2 := by injection b1 with z; injection z
    subst this
    exact ⟨N3, b2, pFN_trans f b4.2⟩
theorem l_takesC {t w : Int} (hL : pLaw M N) (hs : pSt M N s) (ht : 0 ≤ t ∧ t < N 802 0) (hhh : M s 11 = hh) (hh0 : 0 ≤ hh ∧ hh ≤ 10100) (hwt : 0 ≤ w ∧ w ≤ 198) (hsx : s = 3 ∨ s = 762) :
    ∃ v, (0 ≤ v ∧ v ≤ 9999) ∧ (∀ (n : Nat) (M2 : Mem), 400 ≤ n → pFM M M2 → ∃ M3, f_X2_takes n s t w M2 = some (v, M3) ∧ pFM M M3) ∧ (∀ (n : Nat) (N2 : Mem), 400 ≤ n → pFN N N2 → ∃ N3, f_X12_takesOf n t hh w N2 = some (v, N3) ∧ pFN N N3) := by
  obtain ⟨v, M', N', a1, a2, a3, a3', a4⟩ := s_takes (n1 := 400) (n2 := 400) hL hs ht hhh hh0 hwt (by omega) (Nat.le_refl _) (Nat.le_refl _)
  refine ⟨v, ⟨a3, a3'⟩, fun n M2 hn f => ?_, fun n N2 hn f => ?_⟩
  · have g : pFr M M2 N N := ⟨f, fun _ _ _ _ _ => rfl, fun _ _ => rfl⟩
    obtain ⟨v2, M3, N3, b1, b2, b3, b3', b4⟩ := s_takes (n1 := n) (n2 := 400) (pLaw_fr hL g) (pSt_fr hs hsx g) ht (by rw [f s (by omega)]; exact hhh) hh0 hwt (by omega) hn (Nat.le_refl _)
    rw [a2] at b2
    have : v = v2 := by injection b2 with z; injection z
    subst this
    exact ⟨M3, b1, pFM_trans f b4.1⟩
  · have g : pFr M M N N2 := ⟨fun _ _ _ => rfl, f⟩
    have e2 : ∀ j, N2 802 j = N 802 j := f.1 802 (by decide) (by decide) (by decide)
    obtain ⟨v2, M3, N3, b1, b2, b3, b3', b4⟩ := s_takes (n1 := 400) (n2 := n) (pLaw_fr hL g) (pSt_fr hs hsx g) (by rw [e2]; exact ht) hhh hh0 hwt (by omega) (Nat.le_refl _) hn
    rw [a1] at b1
    have : v = v2 := by injection b1 with z; injection z
    subst this
    exact ⟨N3, b2, pFN_trans f b4.2⟩
theorem l_haulsC {t w ot : Int} (hL : pLaw M N) (hs : pSt M N s) (ht : 0 ≤ t ∧ t < N 802 0) (hhh : M s 11 = hh) (hh0 : 0 ≤ hh ∧ hh ≤ 10100) (h8 : N 802 8 = hh) (hwt : 0 ≤ w ∧ w ≤ 99) (hot : 0 ≤ ot ∧ ot ≤ 99) (hsx : s = 3 ∨ s = 762) :
    ∃ v, (0 ≤ v ∧ v ≤ 9999) ∧ (∀ (n : Nat) (M2 : Mem), 400 ≤ n → pFM M M2 → ∃ M3, f_X2_hauls n s t w ot M2 = some (v, M3) ∧ pFM M M3) ∧ (∀ (n : Nat) (N2 : Mem), 400 ≤ n → pFN N N2 → ∃ N3, f_X12_haulsOf n t w ot N2 = some (v, N3) ∧ pFN N N3) := by
  obtain ⟨v, M', N', a1, a2, a3, a3', a4⟩ := s_hauls (n1 := 400) (n2 := 400) hL hs ht hhh hh0 h8 hwt hot (by omega) (Nat.le_refl _) (Nat.le_refl _)
  refine ⟨v, ⟨a3, a3'⟩, fun n M2 hn f => ?_, fun n N2 hn f => ?_⟩
  · have g : pFr M M2 N N := ⟨f, fun _ _ _ _ _ => rfl, fun _ _ => rfl⟩
    obtain ⟨v2, M3, N3, b1, b2, b3, b3', b4⟩ := s_hauls (n1 := n) (n2 := 400) (pLaw_fr hL g) (pSt_fr hs hsx g) ht (by rw [f s (by omega)]; exact hhh) hh0 h8 hwt hot (by omega) hn (Nat.le_refl _)
    rw [a2] at b2
    have : v = v2 := by injection b2 with z; injection z
    subst this
    exact ⟨M3, b1, pFM_trans f b4.1⟩
  · have g : pFr M M N N2 := ⟨fun _ _ _ => rfl, f⟩
    have e2 : ∀ j, N2 802 j = N 802 j := f.1 802 (by decide) (by decide) (by decide)
    obtain ⟨v2, M3, N3, b1, b2, b3, b3', b4⟩ := s_hauls (n1 := 400) (n2 := n) (pLaw_fr hL g) (pSt_fr hs hsx g) (by rw [e2]; exact ht) hhh hh0 (by rw [e2]; exact h8) hwt hot (by omega) (Nat.le_refl _) hn
    rw [a1] at b1
    have : v = v2 := by injection b1 with z; injection z
    subst this
    exact ⟨N3, b2, pFN_trans f b4.2⟩
end Stable
/-- what falls from where, once for a weight -/
def pFall (M N : Mem) (w : Int) (F : Int → Int) : Prop := ∀ t, 0 ≤ t ∧ t < N 802 0 → (F t = 0 ∨ F t = 1) ∧ (∀ (n : Nat) (M2 : Mem), 400 ≤ n → pFM M M2 → ∃ M3, f_X2_falls n 3 t w M2 = some (F t, M3) ∧ pFM M M3) ∧ (∀ (n : Nat) (N2 : Mem), 400 ≤ n → pFN N N2 → ∃ N3, f_X12_isFalling n t w N2 = some (F t, N3) ∧ pFN N N3)
theorem l_pFall {M N : Mem} (h : pRel M N) {w : Int} (hw : 0 ≤ w ∧ w ≤ 198) : ∃ F, pFall M N w F := by
  have hl := pLv_of (H := 9999) h (by omega)
  have h8 := (pR_num h).2.2.1
  exact p_choice (P := fun t => 0 ≤ t ∧ t < N 802 0) (fun t ht => l_fallsC (pLaw_of h) hl.1 ht h8.1 (by omega) rfl hw (Or.inl rfl))
theorem l_eof {M N : Mem} {w : Int} {F : Int → Int} (h0 : M 3 0 = N 802 0) (n9 : N 802 0 ≤ 9) (hF : pFall M N w F) : ∀ (k n : Nat) (i : Int) (M2 : Mem), 10 - i < k → k + 400 ≤ n → 0 ≤ i → i ≤ N 802 0 → pFM M M2 →
    ∃ e M3, f_X11_endOfFall_L2 n w i M2 = some (e, M3) ∧ pFM M M3 ∧ i ≤ e ∧ e ≤ N 802 0 ∧ (∀ t, i ≤ t → t < e → F t = 1) ∧ (e < N 802 0 → F e = 0) := by
  intro k
  induction k with
  | zero => intro n i M2 a0; omega
  | succ k ih =>
    intro n i M2 a0 a1 i0 i1 f
    obtain ⟨n, rfl⟩ : ∃ m, n = m + 1 := ⟨n - 1, by omega⟩
    rw [f_X11_endOfFall_L2, f 3 (by decide), h0]
    by_cases c : N 802 0 ≤ i
    · rw [if_pos c]
      exact ⟨i, M2, rfl, f, Int.le_refl _, i1, fun t t0 t1 => by omega, fun z => by omega⟩
    · obtain ⟨g1, g2, g3⟩ := hF i ⟨i0, by omega⟩
      obtain ⟨M3, b1, b2⟩ := g2 n M2 (by omega) f
      rw [if_neg c, b1, Option.bind_some]
      dsimp only
      by_cases d : F i = 0
      · rw [if_pos d]
        exact ⟨i, M3, rfl, b2, Int.le_refl _, i1, fun t t0 t1 => by omega, fun _ => d⟩
      · rw [if_neg d, p_wI (x := i + 1) (by omega) (by omega)]
        obtain ⟨e, M4, c1, c2, c3, c4, c5, c6⟩ := ih n (i + 1) M3 (by omega) (by omega) (by omega) (by omega) b2
        refine ⟨e, M4, c1, c2, by omega, c4, fun t t0 t1 => ?_, c6⟩
        by_cases q : t = i
        · subst q; omega
        · exact c5 t (by omega) t1
theorem l_thing {M N : Mem} {w : Int} {F : Int → Int} (n9 : N 802 0 ≤ 9) (hF : pFall M N w F) : ∀ (k n : Nat) (i : Int) (N2 : Mem), 10 - i < k → k + 400 ≤ n → 0 ≤ i → i ≤ N 802 0 → pFN N N2 →
    ∃ e N3, f_X12_thing_L22 n w i N2 = some (e, N3) ∧ pFN N N3 ∧ i ≤ e ∧ e ≤ N 802 0 ∧ (∀ t, i ≤ t → t < e → F t = 1) ∧ (e < N 802 0 → F e = 0) := by
  intro k
  induction k with
  | zero => intro n i N2 a0; omega
  | succ k ih =>
    intro n i N2 a0 a1 i0 i1 f
    obtain ⟨n, rfl⟩ : ∃ m, n = m + 1 := ⟨n - 1, by omega⟩
    rw [f_X12_thing_L22, f.1 802 (by decide) (by decide) (by decide)]
    by_cases c : N 802 0 ≤ i
    · rw [if_pos c]
      exact ⟨i, N2, rfl, f, Int.le_refl _, i1, fun t t0 t1 => by omega, fun z => by omega⟩
    · obtain ⟨g1, g2, g3⟩ := hF i ⟨i0, by omega⟩
      obtain ⟨N3, b1, b2⟩ := g3 n N2 (by omega) f
      rw [if_neg c, b1, Option.bind_some]
      dsimp only
      by_cases d : F i = 0
      · rw [if_pos d]
        exact ⟨i, N3, rfl, b2, Int.le_refl _, i1, fun t t0 t1 => by omega, fun _ => d⟩
      · rw [if_neg d, p_wI (x := i + 1) (by omega) (by omega)]
        obtain ⟨e, N4, c1, c2, c3, c4, c5, c6⟩ := ih n (i + 1) N3 (by omega) (by omega) (by omega) (by omega) b2
        refine ⟨e, N4, c1, c2, by omega, c4, fun t t0 t1 => ?_, c6⟩
        by_cases q : t = i
        · subst q; omega
        · exact c5 t (by omega) t1
theorem s_thing {M N : Mem} {nA nB : Nat} {p q : Int} (h : pRel M N) (hA : 1000 ≤ nA) (hB : 1000 ≤ nB) : pSim (f_X11_thing nA p q M) (f_X12_thing nB p q N) N := by
  have n1 : (1 : Int) ≠ 0 := by decide
  have n10 : ¬ (1 : Int) = 0 := by decide
  have n0 : ¬ (0 : Int) ≠ 0 := by decide
  have h1 := (pR_num h).1
  unfold f_X11_thing f_X12_thing
  rw [p_isW, p_isIn, p_isStepM h, p_isStepN h]
  by_cases hp : 1 ≤ p ∧ p ≤ 99
  · by_cases hq : 0 ≤ q ∧ q < N 802 0
    · obtain ⟨F, hF⟩ := l_pFall h (w := p) (by omega)
      obtain ⟨e, M3, a1, a2, a3, a4, a5, a6⟩ := l_eof h1.1 h1.2.2 hF 20 nA q M (by omega) (by omega) hq.1 (by omega) pFM_rfl
      obtain ⟨e', N3, b1, b2, b3, b4, b5, b6⟩ := l_thing h1.2.2 hF 20 nB q N (by omega) (by omega) hq.1 (by omega) pFN_rfl
      have ee : e = e' := by
        rcases Int.lt_trichotomy e e' with z | z | z
        · have := a6 (by omega)
          have := b5 e a3 z
          omega
        · exact z
        · have := b6 (by omega)
          have := a5 e' b3 z
          omega
      subst ee
      unfold f_X11_endOfFall
      rw [if_pos hp, if_pos hq, if_neg n10, if_pos n1, if_neg n10, if_pos n1, a1, b1, Option.bind_some, Option.bind_some, Option.bind_some]
      exact ⟨e, M3, N3, rfl, rfl, pRel_fr h ⟨a2, b2⟩⟩
    · rw [if_pos hp, if_neg hq, if_neg n10, if_neg n0, if_neg n10, if_neg n0]
      exact ⟨-1, M, N, rfl, rfl, h⟩
  · rw [if_neg hp, if_pos rfl, if_pos rfl]
    exact ⟨-1, M, N, rfl, rfl, h⟩
theorem p_pow9 {i : Nat} (h : i ≤ 9) : 2 ^ i ≤ 512 := Nat.pow_le_pow_right (by omega) h
/-- from where it comes -/
def pUp (F : Int → Int) (st : Nat) (j : Nat) : Prop := j ≤ st ∧ ∀ t : Int, (j : Int) ≤ t → t < st → F t = 1
theorem l_upM {M N : Mem} {w : Int} {F : Int → Int} {st : Nat} (h0 : M 3 0 = N 802 0) (n9 : N 802 0 ≤ 9) (hst : (st : Int) < N 802 0) (hF : pFall M N w F) : ∀ (k n : Nat) (acc i : Nat) (M2 : Mem), st + 1 - i < k → k + 500 ≤ n → i ≤ st + 1 → acc < 2 ^ i → (∀ j, j < i → (acc.testBit j = true ↔ pUp F st j)) → pFM M M2 →
    ∃ (b : Nat) (M3 : Mem), f_X11_upThere_L22 n w st acc i M2 = some ((b : Int), M3) ∧ pFM M M3 ∧ ∀ j, b.testBit j = true ↔ pUp F st j := by
  intro k
  induction k with
  | zero => intro n acc i M2 a0; omega
  | succ k ih =>
    intro n acc i M2 a0 a1 i1 h3 h4 f
    obtain ⟨n, rfl⟩ : ∃ m, n = m + 1 := ⟨n - 1, by omega⟩
    rw [f_X11_upThere_L22]
    by_cases c : (st : Int) < i
    · rw [if_pos c]
      refine ⟨acc, M2, rfl, f, fun j => ?_⟩
      by_cases hj : j < i
      · exact h4 j hj
      · rw [p_hi h3 (by omega)]
        exact ⟨fun z => by simp at z, fun z => absurd z.1 (by omega)⟩
    · have hp := p_pow9 (i := i) (by omega)
      have hp2 := p_add h3
      obtain ⟨e, M3, b1, b2, b3, b4, b5, b6⟩ := l_eof h0 n9 hF 20 n i M2 (by omega) (by omega) (by omega) (by omega) f
      unfold f_X11_endOfFall
      rw [if_neg c, b1, Option.bind_some, Option.bind_some, p_orpow (by omega) (by omega), p_wI (x := (i : Int) + 1) (by omega) (by omega), show ((i : Int) + 1) = ((i + 1 : Nat) : Int) by omega]
      dsimp only
      by_cases d : e < st
      · rw [if_pos d]
        refine ih n acc (i + 1) M3 (by omega) (by omega) (by omega) (Nat.lt_trans h3 (Nat.pow_lt_pow_right (by omega) (by omega))) (fun j hj => ?_) b2
        by_cases q : j = i
        · subst q
          rw [p_hi h3 (Nat.le_refl _)]
          refine ⟨fun z => by simp at z, fun z => ?_⟩
          have y1 := z.2 e b3 d
          have y2 := b6 (by omega)
          omega
        · exact h4 j (by omega)
      · rw [if_neg d]
        refine ih n _ (i + 1) M3 (by omega) (by omega) (by omega) hp2.1 (fun j hj => ?_) b2
        rw [hp2.2]
        by_cases q : j = i
        · subst q
          exact ⟨fun _ => ⟨by omega, fun t t0 t1 => b5 t t0 (by omega)⟩, fun _ => Or.inr rfl⟩
        · rw [← h4 j (by omega)]
          exact ⟨fun z => z.resolve_right q, Or.inl⟩
theorem l_upN {M N : Mem} {w : Int} {F : Int → Int} {st : Nat} (n9 : N 802 0 ≤ 9) (hst : (st : Int) < N 802 0) (hF : pFall M N w F) : ∀ (k n : Nat) (acc : Nat) (i : Nat) (N2 : Mem), i < k → k + 500 ≤ n → i ≤ st → acc < 512 → (∀ j, acc.testBit j = true ↔ (i < j ∧ pUp F st j)) → pUp F st i → pFN N N2 →
    ∃ (b : Nat) (N3 : Mem), f_X12_upThere_L25 n w acc i N2 = some ((b : Int), N3) ∧ pFN N N3 ∧ ∀ j, b.testBit j = true ↔ pUp F st j := by
  intro k
  induction k with
  | zero => intro n acc i N2 a0; omega
  | succ k ih =>
    intro n acc i N2 a0 a1 i1 h3 h4 h5 f
    obtain ⟨n, rfl⟩ : ∃ m, n = m + 1 := ⟨n - 1, by omega⟩
    have p2 : 2 ^ i < 512 := Nat.lt_of_le_of_lt (Nat.pow_le_pow_right (by omega) (show i ≤ 8 by omega)) (by decide)
    have hlt : acc ||| 2 ^ i < 512 := Nat.or_lt_two_pow (n := 9) h3 p2
    have hb : ∀ j, (acc ||| 2 ^ i).testBit j = true ↔ (i ≤ j ∧ pUp F st j) := by
      intro j
      rw [Nat.testBit_or, Bool.or_eq_true, h4, Nat.testBit_two_pow, decide_eq_true_iff]
      constructor
      · rintro (z | z)
        · exact ⟨by omega, z.2⟩
        · subst z; exact ⟨Nat.le_refl _, h5⟩
      · rintro ⟨z1, z2⟩
        by_cases q : i = j
        · exact Or.inr q
        · exact Or.inl ⟨by omega, z2⟩
    have stop : (∀ j, j < i → ¬ pUp F st j) → ∀ (N3 : Mem), pFN N N3 → ∃ (b : Nat) (N3' : Mem), f_X12_upThere_L25 n w ((acc ||| 2 ^ i : Nat) : Int) (-1) N3 = some ((b : Int), N3') ∧ pFN N N3' ∧ ∀ j, b.testBit j = true ↔ pUp F st j := by
      intro z N3 f3
      obtain ⟨n, rfl⟩ : ∃ m, n = m + 1 := ⟨n - 1, by omega⟩
      rw [f_X12_upThere_L25, if_pos (by decide)]
      refine ⟨_, N3, rfl, f3, fun j => ?_⟩
      rw [hb]
      exact ⟨fun y => y.2, fun y => ⟨Nat.le_of_not_lt (fun q => z j q y), y⟩⟩
    rw [f_X12_upThere_L25, if_neg (show ¬ (i : Int) < 0 by omega), p_orpow (by omega) (by omega)]
    have e1 : wI ((i : Int) + (-1)) = (i : Int) - 1 := by rw [p_wI (by omega) (by omega)]; omega
    rw [e1]
    by_cases c : i = 0
    · subst c
      rw [if_pos (by omega)]
      exact stop (fun j hj => by omega) N2 f
    · obtain ⟨g1, g2, g3⟩ := hF ((i : Int) - 1) ⟨by omega, by omega⟩
      obtain ⟨N3, b1, b2⟩ := g3 n N2 (by omega) f
      rw [if_neg (by omega), b1, Option.bind_some]
      dsimp only
      by_cases d : F ((i : Int) - 1) = 0
      · rw [if_neg (fun z => z d)]
        refine stop (fun j hj z => ?_) N3 b2
        have := z.2 ((i : Int) - 1) (by omega) (by omega)
        omega
      · rw [if_pos d, show (i : Int) - 1 = ((i - 1 : Nat) : Int) by omega]
        refine ih n _ (i - 1) N3 (by omega) (by omega) (by omega) hlt (fun j => ?_) ⟨by omega, fun t t0 t1 => ?_⟩ b2
        · rw [hb]
          exact ⟨fun z => ⟨by omega, z.2⟩, fun z => ⟨by omega, z.2⟩⟩
        · by_cases q : t = (i : Int) - 1
          · subst q; omega
          · exact h5.2 t (by omega) t1
theorem s_upThere {M N : Mem} {nA nB : Nat} {p q : Int} (h : pRel M N) (hA : 1000 ≤ nA) (hB : 1000 ≤ nB) : pSim (f_X11_upThere nA p q M) (f_X12_upThere nB p q N) N := by
  have n1 : (1 : Int) ≠ 0 := by decide
  have n10 : ¬ (1 : Int) = 0 := by decide
  have n0 : ¬ (0 : Int) ≠ 0 := by decide
  have h1 := (pR_num h).1
  unfold f_X11_upThere f_X12_upThere
  rw [p_isW, p_isIn, p_isStepM h, p_isStepN h]
  by_cases hp : 1 ≤ p ∧ p ≤ 99
  · by_cases hq : 0 ≤ q ∧ q < N 802 0
    · obtain ⟨F, hF⟩ := l_pFall h (w := p) (by omega)
      obtain ⟨st, hst⟩ : ∃ st : Nat, q = st := ⟨q.toNat, by omega⟩
      subst hst
      obtain ⟨b, M3, a1, a2, a3⟩ := l_upM h1.1 h1.2.2 hq.2 hF 20 nA 0 0 M (by omega) (by omega) (by omega) (by decide) (fun j hj => by omega) pFM_rfl
      obtain ⟨b', N3, c1, c2, c3⟩ := l_upN (M := M) h1.2.2 hq.2 hF 20 nB 0 st N (by omega) (by omega) (Nat.le_refl _) (by decide) (fun j => ⟨fun z => by simp at z, fun z => by have := z.2.1; omega⟩) ⟨Nat.le_refl _, fun t t0 t1 => by omega⟩ pFN_rfl
      have e : b = b' := by
        apply Nat.eq_of_testBit_eq
        intro j
        rw [Bool.eq_iff_iff, a3, c3]
      subst e
      have a1' : f_X11_upThere_L22 nA p st 0 0 M = some ((b : Int), M3) := a1
      have c1' : f_X12_upThere_L25 nB p 0 st N = some ((b : Int), N3) := c1
      rw [if_pos hp, if_pos hq, if_neg n10, if_pos n1, if_neg n10, if_pos n1, a1', c1', Option.bind_some, Option.bind_some]
      exact ⟨b, M3, N3, rfl, rfl, pRel_fr h ⟨a2, c2⟩⟩
    · rw [if_pos hp, if_neg hq, if_neg n10, if_neg n0, if_neg n10, if_neg n0]
      exact ⟨-1, M, N, rfl, rfl, h⟩
  · rw [if_neg hp, if_pos rfl, if_pos rfl]
    exact ⟨-1, M, N, rfl, rfl, h⟩
