set_option linter.unusedVariables false
set_option linter.unusedSimpArgs false
/-! the water goes over -/
theorem p_share {f g w : Int} (f0 : 0 ≤ f) (f1 : f ≤ 999) (g0 : 0 ≤ g) (g1 : g ≤ w) (w1 : w ≤ 999) (w0 : w ≠ 0) : wI (f * g) = f * g ∧ iDiv (f * g) w = f * g / w ∧ 0 ≤ f * g / w ∧ f * g / w ≤ f := by
  have a0 : 0 ≤ f * g := Int.mul_nonneg f0 g0
  have a1 : f * g ≤ 999 * g := Int.mul_le_mul_of_nonneg_right f1 g0
  have a2 : f * g ≤ f * w := Int.mul_le_mul_of_nonneg_left g1 f0
  exact ⟨p_wI (by omega) (by omega), p_iDiv a0 (by omega) (by omega), Int.ediv_nonneg a0 (by omega), Int.ediv_le_of_le_mul (by omega) a2⟩
/-- what has changed since an hour's water began to go -/
def pFw (M0 N0 M N : Mem) : Prop := (∀ x, x ≠ 713 → x ≠ 715 → x ≠ 716 → ∀ j, M x j = M0 x j) ∧ (∀ x, x ≠ 801 → x ≠ 807 → x ≠ 808 → x ≠ 810 → x ≠ 811 → ∀ j, N x j = N0 x j) ∧ (∀ j, ¬ (21 ≤ j ∧ j ≤ 24) → N 801 j = N0 801 j)
theorem l_over {M0 N0 : Mem} {s hh : Int} (hL0 : pLaw M0 N0) (hS0 : pSt M0 N0 s) (hs : s = 3 ∨ s = 762) (h11 : M0 s 11 = hh) (hh0 : 0 ≤ hh ∧ hh ≤ 10100) (h8 : N0 802 8 = hh) :
    ∀ (k nA nB : Nat) (i : Int) (M N : Mem), 10 - i < k → k + 400 ≤ nA → k + 400 ≤ nB → 0 ≤ i → i ≤ N0 802 0 → pFw M0 N0 M N → (∀ j, 0 ≤ j → j < i → M 715 j = N 810 j ∧ 0 ≤ N 810 j ∧ N 810 j ≤ N0 802 (18 + 8 * j) ∧ M 716 j = N 811 j ∧ 0 ≤ N 811 j ∧ N 811 j ≤ N0 802 (19 + 8 * j)) →
      ∃ M' N', f_X1_letWaterOver_L2 nA s i M = some M' ∧ f_X12_pour_L9 nB (N0 802 0) i N = some N' ∧ pFw M0 N0 M' N' ∧ (∀ j, 0 ≤ j → j < N0 802 0 → M' 715 j = N' 810 j ∧ 0 ≤ N' 810 j ∧ N' 810 j ≤ N0 802 (18 + 8 * j) ∧ M' 716 j = N' 811 j ∧ 0 ≤ N' 811 j ∧ N' 811 j ≤ N0 802 (19 + 8 * j)) := by
  intro k
  induction k with
  | zero => intro nA nB i M N h0 h1 h2 h3 h4; have := hS0.1; omega
  | succ k ih =>
    intro nA nB i M N h0 h1 h2 i0 i1 F hG
    obtain ⟨nA, rfl⟩ : ∃ m, nA = m + 1 := ⟨nA - 1, by omega⟩
    obtain ⟨nB, rfl⟩ : ∃ m, nB = m + 1 := ⟨nB - 1, by omega⟩
    have n9 := hS0.1
    obtain ⟨f1, f2, f3⟩ := F
    rw [f_X1_letWaterOver_L2, f_X12_pour_L9, f1 s (by omega) (by omega) (by omega), n9.1]
    by_cases c : N0 802 0 ≤ i
    · rw [if_pos c, if_pos c]
      exact ⟨M, N, rfl, rfl, ⟨f1, f2, f3⟩, fun j j0 j1 => hG j j0 (by omega)⟩
    · have e2 : ∀ j, N 802 j = N0 802 j := f2 802 (by decide) (by decide) (by decide) (by decide) (by decide)
      have hL : pLaw M N := pLaw_same hL0 (f1 0 (by decide) (by decide) (by decide) 0) (fun x hx => f1 x (by omega) (by omega) (by omega)) (e2 3) (f2 804 (by decide) (by decide) (by decide) (by decide) (by decide))
      have hS : pSt M N s := pSt_same hS0 (fun x x0 x1 => f1 x (by omega) (by omega) (by omega)) e2
      obtain ⟨v, M1, N1, v1, v2, v3, v4, v5⟩ := s_flows (s := s) (st := i) (hh := hh) (n1 := nA) (n2 := nB) hL hS (by rw [e2]; omega) (by rw [f1 s (by omega) (by omega) (by omega)]; exact h11) hh0 (by rw [e2]; exact h8) (by omega) (by omega) (by omega)
      rw [e2] at v4
      have g := hS0.2 i i0 (by omega)
      obtain ⟨g1, g2, g3⟩ := v5
      have e21 : ∀ j, N1 802 j = N0 802 j := fun j => by rw [g2 802 (by decide) (by decide) (by decide), e2]
      have em3 : M (s + 3) i = N0 802 (18 + 8 * i) := by rw [f1 (s + 3) (by omega) (by omega) (by omega)]; exact g.2.2.1.1
      have em4 : M1 (s + 4) i = N0 802 (19 + 8 * i) := by rw [g1 (s + 4) (by omega), f1 (s + 4) (by omega) (by omega) (by omega)]; exact g.2.2.2.1.1
      rw [if_neg c, if_neg c, p_ck (by omega), v1, v2, Option.bind_some, Option.bind_some, p_ck (by omega)]
      simp only [p_lt]
      rw [p_at i0 (by omega) (by decide) (by decide), p_at i0 (by omega) (by decide) (by decide), Option.bind_some, Option.bind_some, Option.bind_some]
      simp (disch := omega) only [up_nex, up_eq]
      rw [show 16 + 8 * i + 2 = 18 + 8 * i by omega, show 16 + 8 * i + 3 = 19 + 8 * i by omega, e21, e21, em3, em4]
      have fin : ∀ x, 0 ≤ x → x ≤ N0 802 (19 + 8 * i) → ∃ M' N', f_X1_letWaterOver_L2 nA s (i + 1) (upM (upM M1 715 i v) 716 i x) = some M' ∧ f_X12_pour_L9 nB (N0 802 0) (i + 1) (upM (upM N1 810 i v) 811 i x) = some N' ∧ pFw M0 N0 M' N' ∧ (∀ j, 0 ≤ j → j < N0 802 0 → M' 715 j = N' 810 j ∧ 0 ≤ N' 810 j ∧ N' 810 j ≤ N0 802 (18 + 8 * j) ∧ M' 716 j = N' 811 j ∧ 0 ≤ N' 811 j ∧ N' 811 j ≤ N0 802 (19 + 8 * j)) := by
        intro x x0 x1
        refine ih nA nB (i + 1) _ _ (by omega) (by omega) (by omega) (by omega) (by omega) ⟨fun y a b d j => ?_, fun y a b d e f j => ?_, fun j hj => ?_⟩ (fun j j0 j1 => ?_)
        · rw [up_nex (by omega), up_nex (by omega), g1 y (by omega), f1 y (by omega) (by omega) (by omega)]
        · rw [up_nex (by omega), up_nex (by omega), g2 y (by omega) (by omega) (by omega), f2 y (by omega) (by omega) (by omega) (by omega) (by omega)]
        · rw [up_nex (by omega), up_nex (by omega), g3 j hj, f3 j hj]
        · by_cases q : j = i
          · subst q
            simp (disch := omega) only [up_nex, up_eq]
            exact ⟨trivial, v3, v4, trivial, x0, x1⟩
          · simp (disch := omega) only [up_nex, up_nei]
            rw [g1 715 (by decide), g1 716 (by decide), g2 810 (by decide) (by decide) (by decide), g2 811 (by decide) (by decide) (by decide)]
            exact hG j j0 (by omega)
      by_cases d : N0 802 (18 + 8 * i) = 0
      · rw [if_neg (fun z => z d), if_neg (fun z => z d), p_wI (x := i + 1) (by omega) (by omega)]
        exact fin 0 (by omega) (by omega)
      · have sh := p_share (f := N0 802 (19 + 8 * i)) (g := v) (w := N0 802 (18 + 8 * i)) (by omega) (by omega) v3 v4 (by omega) d
        rw [if_pos d, if_pos d, p_ck d, p_ck d, p_wI (x := i + 1) (by omega) (by omega), sh.1, sh.2.1]
        exact fin _ sh.2.2.1 sh.2.2.2
theorem l_pours {M1 N1 : Mem} {s : Int} (hs : s = 3 ∨ s = 762) (hS1 : pSt M1 N1 s) (hG : ∀ j, 0 ≤ j → j < N1 802 0 → M1 715 j = N1 810 j ∧ 0 ≤ N1 810 j ∧ N1 810 j ≤ N1 802 (18 + 8 * j) ∧ M1 716 j = N1 811 j ∧ 0 ≤ N1 811 j ∧ N1 811 j ≤ N1 802 (19 + 8 * j)) :
    ∀ (k nA nB : Nat) (i : Int) (M N : Mem), 10 - i < k → k ≤ nA → k ≤ nB → 0 ≤ i → i ≤ N1 802 0 → pSt M N s → (∀ x, x ≠ s + 3 → x ≠ s + 4 → ∀ j, M x j = M1 x j) → (∀ x, x ≠ 802 → ∀ j, N x j = N1 x j) → (∀ j, (∀ t, 0 ≤ t → t < i → j ≠ 18 + 8 * t ∧ j ≠ 19 + 8 * t) → N 802 j = N1 802 j) →
      ∃ M' N', f_X1_letWaterOver_L69 nA s i M = some M' ∧ f_X12_pour_L72 nB (N1 802 0) i N = some N' ∧ pSt M' N' s ∧ (∀ x, x ≠ s + 3 → x ≠ s + 4 → ∀ j, M' x j = M1 x j) ∧ (∀ x, x ≠ 802 → ∀ j, N' x j = N1 x j) ∧ (∀ j, (∀ t, 0 ≤ t → t < 9 → j ≠ 18 + 8 * t ∧ j ≠ 19 + 8 * t) → N' 802 j = N1 802 j) := by
  intro k
  induction k with
  | zero => intro nA nB i M N h0 h1 h2 h3 h4; have := hS1.1; omega
  | succ k ih =>
    intro nA nB i M N h0 h1 h2 i0 i1 hS fM fN fA
    obtain ⟨nA, rfl⟩ : ∃ m, nA = m + 1 := ⟨nA - 1, by omega⟩
    obtain ⟨nB, rfl⟩ : ∃ m, nB = m + 1 := ⟨nB - 1, by omega⟩
    have n9 := hS1.1
    rw [f_X1_letWaterOver_L69, f_X12_pour_L72, fM s (by omega) (by omega), n9.1]
    by_cases c : N1 802 0 ≤ i
    · rw [if_pos c, if_pos c]
      exact ⟨M, N, rfl, rfl, hS, fM, fN, fun j hj => fA j (fun t t0 t1 => hj t t0 (by omega))⟩
    · have G := hG i i0 (by omega)
      have g := hS.2 i i0 (by have := fA 0 (fun t t0 t1 => by omega); omega)
      have e18 : N 802 (18 + 8 * i) = N1 802 (18 + 8 * i) := fA _ (fun t t0 t1 => by omega)
      have e19 : N 802 (19 + 8 * i) = N1 802 (19 + 8 * i) := fA _ (fun t t0 t1 => by omega)
      have e0 : N 802 0 = N1 802 0 := fA 0 (fun t t0 t1 => by omega)
      rw [if_neg c, if_neg c, p_at i0 (by omega) (by decide) (by decide), Option.bind_some, p_ck (show 0 ≤ i ∧ i < 9 by omega), show 16 + 8 * i + 2 = 18 + 8 * i by omega]
      -- what comes in from above
      have main : ∀ a b : Int, 0 ≤ a → a ≤ 999 → 0 ≤ b → b ≤ 999 → ((i = 0 ∧ b = 0) ∨ (i ≠ 0 ∧ b = N1 811 (i - 1))) →
          ∃ M' N', f_X1_letWaterOver_L69_J110 nA s (fun x2 M => f_X1_letWaterOver_L69 nA s x2 M) i a b M = some M' ∧
            f_X12_pour_L72_J109 nB (fun x2 M => f_X12_pour_L72 nB (N1 802 0) x2 M) (N1 802 0) i i 2 (wI (N 802 (18 + 8 * i) - N 810 i)) a N = some N' ∧ pSt M' N' s ∧ (∀ x, x ≠ s + 3 → x ≠ s + 4 → ∀ j, M' x j = M1 x j) ∧ (∀ x, x ≠ 802 → ∀ j, N' x j = N1 x j) ∧ (∀ j, (∀ t, 0 ≤ t → t < 9 → j ≠ 18 + 8 * t ∧ j ≠ 19 + 8 * t) → N' 802 j = N1 802 j) := by
        intro a b a0 a1 b0 b1 hb
        have hT : ∀ (X : Int) (Nn : Mem), (∀ j, Nn 811 j = N1 811 j) → ck (0 ≤ i ∧ i < 9) (if i ≤ 0 then f_X12_pour_L72_J153 nB (fun x2 M => f_X12_pour_L72 nB (N1 802 0) x2 M) (N1 802 0) i i 3 X 0 Nn else ck (0 ≤ wI (i - 1) ∧ wI (i - 1) < 9) (f_X12_pour_L72_J153 nB (fun x2 M => f_X12_pour_L72 nB (N1 802 0) x2 M) (N1 802 0) i i 3 X (Nn 811 (wI (i - 1))) Nn)) = f_X12_pour_L72_J153 nB (fun x2 M => f_X12_pour_L72 nB (N1 802 0) x2 M) (N1 802 0) i i 3 X b Nn := by
          intro X Nn hN
          rw [p_ck (by omega)]
          rcases hb with ⟨z, hb⟩ | ⟨z, hb⟩
          · rw [if_pos (by omega), hb]
          · rw [if_neg (by omega), p_wI (x := i - 1) (by omega) (by omega), p_ck (by omega), hN, hb]
        unfold f_X1_letWaterOver_L69_J110 f_X12_pour_L72_J109
        rw [p_ck (by omega), p_put i0 (by omega) (by decide) (by decide), Option.bind_some, p_at i0 (by omega) (by decide) (by decide), Option.bind_some, hT _ _ (fun j => by rw [up_nex (by decide), fN 811 (by decide)])]
        unfold f_X12_pour_L72_J153
        rw [p_put i0 (by omega) (by decide) (by decide), Option.bind_some]
        simp only [p_lt]
        rw [show 16 + 8 * i + 2 = 18 + 8 * i by omega, show 16 + 8 * i + 3 = 19 + 8 * i by omega]
        simp (disch := omega) only [up_nex, up_nei]
        rw [fM 715 (by omega) (by omega), fM 716 (by omega) (by omega), fN 810 (by decide), fN 811 (by decide), g.2.2.1.1, g.2.2.2.1.1, G.1, G.2.2.2.1, e18, e19, p_wI (x := N1 802 (18 + 8 * i) - N1 810 i) (by omega) (by omega), p_wI (x := N1 802 (19 + 8 * i) - N1 811 i) (by omega) (by omega), p_wI (x := N1 802 (18 + 8 * i) - N1 810 i + a) (by omega) (by omega), p_wI (x := N1 802 (19 + 8 * i) - N1 811 i + b) (by omega) (by omega), p_cut (by omega) (by omega) (by decide), p_cut (by omega) (by omega) (by decide), p_wI (x := i + 1) (by omega) (by omega),
          show max 0 (min (N1 802 (18 + 8 * i) - N1 810 i + a) 999) = min 999 (N1 802 (18 + 8 * i) - N1 810 i + a) by omega, show max 0 (min (N1 802 (19 + 8 * i) - N1 811 i + b) 999) = min 999 (N1 802 (19 + 8 * i) - N1 811 i + b) by omega]
        refine ih nA nB (i + 1) _ _ (by omega) (by omega) (by omega) (by omega) (by omega) ⟨?_, fun t t0 t1 => ?_⟩ (fun x x0 x1 j => ?_) (fun x x0 j => ?_) (fun j hj => ?_)
        · rw [up_nex (by omega), up_nex (by omega), up_nei (by omega), up_nei (by omega)]
          exact hS.1
        · rw [up_nei (by omega), up_nei (by omega)] at t1
          have gt := hS.2 t t0 t1
          have en : ∀ j, j ≠ 18 + 8 * i → j ≠ 19 + 8 * i → upM (upM N 802 (18 + 8 * i) (min 999 (N1 802 (18 + 8 * i) - N1 810 i + a))) 802 (19 + 8 * i) (min 999 (N1 802 (19 + 8 * i) - N1 811 i + b)) 802 j = N 802 j := fun j h1 h2 => by rw [up_nei h2, up_nei h1]
          rw [en (16 + 8 * t) (by omega) (by omega), en (17 + 8 * t) (by omega) (by omega), en (20 + 8 * t) (by omega) (by omega)]
          rw [up_nex (y := s + 1) (by omega), up_nex (y := s + 1) (by omega), up_nex (y := s + 2) (by omega), up_nex (y := s + 2) (by omega), up_nex (y := s + 5) (by omega), up_nex (y := s + 5) (by omega), up_nex (y := s + 3) (by omega), up_if (x := s + 3), up_if (x := s + 4), up_nex (y := s + 4) (by omega)]
          refine ⟨gt.1, gt.2.1, ?_, ?_, gt.2.2.2.2⟩
          · by_cases q : t = i
            · subst q
              rw [if_pos rfl, up_nei (by omega), up_eq]
              exact ⟨rfl, by omega, by omega⟩
            · rw [if_neg q, en (18 + 8 * t) (by omega) (by omega)]
              exact gt.2.2.1
          · by_cases q : t = i
            · subst q
              rw [if_pos rfl, up_eq]
              exact ⟨rfl, by omega, by omega⟩
            · rw [if_neg q, en (19 + 8 * t) (by omega) (by omega)]
              exact gt.2.2.2.1
        · rw [up_nex x1, up_nex x0]
          exact fM x x0 x1 j
        · rw [up_nex x0, up_nex x0]
          exact fN x x0 j
        · have := hj i i0 (by omega)
          rw [up_nei this.2, up_nei this.1]
          exact fA j (fun t t0 t1 => hj t t0 (by omega))
      by_cases d : i = 0
      · rw [if_neg (fun z => z d), if_pos (show i ≤ 0 by omega)]
        unfold f_X1_letWaterOver_L69_J93
        rw [if_neg (fun z => z d)]
        exact main 0 0 (by decide) (by decide) (by decide) (by decide) (Or.inl ⟨d, rfl⟩)
      · have G' := hG (i - 1) (by omega) (by omega)
        have g' := hS1.2 (i - 1) (by omega) (by omega)
        rw [if_pos d, if_neg (show ¬ i ≤ 0 by omega), p_wI (x := i - 1) (by omega) (by omega), p_ck (by omega), p_ck (by omega)]
        unfold f_X1_letWaterOver_L69_J93
        rw [if_pos d, p_wI (x := i - 1) (by omega) (by omega), p_ck (by omega), fM 715 (by omega) (by omega), fM 716 (by omega) (by omega), fN 810 (by decide) (i - 1), G'.1, G'.2.2.2.1]
        exact main (N1 810 (i - 1)) (N1 811 (i - 1)) (by omega) (by omega) (by omega) (by omega) (Or.inr ⟨d, rfl⟩)
