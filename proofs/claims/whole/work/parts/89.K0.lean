set_option linter.unusedVariables false
set_option linter.unusedSimpArgs false
/-! who hauls whom: ships listed -/
def cB (s i : Nat) : Nat := (List.range i).countP (fun j => s.testBit j)
theorem cB_succ (s i : Nat) : cB s (i + 1) = cB s i + (if s.testBit i = true then 1 else 0) := by
  unfold cB
  rw [List.range_succ, List.countP_append, List.countP_singleton]
theorem cB_mono (s : Nat) {i j : Nat} (h : i ≤ j) : cB s i ≤ cB s j := by
  induction j with
  | zero => rw [show i = 0 by omega]; exact Nat.le_refl _
  | succ j ih =>
    by_cases c : i = j + 1
    · rw [c]; exact Nat.le_refl _
    · have := ih (by omega)
      have := cB_succ s j
      omega
theorem l_lists {s : Nat} {pm pn : Int} (hs : s < 128) (h4 : pCnt s ≤ 4) : ∀ (k nA nB i : Nat) (M N : Mem), 7 - i < k → k ≤ nA → k ≤ nB → i ≤ 7 → (∀ j : Nat, j < cB s i → M pm j = N pn j ∧ ∃ u : Nat, N pn j = u ∧ s.testBit u = true) →
    ∃ M' N', f_X3_listShips_L4 nA pm s (cB s i : Nat) i M = some ((pCnt s : Int), M') ∧ f_X12_layOut_L4 nB pn s (cB s i : Nat) i N = some ((pCnt s : Int), N') ∧ (∀ x, x ≠ pm → ∀ j, M' x j = M x j) ∧ (∀ x, x ≠ pn → ∀ j, N' x j = N x j) ∧ (∀ j : Nat, j < pCnt s → M' pm j = N' pn j ∧ ∃ u : Nat, N' pn j = u ∧ s.testBit u = true) := by
  have e10 : cB s 10 = pCnt s := rfl
  have b7 : ∀ j, 7 ≤ j → s.testBit j = false := fun j hj => p_hi (i := 7) hs hj
  have c7 : cB s 7 = pCnt s := by
    have h7 : cB s 8 = cB s 7 + (if s.testBit 7 = true then 1 else 0) := cB_succ s 7
    have h8 : cB s 9 = cB s 8 + (if s.testBit 8 = true then 1 else 0) := cB_succ s 8
    have h9 : cB s 10 = cB s 9 + (if s.testBit 9 = true then 1 else 0) := cB_succ s 9
    rw [b7 7 (by omega), if_neg (by simp)] at h7
    rw [b7 8 (by omega), if_neg (by simp)] at h8
    rw [b7 9 (by omega), if_neg (by simp)] at h9
    omega
  intro k
  induction k with
  | zero => intro nA nB i M N g0; omega
  | succ k ih =>
    intro nA nB i M N g0 g1 g2 g3 hj
    obtain ⟨nA, rfl⟩ : ∃ n', nA = n' + 1 := ⟨nA - 1, by omega⟩
    obtain ⟨nB, rfl⟩ : ∃ n', nB = n' + 1 := ⟨nB - 1, by omega⟩
    rw [f_X12_layOut_L4]
    by_cases c : i = 7
    · subst c
      rw [f_X3_listShips_L4, if_pos (by omega), if_pos (by omega), c7]
      rw [c7] at hj
      exact ⟨M, N, rfl, rfl, fun _ _ _ => rfl, fun _ _ _ => rfl, hj⟩
    · have cs := cB_succ s i
      have cm := cB_mono s (show i + 1 ≤ 10 by omega)
      rw [if_neg (by omega), p_has (by omega) (by omega), p_wI (x := (i : Int) + 1) (by omega) (by omega), show (i : Int) + 1 = ((i + 1 : Nat) : Int) by omega]
      cases d : s.testBit i
      · rw [d, if_neg (by simp)] at cs
        rw [if_neg (by simp), show cB s i = cB s (i + 1) by omega]
        by_cases f4 : cB s (i + 1) = 4
        · -- the class has its four: nothing follows
          have rest : ∀ (m n : Nat) (N : Mem), 7 - m < n → m ≤ 7 → i ≤ m → f_X12_layOut_L4 n pn s (cB s (i + 1) : Nat) m N = some ((pCnt s : Int), N) := by
            intro m
            induction h : 7 - m generalizing m with
            | zero =>
              intro n N q0 q1 q2
              obtain ⟨n, rfl⟩ : ∃ n', n = n' + 1 := ⟨n - 1, by omega⟩
              rw [f_X12_layOut_L4, if_pos (by omega), show cB s (i + 1) = pCnt s by omega]
            | succ d2 ih2 =>
              intro n N q0 q1 q2
              obtain ⟨n, rfl⟩ : ∃ n', n = n' + 1 := ⟨n - 1, by omega⟩
              have bm : s.testBit m = false := by
                cases y : s.testBit m
                · rfl
                · exfalso
                  have y1 := cB_succ s m
                  rw [y, if_pos rfl] at y1
                  have y2 := cB_mono s (show m + 1 ≤ 10 by omega)
                  by_cases q : m = i
                  · rw [q, d] at y; simp at y
                  · have y3 := cB_mono s (show i + 1 ≤ m by omega)
                    omega
              rw [f_X12_layOut_L4, if_neg (by omega), p_has (by omega) (by omega), bm, if_neg (by simp), p_wI (by omega) (by omega), show (m : Int) + 1 = ((m + 1 : Nat) : Int) by omega]
              exact ih2 (m + 1) (by omega) n N (by omega) (by omega) (by omega)
          rw [rest (i + 1) nB N (by omega) (by omega) (by omega), f_X3_listShips_L4, if_neg (by omega), if_pos (by omega), show cB s (i + 1) = pCnt s by omega]
          exact ⟨M, N, rfl, rfl, fun _ _ _ => rfl, fun _ _ _ => rfl, fun j hj2 => hj j (by omega)⟩
        · rw [f_X3_listShips_L4, if_neg (by omega), if_neg (by omega), if_pos ((p_andpow0 (by omega) (by omega)).mpr d), p_wI (x := (i : Int) + 1) (by omega) (by omega), show (i : Int) + 1 = ((i + 1 : Nat) : Int) by omega]
          exact ih nA nB (i + 1) M N (by omega) (by omega) (by omega) (by omega) (fun j hj2 => hj j (by omega))
      · rw [d, if_pos rfl] at cs
        rw [if_pos (by simp), p_ck (by omega), f_X3_listShips_L4, if_neg (by omega), if_neg (by omega), if_neg (fun z => by rw [p_andpow0 (by omega) (by omega), d] at z; simp at z), p_ck (by omega), p_wI (x := (cB s i : Int) + 1) (by omega) (by omega), p_wI (x := (i : Int) + 1) (by omega) (by omega), show (i : Int) + 1 = ((i + 1 : Nat) : Int) by omega, show (cB s i : Int) + 1 = ((cB s (i + 1) : Nat) : Int) by omega]
        simp only [p_lt]
        obtain ⟨M', N', a1, a2, a3, a4, a5⟩ := ih nA nB (i + 1) (upM M pm (cB s i : Nat) i) (upM N pn (cB s i : Nat) i) (by omega) (by omega) (by omega) (by omega) (fun j hj2 => by
          by_cases q : j = cB s i
          · rw [q, up_eq, up_eq]
            exact ⟨rfl, i, rfl, d⟩
          · rw [up_nei (by omega), up_nei (by omega)]
            exact hj j (by omega))
        exact ⟨M', N', a1, a2, fun x hx j => by rw [a3 x hx, up_nex hx], fun x hx j => by rw [a4 x hx, up_nex hx], a5⟩
/-! digits -/
def dgt (B : Int) : Nat → Int → Nat → Int
  | 0, _, _ => 0
  | k + 1, x, i => if i = k then x % B else dgt B k (x / B) i
def wy (B : Int) : Nat → Int
  | 0 => 1
  | k + 1 => wy B k * B
theorem dgt_lt {B : Int} (hB : 1 ≤ B) : ∀ (k : Nat) (x : Int) (i : Nat), 0 ≤ dgt B k x i ∧ dgt B k x i < B := by
  intro k
  induction k with
  | zero => intro x i; show 0 ≤ (0 : Int) ∧ (0 : Int) < B; omega
  | succ k ih =>
    intro x i
    show 0 ≤ (if i = k then x % B else dgt B k (x / B) i) ∧ (if i = k then x % B else dgt B k (x / B) i) < B
    split
    · exact ⟨Int.emod_nonneg x (by omega), Int.emod_lt_of_pos x (by omega)⟩
    · exact ih _ _
theorem wy_le {B : Int} (h1 : 1 ≤ B) (h5 : B ≤ 5) {k : Nat} (hk : k ≤ 4) : 1 ≤ wy B k ∧ wy B k ≤ 625 := by
  have : B = 1 ∨ B = 2 ∨ B = 3 ∨ B = 4 ∨ B = 5 := by omega
  have hk' : k = 0 ∨ k = 1 ∨ k = 2 ∨ k = 3 ∨ k = 4 := by omega
  rcases this with r | r | r | r | r <;> rcases hk' with q | q | q | q | q <;> subst r <;> subst q <;> decide
/-! what hauling costs: one answer -/
theorem l_haulsV {M N : Mem} {t w ot hh : Int} (hL : pLaw M N) (hs : pSt M N 3) (ht : 0 ≤ t ∧ t < N 802 0) (h11 : M 3 11 = hh) (h8 : N 802 8 = hh) (hh0 : 0 ≤ hh ∧ hh ≤ 10100) (hwt : 0 ≤ w ∧ w ≤ 99) (hot : 0 ≤ ot ∧ ot ≤ 99) :
    ∃ v, (0 ≤ v ∧ v ≤ 9999) ∧ (∀ (n : Nat) (M2 : Mem), 400 ≤ n → pLaw M2 N → pSt M2 N 3 → M2 3 11 = hh → ∃ M3, f_X2_hauls n 3 t w ot M2 = some (v, M3) ∧ pFM M2 M3) ∧ (∀ (n : Nat) (N2 : Mem), 400 ≤ n → (∀ j, N2 802 j = N 802 j) → (∀ j, N2 804 j = N 804 j) → ∃ N3, f_X12_haulsOf n t w ot N2 = some (v, N3) ∧ pFN N2 N3) := by
  obtain ⟨v, M', N', a1, a2, a3, a3', a4⟩ := s_hauls (s := 3) (st := t) (w := w) (ot := ot) (hh := hh) (n1 := 400) (n2 := 400) hL hs ht h11 hh0 h8 hwt hot (by omega) (Nat.le_refl _) (Nat.le_refl _)
  refine ⟨v, ⟨a3, a3'⟩, fun n M2 hn l2 s2 e2 => ?_, fun n N2 hn e2 e4 => ?_⟩
  · obtain ⟨v2, M3, N3, b1, b2, b3, b3', b4⟩ := s_hauls (s := 3) (st := t) (w := w) (ot := ot) (hh := hh) (n1 := n) (n2 := 400) l2 s2 ht e2 hh0 h8 hwt hot (by omega) hn (Nat.le_refl _)
    rw [a2] at b2
    have : v = v2 := by injection b2 with z; injection z
    subst this
    exact ⟨M3, b1, b4.1⟩
  · obtain ⟨v2, M3, N3, b1, b2, b3, b3', b4⟩ := s_hauls (s := 3) (st := t) (w := w) (ot := ot) (hh := hh) (n1 := 400) (n2 := n) (pLaw_same hL rfl (fun _ _ _ => rfl) (e2 3) e4) (pSt_same hs (fun _ _ _ _ => rfl) e2) (by rw [e2]; exact ht) h11 hh0 (by rw [e2]; exact h8) hwt hot (by omega) (Nat.le_refl _) hn
    rw [a1] at b1
    have : v = v2 := by injection b1 with z; injection z
    subst this
    exact ⟨N3, b2, b4.2⟩
/-- the costs of hauling, by who is up (q / 5) and who is down (q % 5; b: none) -/
def pHaul (N : Mem) (t : Int) (a b : Nat) (u d : Int → Int) (F : Int → Int) : Prop := ∀ q : Int, (0 ≤ q ∧ q < 5 * (a : Int) ∧ q % 5 ≤ (b : Int)) → (0 ≤ F q ∧ F q ≤ 9999) ∧ (∀ (n : Nat) (M2 : Mem), 400 ≤ n → pLaw M2 N → pSt M2 N 3 → M2 3 11 = N 802 8 → ∃ M3, f_X2_hauls n 3 t (N 802 (88 + 6 * u (q / 5))) (if q % 5 < b then N 802 (88 + 6 * d (q % 5)) else 0) M2 = some (F q, M3) ∧ pFM M2 M3) ∧ (∀ (n : Nat) (N2 : Mem), 400 ≤ n → (∀ j, N2 802 j = N 802 j) → (∀ j, N2 804 j = N 804 j) → ∃ N3, f_X12_haulsOf n t (N 802 (88 + 6 * u (q / 5))) (if q % 5 < b then N 802 (88 + 6 * d (q % 5)) else 0) N2 = some (F q, N3) ∧ pFN N2 N3)
theorem l_pHaul {M N : Mem} (h : pRel M N) {t : Int} {a b : Nat} {u d : Int → Int} (ht : 0 ≤ t ∧ t < N 802 0) (hu : ∀ i : Int, 0 ≤ i → i < a → 0 ≤ u i ∧ u i < N 802 1) (hd : ∀ i : Int, 0 ≤ i → i < b → 0 ≤ d i ∧ d i < N 802 1) : ∃ F, pHaul N t a b u d F := by
  have hl := pLv_of (H := 9999) h (by omega)
  have h8 := (pR_num h).2.2.1
  have hw : ∀ q : Int, (0 ≤ q ∧ q < 5 * a ∧ q % 5 ≤ b) → 0 ≤ N 802 (88 + 6 * u (q / 5)) ∧ N 802 (88 + 6 * u (q / 5)) ≤ 99 := by
    intro q hq
    have g1 := hu (q / 5) (by omega) (by omega)
    have g2 := (pR_ship h (u (q / 5)) g1.1 g1.2).1
    omega
  have ho : ∀ q : Int, (0 ≤ q ∧ q < 5 * a ∧ q % 5 ≤ b) → 0 ≤ (if q % 5 < b then N 802 (88 + 6 * d (q % 5)) else 0) ∧ (if q % 5 < b then N 802 (88 + 6 * d (q % 5)) else 0) ≤ 99 := by
    intro q hq
    split
    · have g3 := hd (q % 5) (by omega) (by omega)
      have g4 := (pR_ship h (d (q % 5)) g3.1 g3.2).1
      omega
    · omega
  exact p_choice (P := fun q => 0 ≤ q ∧ q < 5 * a ∧ q % 5 ≤ b) (fun q hq => l_haulsV (pLaw_of h) hl.1 ht h8.1 rfl (by omega) (hw q hq) (ho q hq))
