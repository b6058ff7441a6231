set_option linter.unusedVariables false
set_option linter.unusedSimpArgs false
/-- what choosing may change in the class, and in the reference -/
def pFHM (M0 M : Mem) : Prop := ∀ x, x ≠ 713 → ¬ (748 ≤ x ∧ x < 757) → ∀ j, M x j = M0 x j
def pFHN (N0 N : Mem) : Prop := (∀ x, x ≠ 801 → x ≠ 807 → x ≠ 808 → ¬ (816 ≤ x ∧ x < 820) → ∀ j, N x j = N0 x j) ∧ (∀ j, ¬ (21 ≤ j ∧ j ≤ 24) → N 801 j = N0 801 j)
/-- the lists -/
def pLs (M N : Mem) (a b : Nat) (u d : Int → Int) : Prop := M 748 3 = a ∧ M 748 4 = b ∧ (∀ i : Int, 0 ≤ i → i < a → M 749 i = u i ∧ 0 ≤ u i ∧ u i < N 802 1) ∧ (∀ i : Int, 0 ≤ i → i < b → M 750 i = d i ∧ 0 ≤ d i ∧ d i < N 802 1)
section Haul
variable {M0 N0 : Mem} {st : Int} {a b : Nat} {u d : Int → Int} {F : Int → Int}
theorem l_row54 (h : pRel M0 N0) (ha : a ≤ 4) (hb : b ≤ 4) (hF : pHaul N0 st a b u d F) {i : Nat} (hi : i < a) (x5 : Int) : ∀ (f n j : Nat) (M : Mem), b + 1 - j < f → f + 500 ≤ n → j ≤ b + 1 → pFHM M0 M → pLs M N0 a b u d → (∀ q : Nat, q < j → M (752 + (i : Int)) q = F (5 * i + q)) →
    ∃ M', f_X3_choose_L54 n 3 st x5 i j M = some M' ∧ pFHM M0 M' ∧ pLs M' N0 a b u d ∧ (∀ q : Nat, q ≤ b → M' (752 + (i : Int)) q = F (5 * i + q)) ∧ (∀ x, 752 ≤ x → x < 756 → x ≠ 752 + (i : Int) → ∀ q, M' x q = M x q) := by
  have hl := pLv_of (H := 9999) h (by omega)
  have h8 := (pR_num h).2.2.1
  have n7 := (pR_num h).2.1
  intro f
  induction f with
  | zero => intro n j M g0; omega
  | succ f ih =>
    intro n j M g0 g1 g2 fr ls hq
    obtain ⟨n, rfl⟩ : ∃ n', n = n' + 1 := ⟨n - 1, by omega⟩
    obtain ⟨l1, l2, l3, l4⟩ := ls
    rw [f_X3_choose_L54, l2]
    by_cases c : j = b + 1
    · rw [if_pos (by omega)]
      exact ⟨M, rfl, fr, ⟨l1, l2, l3, l4⟩, fun q hq2 => hq q (by omega), fun _ _ _ _ _ => rfl⟩
    · have li := l3 i (by omega) (by omega)
      have gi := (pR_ship h (u i) li.2.1 li.2.2).1
      have hL : pLaw M N0 := pLaw_same (pLaw_of h) (fr 0 (by decide) (by decide) 0) (fun x hx => fr x (by omega) (by omega)) rfl (fun _ => rfl)
      have hS : pSt M N0 3 := pSt_same hl.1 (fun x x0 x1 => fr x (by omega) (by omega)) (fun _ => rfl)
      have e9 : ∀ x, M (3 + 6) x = M0 9 x := fun x => fr 9 (by decide) (by decide) x
      obtain ⟨d1, d2, -⟩ := hF (5 * i + j) ⟨by omega, by omega, by omega⟩
      rw [show ((5 : Int) * i + j) / 5 = i by omega, show ((5 : Int) * i + j) % 5 = j by omega] at d2
      obtain ⟨M3, b1, b2⟩ := d2 n M (by omega) hL hS (by rw [fr 3 (by decide) (by decide)]; exact h8.1)
      have one : ∀ s0, s0 = (if (j : Int) < b then N0 802 (88 + 6 * d j) else 0) → ∃ M', f_X3_choose_L54_J88 n 3 (fun x7 M => f_X3_choose_L54 n 3 st x5 i x7 M) st x5 i j s0 M = some M' ∧ pFHM M0 M' ∧ pLs M' N0 a b u d ∧ (∀ q : Nat, q ≤ b → M' (752 + (i : Int)) q = F (5 * i + q)) ∧ (∀ x, 752 ≤ x → x < 756 → x ≠ 752 + (i : Int) → ∀ q, M' x q = M x q) := by
        intro s0 hs0
        unfold f_X3_choose_L54_J88
        rw [p_ck (by omega), li.1, p_ck (by omega), e9, gi.1, hs0, b1, Option.bind_some, p_ck (by omega), p_wI (x := (j : Int) + 1) (by omega) (by omega), show (j : Int) + 1 = ((j + 1 : Nat) : Int) by omega]
        simp only [p_lt]
        have e748 : ∀ x, 748 ≤ x → x < 752 → ∀ q, upM M3 (752 + (i : Int)) j (F (5 * i + j)) x q = M x q := fun x x0 x1 q => by rw [up_nex (by omega), b2 x (by omega)]
        obtain ⟨M', c1, c2, c3, c4, c5⟩ := ih n (j + 1) (upM M3 (752 + (i : Int)) j (F (5 * i + j))) (by omega) (by omega) (by omega) (fun x x0 x1 q => by rw [up_nex (by omega), b2 x x0]; exact fr x x0 x1 q) ⟨by rw [e748 748 (by decide) (by decide)]; exact l1, by rw [e748 748 (by decide) (by decide)]; exact l2, fun q q0 q1 => by rw [e748 749 (by decide) (by decide)]; exact l3 q q0 q1, fun q q0 q1 => by rw [e748 750 (by decide) (by decide)]; exact l4 q q0 q1⟩ (fun q hq2 => by
          by_cases y : q = j
          · subst y; rw [up_eq]
          · rw [up_nei (by omega), b2 _ (by omega)]
            exact hq q (by omega))
        exact ⟨M', c1, c2, c3, c4, fun x x0 x1 x2 q => by rw [c5 x x0 x1 x2, up_nex x2, b2 x (by omega)]⟩
      rw [if_neg (by omega)]
      by_cases y : (b : Int) ≤ j
      · rw [if_pos y]
        exact one 0 (by rw [if_neg (by omega)])
      · have lj := l4 j (by omega) (by omega)
        have gj := (pR_ship h (d j) lj.2.1 lj.2.2).1
        rw [if_neg y, p_ck (by omega), lj.1, p_ck (by omega), e9, gj.1]
        exact one _ (by rw [if_pos (by omega)])
theorem l_rows31 (h : pRel M0 N0) (ha : a ≤ 4) (hb : b ≤ 4) (hF : pHaul N0 st a b u d F) : ∀ (f n i : Nat) (M : Mem), a - i < f → f + 600 ≤ n → i ≤ a → pFHM M0 M → pLs M N0 a b u d → (∀ p q : Nat, p < i → q ≤ b → M (752 + (p : Int)) q = F (5 * p + q)) →
    ∃ M', f_X3_choose_L31 n 3 st (wy (b + 1) i) i M = some (wy (b + 1) a, M') ∧ pFHM M0 M' ∧ pLs M' N0 a b u d ∧ (∀ p q : Nat, p < a → q ≤ b → M' (752 + (p : Int)) q = F (5 * p + q)) := by
  intro f
  induction f with
  | zero => intro n i M g0; omega
  | succ f ih =>
    intro n i M g0 g1 g2 fr ls hq
    obtain ⟨n, rfl⟩ : ∃ n', n = n' + 1 := ⟨n - 1, by omega⟩
    rw [f_X3_choose_L31, ls.1, ls.2.1]
    by_cases c : i = a
    · subst c
      rw [if_pos (by omega)]
      exact ⟨M, rfl, fr, ls, hq⟩
    · have w1 := wy_le (B := (b : Int) + 1) (by omega) (by omega) (k := i) (by omega)
      have w2 := wy_le (B := (b : Int) + 1) (by omega) (by omega) (k := i + 1) (by omega)
      have e : wy ((b : Int) + 1) i * ((b : Int) + 1) = wy ((b : Int) + 1) (i + 1) := rfl
      obtain ⟨M1, b1, b2, b3, b4, b5⟩ := l_row54 h ha hb hF (i := i) (by omega) (wy ((b : Int) + 1) (i + 1)) 10 n 0 M (by omega) (by omega) (by omega) fr ls (fun q hq2 => by omega)
      have b1' : f_X3_choose_L54 n 3 st (wy ((b : Int) + 1) (i + 1)) i 0 M = some M1 := b1
      rw [if_neg (by omega), p_wI (x := (b : Int) + 1) (by omega) (by omega), e, p_wI (x := wy ((b : Int) + 1) (i + 1)) (by omega) (by omega), b1', Option.bind_some, p_wI (x := (i : Int) + 1) (by omega) (by omega), show (i : Int) + 1 = ((i + 1 : Nat) : Int) by omega]
      exact ih n (i + 1) M1 (by omega) (by omega) (by omega) b2 b3 (fun p q hp hq2 => by
        by_cases y : p = i
        · subst y; exact b4 q hq2
        · rw [b5 _ (by omega) (by omega) (by omega)]
          exact hq p q (by omega) hq2)
/-- one way, as both reckon it -/
theorem l_pence (h : pRel M0 N0) (ha : a ≤ 4) (hb : b ≤ 4) (hF : pHaul N0 st a b u d F) {M : Mem} (l4 : M 748 4 = b) (hrow : ∀ p q : Nat, p < a → q ≤ b → M (752 + (p : Int)) q = F (5 * p + q)) :
    ∀ (k nA nB uC uR : Nat) (rest sum : Int) (N : Mem), k ≤ a → k + 5 ≤ nA → k + 500 ≤ nB → 0 ≤ rest → rest ≤ 1000 → 0 ≤ sum → sum ≤ 9999 * (4 - k) → uC < 32 → uR < 32 → (∀ j, j < b → uC.testBit j = uR.testBit j) → pFHN N0 N → (∀ i : Int, 0 ≤ i → i < a → N 816 i = u i ∧ 0 ≤ u i ∧ u i < N0 802 1) → (∀ i : Int, 0 ≤ i → i < b → N 817 i = d i ∧ 0 ≤ d i ∧ d i < N0 802 1) →
      ∃ v N', f_X3_penceOf_L15 nA sum uC rest ((k : Int) - 1) M = some v ∧ f_X12_hauledBy_L14 nB st b rest uR sum ((k : Int) - 1) N = some (v, N') ∧ pFHN N0 N' ∧ (∀ i, N' 816 i = N 816 i ∧ N' 817 i = N 817 i ∧ N' 819 i = N 819 i) ∧ (v = -1 ∨ (0 ≤ v ∧ v ≤ 39996 ∧ (∀ i : Nat, i < k → N' 818 i = dgt ((b : Int) + 1) k rest i) ∧ (∀ i : Nat, k ≤ i → N' 818 i = N 818 i))) := by
  have n7 := (pR_num h).2.1
  intro k
  induction k with
  | zero =>
    intro nA nB uC uR rest sum N g0 g1 g2 r0 r1 s0 s1 c1 c2 cu fr e816 e817
    obtain ⟨nA, rfl⟩ : ∃ n', nA = n' + 1 := ⟨nA - 1, by omega⟩
    obtain ⟨nB, rfl⟩ : ∃ n', nB = n' + 1 := ⟨nB - 1, by omega⟩
    rw [f_X3_penceOf_L15, f_X12_hauledBy_L14, if_pos (by decide), if_pos (by decide)]
    exact ⟨sum, N, rfl, rfl, fr, fun _ => ⟨rfl, rfl, rfl⟩, Or.inr ⟨s0, by omega, fun i hi => by omega, fun _ _ => rfl⟩⟩
  | succ k ih =>
    intro nA nB uC uR rest sum N g0 g1 g2 r0 r1 s0 s1 c1 c2 cu fr e816 e817
    obtain ⟨nA, rfl⟩ : ∃ n', nA = n' + 1 := ⟨nA - 1, by omega⟩
    obtain ⟨nB, rfl⟩ : ∃ n', nB = n' + 1 := ⟨nB - 1, by omega⟩
    have hm0 := Int.emod_nonneg rest (b := (b : Int) + 1) (by omega)
    have hm1 := Int.emod_lt_of_pos rest (b := (b : Int) + 1) (by omega)
    have hd0 : 0 ≤ rest / ((b : Int) + 1) := Int.ediv_nonneg r0 (by omega)
    have hd1 : rest / ((b : Int) + 1) ≤ rest := Int.ediv_le_self _ r0
    obtain ⟨e, he⟩ : ∃ e : Nat, rest % ((b : Int) + 1) = e := ⟨(rest % ((b : Int) + 1)).toNat, by omega⟩
    have li := e816 k (by omega) (by omega)
    have kk : ((k + 1 : Nat) : Int) - 1 = k := by omega
    have km : wI ((k : Int) + (-1)) = (k : Int) - 1 := by rw [p_wI (by omega) (by omega)]; omega
    have p2 : 2 ^ e < 32 := Nat.lt_of_le_of_lt (Nat.pow_le_pow_right (by omega) (show e ≤ 4 by omega)) (by decide)
    rw [f_X3_penceOf_L15, f_X12_hauledBy_L14, l4, kk, if_neg (show ¬ (k : Int) < 0 by omega), if_neg (show ¬ (k : Int) < 0 by omega), p_wI (x := (b : Int) + 1) (by omega) (by omega), p_ck (show (b : Int) + 1 ≠ 0 by omega), p_ck (show (b : Int) + 1 ≠ 0 by omega), p_ck (show 0 ≤ (k : Int) ∧ (k : Int) < 4 by omega), p_iRem r0, p_iDiv r0 (by omega) (by omega), he]
    simp only [p_lt]
    generalize hN1 : upM N 818 k e = N1
    have n1 : ∀ x, x ≠ 818 → ∀ j, N1 x j = N x j := fun x hx j => by rw [← hN1, up_nex hx]
    have n818 : ∀ j, N1 818 j = if j = (k : Int) then (e : Int) else N 818 j := fun j => by rw [← hN1, up_if]
    have fr1 : pFHN N0 N1 := ⟨fun x x0 x1 x2 x3 j => by rw [n1 x (by omega)]; exact fr.1 x x0 x1 x2 x3 j, fun j hj => by rw [n1 801 (by decide)]; exact fr.2 j hj⟩
    obtain ⟨d1, d2, d3⟩ := hF (5 * k + e) ⟨by omega, by omega, by omega⟩
    rw [show ((5 : Int) * k + e) / 5 = k by omega, show ((5 : Int) * k + e) % 5 = e by omega] at d3
    obtain ⟨N3, b1, b2⟩ := d3 nB N1 (by omega) (fr1.1 802 (by decide) (by decide) (by decide) (by decide)) (fr1.1 804 (by decide) (by decide) (by decide) (by decide))
    have hr := hrow k e (by omega) (by omega)
    have e802 : ∀ j, N1 802 j = N0 802 j := fr1.1 802 (by decide) (by decide) (by decide) (by decide)
    -- both go on
    have go : ∀ uR' : Nat, uR' < 32 → (∀ j, j < b → (uC ||| 2 ^ e).testBit j = uR'.testBit j) →
        ∃ v N', f_X3_penceOf_L15_J62 nA (fun x2 x3 x4 x5 => f_X3_penceOf_L15 nA x2 x3 x4 x5 M) sum uC (rest / ((b : Int) + 1)) k e M = some v ∧ f_X12_hauledBy_L14_J81 nB (fun x5 x6 x7 x8 M => f_X12_hauledBy_L14 nB st b x5 x6 x7 x8 M) st b (rest / ((b : Int) + 1)) uR' sum k e N1 = some (v, N') ∧ pFHN N0 N' ∧ (∀ i, N' 816 i = N 816 i ∧ N' 817 i = N 817 i ∧ N' 819 i = N 819 i) ∧ (v = -1 ∨ (0 ≤ v ∧ v ≤ 39996 ∧ (∀ i : Nat, i < k + 1 → N' 818 i = dgt ((b : Int) + 1) (k + 1) rest i) ∧ (∀ i : Nat, k + 1 ≤ i → N' 818 i = N 818 i))) := by
      intro uR' hu hju
      have p5 : uC ||| 2 ^ e < 32 := Nat.or_lt_two_pow (n := 5) c1 p2
      have fr3 : pFHN N0 N3 := ⟨fun x x0 x1 x2 x3 j => by rw [b2.1 x x0 x1 x2]; exact fr1.1 x x0 x1 x2 x3 j, fun j hj => by rw [b2.2 j hj]; exact fr1.2 j hj⟩
      have n3 : ∀ x, 816 ≤ x → x < 820 → ∀ j, N3 x j = N1 x j := fun x x0 x1 j => b2.1 x (by omega) (by omega) (by omega) j
      obtain ⟨v, N', v1, v2, v3, v4, v5⟩ := ih nA nB (uC ||| 2 ^ e) uR' (rest / ((b : Int) + 1)) (sum + F (5 * k + e)) N3 (by omega) (by omega) (by omega) hd0 (by omega) (by omega) (by omega) p5 hu hju fr3 (fun i i0 i1 => by rw [n3 816 (by decide) (by decide), n1 816 (by decide)]; exact e816 i i0 i1) (fun i i0 i1 => by rw [n3 817 (by decide) (by decide), n1 817 (by decide)]; exact e817 i i0 i1)
      refine ⟨v, N', ?_, ?_, v3, fun i => by rw [(v4 i).1, (v4 i).2.1, (v4 i).2.2, n3 816 (by decide) (by decide), n3 817 (by decide) (by decide), n3 819 (by decide) (by decide), n1 816 (by decide), n1 817 (by decide), n1 819 (by decide)]; exact ⟨rfl, rfl, rfl⟩, ?_⟩
      · unfold f_X3_penceOf_L15_J62
        rw [p_ck (by omega), p_ck (by omega), hr, p_wI (x := sum + F (5 * k + e)) (by omega) (by omega), p_orpow (by omega) (by omega), km]
        exact v1
      · unfold f_X12_hauledBy_L14_J81 f_X12_hauledBy_L14_J120
        rw [p_ck (by omega), n1 816 (by decide), li.1, p_get (by omega) (by omega) (by decide) (by decide), Option.bind_some, show 88 + 6 * u k + 0 = 88 + 6 * u k by omega, e802]
        by_cases y : (b : Int) ≤ e
        · rw [if_neg (by omega)] at b1
          rw [if_pos y, b1, Option.bind_some]
          dsimp only
          rw [p_wI (x := sum + F (5 * k + e)) (by omega) (by omega), km]
          exact v2
        · have lj := e817 e (by omega) (by omega)
          rw [if_pos (by omega)] at b1
          rw [if_neg y, p_ck (by omega), n1 817 (by decide), lj.1, p_get (by omega) (by omega) (by decide) (by decide), Option.bind_some, show 88 + 6 * d e + 0 = 88 + 6 * d e by omega, e802, b1, Option.bind_some]
          dsimp only
          rw [p_wI (x := sum + F (5 * k + e)) (by omega) (by omega), km]
          exact v2
      · rcases v5 with v5 | ⟨w1, w2, w3, w4⟩
        · exact Or.inl v5
        · refine Or.inr ⟨w1, w2, fun i hi => ?_, fun i hi => ?_⟩
          · show _ = (if i = k then rest % ((b : Int) + 1) else dgt ((b : Int) + 1) k (rest / ((b : Int) + 1)) i)
            by_cases q : i = k
            · subst q
              rw [if_pos rfl, w4 i (Nat.le_refl _), n3 818 (by decide) (by decide), n818, if_pos rfl, he]
            · rw [if_neg q]
              exact w3 i (by omega)
          · rw [w4 i (by omega), n3 818 (by decide) (by decide), n818, if_neg (by omega)]
    unfold f_X12_hauledBy_L14_J65
    by_cases y : (b : Int) ≤ e
    · rw [if_pos y, if_pos y, if_pos y]
      exact go uR c2 (fun j hj => by
        rw [Nat.testBit_or, Nat.testBit_two_pow, cu j hj]
        have : ¬ e = j := by omega
        simp [this])
    · rw [if_neg y, if_neg y, p_has (by omega) (by omega)]
      have cue := cu e (by omega)
      cases z : uC.testBit e
      · rw [z] at cue
        rw [if_pos ((p_andpow0 (by omega) (by omega)).mpr z), ← cue, if_pos (by simp), if_neg y, p_orpow (by omega) (by omega)]
        exact go (uR ||| 2 ^ e) (Nat.or_lt_two_pow (n := 5) c2 p2) (fun j hj => by rw [Nat.testBit_or, Nat.testBit_or, cu j hj])
      · rw [z] at cue
        rw [if_neg (fun w => by rw [p_andpow0 (by omega) (by omega), z] at w; simp at w), ← cue, if_neg (by simp)]
        exact ⟨-1, N1, rfl, rfl, fr1, fun i => by rw [n1 816 (by decide), n1 817 (by decide), n1 819 (by decide)]; exact ⟨rfl, rfl, rfl⟩, Or.inl rfl⟩
/-- the last way hauls each one alone -/
theorem l_lastWay (hb : b ≤ 4) {M : Mem} (ha : a ≤ 4) (l4 : M 748 4 = b) (hrow : ∀ p q : Nat, p < a → q ≤ b → 0 ≤ M (752 + (p : Int)) q ∧ M (752 + (p : Int)) q ≤ 9999) : ∀ (k n uC : Nat) (sum : Int), k ≤ a → k + 5 ≤ n → 0 ≤ sum → sum ≤ 9999 * (4 - k) → uC < 32 → ∃ v, f_X3_penceOf_L15 n sum uC (wy ((b : Int) + 1) k - 1) ((k : Int) - 1) M = some v ∧ 0 ≤ v := by
  intro k
  induction k with
  | zero =>
    intro n uC sum g0 g1 s0 s1 c1
    obtain ⟨n, rfl⟩ : ∃ n', n = n' + 1 := ⟨n - 1, by omega⟩
    rw [f_X3_penceOf_L15, if_pos (by decide)]
    exact ⟨sum, rfl, s0⟩
  | succ k ih =>
    intro n uC sum g0 g1 s0 s1 c1
    obtain ⟨n, rfl⟩ : ∃ n', n = n' + 1 := ⟨n - 1, by omega⟩
    have w1 := wy_le (B := (b : Int) + 1) (by omega) (by omega) (k := k) (by omega)
    have kk : ((k + 1 : Nat) : Int) - 1 = k := by omega
    have km : wI ((k : Int) + (-1)) = (k : Int) - 1 := by rw [p_wI (by omega) (by omega)]; omega
    have e1 : (wy ((b : Int) + 1) (k + 1) - 1) % ((b : Int) + 1) = b ∧ (wy ((b : Int) + 1) (k + 1) - 1) / ((b : Int) + 1) = wy ((b : Int) + 1) k - 1 ∧ 0 ≤ wy ((b : Int) + 1) (k + 1) - 1 ∧ wy ((b : Int) + 1) (k + 1) - 1 ≤ 3125 := by
      show (wy ((b : Int) + 1) k * ((b : Int) + 1) - 1) % ((b : Int) + 1) = b ∧ (wy ((b : Int) + 1) k * ((b : Int) + 1) - 1) / ((b : Int) + 1) = wy ((b : Int) + 1) k - 1 ∧ 0 ≤ wy ((b : Int) + 1) k * ((b : Int) + 1) - 1 ∧ wy ((b : Int) + 1) k * ((b : Int) + 1) - 1 ≤ 3125
      have : b = 0 ∨ b = 1 ∨ b = 2 ∨ b = 3 ∨ b = 4 := by omega
      rcases this with r | r | r | r | r <;> subst r <;> omega
    have hr := hrow k b (by omega) (Nat.le_refl _)
    have p2 : 2 ^ b < 32 := Nat.lt_of_le_of_lt (Nat.pow_le_pow_right (by omega) hb) (by decide)
    have p5 : uC ||| 2 ^ b < 32 := Nat.or_lt_two_pow (n := 5) c1 p2
    rw [f_X3_penceOf_L15, l4, kk, if_neg (by omega), p_wI (x := (b : Int) + 1) (by omega) (by omega), p_ck (by omega), p_iRem e1.2.2.1, p_iDiv e1.2.2.1 (by omega) (by omega), e1.1, e1.2.1, if_pos (Int.le_refl _)]
    unfold f_X3_penceOf_L15_J62
    rw [p_ck (by omega), p_ck (by omega), p_wI (x := sum + M (752 + (k : Int)) b) (by omega) (by omega), p_orpow (by omega) (by omega), km]
    exact ih n _ _ (by omega) (by omega) (by omega) (by omega) p5
theorem l_cp74 (x1 x3 x4 x5 x6 : Int) (ha : a ≤ 4) : ∀ (f n i : Nat) (N : Mem), a - i < f → f ≤ n → i ≤ a → (∀ p : Nat, p < i → N 819 p = N 818 p) → ∃ N', f_X12_bestHauling_L74 n x1 a x3 x4 x5 x6 i N = some N' ∧ (∀ x, x ≠ 819 → ∀ j, N' x j = N x j) ∧ (∀ p : Nat, p < a → N' 819 p = N 818 p) := by
  intro f
  induction f with
  | zero => intro n i N g0; omega
  | succ f ih =>
    intro n i N g0 g1 g2 hp
    obtain ⟨n, rfl⟩ : ∃ n', n = n' + 1 := ⟨n - 1, by omega⟩
    rw [f_X12_bestHauling_L74]
    by_cases c : i = a
    · subst c
      rw [if_pos (by omega)]
      exact ⟨N, rfl, fun _ _ _ => rfl, hp⟩
    · rw [if_neg (by omega), p_ck (by omega), p_wI (by omega) (by omega), show (i : Int) + 1 = ((i + 1 : Nat) : Int) by omega]
      simp only [p_lt]
      obtain ⟨N', a1, a2, a3⟩ := ih n (i + 1) (upM N 819 i (N 818 i)) (by omega) (by omega) (by omega) (fun p hp2 => by
        rw [up_nex (y := 818) (by decide)]
        by_cases y : p = i
        · subst y; rw [up_eq]
        · rw [up_nei (by omega)]; exact hp p (by omega))
      exact ⟨N', a1, fun x hx j => by rw [a2 x hx, up_nex hx], fun p hp2 => by rw [a3 p hp2, up_nex (by decide)]⟩
/-- all ways, as both go through them -/
theorem l_best (h : pRel M0 N0) (ha : a ≤ 4) (ha1 : 1 ≤ a) (hb : b ≤ 4) (hF : pHaul N0 st a b u d F) (hFb : ∀ p q : Nat, p < a → q ≤ b → 0 ≤ F (5 * p + q) ∧ F (5 * p + q) ≤ 9999) : ∀ (f nA nB : Nat) (w bw lr : Int) (M N : Mem), wy ((b : Int) + 1) a - w < f → f + 600 ≤ nA → f + 600 ≤ nB → 0 ≤ w → w ≤ wy ((b : Int) + 1) a → pFHM M0 M → pLs M N0 a b u d → (∀ p q : Nat, p < a → q ≤ b → M (752 + (p : Int)) q = F (5 * p + q)) → pFHN N0 N → (∀ i : Int, 0 ≤ i → i < a → N 816 i = u i) → (∀ i : Int, 0 ≤ i → i < b → N 817 i = d i) → 0 ≤ bw → bw ≤ 1000 →
      ((w < wy ((b : Int) + 1) a ∧ M 748 6 = -1 ∧ lr = 100000000) ∨ (0 ≤ M 748 6 ∧ M 748 6 ≤ 39996 ∧ lr = M 748 6 ∧ (∀ i : Nat, i < a → N 819 i = dgt ((b : Int) + 1) a bw i))) →
      ∃ bw' M' N', f_X3_choose_L146 nA 3 (wy ((b : Int) + 1) a) bw w M = some (bw', M') ∧ f_X12_bestHauling_L34 nB st a b (wy ((b : Int) + 1) a) lr w N = some (M' 748 6, N') ∧ pFHM M0 M' ∧ pLs M' N0 a b u d ∧ pFHN N0 N' ∧ (∀ i : Int, N' 816 i = N 816 i ∧ N' 817 i = N 817 i) ∧ (∀ i : Nat, i < a → N' 819 i = dgt ((b : Int) + 1) a bw' i) ∧ 0 ≤ bw' ∧ bw' ≤ 1000 := by
  intro f
  have wl := wy_le (B := (b : Int) + 1) (by omega) (by omega) (k := a) (by omega)
  induction f with
  | zero => intro nA nB w bw lr M N g0; omega
  | succ f ih =>
    intro nA nB w bw lr M N g0 g1 g2 w0 w1 fM ls hrow fN h816 h817 b0 b1 hst
    obtain ⟨nA, rfl⟩ : ∃ n', nA = n' + 1 := ⟨nA - 1, by omega⟩
    obtain ⟨nB, rfl⟩ : ∃ n', nB = n' + 1 := ⟨nB - 1, by omega⟩
    rw [f_X3_choose_L146, f_X12_bestHauling_L34]
    by_cases c : wy ((b : Int) + 1) a ≤ w
    · rw [if_pos c, if_pos c]
      rcases hst with ⟨z, -⟩ | ⟨z1, z2, z3, z4⟩
      · omega
      · rw [z3]
        exact ⟨bw, M, N, rfl, rfl, fM, ls, fN, fun _ => ⟨rfl, rfl⟩, z4, b0, b1⟩
    · obtain ⟨l1, l2, l3, l4⟩ := ls
      obtain ⟨v, N1, v1, v2, v3, v4, v5⟩ := l_pence h ha hb hF l2 hrow a nA nB 0 0 w 0 N (Nat.le_refl _) (by omega) (by omega) w0 (by omega) (by omega) (by omega) (by decide) (by decide) (fun _ _ => rfl) fN (fun i i0 i1 => ⟨h816 i i0 i1, (l3 i i0 i1).2⟩) (fun i i0 i1 => ⟨h817 i i0 i1, (l4 i i0 i1).2⟩)
      have e1 : f_X3_penceOf nA w M = some v := by
        unfold f_X3_penceOf
        rw [l1, p_wI (by omega) (by omega)]
        exact v1
      have e2 : f_X12_hauledBy nB st w a b N = some (v, N1) := by
        unfold f_X12_hauledBy
        rw [p_wI (by omega) (by omega)]
        exact v2
      have vlast : w = wy ((b : Int) + 1) a - 1 → v ≠ -1 := by
        intro z
        obtain ⟨v', y1, y2⟩ := l_lastWay hb (M := M) ha l2 (fun p q hp hq => by rw [hrow p q hp hq]; exact hFb p q hp hq) a nA 0 0 (Nat.le_refl _) (by omega) (by omega) (by omega) (by decide)
        rw [← z] at y1
        have y1' : f_X3_penceOf_L15 nA 0 0 w ((a : Int) - 1) M = some v' := y1
        have v1' : f_X3_penceOf_L15 nA 0 0 w ((a : Int) - 1) M = some v := v1
        rw [y1'] at v1'
        injection v1' with q
        omega
      have n816 : ∀ i : Int, 0 ≤ i → i < a → N1 816 i = u i := fun i i0 i1 => by rw [(v4 i).1]; exact h816 i i0 i1
      have n817 : ∀ i : Int, 0 ≤ i → i < b → N1 817 i = d i := fun i i0 i1 => by rw [(v4 i).2.1]; exact h817 i i0 i1
      rw [if_neg c, if_neg c, e1, e2, Option.bind_some, Option.bind_some, p_wI (x := w + 1) (by omega) (by omega)]
      dsimp only
      -- nothing better
      have keep : (v = -1 ∨ (M 748 6 ≠ -1 ∧ M 748 6 ≤ v)) → ∃ bw' M' N', f_X3_choose_L146 nA 3 (wy ((b : Int) + 1) a) bw (w + 1) M = some (bw', M') ∧ f_X12_bestHauling_L34 nB st a b (wy ((b : Int) + 1) a) lr (w + 1) N1 = some (M' 748 6, N') ∧ pFHM M0 M' ∧ pLs M' N0 a b u d ∧ pFHN N0 N' ∧ (∀ i : Int, N' 816 i = N 816 i ∧ N' 817 i = N 817 i) ∧ (∀ i : Nat, i < a → N' 819 i = dgt ((b : Int) + 1) a bw' i) ∧ 0 ≤ bw' ∧ bw' ≤ 1000 := by
        intro hk
        obtain ⟨bw', M', N', q1, q2, q3, q4, q5, q6, q7⟩ := ih nA nB (w + 1) bw lr M N1 (by omega) (by omega) (by omega) (by omega) (by omega) fM ⟨l1, l2, l3, l4⟩ hrow v3 n816 n817 b0 b1 (by
          rcases hst with ⟨z1, z2, z3⟩ | ⟨z1, z2, z3, z4⟩
          · left
            refine ⟨?_, z2, z3⟩
            by_cases y : w + 1 < wy ((b : Int) + 1) a
            · exact y
            · have := vlast (by omega)
              omega
          · right
            exact ⟨z1, z2, z3, fun i hi => by rw [(v4 i).2.2]; exact z4 i hi⟩)
        exact ⟨bw', M', N', q1, q2, q3, q4, q5, fun i => by rw [(q6 i).1, (q6 i).2]; exact ⟨(v4 i).1, (v4 i).2.1⟩, q7⟩
      -- better
      have take : v ≠ -1 → ∃ bw' M' N', f_X3_choose_L146 nA 3 (wy ((b : Int) + 1) a) w (w + 1) (upM M 748 6 v) = some (bw', M') ∧ ((f_X12_bestHauling_L74 nB st a b (wy ((b : Int) + 1) a) v w 0 N1).bind fun q10 => f_X12_bestHauling_L34 nB st a b (wy ((b : Int) + 1) a) v (w + 1) q10) = some (M' 748 6, N') ∧ pFHM M0 M' ∧ pLs M' N0 a b u d ∧ pFHN N0 N' ∧ (∀ i : Int, N' 816 i = N 816 i ∧ N' 817 i = N 817 i) ∧ (∀ i : Nat, i < a → N' 819 i = dgt ((b : Int) + 1) a bw' i) ∧ 0 ≤ bw' ∧ bw' ≤ 1000 := by
        intro hv
        rcases v5 with v5 | ⟨y1, y2, y3, y4⟩
        · exact absurd v5 hv
        · obtain ⟨N2, c1, c2, c3⟩ := l_cp74 (a := a) st b (wy ((b : Int) + 1) a) v w ha 10 nB 0 N1 (by omega) (by omega) (by omega) (fun p hp => by omega)
          have c1' : f_X12_bestHauling_L74 nB st a b (wy ((b : Int) + 1) a) v w 0 N1 = some N2 := c1
          obtain ⟨bw', M', N', q1, q2, q3, q4, q5, q6, q7⟩ := ih nA nB (w + 1) w v (upM M 748 6 v) N2 (by omega) (by omega) (by omega) (by omega) (by omega) (fun x x0 x1 j => by rw [up_nex (by omega)]; exact fM x x0 x1 j) ⟨by rw [up_nei (by decide)]; exact l1, by rw [up_nei (by decide)]; exact l2, fun i i0 i1 => by rw [up_nex (by decide)]; exact l3 i i0 i1, fun i i0 i1 => by rw [up_nex (by decide)]; exact l4 i i0 i1⟩ (fun p q hp hq => by rw [up_nex (by omega)]; exact hrow p q hp hq) ⟨fun x x0 x1 x2 x3 j => by rw [c2 x (by omega)]; exact v3.1 x x0 x1 x2 x3 j, fun j hj => by rw [c2 801 (by decide)]; exact v3.2 j hj⟩ (fun i i0 i1 => by rw [c2 816 (by decide)]; exact n816 i i0 i1) (fun i i0 i1 => by rw [c2 817 (by decide)]; exact n817 i i0 i1) w0 (by omega) (Or.inr ⟨by rw [up_eq]; exact y1, by rw [up_eq]; exact y2, by rw [up_eq], fun i hi => by rw [c3 i hi]; exact y3 i hi⟩)
          rw [c1', Option.bind_some]
          exact ⟨bw', M', N', q1, q2, q3, q4, q5, fun i => by rw [(q6 i).1, (q6 i).2, c2 816 (by decide), c2 817 (by decide)]; exact ⟨(v4 i).1, (v4 i).2.1⟩, q7⟩
      by_cases z : v = -1
      · rw [if_pos z, if_pos (show v < 0 by omega)]
        exact keep (Or.inl z)
      · have vp : 0 ≤ v ∧ v ≤ 39996 := by
          rcases v5 with v5 | ⟨y1, y2, -⟩
          · exact absurd v5 z
          · exact ⟨y1, y2⟩
        rw [if_neg z, if_neg (show ¬ v < 0 by omega)]
        rcases hst with ⟨z1, z2, z3⟩ | ⟨z1, z2, z3, z4⟩
        · rw [if_pos z2, if_pos (show v < lr by omega)]
          exact take z
        · rw [if_neg (show ¬ M 748 6 = -1 by omega)]
          by_cases y : M 748 6 ≤ v
          · rw [if_pos y, if_neg (show ¬ v < lr by omega)]
            exact keep (Or.inr ⟨by omega, y⟩)
          · rw [if_neg y, if_pos (show v < lr by omega)]
            exact take z
end Haul
