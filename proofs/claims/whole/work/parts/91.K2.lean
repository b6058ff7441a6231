set_option linter.unusedVariables false
set_option linter.unusedSimpArgs false
section Haul2
variable {a b : Nat}
theorem l_dec208 (ha : a ≤ 4) (hb : b ≤ 4) : ∀ (k n : Nat) (x : Int) (M : Mem), k ≤ a → k + 2 ≤ n → 0 ≤ x → x ≤ 1000 → M 748 4 = b → ∃ M', f_X3_choose_L208 n 3 x ((k : Int) - 1) M = some M' ∧ (∀ y, y ≠ 756 → ∀ j, M' y j = M y j) ∧ (∀ i : Nat, i < k → M' 756 i = dgt ((b : Int) + 1) k x i) ∧ (∀ i : Nat, k ≤ i → M' 756 i = M 756 i) := by
  intro k
  induction k with
  | zero =>
    intro n x M g0 g1 x0 x1 l4
    obtain ⟨n, rfl⟩ : ∃ n', n = n' + 1 := ⟨n - 1, by omega⟩
    rw [f_X3_choose_L208, if_pos (by decide)]
    exact ⟨M, rfl, fun _ _ _ => rfl, fun i hi => by omega, fun _ _ => rfl⟩
  | succ k ih =>
    intro n x M g0 g1 x0 x1 l4
    obtain ⟨n, rfl⟩ : ∃ n', n = n' + 1 := ⟨n - 1, by omega⟩
    have kk : ((k + 1 : Nat) : Int) - 1 = k := by omega
    have km : wI ((k : Int) + (-1)) = (k : Int) - 1 := by rw [p_wI (by omega) (by omega)]; omega
    have hd0 : 0 ≤ x / ((b : Int) + 1) := Int.ediv_nonneg x0 (by omega)
    have hd1 : x / ((b : Int) + 1) ≤ x := Int.ediv_le_self _ x0
    rw [f_X3_choose_L208, kk, if_neg (by omega), l4, p_wI (x := (b : Int) + 1) (by omega) (by omega), p_ck (by omega), p_ck (by omega), p_iRem x0]
    simp only [p_lt]
    rw [up_nex (y := 748) (by decide), l4, p_wI (x := (b : Int) + 1) (by omega) (by omega), p_ck (by omega), p_iDiv x0 (by omega) (by omega), km]
    obtain ⟨M', a1, a2, a3, a4⟩ := ih n (x / ((b : Int) + 1)) (upM M 756 k (x % ((b : Int) + 1))) (by omega) (by omega) hd0 (by omega) (by rw [up_nex (by decide)]; exact l4)
    refine ⟨M', a1, fun y hy j => by rw [a2 y hy, up_nex hy], fun i hi => ?_, fun i hi => by rw [a4 i (by omega), up_nei (by omega)]⟩
    show _ = (if i = k then x % ((b : Int) + 1) else dgt ((b : Int) + 1) k (x / ((b : Int) + 1)) i)
    by_cases q : i = k
    · subst q
      rw [if_pos rfl, a4 i (Nat.le_refl _), up_eq]
    · rw [if_neg q]
      exact a3 i (by omega)
theorem l_codes (ha : a ≤ 4) (hb : b ≤ 4) (st : Int) (N : Mem) : ∀ (f n i : Nat), a - i < f → f ≤ n → i ≤ a → f_X12_bestHauling_L6 n st a b (wy ((b : Int) + 1) i) i N = some (wy ((b : Int) + 1) a) := by
  intro f
  induction f with
  | zero => intro n i g0; omega
  | succ f ih =>
    intro n i g0 g1 g2
    obtain ⟨n, rfl⟩ : ∃ n', n = n' + 1 := ⟨n - 1, by omega⟩
    rw [f_X12_bestHauling_L6]
    by_cases c : i = a
    · subst c
      rw [if_pos (by omega)]
    · have w1 := wy_le (B := (b : Int) + 1) (by omega) (by omega) (k := i) (by omega)
      have w2 := wy_le (B := (b : Int) + 1) (by omega) (by omega) (k := i + 1) (by omega)
      have e : wy ((b : Int) + 1) i * ((b : Int) + 1) = wy ((b : Int) + 1) (i + 1) := rfl
      rw [if_neg (by omega), p_wI (x := (b : Int) + 1) (by omega) (by omega), e, p_wI (x := wy ((b : Int) + 1) (i + 1)) (by omega) (by omega), p_wI (x := (i : Int) + 1) (by omega) (by omega), show (i : Int) + 1 = ((i + 1 : Nat) : Int) by omega]
      exact ih n (i + 1) (by omega) (by omega) (by omega)
theorem l_partner {M N N0 : Mem} {u d : Int → Int} (ha : a ≤ 4) (hb : b ≤ 4) {bw : Int} (ls : pLs M N0 a b u d) (h816 : ∀ i : Int, 0 ≤ i → i < a → N 816 i = u i) (h817 : ∀ i : Int, 0 ≤ i → i < b → N 817 i = d i) (h756 : ∀ i : Nat, i < a → M 756 i = dgt ((b : Int) + 1) a bw i) (h819 : ∀ i : Nat, i < a → N 819 i = dgt ((b : Int) + 1) a bw i) (sp : Int) : ∀ (f nA nB i : Nat), a - i < f → f ≤ nA → f ≤ nB → i ≤ a → ∃ v, f_X3_partnerOf_L2 nA sp i M = some v ∧ f_X12_hauling_L137 nB sp a b i N = some (v, N) := by
  obtain ⟨l1, l2, l3, l4⟩ := ls
  intro f
  induction f with
  | zero => intro nA nB i g0; omega
  | succ f ih =>
    intro nA nB i g0 g1 g2 g3
    obtain ⟨nA, rfl⟩ : ∃ n', nA = n' + 1 := ⟨nA - 1, by omega⟩
    obtain ⟨nB, rfl⟩ : ∃ n', nB = n' + 1 := ⟨nB - 1, by omega⟩
    rw [f_X3_partnerOf_L2, f_X12_hauling_L137, l1, l2]
    by_cases c : i = a
    · subst c
      rw [if_pos (by omega), if_pos (by omega)]
      exact ⟨-1, rfl, rfl⟩
    · have dl := dgt_lt (B := (b : Int) + 1) (by omega) a bw i
      have li := l3 i (by omega) (by omega)
      rw [if_neg (show ¬ (a : Int) ≤ i by omega), if_neg (show ¬ (a : Int) ≤ i by omega), p_ck (show 0 ≤ (i : Int) ∧ (i : Int) < 4 by omega), p_ck (show 0 ≤ (i : Int) ∧ (i : Int) < 4 by omega), h756 i (by omega), h819 i (by omega)]
      have one : ∀ s0 : Int, ∃ v, f_X3_partnerOf_L2_J38 nA (fun x2 => f_X3_partnerOf_L2 nA sp x2 M) sp i s0 M = some v ∧ f_X12_hauling_L137_J172 nB (fun x9 => f_X12_hauling_L137 nB sp a b x9 N) sp a b i s0 N = some (v, N) := by
        intro s0
        unfold f_X3_partnerOf_L2_J38 f_X12_hauling_L137_J172
        rw [p_ck (by omega), p_ck (by omega), li.1, h816 i (by omega) (by omega), p_wI (by omega) (by omega), show (i : Int) + 1 = ((i + 1 : Nat) : Int) by omega]
        by_cases y : u i = sp
        · rw [if_neg (fun z => z y), if_neg (fun z => z y)]
          exact ⟨s0, rfl, rfl⟩
        · rw [if_pos y, if_pos y]
          by_cases z : s0 = sp
          · rw [if_neg (fun w => w z), if_neg (fun w => w z)]
            exact ⟨u i, rfl, rfl⟩
          · rw [if_pos z, if_pos z]
            exact ih nA nB (i + 1) (by omega) (by omega) (by omega) (by omega)
      by_cases y : (b : Int) ≤ dgt ((b : Int) + 1) a bw i
      · rw [if_pos y, if_pos y]
        exact one (-1)
      · have lj := l4 (dgt ((b : Int) + 1) a bw i) dl.1 (by omega)
        rw [if_neg y, if_neg y, p_ck (by omega), p_ck (by omega), lj.1, h817 _ dl.1 (by omega)]
        exact one _
end Haul2
theorem s_haulJ {M N : Mem} {nA nB : Nat} {st sp : Int} {up dn : Nat} (h : pRel M N) (hA : 3000 ≤ nA) (hB : 3000 ≤ nB) (ht : 0 ≤ st ∧ st < N 802 0) (hu : up < 128) (hd : dn < 128) (hu0 : up ≠ 0) (hu4 : pCnt up ≤ 4) (hd4 : pCnt dn ≤ 4) {ns : Nat} (hns : N 802 1 = ns) (hu2 : up < 2 ^ ns) (hd2 : dn < 2 ^ ns) :
    pSim (f_X11_hauling_J85 nA st up dn sp M) (f_X12_hauling_J94 nB st up dn sp N) N := by
  have h8 := (pR_num h).2.2.1
  have bitlt : ∀ {s j : Nat}, s < 2 ^ ns → s.testBit j = true → j < ns := by
    intro s j hs hj
    apply Classical.byContradiction
    intro q
    rw [p_hi hs (by omega)] at hj
    simp at hj
  have a1 : 1 ≤ pCnt up := by
    have : ∃ j, up.testBit j = true := by
      apply Classical.byContradiction
      intro q
      apply hu0
      apply Nat.eq_of_testBit_eq
      intro j
      rw [Nat.zero_testBit]
      cases y : up.testBit j
      · rfl
      · exact absurd ⟨j, y⟩ q
    obtain ⟨j, hj⟩ := this
    have j10 : j < 10 := Nat.lt_of_lt_of_le (Nat.lt_of_not_le (fun q => by rw [p_hi (i := 7) hu q] at hj; simp at hj)) (show 7 ≤ 10 by omega)
    have := p_cnt1 ⟨j, j10⟩
    have := p_cntMono (a := 2 ^ j) (b := up) (fun i hi => by rw [Nat.testBit_two_pow, decide_eq_true_iff] at hi; rw [← hi]; exact hj)
    have e : pCnt (2 ^ (⟨j, j10⟩ : Fin 10).val) = pCnt (2 ^ j) := rfl
    omega
  obtain ⟨M1, N1, c1, c2, c3, c4, c5⟩ := l_lists (pm := 749) (pn := 816) hu hu4 8 nA nB 0 M N (by omega) (by omega) (by omega) (by omega) (fun j hj => by have : cB up 0 = 0 := rfl; omega)
  have c1' : f_X3_listShips_L4 nA 749 up 0 0 M = some ((pCnt up : Int), M1) := c1
  have c2' : f_X12_layOut_L4 nB 816 up 0 0 N = some ((pCnt up : Int), N1) := c2
  obtain ⟨M3, N2, d1, d2, d3, d4, d5⟩ := l_lists (pm := 750) (pn := 817) hd hd4 8 nA nB 0 (upM M1 748 3 (pCnt up)) N1 (by omega) (by omega) (by omega) (by omega) (fun j hj => by have : cB dn 0 = 0 := rfl; omega)
  have d1' : f_X3_listShips_L4 nA 750 dn 0 0 (upM M1 748 3 (pCnt up)) = some ((pCnt dn : Int), M3) := d1
  have d2' : f_X12_layOut_L4 nB 817 dn 0 0 N1 = some ((pCnt dn : Int), N2) := d2
  generalize ha : pCnt up = a at *
  generalize hb : pCnt dn = b at *
  generalize hM4 : upM M3 748 4 b = M4
  have m4 : ∀ x, x ≠ 748 → x ≠ 749 → x ≠ 750 → ∀ j, M4 x j = M x j := fun x x0 x1 x2 j => by rw [← hM4, up_nex x0, d3 x x2, up_nex x0, c3 x x1]
  have m749 : ∀ j, M4 749 j = M1 749 j := fun j => by rw [← hM4, up_nex (by decide), d3 749 (by decide), up_nex (by decide)]
  have m750 : ∀ j, M4 750 j = M3 750 j := fun j => by rw [← hM4, up_nex (by decide)]
  have n816 : ∀ j, N2 816 j = N1 816 j := d4 816 (by decide)
  have ls : pLs M4 N a b (fun i => N2 816 i) (fun i => N2 817 i) := by
    refine ⟨by rw [← hM4, up_nei (by decide), d3 748 (by decide), up_eq], by rw [← hM4, up_eq], fun i i0 i1 => ?_, fun i i0 i1 => ?_⟩
    · obtain ⟨j, hj⟩ : ∃ j : Nat, i = j := ⟨i.toNat, by omega⟩
      subst hj
      obtain ⟨y1, v, y2, y3⟩ := c5 j (by omega)
      have := bitlt hu2 y3
      show M4 749 j = N2 816 j ∧ 0 ≤ N2 816 j ∧ N2 816 j < N 802 1
      rw [m749, n816, y1, y2]
      omega
    · obtain ⟨j, hj⟩ : ∃ j : Nat, i = j := ⟨i.toNat, by omega⟩
      subst hj
      obtain ⟨y1, v, y2, y3⟩ := d5 j (by omega)
      have := bitlt hd2 y3
      show M4 750 j = N2 817 j ∧ 0 ≤ N2 817 j ∧ N2 817 j < N 802 1
      rw [m750, y1, y2]
      omega
  obtain ⟨F, hF⟩ := l_pHaul h (t := st) (a := a) (b := b) (u := fun i => N2 816 i) (d := fun i => N2 817 i) ht (fun i i0 i1 => (ls.2.2.1 i i0 i1).2) (fun i i0 i1 => (ls.2.2.2 i i0 i1).2)
  have hFb : ∀ p q : Nat, p < a → q ≤ b → 0 ≤ F (5 * p + q) ∧ F (5 * p + q) ≤ 9999 := fun p q hp hq => (hF (5 * p + q) ⟨by omega, by omega, by omega⟩).1
  have fM4 : pFHM M M4 := fun x x0 x1 j => m4 x (by omega) (by omega) (by omega) j
  obtain ⟨M5, e1, e2, e3, e4⟩ := l_rows31 h hu4 hd4 hF 6 nA 0 M4 (by omega) (by omega) (by omega) fM4 ls (fun p q hp => by omega)
  have e1' : f_X3_choose_L31 nA 3 st 1 0 M4 = some (wy ((b : Int) + 1) a, M5) := e1
  have fN2 : pFHN N N2 := ⟨fun x x0 x1 x2 x3 j => by rw [d4 x (by omega), c4 x (by omega)], fun j hj => by rw [d4 801 (by decide), c4 801 (by decide)]⟩
  have wl := wy_le (B := (b : Int) + 1) (by omega) (by omega) (k := a) (by omega)
  obtain ⟨bw, M6, N3, f1, f2, f3, f4, f5, f6, f7, f8, f9⟩ := l_best h hu4 a1 hd4 hF hFb 700 nA nB 0 0 100000000 (upM M5 748 6 (-1)) N2 (by omega) (by omega) (by omega) (by omega) (by omega) (fun x x0 x1 j => by rw [up_nex (by omega)]; exact e2 x x0 x1 j) ⟨by rw [up_nei (by decide)]; exact e3.1, by rw [up_nei (by decide)]; exact e3.2.1, fun i i0 i1 => by rw [up_nex (by decide)]; exact e3.2.2.1 i i0 i1, fun i i0 i1 => by rw [up_nex (by decide)]; exact e3.2.2.2 i i0 i1⟩ (fun p q hp hq => by rw [up_nex (by omega)]; exact e4 p q hp hq) fN2 (fun i i0 i1 => rfl) (fun i i0 i1 => rfl) (by omega) (by omega) (Or.inl ⟨by omega, by rw [up_eq], rfl⟩)
  obtain ⟨M7, g1, g2, g3, -⟩ := l_dec208 hu4 hd4 a nA bw M6 (Nat.le_refl _) (by omega) f8 f9 f4.2.1
  have cho : f_X3_choose nA 3 st up dn M = some M7 := by
    unfold f_X3_choose f_X3_listShips
    rw [c1', Option.bind_some, Option.bind_some]
    simp only [p_lt]
    rw [d1', Option.bind_some, Option.bind_some]
    dsimp only
    rw [hM4, e1', Option.bind_some]
    dsimp only
    rw [f1, Option.bind_some]
    dsimp only
    rw [f4.1, p_wI (by omega) (by omega), g1, Option.bind_some]
  have bst : f_X12_bestHauling nB st a b N2 = some (M6 748 6, N3) := by
    unfold f_X12_bestHauling
    have y := l_codes (a := a) (b := b) hu4 hd4 st N2 6 nB 0 (by omega) (by omega) (by omega)
    have y' : f_X12_bestHauling_L6 nB st a b 1 0 N2 = some (wy ((b : Int) + 1) a) := y
    rw [y', Option.bind_some, f2, Option.bind_some]
  have rel : pRel M7 N3 := by
    have fM7 : pFHM M M7 := fun x x0 x1 j => by rw [g2 x (by omega)]; exact f3 x x0 x1 j
    refine pRel_same h (fM7 0 (by decide) (by decide) 0) (fun x x0 x1 x2 _ _ j => fM7 x (by omega) (by omega) j) ?_ (fun x x0 x1 j => f5.1 x (by omega) (by omega) (by omega) (by omega) j) ⟨f5.2 4 (by decide), f5.2 5 (by decide), f5.2 6 (by decide), f5.2 28 (by decide)⟩
    rw [fM7 762 (by decide) (by decide), fM7 762 (by decide) (by decide), fM7 762 (by decide) (by decide)]
    exact h.2.2.1 762 (Or.inr (Or.inr (Or.inl rfl)))
  unfold f_X11_hauling_J85 f_X12_hauling_J94 f_X12_layOut
  rw [cho, Option.bind_some, c2', Option.bind_some, Option.bind_some]
  dsimp only
  rw [d2', Option.bind_some, Option.bind_some]
  dsimp only
  rw [bst, Option.bind_some]
  dsimp only
  by_cases y : sp = -1
  · rw [if_neg (fun z => z y), if_neg (fun z => z y), g2 748 (by decide)]
    exact ⟨_, M7, N3, rfl, rfl, rel⟩
  · rw [if_pos y, if_pos y]
    have ls7 : pLs M7 N a b (fun i => N2 816 i) (fun i => N2 817 i) := ⟨by rw [g2 748 (by decide)]; exact f4.1, by rw [g2 748 (by decide)]; exact f4.2.1, fun i i0 i1 => by rw [g2 749 (by decide)]; exact f4.2.2.1 i i0 i1, fun i i0 i1 => by rw [g2 750 (by decide)]; exact f4.2.2.2 i i0 i1⟩
    obtain ⟨v, v1, v2⟩ := l_partner (bw := bw) hu4 hd4 ls7 (fun i i0 i1 => (f6 i).1) (fun i i0 i1 => (f6 i).2) g3 f7 sp 6 nA nB 0 (by omega) (by omega) (by omega) (by omega)
    have v1' : f_X3_partnerOf nA sp M7 = some v := v1
    have v2' : f_X12_hauling_L137 nB sp a b 0 N3 = some (v, N3) := v2
    rw [v1', Option.bind_some, v2']
    exact ⟨v, M7, N3, rfl, rfl, rel⟩
theorem s_hauling {M N : Mem} {nA nB : Nat} {p q r s : Int} (h : pRel M N) (hA : 3000 ≤ nA) (hB : 3000 ≤ nB) : pSim (f_X11_hauling nA p q r s M) (f_X12_hauling nB p q r s N) N := by
  have n1 : (1 : Int) ≠ 0 := by decide
  have n10 : ¬ (1 : Int) = 0 := by decide
  have n0 : ¬ (0 : Int) ≠ 0 := by decide
  have h0 := (pR_num h).1
  have h6 := (pR_num h).2.1
  obtain ⟨ns, hns⟩ : ∃ ns : Nat, N 802 1 = ns := ⟨(N 802 1).toNat, by omega⟩
  have p7 := p_pow7 (i := ns) (by omega)
  have p1 : 1 ≤ 2 ^ ns := Nat.one_le_two_pow
  unfold f_X11_hauling f_X12_hauling f_X11_areShips
  rw [p_riserM h, p_riserN h, p_isB, p_isB, p_isIn, p_isIn, h6.1, hns, p_shlI (by omega), p_isShipM h, p_isShipN h]
  by_cases c1 : 0 ≤ p ∧ p < N 802 0 - 1
  · rw [if_pos c1, if_neg n10, if_neg n10]
    by_cases c2 : 0 ≤ q ∧ q ≤ ((2 ^ ns - 1 : Nat) : Int)
    · rw [if_pos c2, if_neg n10]
      obtain ⟨up, hup⟩ : ∃ up : Nat, q = up := ⟨q.toNat, by omega⟩
      subst hup
      by_cases c3 : 0 ≤ r ∧ r ≤ ((2 ^ ns - 1 : Nat) : Int)
      · rw [if_pos c3, if_neg n10]
        obtain ⟨dn, hdn⟩ : ∃ dn : Nat, r = dn := ⟨r.toNat, by omega⟩
        subst hdn
        rw [p_bitc (by omega), p_bitc (by omega), p_bits (by omega) (by omega), p_bits (by omega) (by omega), Option.bind_some, Option.bind_some]
        by_cases u0 : up = 0
        · subst u0
          rw [if_neg (show ¬ (1 ≤ ((0 : Nat) : Int) ∧ ((0 : Nat) : Int) ≤ ((2 ^ ns - 1 : Nat) : Int)) by omega), if_pos rfl]
          have e0 : bAnd ((0 : Nat) : Int) dn = ((0 : Nat) : Int) := by rw [p_and (by omega) (by omega), Nat.zero_and]
          rw [e0, if_neg (fun z => z rfl), if_neg (fun z => z rfl)]
          exact ⟨-2, M, N, rfl, rfl, h⟩
        · rw [if_pos (show (1 ≤ (up : Int) ∧ (up : Int) ≤ ((2 ^ ns - 1 : Nat) : Int)) by omega), if_neg n10, if_neg n10]
          by_cases c4 : bAnd (up : Int) dn = 0
          · have c4' : ¬ bAnd (up : Int) dn ≠ 0 := fun z => z c4
            rw [if_neg c4', if_pos (show (up : Int) ≠ 0 by omega), if_neg c4']
            by_cases c5 : (4 : Int) < pCnt up
            · rw [if_pos c5, if_pos c5]
              exact ⟨-2, M, N, rfl, rfl, h⟩
            · rw [if_neg c5, if_neg c5]
              by_cases c6 : (pCnt dn : Int) ≤ 4
              · rw [if_pos c6, if_pos c6]
                have main := s_haulJ (sp := s) h hA hB (st := p) (up := up) (dn := dn) (by omega) (by omega) (by omega) u0 (by omega) (by omega) hns (by omega) (by omega)
                by_cases c7 : s = -1
                · rw [if_pos c7, if_pos c7]
                  exact main
                · rw [if_neg c7, if_neg c7, hns]
                  by_cases c8 : 0 ≤ s ∧ s < (ns : Int)
                  · rw [if_pos c8, if_neg n10, if_neg n10]
                    obtain ⟨ss, hss⟩ : ∃ ss : Nat, s = ss := ⟨s.toNat, by omega⟩
                    subst hss
                    have olt : up ||| dn < 128 := Nat.or_lt_two_pow (n := 7) (by omega) (by omega)
                    rw [p_or (by omega) (by omega), p_has (by omega) (by omega)]
                    cases z : (up ||| dn).testBit ss
                    · rw [if_neg (show ¬ bAnd ((up ||| dn : Nat) : Int) (bShl 1 ss) ≠ 0 from fun w => w ((p_andpow0 (by omega) (by omega)).mpr z)), if_neg (by simp)]
                      exact ⟨-2, M, N, rfl, rfl, h⟩
                    · rw [if_pos (show bAnd ((up ||| dn : Nat) : Int) (bShl 1 ss) ≠ 0 from fun w => by have y := (p_andpow0 (by omega) (by omega)).mp w; rw [z] at y; simp at y), if_pos (by simp)]
                      exact main
                  · rw [if_neg c8, if_pos rfl, if_pos rfl]
                    exact ⟨-2, M, N, rfl, rfl, h⟩
              · rw [if_neg c6, if_neg c6]
                exact ⟨-2, M, N, rfl, rfl, h⟩
          · rw [if_pos c4, if_pos c4]
            exact ⟨-2, M, N, rfl, rfl, h⟩
      · rw [if_neg c3, if_pos rfl]
        by_cases c9 : 1 ≤ (up : Int) ∧ (up : Int) ≤ ((2 ^ ns - 1 : Nat) : Int)
        · rw [if_pos c9, if_neg n10, if_pos rfl]
          exact ⟨-2, M, N, rfl, rfl, h⟩
        · rw [if_neg c9, if_pos rfl]
          exact ⟨-2, M, N, rfl, rfl, h⟩
    · rw [if_neg c2, if_pos rfl, if_neg (show ¬ (1 ≤ q ∧ q ≤ ((2 ^ ns - 1 : Nat) : Int)) by omega), if_pos rfl]
      exact ⟨-2, M, N, rfl, rfl, h⟩
  · rw [if_neg c1, if_pos rfl, if_pos rfl]
    exact ⟨-2, M, N, rfl, rfl, h⟩
