set_option linter.unusedVariables false
set_option linter.unusedSimpArgs false
/-! in order: the greedy reading, and the reference's search -/
section Ord2
variable {M0 : Mem} {m : Nat} {a : Nat → Int}
theorem l_greedy (hr : pRei M0 m a) {M : Mem} (fM : pM350 M0 M) (rows : ∀ q : Nat, q < m → pLen a m q (M 350 q)) {p0 L : Int} (hp0 : 0 ≤ p0) (hp1 : p0 < L) (hL : L ≤ 10) : ∀ (R : List Nat) (n f d : Nat) (x : Int), R.length + 20 ≤ n → (R.length : Int) ≤ L → pBest a m x f R → f ≤ m → (R.length : Int) = d + (L - p0) →
    ∃ v, f_X7_reignInOrder_L8 n 346 p0 L x f R.length M = some v ∧ (R.map a)[d]? = some v := by
  intro R
  induction R with
  | nil => intro n f d x g0 gl hb fm e; simp at e; omega
  | cons r R ih =>
    intro n f d x g0 gl hb fm e
    rw [List.length_cons] at e g0 gl ⊢
    obtain ⟨n, rfl⟩ : ∃ n', n = n' + 1 := ⟨n - 1, by omega⟩
    have m10 := hr.1
    rw [f_X7_reignInOrder_L8, p_wI (x := L - p0) (by omega) (by omega), if_neg (by omega), show (346 : Int) + 3 = 349 by decide]
    obtain ⟨v, e1, e2⟩ := l_scan hr fM p0 L (x := x) (need := ((R.length + 1 : Nat) : Int)) (f := f) (m + 1) n f (-1) (by omega) (by omega) (Nat.le_refl _) fm (Or.inl ⟨rfl, fun j j0 j1 => by omega⟩)
    rw [e1, Option.bind_some]
    have g := pCand_cons.mp hb.1
    have rr := hb.2.1 r List.mem_cons_self
    have rl := (rows r g.1).2 R hb.1
    rw [List.length_cons] at rl
    rcases e2 with ⟨h1, h2⟩ | ⟨c, h1, h2, h3, h4, h5, h6, h7⟩
    · exact absurd rl (h2 r rr.1 g.1 rr.2)
    · have hd := pBest_head rows hb (c := c) ⟨h2, h4, h5, h6⟩ (fun i i0 i1 i2 i3 => h7 i i0 i1 i2 i3)
      subst h1
      have ac := hr.2.2 c h4
      rw [if_pos (by omega), p_ck (by omega), fM 349 (by decide), ac.1, p_wI (x := (c : Int) + 1) (by omega) (by omega), show (c : Int) + 1 = ((c + 1 : Nat) : Int) by omega, p_wI (x := ((R.length + 1 : Nat) : Int) + (-1)) (by omega) (by omega), show ((R.length + 1 : Nat) : Int) + (-1) = (R.length : Int) by omega]
      cases d with
      | zero =>
        obtain ⟨n, rfl⟩ : ∃ n', n = n' + 1 := ⟨n - 1, by omega⟩
        rw [f_X7_reignInOrder_L8, p_wI (x := L - p0) (by omega) (by omega), if_pos (by omega)]
        exact ⟨a c, rfl, by simp [hd.1]⟩
      | succ d =>
        obtain ⟨v, v1, v2⟩ := ih n (c + 1) d (a c) (by omega) (by omega) hd.2 (by omega) (by omega)
        exact ⟨v, v1, by simpa using v2⟩
/-- a row kept -/
def pRow (N : Mem) (x : Int) (V : List Int) : Prop := ∀ (q : Nat) (v : Int), V[q]? = some v → N x q = v
def pV (a : Nat → Int) (m s : Nat) : List Int := (pEls m s).map a
theorem pV_succ (a : Nat → Int) (m s : Nat) : pV a (m + 1) s = pV a m s ++ (if s.testBit m = true then [a m] else []) := by
  unfold pV
  rw [pEls_succ, List.map_append]
  cases s.testBit m <;> simp
theorem pV_sub {i m s : Nat} (h : i ≤ m) : (pV a i s).Sublist (pV a m s) := by
  unfold pV pEls
  exact ((List.range_sublist.mpr h).filter _).map _
theorem pV_len {m s : Nat} (hm : m ≤ 10) (hs : s < 2 ^ m) : (pV a m s).length = pCnt s := by
  unfold pV
  rw [List.length_map, pEls_len hm hs]
theorem pV_cand {m s : Nat} : pCand a m (pEls m s) ↔ (pV a m s).Pairwise (· < ·) := by
  unfold pV
  rw [pEls_cand, List.pairwise_map]
theorem pV_le {i m s : Nat} (h : i ≤ m) (hm : m ≤ 10) (hs : s < 2 ^ m) : (pV a i s).length ≤ m := by
  have h1 := (pV_sub (a := a) (s := s) h).length_le
  have h2 : (pV a m s).length ≤ m := by
    unfold pV pEls
    rw [List.length_map]
    exact Nat.le_trans (List.length_filter_le _ _) (by simp)
  omega
theorem p_last {V : List Int} {w v : Int} (hp : V.Pairwise (· < ·)) (hl : V[V.length - 1]? = some w) : (V ++ [v]).Pairwise (· < ·) ↔ w < v := by
  have hw : w ∈ V := List.mem_of_getElem? hl
  rw [List.pairwise_append]
  constructor
  · intro h
    exact h.2.2 w hw v (by simp)
  · intro h
    refine ⟨hp, List.pairwise_singleton _ _, fun x hx y hy => ?_⟩
    have ey : y = v := by simpa using hy
    subst ey
    obtain ⟨q, hq, e⟩ := List.getElem_of_mem hx
    obtain ⟨hl1, hl2⟩ := List.getElem?_eq_some_iff.mp hl
    by_cases c : q = V.length - 1
    · subst c
      rw [← e, hl2]
      exact h
    · have := List.pairwise_iff_getElem.mp hp q (V.length - 1) hq hl1 (by omega)
      omega
/-- what the search says of a set -/
def pAns (a : Nat → Int) (m s : Nat) (v : Int) (N' : Mem) : Prop := (v = 1 ∧ (pV a m s).Pairwise (· < ·) ∧ pRow N' 820 (pV a m s)) ∨ (v = 0 ∧ ¬ (pV a m s).Pairwise (· < ·))
def pRefA (N : Mem) (m : Nat) (a : Nat → Int) : Prop := N 802 6 = m ∧ m ≤ 10 ∧ ∀ i : Nat, i < m → N 802 (146 + (i : Int)) = a i
theorem l_ord {N0 : Mem} (hr : pRefA N0 m a) {s : Nat} (hs : s < 2 ^ m) : ∀ (k n i : Nat) (N : Mem), m - i < k → k ≤ n → i ≤ m → (∀ x, x ≠ 820 → ∀ j, N x j = N0 x j) → (pV a i s).Pairwise (· < ·) → pRow N 820 (pV a i s) →
    ∃ v N', f_X12_isOrder_L4 n s (pV a i s).length i N = some (v, N') ∧ (∀ x, x ≠ 820 → ∀ j, N' x j = N0 x j) ∧ pAns a m s v N' := by
  intro k
  induction k with
  | zero => intro n i N g0; omega
  | succ k ih =>
    intro n i N g0 g1 im fN hp hrow
    obtain ⟨n, rfl⟩ : ∃ n', n = n' + 1 := ⟨n - 1, by omega⟩
    have m10 := hr.2.1
    have s10 : s < 1024 := Nat.lt_of_lt_of_le hs (p_pow10 m10)
    rw [f_X12_isOrder_L4, fN 802 (by decide), hr.1]
    by_cases c : i = m
    · subst c
      rw [if_pos (by omega)]
      exact ⟨1, N, rfl, fN, Or.inl ⟨rfl, hp, hrow⟩⟩
    · rw [if_neg (by omega), p_has s10 (by omega), p_wI (x := 146 + (i : Int)) (by omega) (by omega), p_wI (x := (i : Int) + 1) (by omega) (by omega), show (i : Int) + 1 = ((i + 1 : Nat) : Int) by omega]
      have vs := pV_succ a i s
      cases d : s.testBit i
      · rw [if_neg (by simp)]
        rw [d, if_neg (by simp), List.append_nil] at vs
        rw [← vs]
        exact ih n (i + 1) N (by omega) (by omega) (by omega) fN (by rw [vs]; exact hp) (by rw [vs]; exact hrow)
      · rw [d, if_pos rfl] at vs
        have l10 := pV_le (a := a) (i := i + 1) (m := m) (s := s) (by omega) m10 hs
        have vl : (pV a (i + 1) s).length = (pV a i s).length + 1 := by rw [vs, List.length_append]; rfl
        rw [if_pos (by simp), p_ck (by omega), p_ck (by omega), fN 802 (by decide), hr.2.2 i (by omega), p_lt, p_wI (x := ((pV a i s).length : Int) + 1) (by omega) (by omega), show ((pV a i s).length : Int) + 1 = ((pV a (i + 1) s).length : Int) by omega]
        have fN' : ∀ x, x ≠ 820 → ∀ j, upM N 820 (pV a i s).length (a i) x j = N0 x j := fun x hx j => by rw [up_nex hx]; exact fN x hx j
        have row' : pRow (upM N 820 (pV a i s).length (a i)) 820 (pV a (i + 1) s) := by
          intro q v hq
          rw [vs, List.getElem?_append] at hq
          by_cases z : q < (pV a i s).length
          · rw [if_pos z] at hq
            rw [up_nei (by omega)]
            exact hrow q v hq
          · rw [if_neg z] at hq
            by_cases z2 : q = (pV a i s).length
            · subst z2
              rw [up_eq]
              simpa using hq
            · have : q - (pV a i s).length ≠ 0 := by omega
              obtain ⟨t, ht⟩ : ∃ t, q - (pV a i s).length = t + 1 := ⟨q - (pV a i s).length - 1, by omega⟩
              rw [ht] at hq
              simp at hq
        by_cases z : (pV a i s).length = 0
        · rw [if_pos (by omega)]
          have nil : pV a i s = [] := List.eq_nil_of_length_eq_zero z
          exact ih n (i + 1) _ (by omega) (by omega) (by omega) fN' (by rw [vs, nil]; simp) row'
        · rw [if_neg (by omega), p_wI (x := ((pV a i s).length : Int) - 1) (by omega) (by omega), p_ck (by omega), up_eq, up_nei (by omega)]
          have hl : (pV a i s)[(pV a i s).length - 1]? = some ((pV a i s)[(pV a i s).length - 1]'(by omega)) := List.getElem?_eq_getElem (by omega)
          have e := hrow _ _ hl
          rw [show (((pV a i s).length - 1 : Nat) : Int) = ((pV a i s).length : Int) - 1 by omega] at e
          have pl := p_last (v := a i) hp hl
          rw [← vs, ← e] at pl
          by_cases y : N 820 (((pV a i s).length : Int) - 1) < a i
          · rw [if_pos y]
            exact ih n (i + 1) _ (by omega) (by omega) (by omega) fN' (pl.mpr y) row'
          · rw [if_neg y]
            refine ⟨0, _, rfl, fN', Or.inr ⟨rfl, fun w => y (pl.mp (w.sublist (pV_sub (by omega))))⟩⟩
theorem l_lower {N : Mem} {A B : List Int} (hA : pRow N 820 A) (hB : pRow N 821 B) (hl : A.length = B.length) (h10 : A.length ≤ 10) : ∀ (k n i : Nat), A.length - i < k → k ≤ n → i ≤ A.length →
    ∃ q, f_X12_isLower_L2 n A.length i N = some q ∧ ∃ v, f_X12_isLower_J28 n A.length q N = some v ∧ ((v = 1 ∧ Low (A.drop i) (B.drop i)) ∨ (v = 0 ∧ ¬ Low (A.drop i) (B.drop i))) := by
  intro k
  induction k with
  | zero => intro n i g0; omega
  | succ k ih =>
    intro n i g0 g1 im
    obtain ⟨n, rfl⟩ : ∃ n', n = n' + 1 := ⟨n - 1, by omega⟩
    rw [f_X12_isLower_L2]
    by_cases c : i = A.length
    · rw [if_pos (by omega)]
      refine ⟨_, rfl, 0, ?_, Or.inr ⟨rfl, ?_⟩⟩
      · unfold f_X12_isLower_J28
        rw [if_pos (by omega)]
      · rw [List.drop_eq_nil_of_le (by omega)]
        exact fun z => z
    · have la : i < A.length := by omega
      have lb : i < B.length := by omega
      have ea := hA i _ (List.getElem?_eq_getElem la)
      have eb := hB i _ (List.getElem?_eq_getElem lb)
      rw [if_neg (by omega), p_ck (by omega), List.drop_eq_getElem_cons la, List.drop_eq_getElem_cons lb, ← ea, ← eb, p_wI (x := (i : Int) + 1) (by omega) (by omega), show (i : Int) + 1 = ((i + 1 : Nat) : Int) by omega]
      by_cases d : N 820 i = N 821 i
      · rw [if_neg (fun z => z d)]
        obtain ⟨q, q1, v, q2, q3⟩ := ih n (i + 1) (by omega) (by omega) (by omega)
        refine ⟨q, q1, v, q2, ?_⟩
        rcases q3 with ⟨r1, r2⟩ | ⟨r1, r2⟩
        · exact Or.inl ⟨r1, Or.inr ⟨d, r2⟩⟩
        · refine Or.inr ⟨r1, fun z => ?_⟩
          rcases z with z | z
          · omega
          · exact r2 z.2
      · rw [if_pos d]
        refine ⟨_, rfl, ?_⟩
        unfold f_X12_isLower_J28
        rw [if_neg (by omega), p_ck (by omega)]
        by_cases e : N 821 i ≤ N 820 i
        · rw [if_pos e]
          refine ⟨0, rfl, Or.inr ⟨rfl, fun z => ?_⟩⟩
          rcases z with z | z
          · omega
          · exact d z.1
        · rw [if_neg e]
          exact ⟨1, rfl, Or.inl ⟨rfl, Or.inl (by omega)⟩⟩
theorem l_copy61 (x1 x2 x3 : Int) {c : Nat} (hc : c ≤ 10) : ∀ (k n i : Nat) (N : Mem), c - i < k → k ≤ n → i ≤ c → (∀ j : Nat, j < i → N 821 j = N 820 j) → ∃ N', f_X12_inOrder_L61 n x1 x2 x3 c i N = some N' ∧ (∀ x, x ≠ 821 → ∀ j, N' x j = N x j) ∧ (∀ j : Nat, j < c → N' 821 j = N 820 j) := by
  intro k
  induction k with
  | zero => intro n i N g0; omega
  | succ k ih =>
    intro n i N g0 g1 im hj
    obtain ⟨n, rfl⟩ : ∃ n', n = n' + 1 := ⟨n - 1, by omega⟩
    rw [f_X12_inOrder_L61]
    by_cases d : i = c
    · subst d
      rw [if_pos (by omega)]
      exact ⟨N, rfl, fun _ _ _ => rfl, hj⟩
    · rw [if_neg (by omega), p_ck (by omega), p_lt, p_wI (x := (i : Int) + 1) (by omega) (by omega), show (i : Int) + 1 = ((i + 1 : Nat) : Int) by omega]
      obtain ⟨N', e1, e2, e3⟩ := ih n (i + 1) (upM N 821 i (N 820 i)) (by omega) (by omega) (by omega) (fun j hj' => by
        by_cases z : j = i
        · subst z; rw [up_eq, up_nex (by decide)]
        · rw [up_nei (by omega), up_nex (by decide)]; exact hj j (by omega))
      refine ⟨N', e1, fun x hx j => by rw [e2 x hx, up_nex hx], fun j hj' => ?_⟩
      rw [e3 j hj', up_nex (by decide)]
/-- the search so far -/
def pSrch (a : Nat → Int) (m : Nat) (N : Mem) (R : List Nat) (s : Nat) : Prop := pCand a m R ∧ pRow N 821 (R.map a) ∧ ∀ t, t < s → (pV a m t).Pairwise (· < ·) → (pV a m t).length ≤ R.length ∧ ((pV a m t).length = R.length → ¬ Low (pV a m t) (R.map a))
theorem Low_irr : ∀ V : List Int, ¬ Low V V
  | [] => fun z => z
  | x :: V => fun z => by
    rcases z with z | z
    · omega
    · exact Low_irr V z.2
theorem Low_trans : ∀ A B C : List Int, Low A B → Low B C → Low A C
  | [], _, _ => fun h => by cases h
  | _ :: _, [], _ => fun h => by cases h
  | _ :: _, _ :: _, [] => fun _ h => by cases h
  | x :: A, y :: B, z :: C => fun h g => by
    rcases h with h | h <;> rcases g with g | g
    · exact Or.inl (by omega)
    · exact Or.inl (by omega)
    · exact Or.inl (by omega)
    · exact Or.inr ⟨h.1.trans g.1, Low_trans A B C h.2 g.2⟩
theorem l_srch {N0 : Mem} (hr : pRefA N0 m a) (x1 : Int) : ∀ (k n s : Nat) (N : Mem) (R : List Nat), 2 ^ m - s < k → k + 50 ≤ n → s ≤ 2 ^ m → (∀ x, x ≠ 820 → x ≠ 821 → ∀ j, N x j = N0 x j) → pSrch a m N R s →
    ∃ (R' : List Nat) (N' : Mem), f_X12_inOrder_L4 n x1 R.length s N = some ((R'.length : Int), N') ∧ (∀ x, x ≠ 820 → x ≠ 821 → ∀ j, N' x j = N0 x j) ∧ pSrch a m N' R' (2 ^ m) := by
  have m10 := hr.2.1
  have p10 := p_pow10 m10
  intro k
  induction k with
  | zero => intro n s N R g0; omega
  | succ k ih =>
    intro n s N R g0 g1 sm fN hinv
    obtain ⟨n, rfl⟩ : ∃ n', n = n' + 1 := ⟨n - 1, by omega⟩
    rw [f_X12_inOrder_L4, fN 802 (by decide) (by decide), hr.1, p_shl1 (by omega)]
    by_cases c : s = 2 ^ m
    · subst c
      rw [if_pos (Int.le_refl _)]
      exact ⟨R, N, rfl, fN, hinv⟩
    · have hs : s < 2 ^ m := by omega
      have cnt : pCnt s ≤ 10 := by unfold pCnt; exact Nat.le_trans List.countP_le_length (by simp)
      rw [if_neg (by omega), p_bits (by omega) (by omega), Option.bind_some, p_wI (x := (s : Int) + 1) (by omega) (by omega), show (s : Int) + 1 = ((s + 1 : Nat) : Int) by omega]
      have vl := pV_len (a := a) m10 hs
      -- set s changes nothing
      have skip : ∀ N2 : Mem, (∀ x, x ≠ 820 → ∀ j, N2 x j = N x j) → ((pV a m s).Pairwise (· < ·) → (pV a m s).length ≤ R.length ∧ ((pV a m s).length = R.length → ¬ Low (pV a m s) (R.map a))) → ∃ (R' : List Nat) (N' : Mem), f_X12_inOrder_L4 n x1 R.length ((s + 1 : Nat) : Int) N2 = some ((R'.length : Int), N') ∧ (∀ x, x ≠ 820 → x ≠ 821 → ∀ j, N' x j = N0 x j) ∧ pSrch a m N' R' (2 ^ m) := by
        intro N2 f2 z
        refine ih n (s + 1) N2 R (by omega) (by omega) (by omega) (fun x h1 h2 j => by rw [f2 x h1]; exact fN x h1 h2 j) ⟨hinv.1, fun q v hq => by rw [f2 821 (by decide)]; exact hinv.2.1 q v hq, fun t ht hp => ?_⟩
        by_cases e : t = s
        · subst e; exact z hp
        · exact hinv.2.2 t (by omega) hp
      by_cases d : pCnt s < R.length
      · rw [if_pos (by omega)]
        exact skip N (fun _ _ _ => rfl) (fun _ => ⟨by omega, fun e => by omega⟩)
      · rw [if_neg (by omega)]
        have v0 : pV a 0 s = [] := rfl
        obtain ⟨v, N1, e1, e2, e3⟩ := l_ord (N0 := N) (m := m) (a := a) ⟨by rw [fN 802 (by decide) (by decide)]; exact hr.1, m10, fun i hi => by rw [fN 802 (by decide) (by decide)]; exact hr.2.2 i hi⟩ hs (m + 1) n 0 N (by omega) (by omega) (by omega) (fun _ _ _ => rfl) (by rw [v0]; exact List.Pairwise.nil) (by rw [v0]; intro q v hq; simp at hq)
        have e1' : f_X12_isOrder n s N = some (v, N1) := e1
        rw [e1', Option.bind_some]
        rcases e3 with ⟨r1, r2, r3⟩ | ⟨r1, r2⟩
        · rw [if_neg (show ¬ v = 0 by omega)]
          -- set s is the better
          have take : (pCnt s = R.length → Low (pV a m s) (R.map a)) → ∃ q, f_X12_inOrder_L61 n x1 (pCnt s) s (pCnt s) 0 N1 = some q ∧ ∃ (R' : List Nat) (N' : Mem), f_X12_inOrder_L4 n x1 (pCnt s) ((s + 1 : Nat) : Int) q = some ((R'.length : Int), N') ∧ (∀ x, x ≠ 820 → x ≠ 821 → ∀ j, N' x j = N0 x j) ∧ pSrch a m N' R' (2 ^ m) := by
            intro low
            obtain ⟨N2, c1, c2, c3⟩ := l_copy61 x1 (pCnt s) s cnt 20 n 0 N1 (by omega) (by omega) (by omega) (fun j hj => by omega)
            have el : (pEls m s).length = pCnt s := pEls_len m10 hs
            refine ⟨N2, c1, ?_⟩
            rw [← el]
            refine ih n (s + 1) N2 (pEls m s) (by omega) (by omega) (by omega) (fun x h1 h2 j => by rw [c2 x h2, e2 x h1]; exact fN x h1 h2 j) ⟨pV_cand.mpr r2, fun q v hq => ?_, fun t ht hp => ?_⟩
            · have ql : q < (pV a m s).length := by
                obtain ⟨w, _⟩ := List.getElem?_eq_some_iff.mp hq
                exact w
              rw [c3 q (by omega)]
              exact r3 q v hq
            · by_cases e : t = s
              · subst e
                exact ⟨by omega, fun _ => Low_irr _⟩
              · obtain ⟨k1, k2⟩ := hinv.2.2 t (by omega) hp
                refine ⟨by omega, fun e4 lw => ?_⟩
                have eR : pCnt s = R.length := by omega
                exact k2 (by omega) (Low_trans _ _ _ lw (low eR))
          by_cases y : pCnt s = R.length
          · rw [if_neg (show ¬ (pCnt s : Int) ≠ R.length by omega)]
            have rl : (R.map a).length = R.length := List.length_map _
            obtain ⟨q, q1, u, q2, q3⟩ := l_lower (N := N1) r3 (B := R.map a) (fun q v hq => by rw [e2 821 (by decide)]; exact hinv.2.1 q v hq) (by omega) (by omega) 20 n 0 (by omega) (by omega) (by omega)
            rw [vl] at q1 q2
            have low : f_X12_isLower n (pCnt s) N1 = some u := by
              unfold f_X12_isLower
              rw [show (0 : Int) = ((0 : Nat) : Int) by rfl, q1, Option.bind_some, q2]
            rw [low, Option.bind_some]
            rw [List.drop_zero, List.drop_zero] at q3
            rcases q3 with ⟨w1, w2⟩ | ⟨w1, w2⟩
            · rw [if_pos (by omega)]
              obtain ⟨q, t1, t2⟩ := take (fun _ => w2)
              rw [t1, Option.bind_some]
              exact t2
            · rw [if_neg (by omega)]
              exact skip N1 e2 (fun _ => ⟨by omega, fun _ => w2⟩)
          · rw [if_pos (show (pCnt s : Int) ≠ R.length by omega)]
            obtain ⟨q, t1, t2⟩ := take (fun e => absurd e y)
            rw [t1, Option.bind_some]
            exact t2
        · rw [if_pos r1]
          exact skip N1 e2 (fun z => absurd z r2)
end Ord2
theorem s_inOrder {M N : Mem} {nA nB : Nat} {p : Int} (h : pRel M N) (hA : 2000 ≤ nA) (hB : 2000 ≤ nB) : pSim (f_X11_inOrder nA p M) (f_X12_inOrder nB p N) N := by
  have n10 : ¬ (1 : Int) = 0 := by decide
  obtain ⟨-, -, -, t4, t5, t6, -⟩ : pTold M 346 (N 802) := h.1.2.2.2.2.2.1
  obtain ⟨m, hm⟩ : ∃ m : Nat, N 802 6 = m := ⟨(N 802 6).toNat, by omega⟩
  have m10 : m ≤ 10 := by omega
  have hr : pRei M m (fun i => N 802 (146 + (i : Int))) := ⟨m10, by rw [t4]; exact hm, fun i hi => t6 i (by omega) (by omega)⟩
  have hn : pRefA N m (fun i => N 802 (146 + (i : Int))) := ⟨hm, m10, fun i hi => rfl⟩
  generalize ha : (fun i : Nat => N 802 (146 + (i : Int))) = a at hr hn
  have nil : pCand a m [] := ⟨List.Pairwise.nil, fun x hx => by simp at hx⟩
  obtain ⟨L, M1, e1, e2, e3, e4, e5, e6, e7⟩ := l_row9 hr (m + 1) nA m 0 M (by omega) (by omega) (by omega) (fun _ _ _ => rfl) (fun q q0 q1 => by omega) (by omega) (by omega) ⟨[], nil, rfl⟩ (fun p hp hh => by
    cases p with
    | nil => simp
    | cons x p =>
      have := hh x List.mem_cons_self
      have := hp.2 x List.mem_cons_self
      omega)
  have p10 := p_pow10 m10
  have q0 : pV a m 0 = [] := by
    unfold pV pEls
    have : (List.range m).filter (fun i => Nat.testBit 0 i) = [] := by
      rw [List.filter_eq_nil_iff]
      intro x hx
      simp
    rw [this]
    rfl
  obtain ⟨R, N1, f1, f2, f3⟩ := l_srch hn p (2 ^ m) nB 1 N [] (by have := Nat.two_pow_pos m; omega) (by omega) (by have := Nat.two_pow_pos m; omega) (fun _ _ _ _ => rfl) ⟨nil, fun q v hq => by simp at hq, fun t ht hp => by
    rw [show t = 0 by omega, q0]
    exact ⟨Nat.le_refl _, fun _ z => z⟩⟩
  have all : ∀ p, pCand a m p → p.length ≤ R.length ∧ (p.length = R.length → ¬ Low (p.map a) (R.map a)) := by
    intro p hp
    obtain ⟨s, s1, s2⟩ := pEls_of (m := m) p (hp.1.imp (fun z => z.1)) hp.2
    have g := f3.2.2 s s1 (pV_cand.mp (by rw [s2]; exact hp))
    unfold pV at g
    rw [s2, List.length_map] at g
    exact g
  have eL : L = R.length := by
    have h1 := e7 R f3.1
    obtain ⟨p, p1, p2⟩ := e6
    have h2 := (all p p1).1
    omega
  have rel : pRel M1 N1 := by
    refine pRel_same h (e2 0 (by decide) 0) (fun x x0 x1 x2 x3 x4 i => e2 x x3 i) ?_ (fun x x0 x1 i => f2 x (by omega) (by omega) i) ⟨f2 801 (by decide) (by decide) 4, f2 801 (by decide) (by decide) 5, f2 801 (by decide) (by decide) 6, f2 801 (by decide) (by decide) 28⟩
    rw [e2 762 (by decide), e2 762 (by decide), e2 762 (by decide)]
    exact h.2.2.1 762 (Or.inr (Or.inr (Or.inl rfl)))
  have e1' : f_X7_measureRows nA 346 M = some (L, M1) := by
    unfold f_X7_measureRows
    rw [show (346 : Int) + 3 = 349 by decide] at *
    rw [hr.2.1, p_wI (by omega) (by omega), e1]
    rfl
  have f1' : f_X12_inOrder_L4 nB p 0 1 N = some ((R.length : Int), N1) := f1
  unfold f_X11_inOrder f_X12_inOrder
  rw [e1', f1', Option.bind_some, Option.bind_some, p_isB, p_isIn, ← eL, p_wI (x := L - 1) (by omega) (by omega)]
  by_cases c : p = -1
  · rw [if_neg (fun z => z c), if_neg (fun z => z c)]
    exact ⟨L, M1, N1, rfl, rfl, rel⟩
  · rw [if_pos c, if_pos c]
    by_cases d : 0 ≤ p ∧ p ≤ L - 1
    · rw [if_pos d, if_neg n10, if_neg n10]
      have pos : ∀ y ∈ R, (-1 : Int) < a y := fun y hy => by
        have := (hr.2.2 y (f3.1.2 y hy)).2.1
        omega
      obtain ⟨v, v1, v2⟩ := l_greedy hr e2 e3 (p0 := p) (L := L) (by omega) (by omega) e5 R nA 0 p.toNat (-1) (by omega) (by omega) ⟨f3.1, fun y hy => ⟨by omega, pos y hy⟩, fun p hp q1 q2 => (all p hp).2 q1⟩ (by omega) (by omega)
      have v1' : f_X7_reignInOrder nA 346 p L M1 = some v := by
        unfold f_X7_reignInOrder
        rw [← eL] at v1
        exact v1
      have e : N1 821 p = v := by
        have := f3.2.1 p.toNat v v2
        rw [show ((p.toNat : Nat) : Int) = p by omega] at this
        exact this
      dsimp only
      rw [v1', Option.bind_some, p_ck (by omega), e]
      exact ⟨v, M1, N1, rfl, rfl, rel⟩
    · rw [if_neg d, if_pos rfl, if_pos rfl]
      exact ⟨-2, M1, N1, rfl, rfl, rel⟩
