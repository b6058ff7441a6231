set_option linter.unusedVariables false
set_option linter.unusedSimpArgs false
/-! unions of states: the class -/
def sm (T : Int → Int) (i : Nat) : Nat → Int
  | 0 => 0
  | d + 1 => sm T i d + T ((i + d : Nat) : Int)
theorem sm_in {T : Int → Int} {n : Nat} (hT : ∀ t : Int, 0 ≤ t → t < n → 0 ≤ T t ∧ T t ≤ 9999) {i : Nat} : ∀ d, i + d ≤ n → 0 ≤ sm T i d ∧ sm T i d ≤ 9999 * d := by
  intro d
  induction d with
  | zero => intro h; simp [sm]
  | succ d ih =>
    intro h
    have a := ih (by omega)
    have b := hT ((i + d : Nat) : Int) (by omega) (by omega)
    rw [sm]
    omega
def qD (d : Nat) : Int := iDiv ((d : Int) * ((d : Int) - 1)) 2
theorem qD_in {d : Nat} (h : d ≤ 9) : 0 ≤ qD d ∧ qD d ≤ 36 := by
  have : ∀ e : Fin 10, 0 ≤ qD e.val ∧ qD e.val ≤ 36 := by decide +kernel
  exact this ⟨d, by omega⟩
def qW (T : Int → Int) (k : Int) (i j : Nat) : Int := sm T i (j - i) * ((j - i : Nat) : Int) - k * qD (j - i)
theorem qP {x y X Y : Int} (x0 : 0 ≤ x) (x1 : x ≤ X) (y0 : 0 ≤ y) (y1 : y ≤ Y) : 0 ≤ x * y ∧ x * y ≤ X * Y :=
  ⟨Int.mul_nonneg x0 y0, Int.mul_le_mul x1 y1 y0 (by omega)⟩
theorem qW_in {T : Int → Int} {n : Nat} {k : Int} (hT : ∀ t : Int, 0 ≤ t → t < n → 0 ≤ T t ∧ T t ≤ 9999) (hn : n ≤ 9) (hk : 0 ≤ k ∧ k ≤ 999) {b d : Nat} (h : b + d ≤ n) :
    (0 ≤ sm T b d ∧ sm T b d ≤ 89991) ∧ (0 ≤ sm T b d * (d : Int) ∧ sm T b d * (d : Int) ≤ 809919) ∧ (0 ≤ k * qD d ∧ k * qD d ≤ 35964) ∧ (0 ≤ (d : Int) * ((d : Int) - 1) + 1 ∧ (d : Int) * ((d : Int) - 1) ≤ 100) := by
  have a := sm_in hT d h
  have q := qD_in (d := d) (by omega)
  have p1 := qP (X := 89991) (Y := 9) a.1 (by omega) (show 0 ≤ (d : Int) by omega) (by omega)
  have p2 := qP (X := 999) (Y := 36) hk.1 hk.2 q.1 q.2
  refine ⟨by omega, by omega, by omega, ?_⟩
  by_cases z : d = 0
  · subst z; decide
  · have p3 := qP (X := 9) (Y := 9) (show 0 ≤ (d : Int) by omega) (by omega) (show 0 ≤ (d : Int) - 1 by omega) (by omega)
    omega
theorem qW_bd {T : Int → Int} {n : Nat} {k : Int} (hT : ∀ t : Int, 0 ≤ t → t < n → 0 ≤ T t ∧ T t ≤ 9999) (hn : n ≤ 9) (hk : 0 ≤ k ∧ k ≤ 999) : ∀ i j, i < j → j ≤ n → -900000 ≤ qW T k i j ∧ qW T k i j ≤ 900000 := by
  intro i j h1 h2
  have := qW_in hT hn hk (b := i) (d := j - i) (by omega)
  unfold qW
  omega
theorem qWt_bd {T : Int → Int} {n : Nat} {k : Int} (hT : ∀ t : Int, 0 ≤ t → t < n → 0 ≤ T t ∧ T t ≤ 9999) (hn : n ≤ 9) (hk : 0 ≤ k ∧ k ≤ 999) {i : Nat} {l : List Nat} (h : pPath n i l) : -8100000 ≤ qWt (qW T k) i l ∧ qWt (qW T k) i l ≤ 8100000 := by
  have a := qWt_in (C := 900000) (by omega) (qW_bd hT hn hk) l i h
  have b := pPath_len l i h
  omega
section Uni
variable {T : Int → Int} {n : Nat} {k : Int} {M0 : Mem}
def fU (M0 M : Mem) : Prop := ∀ x, ¬ (759 ≤ x ∧ x ≤ 761) → ∀ j, M x j = M0 x j
/-- what the tolls are, in the class's store -/
def pTol (M0 : Mem) (n : Nat) (T : Int → Int) : Prop := n ≤ 9 ∧ (∀ t : Int, 0 ≤ t → t < n → M0 758 t = T t ∧ 0 ≤ T t ∧ T t ≤ 9999)
theorem pTol_T (h : pTol M0 n T) : ∀ t : Int, 0 ≤ t → t < n → 0 ≤ T t ∧ T t ≤ 9999 := fun t a b => (h.2 t a b).2
theorem l_sumM (hT : pTol M0 n T) {i j : Nat} (hj : j ≤ n) (x3 : Int) {M : Mem} (fM : fU M0 M) : ∀ (f m d : Nat), j - i - d < f → f ≤ m → i + d ≤ j → f_X8_worthOf_L6 m i j x3 (sm T i d) ((i + d : Nat) : Int) M = some (sm T i (j - i)) := by
  intro f
  induction f with
  | zero => intro m d g0; omega
  | succ f ih =>
    intro m d g0 g1 g2
    obtain ⟨m, rfl⟩ : ∃ m', m = m' + 1 := ⟨m - 1, by omega⟩
    have n9 := hT.1
    rw [f_X8_worthOf_L6]
    by_cases c : i + d = j
    · rw [if_pos (by omega), show j - i = d by omega]
    · have t := hT.2 ((i + d : Nat) : Int) (by omega) (by omega)
      have s := sm_in (pTol_T hT) d (i := i) (by omega)
      have e := ih m (d + 1) (by omega) (by omega) (by omega)
      rw [sm, show ((i + (d + 1) : Nat) : Int) = ((i + d : Nat) : Int) + 1 by omega] at e
      rw [if_neg (by omega), p_ck (by omega), fM 758 (by decide), t.1, p_wI (by omega) (by omega), p_wI (by omega) (by omega)]
      exact e
theorem l_worthM (hT : pTol M0 n T) (hk : 0 ≤ k ∧ k ≤ 999) {i j m : Nat} (hi : i < j) (hj : j ≤ n) (hm : 20 ≤ m) {M : Mem} (fM : fU M0 M) : f_X8_worthOf m i j k M = some (qW T k i j) := by
  have n9 := hT.1
  have e := l_sumM hT hj k fM (j - i + 1) m 0 (i := i) (by omega) (by omega) (by omega)
  rw [sm, show ((i + 0 : Nat) : Int) = (i : Int) by omega] at e
  have b := qW_in (pTol_T hT) n9 hk (b := i) (d := j - i) (by omega)
  unfold f_X8_worthOf
  rw [e, Option.bind_some, show (j : Int) - (i : Int) = ((j - i : Nat) : Int) by omega]
  rw [p_wI (x := ((j - i : Nat) : Int)) (by omega) (by omega), p_wI (x := ((j - i : Nat) : Int) - 1) (by omega) (by omega), p_wI (x := ((j - i : Nat) : Int) * (((j - i : Nat) : Int) - 1)) (by omega) (by omega)]
  rw [show iDiv (((j - i : Nat) : Int) * (((j - i : Nat) : Int) - 1)) 2 = qD (j - i) from rfl]
  rw [p_wI (x := sm T i (j - i) * ((j - i : Nat) : Int)) (by omega) (by omega), p_wI (x := k * qD (j - i)) (by omega) (by omega), p_wI (by omega) (by omega)]
  rfl
/-- the ends, as the class follows them -/
def pFol (M : Mem) : Nat → List Nat → Prop
  | _, [] => True
  | i, j :: l => M 761 i = j ∧ pFol M j l
theorem pFol_same {M M' : Mem} {i : Nat} (h : ∀ q : Nat, i < q → M' 761 q = M 761 q) : ∀ (l : List Nat) (q : Nat), i < q → pPath n q l → pFol M q l → pFol M' q l
  | [], q, a, b, c => trivial
  | j :: l, q, a, b, c => ⟨by rw [h q a]; exact c.1, pFol_same h l j (by have := b.1; omega) b.2 c.2⟩
def pOpt (T : Int → Int) (k : Int) (n : Nat) (M : Mem) (q : Nat) : Prop := ∃ l, pPath n q l ∧ M 759 q = qWt (qW T k) q l ∧ M 760 q = l.length ∧ pFol M q l ∧ ∀ l', pPath n q l' → pGe (qW T k) q l l'
theorem pOpt_same {M M' : Mem} {i q : Nat} (hq : i < q) (h : ∀ x, 759 ≤ x → x ≤ 761 → ∀ q : Nat, i < q → M' x q = M x q) (o : pOpt T k n M q) : pOpt T k n M' q := by
  obtain ⟨l, l1, l2, l3, l4, l5⟩ := o
  exact ⟨l, l1, by rw [h 759 (by decide) (by decide) q hq]; exact l2, by rw [h 760 (by decide) (by decide) q hq]; exact l3, pFol_same (fun q hq => h 761 (by decide) (by decide) q hq) l q hq l1 l4, l5⟩
/-- the best so far of the ways on from i whose first union ends behind j -/
def pNow (T : Int → Int) (k : Int) (n : Nat) (M : Mem) (i j : Nat) : Prop := (M 761 i = -1 ∧ j = n) ∨ (∃ h l, j < h ∧ pPath n i (h :: l) ∧ M 759 i = qWt (qW T k) i (h :: l) ∧ M 760 i = (h :: l).length ∧ pFol M i (h :: l) ∧ ∀ h' l', j < h' → pPath n i (h' :: l') → pGe (qW T k) i (h :: l) (h' :: l'))
theorem pNow_end {M : Mem} {i : Nat} (hi : i < n) (h : pNow T k n M i i) : pOpt T k n M i := by
  rcases h with ⟨-, h⟩ | ⟨h, l, -, h2, h3, h4, h5, h6⟩
  · omega
  · refine ⟨h :: l, h2, h3, h4, h5, fun l' hl' => ?_⟩
    cases l' with
    | nil => have : i = n := hl'; omega
    | cons h' l' => exact h6 h' l' hl'.1 hl'
theorem l_uni32 (hT : pTol M0 n T) (hk : 0 ≤ k ∧ k ≤ 999) {i : Nat} (hi : i < n) : ∀ (f m j : Nat) (M : Mem), j - i < f → f + 30 ≤ m → i ≤ j → j ≤ n → fU M0 M → (∀ q : Nat, i < q → q ≤ n → pOpt T k n M q) → pNow T k n M i j →
    ∃ M', f_X8_unite_L32 m n k i j M = some M' ∧ fU M0 M' ∧ (∀ q : Nat, i ≤ q → q ≤ n → pOpt T k n M' q) := by
  intro f
  induction f with
  | zero => intro m j M g0; omega
  | succ f ih =>
    intro m j M g0 g1 ij jn fM opt now
    obtain ⟨m, rfl⟩ : ∃ m', m = m' + 1 := ⟨m - 1, by omega⟩
    have n9 := hT.1
    rw [f_X8_unite_L32]
    by_cases c : j = i
    · subst c
      rw [if_pos (by omega)]
      refine ⟨M, rfl, fM, fun q q0 q1 => ?_⟩
      by_cases e : q = j
      · subst e; exact pNow_end hi now
      · exact opt q (by omega) q1
    · obtain ⟨lj, o1, o2, o3, o4, o5⟩ := opt j (by omega) jn
      have wb := qWt_bd (pTol_T hT) n9 hk o1
      have b := qW_bd (pTol_T hT) n9 hk i j (by omega) jn
      have ln := pPath_len lj j o1
      have new : pPath n i (j :: lj) := ⟨by omega, o1⟩
      have nw : qWt (qW T k) i (j :: lj) = qW T k i j + M 759 j := by rw [qWt, o2]
      have nl : (((j :: lj).length : Nat) : Int) = 1 + M 760 j := by rw [List.length_cons, o3]; omega
      rw [if_neg (by omega), l_worthM hT hk (by omega) jn (by omega) fM, Option.bind_some, p_ck (by omega), p_ck (by omega), p_wI (x := qW T k i j + M 759 j) (by omega) (by omega), p_wI (x := 1 + M 760 j) (by omega) (by omega), ← nw, ← nl]
      -- taken
      have take : (∀ h' l', j < h' → pPath n i (h' :: l') → pGe (qW T k) i (j :: lj) (h' :: l')) → ∃ M', f_X8_unite_L32_J122 m (fun x4 M => f_X8_unite_L32 m n k i x4 M) n k i j (qWt (qW T k) i (j :: lj)) ((j :: lj).length : Nat) M = some M' ∧ fU M0 M' ∧ (∀ q : Nat, i ≤ q → q ≤ n → pOpt T k n M' q) := by
        intro best
        unfold f_X8_unite_L32_J122
        rw [p_ck (by omega), p_lt, p_lt, p_ck (by omega), p_lt, p_wI (x := (j : Int) + (-1)) (by omega) (by omega), show (j : Int) + (-1) = ((j - 1 : Nat) : Int) by omega]
        have same : ∀ x, 759 ≤ x → x ≤ 761 → ∀ q : Nat, i < q → upM (upM (upM M 759 i (qWt (qW T k) i (j :: lj))) 760 i ((j :: lj).length : Nat)) 761 i j x q = M x q := by
          intro x x0 x1 q hq
          rw [up_ne (by omega), up_ne (by omega), up_ne (by omega)]
        refine ih m (j - 1) _ (by omega) (by omega) (by omega) (by omega) (fun x hx y => by rw [up_nex (by omega), up_nex (by omega), up_nex (by omega)]; exact fM x hx y) (fun q q0 q1 => pOpt_same q0 same (opt q q0 q1)) ?_
        refine Or.inr ⟨j, lj, by omega, new, by rw [up_nex (by decide), up_nex (by decide), up_eq], by rw [up_nex (by decide), up_eq], ⟨up_eq, pFol_same (fun q hq => same 761 (by decide) (by decide) q hq) lj j (by omega) o1 o4⟩, fun h' l' hh hp => ?_⟩
        by_cases e : h' = j
        · subst e
          exact pGe_cons (o5 l' hp.2)
        · exact best h' l' (by omega) hp
      -- left
      have skip : (∃ h l, j < h ∧ pPath n i (h :: l) ∧ M 759 i = qWt (qW T k) i (h :: l) ∧ M 760 i = (h :: l).length ∧ pFol M i (h :: l) ∧ (∀ h' l', j < h' → pPath n i (h' :: l') → pGe (qW T k) i (h :: l) (h' :: l')) ∧ pGe (qW T k) i (h :: l) (j :: lj)) → ∃ M', f_X8_unite_L32 m n k i ((j - 1 : Nat) : Int) M = some M' ∧ fU M0 M' ∧ (∀ q : Nat, i ≤ q → q ≤ n → pOpt T k n M' q) := by
        rintro ⟨h, l, e1, e2, e3, e4, e5, e6, e7⟩
        refine ih m (j - 1) M (by omega) (by omega) (by omega) (by omega) fM opt (Or.inr ⟨h, l, by omega, e2, e3, e4, e5, fun h' l' hh hp => ?_⟩)
        by_cases e : h' = j
        · subst e
          exact pGe_trans e7 (pGe_cons (o5 l' hp.2))
        · exact e6 h' l' (by omega) hp
      have jm : wI ((j : Int) + (-1)) = ((j - 1 : Nat) : Int) := by rw [p_wI (by omega) (by omega)]; omega
      rcases now with ⟨h1, h2⟩ | ⟨h, l, e1, e2, e3, e4, e5, e6⟩
      · rw [if_pos h1]
        unfold f_X8_unite_L32_J88 f_X8_unite_L32_J93
        rw [if_pos (by decide)]
        exact take (fun h' l' hh hp => by have := pPath_le l' h' hp.2; omega)
      · have e50 := e5.1
        have g1 := pPath_le l h e2.2
        rw [if_neg (show ¬ M 761 i = -1 by omega), p_ck (by omega)]
        have better : qWt (qW T k) i (h :: l) < qWt (qW T k) i (j :: lj) ∨ (qWt (qW T k) i (h :: l) = qWt (qW T k) i (j :: lj) ∧ (j :: lj).length < (h :: l).length) → ∀ h' l', j < h' → pPath n i (h' :: l') → pGe (qW T k) i (j :: lj) (h' :: l') := by
          intro z h' l' hh hp
          refine pGe_trans ?_ (e6 h' l' hh hp)
          rcases z with z | z
          · exact Or.inl z
          · exact Or.inr ⟨z.1, Or.inl z.2⟩
        by_cases d : qWt (qW T k) i (j :: lj) ≤ M 759 i
        · rw [if_pos d]
          unfold f_X8_unite_L32_J93
          rw [if_neg (by decide), p_ck (by omega), jm]
          by_cases d2 : qWt (qW T k) i (j :: lj) = M 759 i
          · rw [if_neg (fun z => z d2)]
            by_cases d3 : M 760 i ≤ ((j :: lj).length : Nat)
            · rw [if_pos d3]
              refine skip ⟨h, l, e1, e2, e3, e4, e5, e6, Or.inr ⟨by omega, ?_⟩⟩
              by_cases d4 : (h :: l).length < (j :: lj).length
              · exact Or.inl d4
              · exact Or.inr ⟨by omega, Or.inr (Or.inl e1)⟩
            · rw [if_neg d3]
              exact take (better (Or.inr ⟨by omega, by omega⟩))
          · rw [if_pos d2]
            exact skip ⟨h, l, e1, e2, e3, e4, e5, e6, Or.inl (by omega)⟩
        · rw [if_neg d]
          unfold f_X8_unite_L32_J88 f_X8_unite_L32_J93
          rw [if_pos (by decide)]
          exact take (better (Or.inl (by omega)))
theorem l_uni18 (hT : pTol M0 n T) (hk : 0 ≤ k ∧ k ≤ 999) : ∀ (f m i : Nat) (M : Mem), i < f → f + 60 ≤ m → i ≤ n → fU M0 M → (∀ q : Nat, i ≤ q → q ≤ n → pOpt T k n M q) →
    ∃ M', f_X8_unite_L18 m n k ((i : Int) - 1) M = some M' ∧ fU M0 M' ∧ (∀ q : Nat, q ≤ n → pOpt T k n M' q) := by
  intro f
  induction f with
  | zero => intro m i M g0; omega
  | succ f ih =>
    intro m i M g0 g1 im fM opt
    obtain ⟨m, rfl⟩ : ∃ m', m = m' + 1 := ⟨m - 1, by omega⟩
    have n9 := hT.1
    rw [f_X8_unite_L18]
    by_cases c : i = 0
    · subst c
      rw [if_pos (by omega)]
      exact ⟨M, rfl, fM, fun q hq => opt q (by omega) hq⟩
    · obtain ⟨i, rfl⟩ : ∃ i', i = i' + 1 := ⟨i - 1, by omega⟩
      rw [show (((i + 1 : Nat) : Int) - 1) = (i : Int) by omega, if_neg (by omega), p_ck (by omega), p_lt, p_wI (x := (i : Int) + (-1)) (by omega) (by omega), show (i : Int) + (-1) = (i : Int) - 1 by omega]
      obtain ⟨M', e1, e2, e3⟩ := l_uni32 hT hk (i := i) (by omega) 20 m n (upM M 761 i (-1)) (by omega) (by omega) (by omega) (Nat.le_refl _) (fun x hx y => by rw [up_nex (by omega)]; exact fM x hx y) (fun q q0 q1 => pOpt_same (i := i) q0 (fun x x0 x1 q hq => by rw [up_ne (by omega)]) (opt q (by omega) q1)) (Or.inl ⟨up_eq, rfl⟩)
      rw [e1, Option.bind_some]
      exact ih m i M' (by omega) (by omega) (by omega) e2 e3
theorem l_unite (hT : pTol M0 n T) (hk : 0 ≤ k ∧ k ≤ 999) {m : Nat} (hm : 100 ≤ m) : ∃ M', f_X8_unite m n k M0 = some M' ∧ fU M0 M' ∧ (∀ q : Nat, q ≤ n → pOpt T k n M' q) := by
  have n9 := hT.1
  unfold f_X8_unite
  rw [p_ck (by omega), p_lt, p_lt, p_wI (by omega) (by omega)]
  obtain ⟨M', e1, e2, e3⟩ := l_uni18 hT hk 11 m n (upM (upM M0 759 n 0) 760 n 0) (by omega) (by omega) (Nat.le_refl _) (fun x hx y => by rw [up_nex (by omega), up_nex (by omega)]) (fun q q0 q1 => by
    have : q = n := by omega
    subst this
    refine ⟨[], rfl, by rw [up_nex (by decide), up_eq]; rfl, by rw [up_eq]; rfl, trivial, fun l' hl' => ?_⟩
    cases l' with
    | nil => exact pGe_rfl
    | cons h l => have := hl'.1; have := pPath_le l h hl'.2; omega)
  rw [e1]
  exact ⟨M', rfl, e2, e3⟩
theorem l_unionOf {M : Mem} {p : Nat} (hp : p < n) (n9 : n ≤ 9) : ∀ (f m c h : Nat) (l : List Nat), n - h < f → f ≤ m → c + 1 ≤ h → h ≤ n → pPath n h l → pFol M h l →
    f_X8_unionOf_L12 m p c h c M = some ((c + (h :: l).countP (fun x => decide (x ≤ p)) : Nat) : Int) := by
  intro f
  induction f with
  | zero => intro m c h l g0; omega
  | succ f ih =>
    intro m c h l g0 g1 ch hn hl fol
    obtain ⟨m, rfl⟩ : ∃ m', m = m' + 1 := ⟨m - 1, by omega⟩
    rw [f_X8_unionOf_L12, if_neg (by omega)]
    by_cases e : p < h
    · rw [if_pos (by omega), List.countP_eq_zero.mpr (fun x hx => by
        simp
        rcases List.mem_cons.mp hx with z | z
        · omega
        · have := (pPath_gt l h hl x z).1; omega)]
      rfl
    · cases l with
      | nil => have : h = n := hl; omega
      | cons h2 l =>
        have a1 := hl.1
        have a2 := pPath_le l h2 hl.2
        have e1 := ih m (c + 1) h2 l (by omega) (by omega) (by omega) a2 hl.2 fol.2
        rw [if_neg (by omega), p_ck (by omega), fol.1, p_wI (by omega) (by omega), show (c : Int) + 1 = ((c + 1 : Nat) : Int) by omega, e1, List.countP_cons (a := h)]
        have : decide (h ≤ p) = true := by simp; omega
        rw [if_pos this]
        congr 2
        omega
end Uni
