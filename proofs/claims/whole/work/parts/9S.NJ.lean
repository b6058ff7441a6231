set_option linter.unusedVariables false
set_option linter.unusedSimpArgs false
/-! text: the clauses of numbers -/
def nM (c a b : Int) (M M' : Mem) : Prop := ∀ y j, ¬ (y = 703 ∧ (j = 2 ∨ j = 3 ∨ (5 ≤ j ∧ j ≤ 8))) → ¬ (y = c + 2 ∧ a ≤ j ∧ j < b) → M' y j = M y j
def nN (a b : Int) (N N' : Mem) : Prop := (∀ y j, ¬ (y = 801 ∧ 7 ≤ j ∧ j ≤ 11) → ¬ (y = 804 ∧ a ≤ j ∧ j < b) → N' y j = N y j) ∧ N 801 8 ≤ N' 801 8
theorem nM_rfl {c a b : Int} {M : Mem} : nM c a b M M := fun _ _ _ _ => rfl
theorem nN_rfl {a b : Int} {N : Mem} : nN a b N N := ⟨fun _ _ _ _ => rfl, Int.le_refl _⟩
theorem nM_trans {c a b : Int} {M M1 M2 : Mem} (h : nM c a b M M1) (g : nM c a b M1 M2) : nM c a b M M2 := fun y j u v => (g y j u v).trans (h y j u v)
theorem nN_trans {a b : Int} {N N1 N2 : Mem} (h : nN a b N N1) (g : nN a b N1 N2) : nN a b N N2 := ⟨fun y j u v => (g.1 y j u v).trans (h.1 y j u v), Int.le_trans h.2 g.2⟩
theorem nM_kM {c a b : Int} {M M' : Mem} (h : kM M M') : nM c a b M M' := fun y j u v => h y j (by omega)
theorem nN_kN {a b : Int} {N N' : Mem} (h : kN N N') (g : N 801 8 ≤ N' 801 8) : nN a b N N' := ⟨fun y j u v => h y j (by omega), g⟩
theorem nM_fail {c a b e : Int} {M M' : Mem} (h : nM c a b M M') : nM c a b M (upM (upM M' 703 2 e) 703 3 (M' 703 7)) := fun y j u v => by
  rw [up_ne (by omega), up_ne (by omega)]
  exact h y j u v
/-- two readers at the same token -/
def pRn (M N : Mem) (c l : Int) : Prop := pTp M N l ∧ pTok M N l ∧ M 0 1 = c ∧ isTx c ∧ 773 ≤ c
theorem pRn_adv {M N : Mem} {c l : Int} (h : pRn M N c l) {nA : Nat} (hA : 700 ≤ nA) : ∃ M' N', f_X4_advance nA M = some M' ∧ (∀ n, 700 ≤ n → f_X12_nextToken n N = some N') ∧ kM M M' ∧ kN N N' ∧ pRn M' N' c l ∧ N 801 7 ≤ N' 801 8 ∧ N 801 8 ≤ N' 801 8 := by
  obtain ⟨h1, h2, h3, h4, h5⟩ := h
  obtain ⟨M', N', a1, a2, a3, a4, a5, a6, a7⟩ := l_adv0 h1 h2 hA
  have := h2.2.2.2.2.2.2.2.1
  exact ⟨M', N', a1, a2, a3, a4, ⟨a5, a6, by rw [a3 _ _ (by omega)]; exact h3, h4, h5⟩, a7, by omega⟩
theorem pRn_up {M N : Mem} {c l x i v : Int} (h : pRn M N c l) (hi : 0 ≤ i ∧ i < 96) : pRn (upM M (c + 2) i v) (upM N 804 x v) c l := by
  obtain ⟨h1, h2, h3, h4, h5⟩ := h
  refine ⟨⟨by rw [up_nex (by omega)]; exact h1.1, by rw [up_nex (by decide)]; exact h1.2.1, h1.2.2.1, h1.2.2.2.1, fun j j0 j1 => by rw [up_nex (by omega), up_nex (by decide)]; exact h1.2.2.2.2 j j0 j1⟩, ?_, by rw [up_nex (by omega)]; exact h3, h4, h5⟩
  unfold pTok at *
  rw [up_nex (y := 703) (by omega), up_nex (y := 703) (by omega), up_nex (y := 703) (by omega), up_nex (y := 703) (by omega), up_nex (y := 801) (by decide), up_nex (y := 801) (by decide), up_nex (y := 801) (by decide), up_nex (y := 801) (by decide), up_nex (y := 801) (by decide)]
  exact h2
/-- what both say of one number, or of several: done alike, or the same fault -/
def qNum (c l a b x y : Int) (q : Int) (M N : Mem) (A : Option (Int × Mem)) (B : Nat → Option (Int × Mem)) (G : Mem → Option (Int × Mem)) : Prop :=
  (∃ M' N', A = G M' ∧ (∀ n, 700 ≤ n → B n = some (0, N')) ∧ pRn M' N' c l ∧ nM c a b M M' ∧ nN x y N N' ∧ (∀ t, 0 ≤ t → t < q → M' (c + 2) (a + t) = N' 804 (x + t) ∧ 0 ≤ N' 804 (x + t) ∧ N' 804 (x + t) ≤ 999) ∧ (M' 703 2 = M 703 2 ∧ M' 703 3 = M 703 3))
  ∨ (∃ M' N' e, A = some (0, M') ∧ (∀ n, 700 ≤ n → B n = some (e, N')) ∧ e ≠ 0 ∧ M' 703 2 = e ∧ M' 703 3 = N' 801 8 ∧ nM c a b M M' ∧ nN x y N N')
theorem l_fig {M N : Mem} {c l x1 x2 x3 lo hi p : Int} {nA : Nat} {K : Int → Int → Mem → Option (Int × Mem)} (h : pRn M N c l) (hA : 700 ≤ nA) (h3 : 0 ≤ x3 ∧ x3 < 15) (h2 : 0 ≤ x2 ∧ x2 < 96) (hp : 0 ≤ p ∧ p < 2916)
    (hlo : stA [1, 0, 0, 0, 1, 0, 0, 1, 0, 1, 0, 0, 0, 0, 0] x3 = lo) (hhi : stA [99, 99, 999, 999, 99, 8, 8, 60, 8, 999, 8, 99, 8, 6, 8] x3 = hi) (hb : 0 ≤ lo ∧ hi ≤ 999) :
    qNum c l x2 (x2 + 1) p (p + 1) 1 M N (f_X4_readNumbers_L16_J57 nA K x1 x2 x3 M) (fun n => f_X12_figure n p lo hi N) (fun M' => K (x2 + 1) (x3 + 1) M') := by
  have hh := h
  obtain ⟨q1, q2, q3, q4, q5⟩ := h
  have kd : pKd M N := q2.2.2.2.2.2.2.1
  have ka := kd_all kd
  unfold f_X4_readNumbers_L16_J57 f_X12_figure
  rw [hlo, hhi]
  by_cases t3 : M 703 6 = 3
  · obtain ⟨g1, g2, g3, g4, g5, g6⟩ := q_figs kd t3
    rw [if_pos t3, p_ck (by omega), p_lt, p_isB]
    by_cases z : lo ≤ N 801 10 ∧ N 801 10 ≤ hi
    · have e8 : M 703 8 = N 801 10 := g3 (g2.mpr (by omega))
      have hu : pRn (upM M (c + 2) x2 (N 801 10)) (upM N 804 p (N 801 10)) c l := pRn_up hh h2
      obtain ⟨M', N', a1, a2, a3, a4, a5, a6, a7⟩ := pRn_adv hu hA
      left
      refine ⟨M', N', ?_, fun n hn => ?_, a5, fun y j u v => ?_, ⟨fun y j u v => ?_, ?_⟩, fun t t0 t1 => ?_, ?_, ?_⟩
      · rw [e8, if_pos z, if_pos (by decide), q3, p_ck q4, p_ck h2, p_lt, a1, Option.bind_some, p_wI (by omega) (by omega), p_wI (by omega) (by omega)]
      · dsimp only
        rw [if_pos g1, p_isIn, if_pos z, if_pos (by decide), p_ck hp, p_lt, a2 n hn, Option.bind_some]
      · rw [a3 y j (by omega), up_ne (by omega)]
      · rw [a4 y j (by omega), up_ne (by omega)]
      · rw [up_nex (by decide)] at a7; exact a7
      · rw [show t = 0 by omega, Int.add_zero, Int.add_zero, a3 _ _ (by omega), a4 _ _ (by omega), up_eq, up_eq]
        exact ⟨rfl, by omega⟩
      · rw [a3 _ _ (by omega), up_nex (by omega)]
      · rw [a3 _ _ (by omega), up_nex (by omega)]
    · right
      refine ⟨_, N, 2, ?_, fun n hn => ?_, by decide, by rw [up_nei (by decide), up_eq], by rw [up_eq]; exact q2.2.2.2.1, nM_fail nM_rfl, nN_rfl⟩
      · rw [if_neg (by omega), l_fb]
      · dsimp only
        rw [if_pos g1, p_isIn, if_neg z, if_neg (by decide)]
  · right
    have k1 : ¬ N 801 9 = 1 := fun z => t3 (ka.1.mp z)
    refine ⟨_, N, 1, ?_, fun n hn => ?_, by decide, by rw [up_nei (by decide), up_eq], by rw [up_eq]; exact q2.2.2.2.1, nM_fail nM_rfl, nN_rfl⟩
    · rw [if_neg t3, l_fb]
    · dsimp only
      rw [if_neg k1]
/-- the numbers of a clause as the reference reads them: words (-1: none), least, greatest -/
def rNums (n : Nat) : Int → List (Int × Int × Int) → Mem → Option (Int × Mem)
  | _, [], N => some (0, N)
  | p, (w, lo, hi) :: ts, N => (if w = -1 then f_X12_figure n p lo hi N else f_X12_worded n w p lo hi N).bind fun q => if q.1 = 0 then rNums n (p + 1) ts q.2 else some (q.1, q.2)
/-- the class's tables say the same -/
def okTab : List (Int × Int × Int) → Int → Prop
  | [], _ => True
  | (w, lo, hi) :: ts, x3 => (stA [1, 0, 0, 0, 1, 0, 0, 1, 0, 1, 0, 0, 0, 0, 0] x3 = lo ∧ stA [99, 99, 999, 999, 99, 8, 8, 60, 8, 999, 8, 99, 8, 6, 8] x3 = hi ∧ 0 ≤ lo ∧ hi ≤ 999) ∧ ((w = -1 ∧ stA [0, 140, 141, 142, 0, 143, 144, 0, 0, 145, 0, 144, 0, 0, 144] x3 = 0) ∨ (∃ i : Nat, i < 27 ∧ w = (wCd i : Nat) ∧ stA [0, 140, 141, 142, 0, 143, 144, 0, 0, 145, 0, 144, 0, 0, 144] x3 = 128 + (i : Int))) ∧ okTab ts (x3 + 1)
theorem l_nums {c l x1 : Int} (h1 : 0 ≤ x1 ∧ x1 < 7) : ∀ (ts : List (Int × Int × Int)) (nA : Nat) (x2 x3 p : Int) (M N : Mem), okTab ts x3 → stA [0, 4, 7, 8, 10, 12, 13, 15] (x1 + 1) = x3 + ts.length → 0 ≤ x3 → x3 + ts.length ≤ 15 → 0 ≤ x2 → x2 + ts.length ≤ 96 → 0 ≤ p → p + ts.length ≤ 2916 → 700 + ts.length + 1 ≤ nA → pRn M N c l →
    qNum c l x2 (x2 + ts.length) p (p + ts.length) ts.length M N (f_X4_readNumbers_L16 nA x1 x2 x3 M) (fun n => rNums n p ts N) (fun M' => some (1, M')) := by
  intro ts
  induction ts with
  | nil =>
    intro nA x2 x3 p M N ok hs g0 g1 g2 g3 g4 g5 g6 h
    obtain ⟨nA, rfl⟩ : ∃ n', nA = n' + 1 := ⟨nA - 1, by omega⟩
    simp only [List.length_nil] at *
    left
    refine ⟨M, N, ?_, fun n _ => rfl, h, nM_rfl, nN_rfl, fun t t0 t1 => by omega, rfl, rfl⟩
    rw [f_X4_readNumbers_L16, p_wI (x := x1 + 1) (by omega) (by omega), p_ck (by omega), hs, if_pos (by omega)]
  | cons w ts ih =>
    obtain ⟨w, lo, hi⟩ := w
    intro nA x2 x3 p M N ok hs g0 g1 g2 g3 g4 g5 g6 h
    obtain ⟨nA, rfl⟩ : ∃ n', nA = n' + 1 := ⟨nA - 1, by omega⟩
    simp only [List.length_cons] at *
    obtain ⟨⟨o1, o2, o3, o4⟩, o5, o6⟩ := ok
    rw [f_X4_readNumbers_L16, p_wI (x := x1 + 1) (by omega) (by omega), p_ck (by omega), hs, if_neg (by omega), p_ck (by omega)]
    -- behind the word
    have tail : ∀ (M0 N0 : Mem), pRn M0 N0 c l → qNum c l x2 (x2 + ((ts.length + 1 : Nat) : Int)) p (p + ((ts.length + 1 : Nat) : Int)) ((ts.length + 1 : Nat) : Int) M0 N0 (f_X4_readNumbers_L16_J57 nA (fun x2 x3 M => f_X4_readNumbers_L16 nA x1 x2 x3 M) x1 x2 x3 M0) (fun n => (f_X12_figure n p lo hi N0).bind fun q => if q.1 = 0 then rNums n (p + 1) ts q.2 else some (q.1, q.2)) (fun M' => some (1, M')) := by
      intro M0 N0 h0
      rcases l_fig (x1 := x1) (x2 := x2) (p := p) (K := fun x2 x3 M => f_X4_readNumbers_L16 nA x1 x2 x3 M) h0 (nA := nA) (by omega) ⟨g0, by omega⟩ ⟨g2, by omega⟩ ⟨g4, by omega⟩ o1 o2 ⟨o3, o4⟩ with ⟨M1, N1, a1, a2, a3, a4, a5, a6, a8, a9⟩ | ⟨M1, N1, e, a1, a2, a3, a4, a5, a6, a7⟩
      · have a2' : ∀ n : Nat, 700 ≤ n → f_X12_figure n p lo hi N0 = some (0, N1) := a2
        rw [a1]
        rcases ih nA (x2 + 1) (x3 + 1) (p + 1) M1 N1 o6 (by omega) (by omega) (by omega) (by omega) (by omega) (by omega) (by omega) (by omega) a3 with ⟨M2, N2, b1, b2, b3, b4, b5, b6, b8, b9⟩ | ⟨M2, N2, e, b1, b2, b3, b4, b5, b6, b7⟩
        · left
          refine ⟨M2, N2, b1, fun n hn => ?_, b3, fun y j u v => ?_, ⟨fun y j u v => ?_, Int.le_trans a5.2 b5.2⟩, fun t t0 t1 => ?_, b8.trans a8, b9.trans a9⟩
          · dsimp only
            rw [a2' n hn, Option.bind_some, if_pos rfl]
            exact b2 n hn
          · rw [b4 y j u (by omega), a4 y j u (by omega)]
          · rw [b5.1 y j u (by omega), a5.1 y j u (by omega)]
          · by_cases z : t = 0
            · subst z
              rw [Int.add_zero, Int.add_zero, b4 _ _ (by have := h0.2.2.2.2; omega) (by omega), b5.1 _ _ (by omega) (by omega)]
              have := a6 0 (by omega) (by omega)
              rw [Int.add_zero, Int.add_zero] at this
              exact this
            · have := b6 (t - 1) (by omega) (by omega)
              rw [show x2 + 1 + (t - 1) = x2 + t by omega, show p + 1 + (t - 1) = p + t by omega] at this
              exact this
        · right
          refine ⟨M2, N2, e, b1, fun n hn => ?_, b3, b4, b5, fun y j u v => ?_, ⟨fun y j u v => ?_, Int.le_trans a5.2 b7.2⟩⟩
          · dsimp only
            rw [a2' n hn, Option.bind_some, if_pos rfl]
            exact b2 n hn
          · rw [b6 y j u (by omega), a4 y j u (by omega)]
          · rw [b7.1 y j u (by omega), a5.1 y j u (by omega)]
      · right
        refine ⟨M1, N1, e, a1, fun n hn => ?_, a3, a4, a5, fun y j u v => a6 y j u (by omega), ⟨fun y j u v => a7.1 y j u (by omega), a7.2⟩⟩
        have a2' : ∀ n : Nat, 700 ≤ n → f_X12_figure n p lo hi N0 = some (e, N1) := a2
        dsimp only
        rw [a2' n hn, Option.bind_some, if_neg a3]
    rcases o5 with ⟨w1, w2⟩ | ⟨i, i1, w1, w2⟩
    · rw [w2, if_pos rfl]
      have := tail M N h
      simp only [rNums, w1, if_true]
      exact this
    · have wn : ¬ w = -1 := by omega
      rw [w2, if_neg (by omega)]
      have kd : pKd M N := h.2.1.2.2.2.2.2.2.1
      have qw := q_word kd i1 w1
      have dv : ∀ n N, f_X12_worded n w p lo hi N = if f_X12_isWord w N ≠ 0 then (f_X12_nextToken n N).bind fun q => f_X12_figure n p lo hi q else some (1, N) := by
        intro n N
        unfold f_X12_worded
        have e : ∀ q2 : Mem, ((f_X12_figure n p lo hi q2).bind fun q3 => some (q3.1, q3.2)) = f_X12_figure n p lo hi q2 := by
          intro q2
          cases f_X12_figure n p lo hi q2 <;> rfl
        simp only [e]
      simp only [rNums, if_neg wn, dv]
      by_cases t : M 703 6 = 128 + (i : Int)
      · rw [if_pos t] at qw
        obtain ⟨M1, N1, a1, a2, a3, a4, a5, a6, a7⟩ := pRn_adv h (nA := nA) (by omega)
        rw [if_pos t, a1, Option.bind_some]
        rcases tail M1 N1 a5 with ⟨M2, N2, b1, b2, b3, b4, b5, b6, b8, b9⟩ | ⟨M2, N2, e, b1, b2, b3, b4, b5, b6, b7⟩
        · left
          refine ⟨M2, N2, b1, fun n hn => ?_, b3, nM_trans (nM_kM a3) b4, nN_trans (nN_kN a4 a7) b5, b6, b8.trans (a3 _ _ (by omega)), b9.trans (a3 _ _ (by omega))⟩
          dsimp only
          rw [qw, if_pos (by decide), a2 n hn, Option.bind_some]
          exact b2 n hn
        · right
          refine ⟨M2, N2, e, b1, fun n hn => ?_, b3, b4, b5, nM_trans (nM_kM a3) b6, nN_trans (nN_kN a4 a7) b7⟩
          dsimp only
          rw [qw, if_pos (by decide), a2 n hn, Option.bind_some]
          exact b2 n hn
      · rw [if_neg t] at qw
        rw [if_neg t, l_fb]
        right
        refine ⟨_, N, 1, rfl, fun n hn => ?_, by decide, by rw [up_nei (by decide), up_eq], by rw [up_eq]; exact h.2.1.2.2.2.1, nM_fail nM_rfl, nN_rfl⟩
        dsimp only
        rw [qw, if_neg (by decide), Option.bind_some, if_neg (show ¬ (1 : Int) = 0 by decide)]
