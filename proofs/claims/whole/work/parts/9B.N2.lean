set_option linter.unusedVariables false
set_option linter.unusedSimpArgs false
/-! text: one token on both sides -/
def tM (M M' : Mem) : Prop := ∀ x j, ¬ (x = 703 ∧ (j = 5 ∨ j = 8)) → M' x j = M x j
def tN (N N' : Mem) : Prop := ∀ x j, ¬ (x = 801 ∧ (j = 7 ∨ j = 10 ∨ j = 11)) → N' x j = N x j
theorem tM_rfl {M : Mem} : tM M M := fun _ _ _ => rfl
theorem tN_rfl {N : Mem} : tN N N := fun _ _ _ => rfl
theorem tM_trans {M M1 M2 : Mem} (a : tM M M1) (b : tM M1 M2) : tM M M2 := fun x j h => (b x j h).trans (a x j h)
theorem tN_trans {N N1 N2 : Mem} (a : tN N N1) (b : tN N1 N2) : tN N N2 := fun x j h => (b x j h).trans (a x j h)
theorem tM_up {M M1 : Mem} {j v : Int} (a : tM M M1) (h : j = 5 ∨ j = 8) : tM M (upM M1 703 j v) := fun x i q => by
  rw [up_ne (by omega)]
  exact a x i q
theorem tN_up {N N1 : Mem} {j v : Int} (a : tN N N1) (h : j = 7 ∨ j = 10 ∨ j = 11) : tN N (upM N1 801 j v) := fun x i q => by
  rw [up_ne (by omega)]
  exact a x i q
theorem p_dig (c : Int) : f_X12_isFigure c = f_X4_isDigit c := rfl
theorem p_let (c : Int) : f_X12_isLetterByte c = f_X4_isLetter c := rfl
theorem p_dig1 (c : Int) : f_X4_isDigit c = if 48 ≤ c ∧ c ≤ 57 then 1 else 0 := by unfold f_X4_isDigit; grind
theorem p_let1 (c : Int) : f_X4_isLetter c = if (97 ≤ c ∧ c ≤ 122) ∨ (65 ≤ c ∧ c ≤ 90) then 1 else 0 := by unfold f_X4_isLetter f_X4_isLetter_J12; grind
section Tok
variable {M0 N0 : Mem} {l : Int}
/-- the tape, l bytes -/
def pTp (M0 N0 : Mem) (l : Int) : Prop := M0 703 1 = l ∧ N0 801 4 = l ∧ 0 ≤ l ∧ l ≤ 300 ∧ ∀ i, 0 ≤ i → i < l → M0 704 i = N0 805 i ∧ 0 ≤ N0 805 i ∧ N0 805 i ≤ 255
theorem p_byteAt (h : pTp M0 N0 l) {N : Mem} (f : tN N0 N) {q : Int} (q0 : 0 ≤ q) : f_X12_byteAt q N = some (if q < l then N0 805 q else -1) := by
  obtain ⟨h1, h2, h3, h4, h5⟩ := h
  unfold f_X12_byteAt
  rw [f 801 4 (by omega), f 805 q (by omega), h2]
  by_cases c : q < l
  · rw [if_neg (by omega), if_pos c, p_ck (by omega)]
  · rw [if_pos (by omega), if_neg c]
theorem l_skip (h : pTp M0 N0 l) : ∀ (k nA nB : Nat) (p : Int) (M N : Mem), l - p < k → k ≤ nA → k ≤ nB → 0 ≤ p → p ≤ l → tM M0 M → tN N0 N → M 703 5 = p → N 801 7 = p →
    ∃ (q : Int) (M' N' : Mem), f_X4_advance_L0 nA M = some M' ∧ f_X12_nextToken_L0 nB N = some N' ∧ tM M0 M' ∧ tN N0 N' ∧ M' 703 5 = q ∧ N' 801 7 = q ∧ p ≤ q ∧ q ≤ l := by
  intro k
  induction k with
  | zero => intro nA nB p M N g0; omega
  | succ k ih =>
    intro nA nB p M N g0 g1 g2 p0 p1 fM fN eM eN
    obtain ⟨nA, rfl⟩ : ∃ n', nA = n' + 1 := ⟨nA - 1, by omega⟩
    obtain ⟨nB, rfl⟩ : ∃ n', nB = n' + 1 := ⟨nB - 1, by omega⟩
    have l300 := h.2.2.2.1
    rw [f_X4_advance_L0, f_X12_nextToken_L0, eM, eN, p_byteAt h fN p0, Option.bind_some, fM 703 1 (by omega), h.1]
    by_cases c : p < l
    · obtain ⟨b1, b2, b3⟩ := h.2.2.2.2 p p0 c
      have nx := ih nA nB (p + 1) (upM M 703 5 (p + 1)) (upM N 801 7 (p + 1)) (by omega) (by omega) (by omega) (by omega) (by omega) (tM_up fM (by omega)) (tN_up fN (by omega)) up_eq up_eq
      obtain ⟨q, M', N', e1, e2, e3, e4, e5, e6, e7, e8⟩ := nx
      rw [if_pos c, if_neg (by omega), p_ck (by omega), fM 704 p (by omega), b1, p_lt, p_lt, p_wI (x := p + 1) (by omega) (by omega), Option.bind_some]
      by_cases d : N0 805 p = 32
      · rw [if_pos d, if_pos d]
        exact ⟨q, M', N', e1, e2, e3, e4, e5, e6, by omega, e8⟩
      · rw [if_neg d, if_neg d]
        by_cases e : N0 805 p = 10
        · rw [if_neg (fun z => z e), if_neg (fun z => z e)]
          exact ⟨q, M', N', e1, e2, e3, e4, e5, e6, by omega, e8⟩
        · rw [if_pos e, if_pos e]
          exact ⟨p, M, N, rfl, rfl, fM, fN, eM, eN, Int.le_refl _, p1⟩
    · rw [if_neg c, if_pos (by omega), if_neg (by decide), Option.bind_some, if_pos (by decide)]
      exact ⟨p, M, N, rfl, rfl, fM, fN, eM, eN, Int.le_refl _, p1⟩
theorem l_figs (h : pTp M0 N0 l) : ∀ (k nA nB : Nat) (p : Int) (M N : Mem), l - p < k → k ≤ nA → k ≤ nB → 0 ≤ p → p ≤ l → tM M0 M → tN N0 N → M 703 5 = p → N 801 7 = p → 0 ≤ N 801 10 → N 801 10 ≤ 1000000 → M 703 8 = min 10000 (N 801 10) →
    ∃ (q : Int) (M' N' : Mem), f_X4_advance_L177 nA M = some M' ∧ f_X12_nextToken_L85 nB N = some N' ∧ tM M0 M' ∧ tN N0 N' ∧ M' 703 5 = q ∧ N' 801 7 = q ∧ p ≤ q ∧ q ≤ l ∧ 0 ≤ N' 801 10 ∧ M' 703 8 = min 10000 (N' 801 10) ∧ (p < l → 48 ≤ N0 805 p ∧ N0 805 p ≤ 57 → p < q) := by
  intro k
  induction k with
  | zero => intro nA nB p M N g0; omega
  | succ k ih =>
    intro nA nB p M N g0 g1 g2 p0 p1 fM fN eM eN v0 v1 ev
    obtain ⟨nA, rfl⟩ : ∃ n', nA = n' + 1 := ⟨nA - 1, by omega⟩
    obtain ⟨nB, rfl⟩ : ∃ n', nB = n' + 1 := ⟨nB - 1, by omega⟩
    have l300 := h.2.2.2.1
    rw [f_X4_advance_L177, f_X12_nextToken_L85, eM, eN, p_byteAt h fN p0, Option.bind_some, fM 703 1 (by omega), h.1, p_dig, p_dig1, p_dig1]
    by_cases c : p < l
    · obtain ⟨b1, b2, b3⟩ := h.2.2.2.2 p p0 c
      rw [if_pos c, if_neg (by omega), p_ck (by omega), fM 704 p (by omega), b1]
      by_cases d : 48 ≤ N0 805 p ∧ N0 805 p ≤ 57
      · rw [if_pos d, if_neg (by decide), if_neg (by decide), p_lt, p_lt, Option.bind_some]
        rw [up_nei (by decide), eM, p_wI (x := p + 1) (by omega) (by omega)]
        unfold f_X12_nextToken_L85_J135
        rw [p_wI (x := M 703 8 * 10) (by omega) (by omega), p_wI (x := M 703 8 * 10 + N0 805 p) (by omega) (by omega), p_wI (x := M 703 8 * 10 + N0 805 p - 48) (by omega) (by omega)]
        have nx : ∀ u : Int, 0 ≤ u → u ≤ 1000000 → min 10000 (M 703 8 * 10 + N0 805 p - 48) = min 10000 u → ∃ (q : Int) (M' N' : Mem), f_X4_advance_L177 nA (upM (upM M 703 8 (min 10000 (M 703 8 * 10 + N0 805 p - 48))) 703 5 (p + 1)) = some M' ∧ f_X12_nextToken_L85 nB (upM (upM N 801 10 u) 801 7 (p + 1)) = some N' ∧ tM M0 M' ∧ tN N0 N' ∧ M' 703 5 = q ∧ N' 801 7 = q ∧ p ≤ q ∧ q ≤ l ∧ 0 ≤ N' 801 10 ∧ M' 703 8 = min 10000 (N' 801 10) ∧ (p < l → 48 ≤ N0 805 p ∧ N0 805 p ≤ 57 → p < q) := by
          intro u u0 u1 eu
          obtain ⟨q, M', N', e1, e2, e3, e4, e5, e6, e7, e8, e9, e10, -⟩ := ih nA nB (p + 1) (upM (upM M 703 8 (min 10000 (M 703 8 * 10 + N0 805 p - 48))) 703 5 (p + 1)) (upM (upM N 801 10 u) 801 7 (p + 1)) (by omega) (by omega) (by omega) (by omega) (by omega) (tM_up (tM_up fM (by omega)) (by omega)) (tN_up (tN_up fN (by omega)) (by omega)) up_eq up_eq (by rw [up_nei (by decide), up_eq]; exact u0) (by rw [up_nei (by decide), up_eq]; exact u1) (by rw [up_nei (by decide), up_eq, up_nei (by decide), up_eq]; exact eu)
          exact ⟨q, M', N', e1, e2, e3, e4, e5, e6, by omega, e8, e9, e10, fun _ _ => by omega⟩
        by_cases e : N 801 10 ≤ 99999
        · rw [if_pos e, p_wI (x := 10 * N 801 10) (by omega) (by omega), p_wI (x := 10 * N 801 10 + N0 805 p) (by omega) (by omega), p_wI (x := 10 * N 801 10 + N0 805 p - 48) (by omega) (by omega), p_lt, p_lt, up_nei (by decide), eN, p_wI (x := p + 1) (by omega) (by omega)]
          exact nx _ (by omega) (by omega) (by omega)
        · rw [if_neg e, p_lt, p_lt, up_nei (by decide), eN, p_wI (x := p + 1) (by omega) (by omega)]
          exact nx _ v0 v1 (by omega)
      · rw [if_neg d, if_pos rfl, if_pos rfl]
        exact ⟨p, M, N, rfl, rfl, fM, fN, eM, eN, Int.le_refl _, p1, v0, ev, fun _ z => absurd z d⟩
    · rw [if_neg c, if_pos (by omega), if_pos (by decide)]
      exact ⟨p, M, N, rfl, rfl, fM, fN, eM, eN, Int.le_refl _, p1, v0, ev, fun z => absurd z c⟩
/-- the bytes, as Nats -/
def bN (N0 : Mem) (j : Nat) : Nat := ((N0 805 (j : Int)) % 256).toNat
theorem bN_lt (N0 : Mem) (j : Nat) : bN N0 j < 256 := by unfold bN; omega
theorem bN_eq (h : pTp M0 N0 l) {j : Nat} (hj : (j : Int) < l) : N0 805 (j : Int) = bN N0 j := by
  have := h.2.2.2.2 j (by omega) hj
  unfold bN
  omega
theorem l_lets (h : pTp M0 N0 l) {a : Nat} : ∀ (k nA nB d : Nat) (M N : Mem), l - (a + d : Nat) < k → k ≤ nA → k ≤ nB → ((a + d : Nat) : Int) ≤ l → tM M0 M → tN N0 N → M 703 5 = ((a + d : Nat) : Int) → N 801 7 = ((a + d : Nat) : Int) → N 801 11 = (wc (bN N0) a d : Nat) → (∀ t, t < d → 1 ≤ bN N0 (a + t)) →
    ∃ (e : Nat) (M' N' : Mem), f_X4_advance_L99 nA M = some M' ∧ f_X12_nextToken_L168 nB N = some N' ∧ tM M0 M' ∧ tN N0 N' ∧ M' 703 5 = ((a + e : Nat) : Int) ∧ N' 801 7 = ((a + e : Nat) : Int) ∧ d ≤ e ∧ ((a + e : Nat) : Int) ≤ l ∧ N' 801 11 = (wc (bN N0) a e : Nat) ∧ (∀ t, t < e → 1 ≤ bN N0 (a + t)) ∧ (((a + d : Nat) : Int) < l → f_X4_isLetter (N0 805 ((a + d : Nat) : Int)) ≠ 0 → d < e) := by
  intro k
  induction k with
  | zero => intro nA nB d M N g0; omega
  | succ k ih =>
    intro nA nB d M N g0 g1 g2 p1 fM fN eM eN ew hb
    obtain ⟨nA, rfl⟩ : ∃ n', nA = n' + 1 := ⟨nA - 1, by omega⟩
    obtain ⟨nB, rfl⟩ : ∃ n', nB = n' + 1 := ⟨nB - 1, by omega⟩
    have l300 := h.2.2.2.1
    rw [f_X4_advance_L99, f_X12_nextToken_L168, eM, eN, p_byteAt h fN (by omega), Option.bind_some, fM 703 1 (by omega), h.1, p_let]
    by_cases c : ((a + d : Nat) : Int) < l
    · obtain ⟨b1, b2, b3⟩ := h.2.2.2.2 _ (show 0 ≤ ((a + d : Nat) : Int) by omega) c
      have be := bN_eq h c
      have blt := bN_lt N0 (a + d)
      rw [if_pos c, if_neg (by omega), p_ck (by omega), fM 704 _ (by omega), b1]
      by_cases e : f_X4_isLetter (N0 805 ((a + d : Nat) : Int)) = 0
      · rw [if_pos e, if_pos e]
        exact ⟨d, M, N, rfl, rfl, fM, fN, eM, eN, Nat.le_refl _, p1, ew, hb, fun _ z => absurd e z⟩
      · rw [if_neg e, if_neg e, p_lt, p_wI (x := ((a + d : Nat) : Int) + 1) (by omega) (by omega), show ((a + d : Nat) : Int) + 1 = ((a + (d + 1) : Nat) : Int) by omega, ew]
        have b1' : 1 ≤ bN N0 (a + d) := by
          rw [p_let1] at e
          by_cases z : (97 ≤ N0 805 ((a + d : Nat) : Int) ∧ N0 805 ((a + d : Nat) : Int) ≤ 122) ∨ (65 ≤ N0 805 ((a + d : Nat) : Int) ∧ N0 805 ((a + d : Nat) : Int) ≤ 90)
          · omega
          · rw [if_neg z] at e; exact absurd rfl e
        have nx : ∀ w : Int, w = (wc (bN N0) a (d + 1) : Nat) → ∃ (e : Nat) (M' N' : Mem), f_X4_advance_L99 nA (upM M 703 5 ((a + (d + 1) : Nat) : Int)) = some M' ∧ f_X12_nextToken_L168_J218 nB (fun M => f_X12_nextToken_L168 nB M) w N = some N' ∧ tM M0 M' ∧ tN N0 N' ∧ M' 703 5 = ((a + e : Nat) : Int) ∧ N' 801 7 = ((a + e : Nat) : Int) ∧ d ≤ e ∧ ((a + e : Nat) : Int) ≤ l ∧ N' 801 11 = (wc (bN N0) a e : Nat) ∧ (∀ t, t < e → 1 ≤ bN N0 (a + t)) ∧ (((a + d : Nat) : Int) < l → f_X4_isLetter (N0 805 ((a + d : Nat) : Int)) ≠ 0 → d < e) := by
          intro w hw
          unfold f_X12_nextToken_L168_J218
          rw [p_lt, p_lt, up_nei (by decide), eN, p_wI (x := ((a + d : Nat) : Int) + 1) (by omega) (by omega), show ((a + d : Nat) : Int) + 1 = ((a + (d + 1) : Nat) : Int) by omega]
          obtain ⟨e, M', N', e1, e2, e3, e4, e5, e6, e7, e8, e9, e10, -⟩ := ih nA nB (d + 1) (upM M 703 5 ((a + (d + 1) : Nat) : Int)) (upM (upM N 801 11 w) 801 7 ((a + (d + 1) : Nat) : Int)) (by omega) (by omega) (by omega) (by omega) (tM_up fM (by omega)) (tN_up (tN_up fN (by omega)) (by omega)) up_eq up_eq (by rw [up_nei (by decide), up_eq]; exact hw) (fun t ht => by
            by_cases z : t = d
            · subst z; exact b1'
            · exact hb t (by omega))
          exact ⟨e, M', N', e1, e2, e3, e4, e5, e6, by omega, e8, e9, e10, fun _ _ => by omega⟩
        by_cases d6 : d ≤ 6
        · have lt := wc_lt (B := bN N0) (a := a) (fun t => bN_lt N0 _) d (by omega)
          have p6 : 256 ^ d ≤ 256 ^ 6 := Nat.pow_le_pow_right (by omega) d6
          have p6' : (256 : Nat) ^ 6 = 281474976710656 := by decide
          rw [if_pos (by rw [q_shr (by omega), q_cmp]; omega), Option.bind_some, be, q_next (by omega) blt]
          have nx' := nx ((wc (bN N0) a d * 256 + bN N0 (a + d) : Nat) : Int) (by rw [wc, if_pos d6])
          rw [be] at nx'
          exact nx'
        · have big : 281474976710656 ≤ wc (bN N0) a d ∧ wc (bN N0) a d < 9223372036854775808 := by
            obtain ⟨d, rfl⟩ : ∃ d', d = d' + 1 := ⟨d - 1, by omega⟩
            by_cases z : d ≤ 6
            · have ge := wc_ge (B := bN N0) (a := a) (fun t => bN_lt N0 _) (fun t ht => hb t (by omega)) (d + 1) (by omega) (by omega)
              have lt := wc_lt (B := bN N0) (a := a) (fun t => bN_lt N0 _) (d + 1) (by omega)
              have d6' : d = 6 := by omega
              subst d6'
              have p6' : (256 : Nat) ^ (6 + 1 - 1) = 281474976710656 := by decide
              have p7' : (256 : Nat) ^ (6 + 1) = 72057594037927936 := by decide
              omega
            · rw [wc, if_neg z]; omega
          rw [if_neg (by rw [q_shr (by omega), q_cmp]; omega)]
          exact nx _ (by rw [wc, if_neg d6]; rfl)
    · rw [if_neg c, if_pos (by omega), if_pos (by decide)]
      exact ⟨d, M, N, rfl, rfl, fM, fN, eM, eN, Nat.le_refl _, p1, ew, hb, fun z => absurd z c⟩
/-- the signs -/
def isSg (k : Int) : Prop := k = 35 ∨ (40 ≤ k ∧ k ≤ 45) ∨ k = 47 ∨ (59 ≤ k ∧ k ≤ 62)
theorem s_tab : ∀ t : Fin 12, isSg (strC1 (t.val : Int)) := by unfold isSg; decide +kernel
theorem s_tab2 : strC1 0 = 60 ∧ strC1 1 = 62 ∧ strC1 2 = 61 ∧ strC1 3 = 35 ∧ strC1 4 = 43 ∧ strC1 5 = 45 ∧ strC1 6 = 42 ∧ strC1 7 = 47 ∧ strC1 8 = 40 ∧ strC1 9 = 41 ∧ strC1 10 = 44 ∧ strC1 11 = 59 := by decide +kernel
theorem l_sgn (c : Int) (M : Mem) : ∀ (f n : Nat) (i : Nat), 12 - i < f → f ≤ n → i ≤ 12 → (∀ t : Nat, t < i → strC1 (t : Int) ≠ c) → ∃ v, f_X4_signAt_L48 n c i M = some v ∧ ((isSg c ∧ v = c) ∨ (¬ isSg c ∧ v = 5)) := by
  intro f
  induction f with
  | zero => intro n i g0; omega
  | succ f ih =>
    intro n i g0 g1 g2 g3
    obtain ⟨n, rfl⟩ : ∃ n', n = n' + 1 := ⟨n - 1, by omega⟩
    rw [f_X4_signAt_L48]
    by_cases e : i = 12
    · subst e
      rw [if_pos (by decide)]
      refine ⟨5, rfl, Or.inr ⟨fun z => ?_, rfl⟩⟩
      obtain ⟨t0, t1, t2, t3, t4, t5, t6, t7, t8, t9, t10, t11⟩ := s_tab2
      have h0 := g3 0 (by decide)
      have h1 := g3 1 (by decide)
      have h2 := g3 2 (by decide)
      have h3 := g3 3 (by decide)
      have h4 := g3 4 (by decide)
      have h5 := g3 5 (by decide)
      have h6 := g3 6 (by decide)
      have h7 := g3 7 (by decide)
      have h8 := g3 8 (by decide)
      have h9 := g3 9 (by decide)
      have h10 := g3 10 (by decide)
      have h11 := g3 11 (by decide)
      change strC1 0 ≠ c at h0
      change strC1 1 ≠ c at h1
      change strC1 2 ≠ c at h2
      change strC1 3 ≠ c at h3
      change strC1 4 ≠ c at h4
      change strC1 5 ≠ c at h5
      change strC1 6 ≠ c at h6
      change strC1 7 ≠ c at h7
      change strC1 8 ≠ c at h8
      change strC1 9 ≠ c at h9
      change strC1 10 ≠ c at h10
      change strC1 11 ≠ c at h11
      unfold isSg at z
      omega
    · rw [if_neg (by omega), p_ck (by omega), p_wI (x := (i : Int) + 1) (by omega) (by omega), show (i : Int) + 1 = ((i + 1 : Nat) : Int) by omega]
      by_cases d : strC1 (i : Int) = c
      · rw [if_neg (fun z => z d)]
        exact ⟨c, rfl, Or.inl ⟨d ▸ s_tab ⟨i, by omega⟩, rfl⟩⟩
      · rw [if_pos d]
        refine ih n (i + 1) (by omega) (by omega) (by omega) (fun t ht => ?_)
        by_cases z : t = i
        · subst z; exact d
        · exact g3 t (by omega)
theorem p_isSg (c : Int) : (isSg c ∧ f_X12_isSign c = 1) ∨ (¬ isSg c ∧ f_X12_isSign c = 0) := by
  by_cases h : isSg c
  · refine Or.inl ⟨h, ?_⟩
    unfold isSg at h
    have : c = 35 ∨ c = 40 ∨ c = 41 ∨ c = 42 ∨ c = 43 ∨ c = 44 ∨ c = 45 ∨ c = 47 ∨ c = 59 ∨ c = 60 ∨ c = 61 ∨ c = 62 := by omega
    rcases this with h | h | h | h | h | h | h | h | h | h | h | h <;> subst h <;> decide
  · refine Or.inr ⟨h, ?_⟩
    unfold isSg at h
    unfold f_X12_isSign
    rw [if_neg (by omega), if_neg (by omega), if_neg (by omega), if_neg (by omega), if_neg (by omega), if_neg (by omega), if_neg (by omega), if_neg (by omega), if_neg (by omega), if_neg (by omega), if_neg (by omega), if_neg (by omega)]
/-- a token's kind on both sides -/
def pKind (t v k u w : Int) : Prop := (k = 0 ∧ t = 4) ∨ (k = 1 ∧ t = 3 ∧ 0 ≤ u ∧ v = min 10000 u) ∨ (k = 2 ∧ ((∃ i : Nat, i < 27 ∧ t = 128 + (i : Int) ∧ w = (wCd i : Nat)) ∨ (t = 5 ∧ ∀ i : Nat, i < 27 → w ≠ (wCd i : Nat)))) ∨ (k = 3 ∧ t = 5) ∨ (k = 4 ∧ t = 1) ∨ (k = 5 ∧ t = 2) ∨ (isSg k ∧ t = k)
def pTok (M N : Mem) (l : Int) : Prop := M 703 5 = N 801 7 ∧ 0 ≤ N 801 7 ∧ N 801 7 ≤ l ∧ M 703 7 = N 801 8 ∧ 0 ≤ N 801 8 ∧ N 801 8 ≤ l ∧ pKind (M 703 6) (M 703 8) (N 801 9) (N 801 10) (N 801 11) ∧ N 801 8 ≤ N 801 7 ∧ (N 801 9 ≠ 0 → N 801 8 + 1 ≤ N 801 7)
/-- what a token writes -/
def kM (M M' : Mem) : Prop := ∀ x j, ¬ (x = 703 ∧ 5 ≤ j ∧ j ≤ 8) → M' x j = M x j
def kN (N N' : Mem) : Prop := ∀ x j, ¬ (x = 801 ∧ 7 ≤ j ∧ j ≤ 11) → N' x j = N x j
theorem l_token (h : pTp M0 N0 l) {nA nB : Nat} (hA : 700 ≤ nA) (hB : 700 ≤ nB) (h5 : M0 703 5 = N0 801 7) (h7 : 0 ≤ N0 801 7 ∧ N0 801 7 ≤ l) :
    ∃ M' N', f_X4_advance nA M0 = some M' ∧ f_X12_nextToken nB N0 = some N' ∧ kM M0 M' ∧ kN N0 N' ∧ pTok M' N' l ∧ N0 801 7 ≤ N' 801 8 := by
  have l300 := h.2.2.2.1
  obtain ⟨q, M1, N1, a1, a2, a3, a4, a5, a6, a7, a8⟩ := l_skip h 310 nA nB (N0 801 7) M0 N0 (by omega) (by omega) (by omega) h7.1 h7.2 tM_rfl tN_rfl h5 rfl
  unfold f_X4_advance f_X12_nextToken
  rw [a1, a2, Option.bind_some, Option.bind_some]
  unfold f_X4_advance_J52
  rw [p_lt, p_lt, p_lt (upM N1 801 8 _), a5, a6]
  have hM : ∀ x j, ¬ (x = 703 ∧ 5 ≤ j ∧ j ≤ 8) → upM (upM M1 703 7 q) 703 8 0 x j = M0 x j := fun x j z => by
    rw [up_ne (by omega), up_ne (by omega)]; exact a3 x j (by omega)
  have hN : ∀ x j, ¬ (x = 801 ∧ 7 ≤ j ∧ j ≤ 11) → upM N1 801 8 q x j = N0 x j := fun x j z => by
    rw [up_ne (by omega)]; exact a4 x j (by omega)
  have e5 : upM (upM M1 703 7 q) 703 8 0 703 5 = q := by rw [up_nei (by decide), up_nei (by decide)]; exact a5
  have e7 : upM (upM M1 703 7 q) 703 8 0 703 7 = q := by rw [up_nei (by decide), up_eq]
  have e8 : upM (upM M1 703 7 q) 703 8 0 703 8 = 0 := up_eq
  have n7 : upM N1 801 8 q 801 7 = q := by rw [up_nei (by decide)]; exact a6
  have n8 : upM N1 801 8 q 801 8 = q := up_eq
  generalize upM (upM M1 703 7 q) 703 8 0 = M2 at *
  generalize upM N1 801 8 q = N2 at *
  have tp : pTp M2 N2 l := ⟨by rw [hM _ _ (by omega)]; exact h.1, by rw [hN _ _ (by omega)]; exact h.2.1, h.2.2.1, h.2.2.2.1, fun i i0 i1 => by rw [hM _ _ (by omega), hN _ _ (by omega)]; exact h.2.2.2.2 i i0 i1⟩
  have q0 : 0 ≤ q := by omega
  clear a1 a2 a3 a4 a5 a6
  rw [e5, n7, tp.1, p_byteAt tp tN_rfl q0, Option.bind_some]
  by_cases c : q < l
  · obtain ⟨b1, b2, b3⟩ := tp.2.2.2.2 q q0 c
    rw [if_pos c, if_pos c, p_ck (by omega), b1, if_pos b2, p_dig, p_let]
    generalize hb : N2 805 q = b at *
    have fin : ∀ (M' N' : Mem) (r : Int), (∀ x j, ¬ (x = 703 ∧ (j = 5 ∨ j = 6 ∨ j = 8)) → M' x j = M2 x j) → (∀ x j, ¬ (x = 801 ∧ (j = 7 ∨ j = 9 ∨ j = 10 ∨ j = 11)) → N' x j = N2 x j) → M' 703 5 = r → N' 801 7 = r → q < r → r ≤ l → pKind (M' 703 6) (M' 703 8) (N' 801 9) (N' 801 10) (N' 801 11) → kM M0 M' ∧ kN N0 N' ∧ pTok M' N' l ∧ N0 801 7 ≤ N' 801 8 := by
      intro M' N' r f1 f2 f3 f4 f5 f6 f7
      have g1 : N' 801 8 = q := by rw [f2 _ _ (by omega)]; exact n8
      have g2 : M' 703 7 = q := by rw [f1 _ _ (by omega)]; exact e7
      exact ⟨fun x j z => by rw [f1 _ _ (by omega)]; exact hM x j z, fun x j z => by rw [f2 _ _ (by omega)]; exact hN x j z, ⟨by omega, by omega, by omega, by omega, by omega, by omega, f7, by omega, fun _ => by omega⟩, by omega⟩
    by_cases le : f_X4_isLetter b = 0
    · rw [if_pos le, if_pos le]
      by_cases di : f_X4_isDigit b = 0
      · -- a sign
        rw [if_pos di, if_pos di]
        obtain ⟨v, v1, v2⟩ := l_sgn b M2 13 nA 0 (by omega) (by omega) (by omega) (fun t ht => by omega)
        have v1' : f_X4_signAt_L48 nA b 0 M2 = some v := v1
        have two : ∀ (tc kc : Int), (kc = 4 ∧ tc = 1) ∨ (kc = 5 ∧ tc = 2) → q + 1 < l → ∃ M' N', (lt (upM M2 703 6 tc) fun M15 => if (M15 703 6) = 1 then (lt (upM M15 703 5 (wI ((M15 703 5) + 2))) fun M17 => some M17) else (if (M15 703 6) ≠ 2 then (lt (upM M15 703 5 (wI ((M15 703 5) + 1))) fun M19 => some M19) else (lt (upM M15 703 5 (wI ((M15 703 5) + 2))) fun M20 => some M20))) = some M' ∧ some (upM (upM (upM (upM N2 801 9 b) 801 7 (q + 1)) 801 9 kc) 801 7 (q + 2)) = some N' ∧ kM M0 M' ∧ kN N0 N' ∧ pTok M' N' l ∧ N0 801 7 ≤ N' 801 8 := by
          intro tc kc hk hl
          have rr : ∀ r, r = q + 2 → ∃ M' N', some (upM (upM M2 703 6 tc) 703 5 r) = some M' ∧ some (upM (upM (upM (upM N2 801 9 b) 801 7 (q + 1)) 801 9 kc) 801 7 (q + 2)) = some N' ∧ kM M0 M' ∧ kN N0 N' ∧ pTok M' N' l ∧ N0 801 7 ≤ N' 801 8 := by
            intro r hr
            subst hr
            refine ⟨_, _, rfl, rfl, fin _ _ (q + 2) (fun x j z => by rw [up_ne (by omega), up_ne (by omega)]) (fun x j z => by rw [up_ne (by omega), up_ne (by omega), up_ne (by omega), up_ne (by omega)]) up_eq up_eq (by omega) (by omega) ?_⟩
            rw [up_nei (by decide), up_eq, up_nei (i := 7) (j := 9) (by decide), up_eq]
            rcases hk with hk | hk
            · exact Or.inr (Or.inr (Or.inr (Or.inr (Or.inl hk))))
            · exact Or.inr (Or.inr (Or.inr (Or.inr (Or.inr (Or.inl hk)))))
          rw [p_lt, up_eq]
          rcases hk with hk | hk
          · rw [if_pos hk.2, p_lt, up_nei (by decide), e5]
            exact rr _ (p_wI (by omega) (by omega))
          · rw [if_neg (show ¬ tc = 1 by omega), if_neg (show ¬ tc ≠ 2 by omega), p_lt, up_nei (by decide), e5]
            exact rr _ (p_wI (by omega) (by omega))
        have one : ∀ (tc kc : Int), tc ≠ 1 → tc ≠ 2 → (isSg kc ∧ tc = kc) ∨ (kc = 3 ∧ tc = 5) → ∃ M' N', (lt (upM M2 703 6 tc) fun M15 => if (M15 703 6) = 1 then (lt (upM M15 703 5 (wI ((M15 703 5) + 2))) fun M17 => some M17) else (if (M15 703 6) ≠ 2 then (lt (upM M15 703 5 (wI ((M15 703 5) + 1))) fun M19 => some M19) else (lt (upM M15 703 5 (wI ((M15 703 5) + 2))) fun M20 => some M20))) = some M' ∧ some (upM (upM N2 801 9 kc) 801 7 (q + 1)) = some N' ∧ kM M0 M' ∧ kN N0 N' ∧ pTok M' N' l ∧ N0 801 7 ≤ N' 801 8 := by
          intro tc kc h1 h2 hk
          rw [p_lt, up_eq, if_neg h1, if_pos h2, p_lt, up_nei (by decide), e5, p_wI (by omega) (by omega)]
          refine ⟨_, _, rfl, rfl, fin _ _ (q + 1) (fun x j z => by rw [up_ne (by omega), up_ne (by omega)]) (fun x j z => by rw [up_ne (by omega), up_ne (by omega)]) up_eq up_eq (by omega) (by omega) ?_⟩
          rw [up_nei (by decide), up_eq, up_nei (i := 7) (j := 9) (by decide), up_eq]
          rcases hk with hk | hk
          · exact Or.inr (Or.inr (Or.inr (Or.inr (Or.inr (Or.inr hk)))))
          · exact Or.inr (Or.inr (Or.inr (Or.inl hk)))
        -- the sign's reading by the reference
        have ref : ∀ kc : Int, f_X12_nextToken_J247 nB b kc N2 = (if b = 60 ∨ b = 62 then (if q + 1 < l ∧ N2 805 (q + 1) = 61 then some (upM (upM (upM (upM N2 801 9 kc) 801 7 (q + 1)) 801 9 (if b = 60 then 4 else 5)) 801 7 (q + 2)) else some (upM (upM N2 801 9 kc) 801 7 (q + 1))) else some (upM (upM N2 801 9 kc) 801 7 (q + 1))) := by
          intro kc
          have r272 : f_X12_nextToken_J272 nB b (upM (upM N2 801 9 kc) 801 7 (q + 1)) = (if q + 1 < l ∧ N2 805 (q + 1) = 61 then some (upM (upM (upM (upM N2 801 9 kc) 801 7 (q + 1)) 801 9 (if b = 60 then 4 else 5)) 801 7 (q + 2)) else some (upM (upM N2 801 9 kc) 801 7 (q + 1))) := by
            have tp3 : pTp M2 (upM (upM N2 801 9 kc) 801 7 (q + 1)) l := ⟨tp.1, by rw [up_nei (by decide), up_nei (by decide)]; exact tp.2.1, tp.2.2.1, tp.2.2.2.1, fun i i0 i1 => by rw [up_nex (by decide), up_nex (by decide)]; exact tp.2.2.2.2 i i0 i1⟩
            unfold f_X12_nextToken_J272
            rw [up_eq, p_byteAt tp3 tN_rfl (by omega), Option.bind_some, up_nex (by decide), up_nex (by decide)]
            by_cases y : q + 1 < l ∧ N2 805 (q + 1) = 61
            · rw [if_pos y, if_pos y.1, if_neg (fun z => z y.2)]
              by_cases y2 : b = 60
              · rw [if_neg (fun z => z y2), if_pos y2, p_lt, p_lt, up_nei (by decide), up_eq, p_wI (by omega) (by omega), show q + 1 + 1 = q + 2 by omega]
              · rw [if_pos y2, if_neg y2, p_lt, p_lt, up_nei (by decide), up_eq, p_wI (by omega) (by omega), show q + 1 + 1 = q + 2 by omega]
            · rw [if_neg y]
              by_cases y1 : q + 1 < l
              · rw [if_pos y1, if_pos (fun z => y ⟨y1, z⟩)]
              · rw [if_neg y1, if_pos (by decide)]
          unfold f_X12_nextToken_J247
          rw [p_lt, p_lt, up_nei (by decide), n7, p_wI (by omega) (by omega), r272]
          by_cases y : b = 60
          · rw [if_pos y, if_pos (Or.inl y)]
          · rw [if_neg y]
            by_cases y2 : b = 62
            · rw [if_neg (fun z => z y2), if_pos (Or.inr y2)]
            · rw [if_pos y2, if_neg (fun z => z.elim y y2)]
        have ref2 : (if f_X12_isSign b = 0 then f_X12_nextToken_J247 nB b 3 N2 else f_X12_nextToken_J247 nB b b N2) = f_X12_nextToken_J247 nB b (if f_X12_isSign b = 0 then 3 else b) N2 := by
          by_cases y : f_X12_isSign b = 0
          · rw [if_pos y, if_pos y]
          · rw [if_neg y, if_neg y]
        rw [ref2, ref]
        unfold f_X4_signAt
        rw [p_ck (by omega), tp.1, p_wI (x := q + 1) (by omega) (by omega), b1, v1']
        have plain : ¬ (b = 60 ∨ b = 62) ∨ ¬ (q + 1 < l ∧ N2 805 (q + 1) = 61) → ∃ M' N', (lt (upM M2 703 6 v) fun M15 => if (M15 703 6) = 1 then (lt (upM M15 703 5 (wI ((M15 703 5) + 2))) fun M17 => some M17) else (if (M15 703 6) ≠ 2 then (lt (upM M15 703 5 (wI ((M15 703 5) + 1))) fun M19 => some M19) else (lt (upM M15 703 5 (wI ((M15 703 5) + 2))) fun M20 => some M20))) = some M' ∧ some (upM (upM N2 801 9 (if f_X12_isSign b = 0 then 3 else b)) 801 7 (q + 1)) = some N' ∧ kM M0 M' ∧ kN N0 N' ∧ pTok M' N' l ∧ N0 801 7 ≤ N' 801 8 := by
          intro _
          rcases v2 with ⟨w1, w2⟩ | ⟨w1, w2⟩
          · rcases p_isSg b with ⟨u1, u2⟩ | ⟨u1, u2⟩
            · rw [u2, if_neg (by decide)]
              have w1' := w1
              unfold isSg at w1'
              exact one v b (by omega) (by omega) (Or.inl ⟨w1, w2⟩)
            · exact absurd w1 u1
          · rcases p_isSg b with ⟨u1, u2⟩ | ⟨u1, u2⟩
            · exact absurd u1 w1
            · rw [u2, if_pos rfl]
              exact one v 3 (by omega) (by omega) (Or.inr ⟨rfl, w2⟩)
        by_cases y : q + 1 < l
        · obtain ⟨t1, t2, t3⟩ := tp.2.2.2.2 (q + 1) (by omega) y
          rw [if_neg (show ¬ l ≤ q + 1 by omega), p_ck (by omega), t1]
          by_cases y2 : N2 805 (q + 1) = 61
          · rw [if_neg (show ¬ N2 805 (q + 1) ≠ 61 from fun z => z y2)]
            by_cases y3 : b = 60
            · rw [if_neg (show ¬ b ≠ 60 from fun z => z y3), if_pos (show b = 60 ∨ b = 62 from Or.inl y3), if_pos (show q + 1 < l ∧ N2 805 (q + 1) = 61 from ⟨y, y2⟩), if_pos y3, Option.bind_some]
              have sg : f_X12_isSign b = 1 := by rw [y3]; decide
              rw [sg, if_neg (by decide)]
              exact two 1 4 (Or.inl ⟨rfl, rfl⟩) y
            · rw [if_pos (show b ≠ 60 from y3)]
              by_cases y4 : b = 62
              · rw [if_neg (show ¬ b ≠ 62 from fun z => z y4), if_pos (show b = 60 ∨ b = 62 from Or.inr y4), if_pos (show q + 1 < l ∧ N2 805 (q + 1) = 61 from ⟨y, y2⟩), if_neg y3, Option.bind_some]
                have sg : f_X12_isSign b = 1 := by rw [y4]; decide
                rw [sg, if_neg (by decide)]
                exact two 2 5 (Or.inr ⟨rfl, rfl⟩) y
              · rw [if_pos (show b ≠ 62 from y4), if_neg (show ¬ (b = 60 ∨ b = 62) from fun z => z.elim y3 y4), Option.bind_some]
                exact plain (Or.inl (fun z => z.elim y3 y4))
          · rw [if_pos (show N2 805 (q + 1) ≠ 61 from y2), if_neg (show ¬ (q + 1 < l ∧ N2 805 (q + 1) = 61) from fun z => y2 z.2), ite_self, Option.bind_some]
            exact plain (Or.inr (fun z => y2 z.2))
        · rw [if_pos (show l ≤ q + 1 by omega), if_neg (show ¬ (q + 1 < l ∧ N2 805 (q + 1) = 61) from fun z => y z.1), ite_self, Option.bind_some]
          exact plain (Or.inr (fun z => y z.1))
      · -- a number
        rw [if_neg di, if_neg di, p_lt, p_lt, p_lt]
        have dg : 48 ≤ b ∧ b ≤ 57 := by
          rw [p_dig1] at di
          by_cases z : 48 ≤ b ∧ b ≤ 57
          · exact z
          · rw [if_neg z] at di; exact absurd rfl di
        have tp3 : pTp (upM M2 703 6 3) (upM (upM N2 801 9 1) 801 10 0) l := ⟨by rw [up_nei (by decide)]; exact tp.1, by rw [up_nei (by decide), up_nei (by decide)]; exact tp.2.1, tp.2.2.1, tp.2.2.2.1, fun i i0 i1 => by rw [up_nex (by decide), up_nex (by decide), up_nex (by decide)]; exact tp.2.2.2.2 i i0 i1⟩
        obtain ⟨r, M', N', g1, g2, g3, g4, g5, g6, g7, g8, g9, g10, g11⟩ := l_figs tp3 310 nA nB q (upM M2 703 6 3) (upM (upM N2 801 9 1) 801 10 0) (by omega) (by omega) (by omega) q0 (by omega) tM_rfl tN_rfl (by rw [up_nei (by decide)]; exact e5) (by rw [up_nei (by decide), up_nei (by decide)]; exact n7) (by rw [up_eq]; decide) (by rw [up_eq]; decide) (by rw [up_nei (by decide), up_eq]; exact e8)
        rw [g1, g2, Option.bind_some, Option.bind_some]
        rw [up_nex (by decide), up_nex (by decide), hb] at g11
        refine ⟨M', N', rfl, rfl, fin M' N' r (fun x j z => by rw [g3 _ _ (by omega), up_ne (by omega)]) (fun x j z => by rw [g4 _ _ (by omega), up_ne (by omega), up_ne (by omega)]) g5 g6 (g11 c dg) g8 ?_⟩
        have t6 : M' 703 6 = 3 := by rw [g3 _ _ (by omega), up_eq]
        have t9 : N' 801 9 = 1 := by rw [g4 _ _ (by omega), up_nei (by decide), up_eq]
        rw [t6, t9]
        exact Or.inr (Or.inl ⟨rfl, rfl, g9, g10⟩)
    · -- a word
      have nd : f_X4_isDigit b = 0 := by
        rw [p_let1] at le
        rw [p_dig1, if_neg]
        intro z
        rw [if_neg (by omega)] at le
        exact le rfl
      rw [if_neg le, if_neg le, if_pos nd, p_lt, p_lt]
      obtain ⟨a, ha⟩ : ∃ a : Nat, q = ((a + 0 : Nat) : Int) := ⟨q.toNat, by omega⟩
      have tp3 : pTp M2 (upM (upM N2 801 9 2) 801 11 0) l := ⟨tp.1, by rw [up_nei (by decide), up_nei (by decide)]; exact tp.2.1, tp.2.2.1, tp.2.2.2.1, fun i i0 i1 => by rw [up_nex (by decide), up_nex (by decide)]; exact tp.2.2.2.2 i i0 i1⟩
      obtain ⟨e, M', N', g1, g2, g3, g4, g5, g6, g7, g8, g9, g10, g11⟩ := l_lets tp3 (a := a) 310 nA nB 0 M2 (upM (upM N2 801 9 2) 801 11 0) (by omega) (by omega) (by omega) (by omega) tM_rfl tN_rfl (by rw [← ha]; exact e5) (by rw [up_nei (by decide), up_nei (by decide), ← ha]; exact n7) (by rw [up_eq]; rfl) (fun t ht => by omega)
      rw [g1, g2, Option.bind_some, Option.bind_some]
      rw [up_nex (by decide), up_nex (by decide), ← ha, hb] at g11
      have epos := g11 c le
      unfold f_X4_advance_J138 f_X4_wordBetween
      rw [g3 703 7 (by omega), e7, g5, show q = ((a : Nat) : Int) by omega]
      obtain ⟨v, v1, v2⟩ := l_word (M := M') (B := bN (upM (upM N2 801 9 2) 801 11 0)) (p := a) (L := e) (fun t ht => by
        have bt := tp3.2.2.2.2 ((a + t : Nat) : Int) (by omega) (by omega)
        rw [g3 704 _ (by omega), bt.1]
        exact bN_eq tp3 (by omega)) (by omega) 140 nA 0 0 1 (by omega) (by omega) (Or.inl ⟨by omega, by omega⟩) (Or.inl ⟨rfl, fun t ht => by omega⟩)
      have v1' : f_X4_wordBetween_L13 nA (a : Int) ((a + e : Nat) : Int) 128 0 1 0 M' = some v := v1
      rw [v1', Option.bind_some, p_lt]
      refine ⟨_, N', rfl, rfl, fin _ N' ((a + e : Nat) : Int) (fun x j z => by rw [up_ne (by omega), g3 _ _ (by omega)]) (fun x j z => by rw [g4 _ _ (by omega), up_ne (by omega), up_ne (by omega)]) (by rw [up_nei (by decide)]; exact g5) g6 (by omega) g8 ?_⟩
      have t9 : N' 801 9 = 2 := by rw [g4 _ _ (by omega), up_nei (by decide), up_eq]
      rw [up_eq, t9, g9]
      refine Or.inr (Or.inr (Or.inl ⟨rfl, ?_⟩))
      have iw : ∀ k, k < 27 → (isW (bN (upM (upM N2 801 9 2) 801 11 0)) a e k ↔ wc (bN (upM (upM N2 801 9 2) 801 11 0)) a e = wCd k) := fun k hk => isW_wc hk (by omega) (fun j => bN_lt _ j) g10
      rcases v2 with ⟨k, k1, k2, k3⟩ | ⟨k1, k2⟩
      · exact Or.inl ⟨k, k1, k2, by rw [(iw k k1).mp k3]⟩
      · refine Or.inr ⟨k1, fun i hi z => k2 i (by omega) hi ((iw i hi).mpr ?_)⟩
        omega
  · rw [if_neg c, if_neg c, if_neg (by decide), p_lt, p_lt]
    refine ⟨_, _, rfl, rfl, fun x j z => by rw [up_ne (by omega)]; exact hM x j z, fun x j z => by rw [up_ne (by omega)]; exact hN x j z, ⟨?_, ?_, ?_, ?_, ?_, ?_, ?_, ?_, ?_⟩, ?_⟩
    · rw [up_nei (by decide), up_nei (by decide), e5, n7]
    · rw [up_nei (by decide), n7]; exact q0
    · rw [up_nei (by decide), n7]; exact a8
    · rw [up_nei (by decide), up_nei (by decide), e7, n8]
    · rw [up_nei (by decide), n8]; exact q0
    · rw [up_nei (by decide), n8]; exact a8
    · rw [up_eq, up_eq]; exact Or.inl ⟨rfl, rfl⟩
    · rw [up_nei (by decide), up_nei (by decide), n7, n8]; exact Int.le_refl _
    · rw [up_eq]; exact fun z => absurd rfl z
    · rw [up_nei (by decide), n8]; exact a7
end Tok
