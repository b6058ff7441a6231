set_option linter.unusedVariables false
set_option linter.unusedSimpArgs false
/-! the reference's voyage -/
def pFV (N N2 : Mem) : Prop := (∀ x, x ≠ 801 → x ≠ 807 → x ≠ 808 → x ≠ 813 → x ≠ 814 → x ≠ 815 → ∀ j, N2 x j = N x j) ∧ (∀ j, ¬ (21 ≤ j ∧ j ≤ 24) → N2 801 j = N 801 j)
theorem pFV_rfl {N : Mem} : pFV N N := ⟨fun _ _ _ _ _ _ _ _ => rfl, fun _ _ => rfl⟩
theorem pFV_trans {N N1 N2 : Mem} (a : pFV N N1) (b : pFV N1 N2) : pFV N N2 := ⟨fun x h1 h2 h3 h4 h5 h6 j => (b.1 x h1 h2 h3 h4 h5 h6 j).trans (a.1 x h1 h2 h3 h4 h5 h6 j), fun j hj => (b.2 j hj).trans (a.2 j hj)⟩
theorem pFV_of {N N1 : Mem} (a : pFN N N1) : pFV N N1 := ⟨fun x h1 h2 h3 _ _ _ j => a.1 x h1 h2 h3 j, a.2⟩
theorem pFV_up {N : Mem} {x i v : Int} (h : x = 813 ∨ x = 814 ∨ x = 815) : pFV N (upM N x i v) := ⟨fun y h1 h2 h3 h4 h5 h6 j => up_nex (by omega), fun j _ => up_nex (by omega)⟩
/-- what is taken at an hour to come: one answer -/
theorem l_takesV {M N : Mem} {t w hh : Int} (hL : pLaw M N) (hs : pSt M N 762) (ht : 0 ≤ t ∧ t < N 802 0) (hh0 : 0 ≤ hh ∧ hh ≤ 10100) (hwt : 0 ≤ w ∧ w ≤ 198) :
    ∃ v, (0 ≤ v ∧ v ≤ 9999) ∧ (∀ (n : Nat) (M2 : Mem), 400 ≤ n → pLaw M2 N → pSt M2 N 762 → M2 762 11 = hh → ∃ M3, f_X2_takes n 762 t w M2 = some (v, M3) ∧ pFM M2 M3) ∧ (∀ (n : Nat) (N2 : Mem), 400 ≤ n → (∀ j, N2 802 j = N 802 j) → (∀ j, N2 804 j = N 804 j) → ∃ N3, f_X12_takesOf n t hh w N2 = some (v, N3) ∧ pFN N2 N3) := by
  have hM : ∀ x, x ≠ 762 → ∀ j, upM M 762 11 hh x j = M x j := fun x hx j => up_nex hx
  have hL1 : pLaw (upM M 762 11 hh) N := pLaw_same hL (hM 0 (by decide) 0) (fun x hx => hM x (by omega)) rfl (fun _ => rfl)
  have hs1 : pSt (upM M 762 11 hh) N 762 := by
    obtain ⟨u1, u2⟩ := hs
    refine ⟨by rw [up_nei (by decide)]; exact u1, fun i i0 i1 => ?_⟩
    rw [hM (762 + 1) (by decide), hM (762 + 2) (by decide), hM (762 + 3) (by decide), hM (762 + 4) (by decide), hM (762 + 5) (by decide)]
    exact u2 i i0 i1
  obtain ⟨v, M', N', a1, a2, a3, a3', a4⟩ := s_takes (s := 762) (st := t) (w := w) (hh := hh) (n1 := 400) (n2 := 400) hL1 hs1 ht up_eq hh0 hwt (by omega) (Nat.le_refl _) (Nat.le_refl _)
  refine ⟨v, ⟨a3, a3'⟩, fun n M2 hn l2 s2 e2 => ?_, fun n N2 hn e2 e4 => ?_⟩
  · obtain ⟨v2, M3, N3, b1, b2, b3, b3', b4⟩ := s_takes (s := 762) (st := t) (w := w) (hh := hh) (n1 := n) (n2 := 400) l2 s2 ht e2 hh0 hwt (by omega) hn (Nat.le_refl _)
    rw [a2] at b2
    have : v = v2 := by injection b2 with z; injection z
    subst this
    exact ⟨M3, b1, b4.1⟩
  · obtain ⟨v2, M3, N3, b1, b2, b3, b3', b4⟩ := s_takes (s := 762) (st := t) (w := w) (hh := hh) (n1 := 400) (n2 := n) (pLaw_same hL1 rfl (fun _ _ _ => rfl) (e2 3) e4) (pSt_same hs1 (fun _ _ _ _ => rfl) e2) (by rw [e2]; exact ht) up_eq hh0 hwt (by omega) (Nat.le_refl _) hn
    rw [a1] at b1
    have : v = v2 := by injection b1 with z; injection z
    subst this
    exact ⟨N3, b2, b4.2⟩
/-- the tolls by riser and hour -/
def pToll (N : Mem) (w fr R : Int) (F : Int → Int) : Prop := ∀ q, (0 ≤ q ∧ q < 48 * R) → (0 ≤ F q ∧ F q ≤ 9999) ∧ (∀ (n : Nat) (M2 : Mem), 400 ≤ n → pLaw M2 N → pSt M2 N 762 → M2 762 11 = N 802 8 + q % 48 → ∃ M3, f_X2_takes n 762 (fr + q / 48) w M2 = some (F q, M3) ∧ pFM M2 M3) ∧ (∀ (n : Nat) (N2 : Mem), 400 ≤ n → (∀ j, N2 802 j = N 802 j) → (∀ j, N2 804 j = N 804 j) → ∃ N3, f_X12_takesOf n (fr + q / 48) (N 802 8 + q % 48) w N2 = some (F q, N3) ∧ pFN N2 N3)
theorem l_pToll {M N : Mem} {w fr R : Int} (hL : pLaw M N) (hs : pSt M N 762) (h8 : 0 ≤ N 802 8 ∧ N 802 8 ≤ 9999) (f0 : 0 ≤ fr) (fR : fr + R < N 802 0) (hwt : 0 ≤ w ∧ w ≤ 198) : ∃ F, pToll N w fr R F :=
  p_choice (P := fun q => 0 ≤ q ∧ q < 48 * R) (fun q hq => l_takesV hL hs (by omega) (by omega) hwt)
section VoyN
variable {N0 : Mem} {w fr R : Int} {F : Int → Int}
theorem l_cost87 (hF : pToll N0 w fr R F) (h8 : 0 ≤ N0 802 8 ∧ N0 802 8 ≤ 9999) (f0 : 0 ≤ fr) (f9 : fr ≤ 9) (hR : R ≤ 8) {k : Int} (k0 : 0 ≤ k) (kR : k < R) (a b : Int) : ∀ (f n : Nat) (t : Int) (N : Mem), 48 - t < f → f + 400 ≤ n → 0 ≤ t → t ≤ 48 → pFV N0 N → (∀ q, 0 ≤ q → q < 48 * k + t → N 813 q = F q) →
    ∃ N', f_X12_voyage_L87 n w fr a b R k t N = some N' ∧ pFV N0 N' ∧ (∀ q, 0 ≤ q → q < 48 * k + 48 → N' 813 q = F q) := by
  intro f
  induction f with
  | zero => intro n t N g0; omega
  | succ f ih =>
    intro n t N g0 g1 t0 t1 fr0 hq
    obtain ⟨n, rfl⟩ : ∃ m, n = m + 1 := ⟨n - 1, by omega⟩
    rw [f_X12_voyage_L87]
    by_cases c : 48 ≤ t
    · rw [if_pos c]
      exact ⟨N, rfl, fr0, fun q q0 q1 => hq q q0 (by omega)⟩
    · have e2 : ∀ j, N 802 j = N0 802 j := fr0.1 802 (by decide) (by decide) (by decide) (by decide) (by decide) (by decide)
      obtain ⟨d1, d2, d3⟩ := hF (48 * k + t) ⟨by omega, by omega⟩
      rw [show (48 * k + t) / 48 = k by omega, show (48 * k + t) % 48 = t by omega] at d3
      obtain ⟨N1, b1, b2⟩ := d3 n N (by omega) e2 (fr0.1 804 (by decide) (by decide) (by decide) (by decide) (by decide) (by decide))
      rw [if_neg c, e2, p_wI (x := fr + k) (by omega) (by omega), p_wI (x := N0 802 8 + t) (by omega) (by omega), b1, Option.bind_some, p_wI (x := 48 * k) (by omega) (by omega), p_wI (x := 48 * k + t) (by omega) (by omega), p_ck (by omega), p_wI (x := t + 1) (by omega) (by omega)]
      simp only [p_lt]
      refine ih n (t + 1) _ (by omega) (by omega) (by omega) (by omega) (pFV_trans (pFV_trans fr0 (pFV_of b2)) (pFV_up (Or.inl rfl))) (fun q q0 q1 => ?_)
      by_cases e : q = 48 * k + t
      · rw [e, up_eq]
      · rw [up_nei e, b2.1 813 (by decide) (by decide) (by decide)]
        exact hq q q0 (by omega)
theorem l_cost77 (hF : pToll N0 w fr R F) (h8 : 0 ≤ N0 802 8 ∧ N0 802 8 ≤ 9999) (f0 : 0 ≤ fr) (f9 : fr ≤ 9) (hR : R ≤ 8) (a b : Int) : ∀ (f n : Nat) (k : Int) (N : Mem), R - k < f → f + 600 ≤ n → 0 ≤ k → k ≤ R → pFV N0 N → (∀ q, 0 ≤ q → q < 48 * k → N 813 q = F q) →
    ∃ N', f_X12_voyage_L77 n w fr a b R k N = some N' ∧ pFV N0 N' ∧ (∀ q, 0 ≤ q → q < 48 * R → N' 813 q = F q) := by
  intro f
  induction f with
  | zero => intro n k N g0; omega
  | succ f ih =>
    intro n k N g0 g1 k0 k1 fr0 hq
    obtain ⟨n, rfl⟩ : ∃ m, n = m + 1 := ⟨n - 1, by omega⟩
    rw [f_X12_voyage_L77]
    by_cases c : R ≤ k
    · rw [if_pos c]
      exact ⟨N, rfl, fr0, fun q q0 q1 => hq q q0 (by omega)⟩
    · obtain ⟨N1, b1, b2, b3⟩ := l_cost87 hF h8 f0 f9 hR k0 (by omega) a b 60 n 0 N (by omega) (by omega) (by omega) (by omega) fr0 (fun q q0 q1 => hq q q0 (by omega))
      rw [if_neg c, b1, Option.bind_some, p_wI (x := k + 1) (by omega) (by omega)]
      exact ih n (k + 1) N1 (by omega) (by omega) (by omega) (by omega) b2 (fun q q0 q1 => b3 q q0 (by omega))
/-- the last row -/
theorem l_least2 {H : Int} (hR1 : 1 ≤ R) (hR : R ≤ 8) (hH1 : 1 ≤ H) (hH : H ≤ 48) : ∀ (f n : Nat) (t : Int) (N : Mem), 49 - t < f → f ≤ n → 0 ≤ t → t ≤ 49 →
    ∃ N', f_X12_leastBy_L2 n R H t N = some N' ∧ (∀ x, x ≠ 814 → ∀ j, N' x j = N x j) ∧ (∀ j, ¬ (49 * (R - 1) + t ≤ j ∧ j < 49 * (R - 1) + 49) → N' 814 j = N 814 j) ∧ (∀ u, t ≤ u → u < 49 → N' 814 (49 * (R - 1) + u) = if u < H then N 813 (48 * (R - 1) + (H - 1)) else 100000000) := by
  intro f
  induction f with
  | zero => intro n t N g0; omega
  | succ f ih =>
    intro n t N g0 g1 t0 t1
    obtain ⟨n, rfl⟩ : ∃ m, n = m + 1 := ⟨n - 1, by omega⟩
    rw [f_X12_leastBy_L2]
    by_cases c : 49 ≤ t
    · rw [if_pos c]
      exact ⟨N, rfl, fun _ _ _ => rfl, fun _ _ => rfl, fun u u0 u1 => by omega⟩
    · rw [if_neg c, p_wI (x := R - 1) (by omega) (by omega), p_wI (x := 49 * (R - 1)) (by omega) (by omega), p_wI (x := 49 * (R - 1) + t) (by omega) (by omega), p_wI (x := 48 * (R - 1)) (by omega) (by omega), p_wI (x := 48 * (R - 1) + H) (by omega) (by omega), p_wI (x := 48 * (R - 1) + H - 1) (by omega) (by omega), p_wI (x := t + 1) (by omega) (by omega), show 48 * (R - 1) + H - 1 = 48 * (R - 1) + (H - 1) by omega]
      have fin : ∀ v, v = (if t < H then N 813 (48 * (R - 1) + (H - 1)) else 100000000) → ∃ N', f_X12_leastBy_L2 n R H (t + 1) (upM N 814 (49 * (R - 1) + t) v) = some N' ∧ (∀ x, x ≠ 814 → ∀ j, N' x j = N x j) ∧ (∀ j, ¬ (49 * (R - 1) + t ≤ j ∧ j < 49 * (R - 1) + 49) → N' 814 j = N 814 j) ∧ (∀ u, t ≤ u → u < 49 → N' 814 (49 * (R - 1) + u) = if u < H then N 813 (48 * (R - 1) + (H - 1)) else 100000000) := by
        intro v hv
        obtain ⟨N', a1, a2, a3, a4⟩ := ih n (t + 1) (upM N 814 (49 * (R - 1) + t) v) (by omega) (by omega) (by omega) (by omega)
        refine ⟨N', a1, fun x hx j => by rw [a2 x hx, up_nex hx], fun j hj => by rw [a3 j (by omega), up_nei (by omega)], fun u u0 u1 => ?_⟩
        by_cases e : u = t
        · rw [e, a3 _ (by omega), up_eq, hv]
        · rw [a4 u (by omega) u1, up_nex (by decide)]
      by_cases d : H ≤ t
      · rw [if_pos d, p_ck (by omega)]
        simp only [p_lt]
        exact fin _ (by rw [if_neg (by omega)])
      · rw [if_neg d, p_ck (by omega), p_ck (by omega)]
        simp only [p_lt]
        exact fin _ (by rw [if_pos (by omega)])
/-- one row, from the next one -/
theorem l_least80 (hR : R ≤ 8) {k : Int} (k0 : 0 ≤ k) (kR : k + 1 < R) : ∀ (f n : Nat) (t : Int) (N : Mem), t + 1 < f → f ≤ n → -1 ≤ t → t ≤ 47 → (∀ u, 0 ≤ u → u < 48 → 0 ≤ N 813 (48 * k + u) ∧ N 813 (48 * k + u) ≤ 9999) → (∀ u, 0 ≤ u → u ≤ 48 → 0 ≤ N 814 (49 * (k + 1) + u) ∧ N 814 (49 * (k + 1) + u) ≤ 100000000) → (0 ≤ N 814 (49 * k + (t + 1)) ∧ N 814 (49 * k + (t + 1)) ≤ 100000000) →
    ∃ N', f_X12_leastBy_L80 n k t N = some N' ∧ (∀ x, x ≠ 814 → ∀ j, N' x j = N x j) ∧ (∀ j, ¬ (49 * k ≤ j ∧ j ≤ 49 * k + t) → N' 814 j = N 814 j) ∧ (∀ u, 0 ≤ u → u ≤ t → N' 814 (49 * k + u) = min (N 813 (48 * k + u) + N 814 (49 * (k + 1) + (u + 1))) (N' 814 (49 * k + (u + 1))) ∧ 0 ≤ N' 814 (49 * k + u) ∧ N' 814 (49 * k + u) ≤ 100000000) := by
  intro f
  induction f with
  | zero => intro n t N g0; omega
  | succ f ih =>
    intro n t N g0 g1 t0 t1 hc hn hr
    obtain ⟨n, rfl⟩ : ∃ m, n = m + 1 := ⟨n - 1, by omega⟩
    rw [f_X12_leastBy_L80]
    by_cases c : t < 0
    · rw [if_pos c]
      exact ⟨N, rfl, fun _ _ _ => rfl, fun _ _ => rfl, fun u u0 u1 => by omega⟩
    · have e1 : wI (t + (-1)) = t - 1 := by rw [p_wI (by omega) (by omega)]; omega
      have c1 := hc t (by omega) (by omega)
      have c2 := hn (t + 1) (by omega) (by omega)
      rw [if_neg c, p_wI (x := 48 * k) (by omega) (by omega), p_wI (x := 48 * k + t) (by omega) (by omega), p_ck (show 0 ≤ 48 * k + t ∧ 48 * k + t < 384 by omega), p_wI (x := k + 1) (by omega) (by omega), p_wI (x := 49 * (k + 1)) (by omega) (by omega), p_wI (x := 49 * (k + 1) + t) (by omega) (by omega), p_wI (x := 49 * (k + 1) + t + 1) (by omega) (by omega), p_ck (show 0 ≤ 49 * (k + 1) + t + 1 ∧ 49 * (k + 1) + t + 1 < 441 by omega),
        p_wI (x := 49 * k) (by omega) (by omega), p_wI (x := 49 * k + t) (by omega) (by omega), p_wI (x := 49 * k + t + 1) (by omega) (by omega), e1, show 49 * (k + 1) + t + 1 = 49 * (k + 1) + (t + 1) by omega, show 49 * k + t + 1 = 49 * k + (t + 1) by omega, p_wI (x := N 813 (48 * k + t) + N 814 (49 * (k + 1) + (t + 1))) (by omega) (by omega)]
      simp only [p_lt]
      rw [p_ck (show 0 ≤ 49 * k + (t + 1) ∧ 49 * k + (t + 1) < 441 by omega)]
      have fin : ∀ v, v = min (N 813 (48 * k + t) + N 814 (49 * (k + 1) + (t + 1))) (N 814 (49 * k + (t + 1))) → ∃ N', f_X12_leastBy_L80 n k (t - 1) (upM N 814 (49 * k + t) v) = some N' ∧ (∀ x, x ≠ 814 → ∀ j, N' x j = N x j) ∧ (∀ j, ¬ (49 * k ≤ j ∧ j ≤ 49 * k + t) → N' 814 j = N 814 j) ∧ (∀ u, 0 ≤ u → u ≤ t → N' 814 (49 * k + u) = min (N 813 (48 * k + u) + N 814 (49 * (k + 1) + (u + 1))) (N' 814 (49 * k + (u + 1))) ∧ 0 ≤ N' 814 (49 * k + u) ∧ N' 814 (49 * k + u) ≤ 100000000) := by
        intro v hv
        obtain ⟨N', a1, a2, a3, a4⟩ := ih n (t - 1) (upM N 814 (49 * k + t) v) (by omega) (by omega) (by omega) (by omega) (fun u u0 u1 => by rw [up_nex (by decide)]; exact hc u u0 u1) (fun u u0 u1 => by rw [up_nei (by omega)]; exact hn u u0 u1) (by rw [show t - 1 + 1 = t by omega, up_eq, hv]; omega)
        refine ⟨N', a1, fun x hx j => by rw [a2 x hx, up_nex hx], fun j hj => by rw [a3 j (by omega), up_nei (by omega)], fun u u0 u1 => ?_⟩
        by_cases e : u = t
        · rw [e, a3 _ (by omega), up_eq, a3 _ (by omega), up_nei (by omega), hv]
          omega
        · have := a4 u u0 (by omega)
          rw [up_nex (by decide), up_nei (by omega)] at this
          exact this
      by_cases d : N 814 (49 * k + (t + 1)) ≤ N 813 (48 * k + t) + N 814 (49 * (k + 1) + (t + 1))
      · rw [if_pos d, p_ck (by omega)]
        exact fin _ (by omega)
      · rw [if_neg d, p_ck (by omega)]
        exact fin _ (by omega)
theorem l_least57 (hR : R ≤ 8) : ∀ (f n : Nat) (k : Int) (N : Mem), k + 1 < f → f + 60 ≤ n → -1 ≤ k → k + 1 < R → (∀ q, 0 ≤ q → q < 48 * R → 0 ≤ N 813 q ∧ N 813 q ≤ 9999) → (∀ u, 0 ≤ u → u ≤ 48 → 0 ≤ N 814 (49 * (k + 1) + u) ∧ N 814 (49 * (k + 1) + u) ≤ 100000000) →
    ∃ N', f_X12_leastBy_L57 n k N = some N' ∧ (∀ x, x ≠ 814 → ∀ j, N' x j = N x j) ∧ (∀ j, 49 * k + 49 ≤ j → N' 814 j = N 814 j) ∧ (∀ i, 0 ≤ i → i ≤ k → N' 814 (49 * i + 48) = 100000000 ∧ ∀ u, 0 ≤ u → u < 48 → N' 814 (49 * i + u) = min (N 813 (48 * i + u) + N' 814 (49 * (i + 1) + (u + 1))) (N' 814 (49 * i + (u + 1)))) := by
  intro f
  induction f with
  | zero => intro n k N g0; omega
  | succ f ih =>
    intro n k N g0 g1 k0 k1 hc hn
    obtain ⟨n, rfl⟩ : ∃ m, n = m + 1 := ⟨n - 1, by omega⟩
    rw [f_X12_leastBy_L57]
    by_cases c : k < 0
    · rw [if_pos c]
      exact ⟨N, rfl, fun _ _ _ => rfl, fun _ _ => rfl, fun u u0 u1 => by omega⟩
    · have e1 : wI (k + (-1)) = k - 1 := by rw [p_wI (by omega) (by omega)]; omega
      rw [if_neg c, p_wI (x := 49 * k) (by omega) (by omega), p_wI (x := 49 * k + 48) (by omega) (by omega), p_ck (by omega), e1]
      simp only [p_lt]
      obtain ⟨N1, b1, b2, b3, b4⟩ := l_least80 hR (k := k) (by omega) k1 60 n 47 (upM N 814 (49 * k + 48) 100000000) (by omega) (by omega) (by omega) (by omega) (fun u u0 u1 => by rw [up_nex (by decide)]; exact hc _ (by omega) (by omega)) (fun u u0 u1 => by rw [up_nei (by omega)]; exact hn u u0 u1) (by rw [show (47 : Int) + 1 = 48 by decide, up_eq]; omega)
      have b48 : N1 814 (49 * k + 48) = 100000000 := by rw [b3 _ (by omega), up_eq]
      obtain ⟨N', a1, a2, a3, a4⟩ := ih n (k - 1) N1 (by omega) (by omega) (by omega) (by omega) (fun q q0 q1 => by rw [b2 813 (by decide), up_nex (by decide)]; exact hc q q0 q1) (fun u u0 u1 => by
        rw [show k - 1 + 1 = k by omega]
        by_cases e : u = 48
        · rw [e, b48]; omega
        · exact (b4 u u0 (by omega)).2)
      rw [b1, Option.bind_some]
      refine ⟨N', a1, fun x hx j => by rw [a2 x hx, b2 x hx, up_nex hx], fun j hj => by rw [a3 j (by omega), b3 j (by omega), up_nei (by omega)], fun i i0 i1 => ?_⟩
      by_cases e : i = k
      · subst e
        refine ⟨by rw [a3 _ (by omega)]; exact b48, fun u u0 u1 => ?_⟩
        have := (b4 u u0 (by omega)).1
        rw [up_nex (by decide), up_nei (by omega)] at this
        rw [a3 (49 * i + u) (by omega), a3 (49 * i + (u + 1)) (by omega), a3 (49 * (i + 1) + (u + 1)) (by omega), b3 (49 * (i + 1) + (u + 1)) (by omega), up_nei (by omega)]
        exact this
      · obtain ⟨y1, y2⟩ := a4 i i0 (by omega)
        refine ⟨y1, fun u u0 u1 => ?_⟩
        have := y2 u u0 u1
        rw [b2 813 (by decide), up_nex (by decide)] at this
        exact this
/-- the reference's table for H -/
theorem l_leastBy {H : Int} (hR1 : 1 ≤ R) (hR : R ≤ 8) (hH1 : 1 ≤ H) (hH : H ≤ 48) {N : Mem} (hc : ∀ q, 0 ≤ q → q < 48 * R → N 813 q = F q ∧ 0 ≤ F q ∧ F q ≤ 9999) {n : Nat} (hn : 200 ≤ n) :
    ∃ N', f_X12_leastBy n R H N = some (N' 814 0, N') ∧ (∀ x, x ≠ 814 → ∀ j, N' x j = N x j) ∧ vIsL (fun k t => F (48 * k + t)) R H (fun k t => N' 814 (49 * k + t)) := by
  obtain ⟨N1, a1, a2, a3, a4⟩ := l_least2 hR1 hR hH1 hH 60 n 0 N (by omega) (by omega) (by omega) (by omega)
  have z := hc (48 * (R - 1) + (H - 1)) (by omega) (by omega)
  obtain ⟨N2, b1, b2, b3, b4⟩ := l_least57 (R := R) hR 20 n (R - 2) N1 (by omega) (by omega) (by omega) (by omega) (fun q q0 q1 => by rw [a2 813 (by decide), (hc q q0 q1).1]; exact (hc q q0 q1).2) (fun u u0 u1 => by
    rw [show R - 2 + 1 = R - 1 by omega, a4 u u0 (by omega)]
    split <;> omega)
  unfold f_X12_leastBy
  rw [a1, Option.bind_some, p_wI (x := R - 2) (by omega) (by omega), b1, Option.bind_some]
  refine ⟨N2, rfl, fun x hx j => by rw [b2 x hx, a2 x hx], fun t t0 t1 => ?_, fun k k0 k1 => ?_⟩
  · show N2 814 (49 * (R - 1) + t) = _
    rw [b3 _ (by omega), a4 t t0 (by omega), z.1]
  · obtain ⟨c1, c2⟩ := b4 k k0 (by omega)
    refine ⟨c1, fun t t0 t1 => ?_⟩
    have := c2 t t0 t1
    rw [a2 813 (by decide), (hc (48 * k + t) (by omega) (by omega)).1] at this
    exact this
end VoyN
theorem vUniq {c : Int → Int → Int} {R H : Int} {L L' : Int → Int → Int} (h : vIsL c R H L) (h' : vIsL c R H L') : ∀ (j : Nat) (k : Int), R - 1 - k = j → 0 ≤ k → ∀ (i : Nat) (t : Int), 48 - t = i → 0 ≤ t → L k t = L' k t := by
  intro j
  induction j with
  | zero =>
    intro k hk k0 i t hi t0
    rw [show k = R - 1 by omega, h.1 t t0 (by omega), h'.1 t t0 (by omega)]
  | succ j ihj =>
    intro k hk k0 i
    obtain ⟨a1, a2⟩ := h.2 k k0 (by omega)
    obtain ⟨b1, b2⟩ := h'.2 k k0 (by omega)
    induction i with
    | zero => intro t hi t0; rw [show t = 48 by omega, a1, b1]
    | succ i ih =>
      intro t hi t0
      rw [a2 t t0 (by omega), b2 t t0 (by omega), ihj (k + 1) (by omega) (by omega) i (t + 1) (by omega) (by omega), ih (t + 1) (by omega) (by omega)]
