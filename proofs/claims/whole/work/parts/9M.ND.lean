set_option linter.unusedVariables false
set_option linter.unusedSimpArgs false
/-! text: products and sums, one after another -/
theorem qFail_onk {a c x p : Int} {M N M2 N2 M' : Mem} {kk : Nat} (h : qFail a c x M2 N2 M') (hr : ∀ n, 1000 ≤ n → f_X12_parsed_L20 (n + kk) a N = f_X12_parsed_L20 n a N2) (fM : fPM c M M2) (fN : fPN x p N N2) (h0 : 0 ≤ N 801 13) (h8 : N 801 8 + (kk : Int) ≤ N2 801 8) : qFail a c x M N M' := by
  obtain ⟨N', e, k, s1, s2, s3, s4, s5, s6, s7⟩ := h
  refine ⟨N', e, k + kk, fun n hn => ?_, s2, s3, s4, gPM_trans (gPM_of fM) s5, gPN_trans (gPN_of fN h0) s6, by omega⟩
  rw [show n + (k + kk) = (n + k) + kk by omega, hr (n + k) (by omega)]
  exact s1 n hn
def bt (t : Int) : Int := if t = 43 then 5 else if t = 45 then 6 else if t = 42 then 7 else if t = 47 then 8 else -1
theorem q_bt {M N : Mem} (kd : pKd M N) {o : Int} (h : bt (M 703 6) = o) (h0 : o ≠ -1) (n : Nat) : f_X12_betweenOf n N = some o := by
  have ka := kd_all kd
  have k43 := ka.2.2.2.1 43 (by unfold isSg; omega)
  have k45 := ka.2.2.2.1 45 (by unfold isSg; omega)
  have k42 := ka.2.2.2.1 42 (by unfold isSg; omega)
  have k47 := ka.2.2.2.1 47 (by unfold isSg; omega)
  unfold f_X12_betweenOf
  unfold bt at h
  simp only [ne_eq, k43, k45, k42, k47, ite_not]
  by_cases a : M 703 6 = 43
  · rw [if_pos a] at h ⊢; rw [h]
  · rw [if_neg a] at h ⊢
    by_cases b : M 703 6 = 45
    · rw [if_pos b] at h ⊢; rw [h]
    · rw [if_neg b] at h ⊢
      by_cases e : M 703 6 = 42
      · rw [if_pos e] at h ⊢; rw [h]
      · rw [if_neg e] at h ⊢
        by_cases g : M 703 6 = 47
        · rw [if_pos g] at h ⊢; rw [h]
        · rw [if_neg g] at h
          exact absurd h.symm h0
/-- does it join at the level -/
theorem l_joins {M : Mem} {L rk : Int} (hL : (L = 3 ∧ rk = 5) ∨ (L = 4 ∧ rk = 6)) : (f_X4_joinsAt L M = 1 ∧ f_X12_rank (bt (M 703 6)) = rk ∧ 5 ≤ bt (M 703 6) ∧ bt (M 703 6) ≤ 8 ∧ pOp (bt (M 703 6)) 0 = M 703 6 ∧ M 703 6 ≠ 4) ∨ (f_X4_joinsAt L M = 0 ∧ (nj (L + 1) (M 703 6) → nj L (M 703 6))) := by
  rcases hL with ⟨h1, h2⟩ | ⟨h1, h2⟩
  · subst h1 h2
    by_cases y : M 703 6 = 43 ∨ M 703 6 = 45
    · left
      unfold f_X4_joinsAt
      rcases y with y | y <;> rw [y] <;> decide
    · right
      unfold f_X4_joinsAt
      rw [if_neg (by decide), if_neg (by decide), if_pos rfl, if_neg (by omega), if_pos (by omega)]
      exact ⟨rfl, fun z => ⟨fun _ => z.1 (by decide), fun _ => by omega, fun w => by omega, fun w => by omega⟩⟩
  · subst h1 h2
    by_cases y : M 703 6 = 42 ∨ M 703 6 = 47
    · left
      unfold f_X4_joinsAt
      rcases y with y | y <;> rw [y] <;> decide
    · right
      unfold f_X4_joinsAt
      rw [if_neg (by decide), if_neg (by decide), if_neg (by decide), if_pos rfl, if_neg (by omega), if_pos (by omega)]
      exact ⟨rfl, fun z => ⟨fun _ => by omega, fun w => by omega, fun w => by omega, fun w => by omega⟩⟩
theorem l_loop {nA m : Nat} {L rk B s D a c x l : Int} (hc : pCx c x) (hL : (L = 3 ∧ rk = 5) ∨ (L = 4 ∧ rk = 6)) (hB : 0 ≤ B ∧ B ≤ 2) (hs : 0 ≤ s ∧ s ≤ 5) (R : okPart nA m (L + 1) (rk + 1) B (s + 1) D a c x l) {M N : Mem} {p d nn b f : Int} (hq : qPre a c x l p d nn b f M N) (hD : D ≤ d) (hp : p ≤ s + 3 * d) (hr : p = 0 ∨ f_X12_rank (N 806 (p - 1)) < rk) :
    ∀ (k n : Nat) (x3 : Int) (M1 : Mem), 300 - x3 < k → k + 710 ≤ n → 0 ≤ x3 → x3 ≤ 300 → x3 ≤ M1 703 7 → qPart a c x l p d (nn + 1) b f rk (B + 1) (L + 1) M N M1 →
    ∃ v M', f_X4_readPart_L37 n (f_rd nA m) L d x3 M1 = some (v, M') ∧ ((v = 1 ∧ qPart a c x l p d (nn + 1) b f rk (B + 1) L M N M') ∨ (v = 0 ∧ qFail a c x M N M')) := by
  intro k
  induction k with
  | zero => intro n x3 M1 g0 g1 g2 g3; omega
  | succ k ih =>
    intro n x3 M1 g0 g1 g2 g3 g4 hpart
    obtain ⟨n, rfl⟩ : ∃ n', n = n' + 1 := ⟨n - 1, by omega⟩
    have hq' := hq
    obtain ⟨q1, q2, q3, q4, q5, q6, q7, q8, q9⟩ := hq
    have g13 := q1.2.2.2.1.1.2.1
    have l300 := q1.1.2.2.2.1
    obtain ⟨N1, k1, w1, s1, s2, s3, s4, s5, s6, s7, s8, s9, s10, s11⟩ := hpart
    have tok := s2.2.1
    have ka := kd_all tok.2.2.2.2.2.2.1
    have e7 : M1 703 7 = N1 801 8 := tok.2.2.2.1
    have c1 := s2.2.2.2.1.1
    have c0 := q1.2.2.2.1.1
    rw [f_X4_readPart_L37]
    -- it goes no further
    have stop : nj L (M1 703 6) → ∃ v M', some ((1 : Int), M1) = some (v, M') ∧ ((v = 1 ∧ qPart a c x l p d (nn + 1) b f rk (B + 1) L M N M') ∨ (v = 0 ∧ qFail a c x M N M')) := fun z =>
      ⟨1, M1, rfl, Or.inl ⟨rfl, N1, k1, w1, s1, s2, s3, s4, s5, s6, s7, s8, s9, s10, z⟩⟩
    by_cases c3 : 300 ≤ x3
    · rw [if_pos c3]
      have z0 : N1 801 9 = 0 := by
        by_cases z : N1 801 9 = 0
        · exact z
        · have := tok.2.2.2.2.2.2.2.2 z
          have := tok.2.2.1
          omega
      have t4 := ka.2.1.mp z0
      exact stop (by rw [t4]; unfold nj; omega)
    · rw [if_neg c3]
      rcases l_joins (M := M1) hL with ⟨j1, j2, j3, j4, j5, j6⟩ | ⟨j1, j2⟩
      · rw [j1, if_neg (show ¬ (1 : Int) = 0 by decide)]
        obtain ⟨M2, N2, a1, a2, a3, a4, a5, a6, a7⟩ := l_between (nn := nn + 1) (o := bt (M1 703 6)) hc s2 s3.1 (by omega) s4 (by
          rcases hr with z | z
          · exact Or.inl z
          · rw [s8.2.2.1 _ (by omega)]; exact Or.inr z) s5 q9 s6 j2 (by omega) (by rw [s8.1 _ _ (by omega) (by decide) (by decide)]; exact q5) (by rw [s7 703 9 (by omega) (by have := hc.2.1; omega) (by have := hc.2.1; omega), s8.1 _ _ (by omega) (by decide) (by decide)]; exact q6) s9 (by have := s8.2.2.2.1; omega) (fun z => j6 (ka.2.1.mp z)) (nA := n) (by omega) (fun n hn => q_bt tok.2.2.2.2.2.2.1 rfl (by omega) n)
        rw [a1, Option.bind_some, p_wI (x := L + 1) (by omega) (by omega)]
        have e16 := a3.2.1
        obtain ⟨v, M3, r1, r2⟩ := R M2 N2 (p + 1) d (nn + 1) b f a3 hD (by omega) (Or.inr (by rw [show p + 1 - 1 = p by omega, a4, j2]; omega)) (Or.inr (noNot_of (by omega) (by omega) (by rw [e16, show p + 1 - 1 = p by omega, a4, j2]; omega)))
        rw [r1, Option.bind_some]
        have far : ∀ n, 1000 ≤ n → f_X12_parsed_L20 (n + (k1 + 1)) a N = f_X12_parsed_L20 n a N2 := fun n hn => by
          rw [show n + (k1 + 1) = (n + 1) + k1 by omega, s1 (n + 1) (by omega), a2 n hn]
        rcases r2 with ⟨v1, N3, k3, w3, u1, u2, u3, u4, u5, u6, u7, u8, u9, u10, u11⟩ | ⟨v0, u⟩
        · rw [if_pos (show (v, M3).1 ≠ 0 from by show v ≠ 0; omega)]
          have e4 : N3 806 p = bt (M1 703 6) := by rw [u8.2.2.1 p (by omega)]; exact a4
          have iso : isOp (N3 806 p) := by rw [e4]; unfold isOp; omega
          have cM : M3 0 1 = c := u2.2.2.1.1
          have c2 := a3.1.2.2.2.1.1
          have c5 := u2.2.2.2.1.1
          have d8 := u8.2.2.2.1
          have f2 := a3.2.2.2.2.2.2.2.1.2.2.2.2
          obtain ⟨M4, w_1, w_2, w_3, w_4, w_5, w_6⟩ := l_wait (n2 := nn + 1) (b2 := b) hc u2 (by omega) iso u9 (by omega) (by omega) q8.2.1 (by rw [e4]; exact Or.inr (Or.inr (Or.inr (Or.inr (Or.inl ⟨j3, j4, by omega, by omega, rfl⟩)))))
          rw [show pOp (N3 806 p) 0 = M1 703 6 by rw [e4]; exact j5] at w_1
          show ∃ v M', ck (isTx (M3 0 1)) ((f_X6_addCode (M3 0 1) (M1 703 6) 0 M3).bind fun q11 => f_X4_readPart_L37 n (f_rd nA m) L d (wI (x3 + 1)) q11) = some (v, M') ∧ _
          rw [cM, p_ck hc.1, w_1, Option.bind_some, p_wI (x := x3 + 1) (by omega) (by omega)]
          have t3 := u2.2.1.2.2.2.1
          refine ih n (x3 + 1) M4 (by omega) (by omega) (by omega) (by omega) (by rw [w_6]; omega) ⟨N3, k3 + (k1 + 1), w3 + 1, fun n hn => ?_, w_2, ⟨by omega, by omega⟩, fun j y0 y1 => ?_, ?_, u6, fPM_trans (fPM_trans (fPM_trans s7 a5) u7) w_3, fPN_trans (Int.le_refl _) (fPN_trans (Int.le_refl _) s8 a6) ⟨u8.1, u8.2.1, fun j hj => u8.2.2.1 j (by omega), u8.2.2.2.1, u8.2.2.2.2⟩, w_5, by omega, by rw [w_6]; exact u11⟩
          · rw [show n + (k3 + (k1 + 1)) = (n + k3) + (k1 + 1) by omega, far (n + k3) (by omega)]
            exact u1 n hn
          · by_cases z : j = p
            · subst z
              exact ⟨iso, by rw [e4, j2]; exact Int.le_refl _⟩
            · have := u4 j (by omega) y1
              exact ⟨this.1, by omega⟩
          · rw [opn_shift, e4, if_neg (by omega), u5, Int.zero_add]
        · rw [if_neg (show ¬ (v, M3).1 ≠ 0 from fun z => z v0)]
          exact ⟨0, M3, rfl, Or.inr ⟨rfl, qFail_onk u far (fPM_trans s7 a5) (fPN_trans (Int.le_refl _) s8 a6) g13 (by omega)⟩⟩
      · rw [j1, if_pos rfl]
        exact stop (j2 s11)
/-- a level of the two -/
theorem l_partA {nA m : Nat} {L rk B s D a c x l : Int} (hc : pCx c x) (hA : 1100 ≤ nA) (hL : (L = 3 ∧ rk = 5) ∨ (L = 4 ∧ rk = 6)) (hB : 0 ≤ B ∧ B ≤ 2) (hs : 0 ≤ s ∧ s ≤ 5) (R : okPart nA m (L + 1) (rk + 1) B (s + 1) D a c x l) : okPart nA (m + 1) L rk (B + 1) s D a c x l := by
  intro M N p d nn b f hq hD hp hr hnot
  have hq' := hq
  obtain ⟨q1, q2, q3, q4, q5, q6, q7, q8, q9⟩ := hq
  have t8 := q1.2.1.2.2.2.2.1
  show ∃ v M', b_X4_readPart nA (f_rd nA m) L d M = some (v, M') ∧ _
  unfold b_X4_readPart
  obtain ⟨v, M1, r1, r2⟩ := R M N p d nn b f hq' hD (by omega) (by
    rcases hr with z | z
    · exact Or.inl z
    · exact Or.inr (by omega)) hnot
  rw [if_pos (show L ≠ 2 by omega), if_pos (show L ≠ 5 by omega), p_wI (x := L + 1) (by omega) (by omega), r1, Option.bind_some]
  rcases r2 with ⟨v1, N1, k1, w1, s1, s2, s3, s4, s5, s6, s7, s8, s9, s10, s11⟩ | ⟨v0, u⟩
  · rw [if_pos (show (v, M1).1 ≠ 0 from by show v ≠ 0; omega)]
    have e7 : M1 703 7 = N1 801 8 := s2.2.1.2.2.2.1
    exact l_loop hc hL hB hs R hq' hD hp hr 310 nA 0 M1 (by omega) (by omega) (by omega) (by omega) (by omega) ⟨N1, k1, w1, s1, s2, ⟨s3.1, by omega⟩, fun j y0 y1 => ⟨(s4 j y0 y1).1, by have := (s4 j y0 y1).2; omega⟩, s5, s6, s7, s8, s9, s10, s11⟩
  · rw [if_neg (show ¬ (v, M1).1 ≠ 0 from fun z => z v0)]
    exact ⟨0, M1, rfl, Or.inr ⟨rfl, u⟩⟩
