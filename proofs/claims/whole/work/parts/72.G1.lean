set_option linter.unusedVariables false
set_option linter.unusedSimpArgs false
theorem pLv_of {M N : Mem} {H : Int} (h : pRel M N) (hH : 9999 ≤ H) : pLv M N 3 H := by
  have h1 := pR_num h
  have h2 := pR_step h
  have h3 := pR_ship h
  exact ⟨⟨h1.1, fun i i0 i1 => h2 i i0 i1⟩, ⟨h1.2.1, fun i i0 i1 => h3 i i0 i1⟩, by omega, h1.2.2.2.1, h1.2.2.2.2.1, h1.2.2.2.2.2.1, by omega⟩
/-- an hour of the live sea -/
theorem pRel_pass {M N : Mem} {k : Int} {nA nB : Nat} (h : pRel M N) (ha : pAge N k) (hk : k + 7 ≤ 280) (hh : N 802 8 < 9999) (hA : 600 ≤ nA) (hB : 600 ≤ nB) :
    ∃ (v : Int) (M' N' : Mem), f_X1_passOne nA 3 M = some (v, M') ∧ f_X12_pass nB N = some N' ∧ 0 ≤ v ∧ v ≤ 7 ∧ pRel M' N' ∧ pAge N' (k + 7) ∧ N' 802 8 = N 802 8 + 1 ∧ N' 802 0 = N 802 0 ∧ N' 802 1 = N 802 1 ∧ N' 802 2 = N 802 2 ∧ (0 ≤ N 801 29 → N 801 29 ≤ 1000000 → N' 801 29 = N 801 29 + v) := by
  have h1 := pR_num h
  have hc := (pR_ctl h).1
  have ch := pChain h.1.2.2.2.2.1 30
  have h28 : N 801 28 = 1 := h.2.2.2.2.2.2.2.1
  obtain ⟨v, M', N', a1, a2, a3, a4, a5, a6, a7, a8, a9, a10, a11, a12, a13, a14⟩ := s_pass (nA := nA) (nB := nB) (pLaw_of h) (pLv_of (H := 9999) h (by omega)) (by omega) (Or.inl ⟨rfl, h28, h.1.2.2.2.1⟩) (by omega) hh hA hB
  have hb : N' 801 28 = 1 ∧ N' 802 12 = N 802 12 + v ∧ pBook M' 3 (N' 802) (N' 802 12) := by
    rcases a8 with ⟨-, z⟩ | ⟨z, -⟩
    · exact z
    · omega
  obtain ⟨s1, s2, s3⟩ := a12
  have e0 : N' 802 0 = N 802 0 := s1 0 (by omega)
  have e1 : N' 802 1 = N 802 1 := s1 1 (by omega)
  have e4 : N' 802 4 = N 802 4 := s1 4 (by omega)
  obtain ⟨g1, g2, g3, g4, g5⟩ := ha
  have ag : pAge N' (k + 7) := by
    unfold pAge
    rw [e4, e0, e1, s1 (186 + 64 * (N 802 4 - 1)) (by omega), s1 (186 + 64 * (N 802 4 - 1) + 1) (by omega), s1 (186 + 64 * (N 802 4 - 1) + 6) (by omega)]
    omega
  obtain ⟨l1, l2, l3⟩ := a6
  have rel : pRel M' N' := by
    refine pRel_live h (fun x x0 x1 j => a9 x x0 (by omega) (by omega) (by omega) j) ?_ (fun x x0 x1 j => a10 x (by omega) (by omega) j) ⟨a11 4 (by omega) (by omega), a11 5 (by omega) (by omega), a11 6 (by omega) (by omega), a11 28 (by omega) (by omega)⟩ ⟨s1, s2, s3⟩ ?_ ?_ ?_ hb.2.2 (fun j j0 j1 b => ?_) (fun _ => ?_)
    · rw [a9 762 (by omega) (by omega) (by omega) (by omega), a9 762 (by omega) (by omega) (by omega) (by omega), a9 762 (by omega) (by omega) (by omega) (by omega)]
      exact h.2.2.1 762 (Or.inr (Or.inr (Or.inl rfl)))
    · exact ⟨l1.1.2, l2.1.2, l3.1.2, l3.2.1.2, l3.2.2.1.2, l3.2.2.2.1.2, ⟨by show 0 ≤ N' 802 12; omega, by show N' 802 12 ≤ 7 * N' 802 8; omega⟩,
        fun i i0 i1 => by have := l1.2 i i0 i1; exact ⟨this.2.1.2, this.2.2.1.2, this.2.2.2.1.2, this.2.2.2.2.2, this.1.2⟩,
        fun i i0 i1 => by have := l2.2 i i0 i1; exact ⟨this.2.1.2, this.2.2.1.2, this.2.2.2.2, this.1.2⟩⟩
    · exact ⟨l1.1.1, l2.1.1, l3.1.1, l3.2.1.1, l3.2.2.1.1, l3.2.2.2.1.1, fun i i0 i1 => by have := l1.2 i i0 i1; exact ⟨this.2.1.1, this.2.2.1.1, this.2.2.2.1.1, this.2.2.2.2.1⟩,
        fun i i0 i1 => by have := l2.2 i i0 i1; exact ⟨this.2.1.1, this.2.2.1.1, this.2.2.2.1⟩⟩
    · exact ⟨fun i i0 i1 => (l1.2 i i0 i1).1.1, fun i i0 i1 => (l2.2 i i0 i1).1.1⟩
    · have q := ch j j0 j1 (by omega)
      obtain ⟨b1, b2, b3⟩ := b
      refine ⟨b1, b2, fun i i0 i1 => ?_⟩
      rw [a13 _ (by omega) (fun t t0 t1 => by omega)]
      exact b3 i i0 i1
    · obtain ⟨q1, q2, q3, q4, q5⟩ := ag
      rw [e4] at q2 q3 q4 q5
      refine ⟨?_, ?_, ?_, ?_, fun i i0 i1 => ?_, fun i i0 i1 => ?_⟩
      · show N' 802 (186 + 64 * (N 802 4 - 1)) ≤ N' 802 0; omega
      · show N' 802 (186 + 64 * (N 802 4 - 1) + 1) ≤ N' 802 1; omega
      · show N' 802 (186 + 64 * (N 802 4 - 1) + 6) ≤ N' 802 12; omega
      · show N' 802 12 ≤ N' 802 (186 + 64 * (N 802 4 - 1) + 6) + 280; omega
      · change N' 802 (186 + 64 * (N 802 4 - 1)) ≤ i at i0
        change i < N' 802 0 at i1
        omega
      · change N' 802 (186 + 64 * (N 802 4 - 1) + 1) ≤ i at i0
        change i < N' 802 1 at i1
        omega
  exact ⟨v, M', N', a1, a2, a3, a4, rel, ag, a7, e0, e1, s1 2 (by omega), a5⟩
/-- hours, an act each: the class passes c, the reference p -/
theorem l_hours {c p P0 : Int} (hc : 0 ≤ c) (hp : c ≤ p) (hc2 : c ≤ 1000) :
    ∀ (k nA nB : Nat) (i sum : Int) (M N : Mem), c - i < k → k + 3000 ≤ nA → k + 3000 ≤ nB → 0 ≤ i → i ≤ c → 0 ≤ sum → sum ≤ 7 * i → pRel M N → (0 ≤ P0 → P0 ≤ 5000 → N 801 29 = P0 + sum) → N 802 8 + (c - i) ≤ 9999 → (c = p ∨ (c < p ∧ N 802 8 + (c - i) = 9999)) →
      ∃ (sum' : Int) (M' N' : Mem), f_X11_passHours_L4 nA c sum i M = some (sum', M') ∧ f_X12_arePassed_L2 nB p i N = some (if c = p then 1 else 0, N') ∧ pRel M' N' ∧ (0 ≤ P0 → P0 ≤ 5000 → N' 801 29 = P0 + sum') ∧ N' 802 2 = N 802 2 := by
  intro k
  induction k with
  | zero => intro nA nB i sum M N h0 h1 h2 h3 h4; omega
  | succ k ih =>
    intro nA nB i sum M N h0 h1 h2 i0 i1 s0 s1 R hP hh hcp
    obtain ⟨nA, rfl⟩ : ∃ m, nA = m + 1 := ⟨nA - 1, by omega⟩
    obtain ⟨nB, rfl⟩ : ∃ m, nB = m + 1 := ⟨nB - 1, by omega⟩
    rw [f_X11_passHours_L4, f_X12_arePassed_L2]
    by_cases e : c ≤ i
    · rw [if_pos e]
      by_cases f : c = p
      · rw [if_pos (by omega), if_pos f]
        exact ⟨sum, M, N, rfl, rfl, R, hP, rfl⟩
      · rw [if_neg (by omega), if_neg (fun z => z (by omega)), if_neg f]
        exact ⟨sum, M, N, rfl, rfl, R, hP, rfl⟩
    · obtain ⟨M1, N1, k1, k1', k3, k4, k5, k6, k7⟩ := s_keep (n := nB) R (by omega)
      have e8 : N1 802 8 = N 802 8 := k6 8 (by omega) (by omega)
      obtain ⟨v, M2, N2, a1, a2, a3, a4, a5, a6, a7, -, -, a9, a8⟩ := pRel_pass (nA := nA) (nB := nB) k3 k7 (by omega) (by omega) (by omega) (by omega)
      rw [if_neg e, if_neg (by omega), if_pos (by omega), k1, k1', Option.bind_some, Option.bind_some, a1, a2, Option.bind_some, Option.bind_some]
      dsimp only
      rw [p_wI (x := sum + v) (by omega) (by omega), p_wI (x := i + 1) (by omega) (by omega)]
      obtain ⟨sum', M', N', b1, b2, b3, b4, b5⟩ := ih nA nB (i + 1) (sum + v) M2 N2 (by omega) (by omega) (by omega) (by omega) (by omega) (by omega) (by omega) a5 (fun z0 z1 => by
        have z := hP z0 z1
        have := a8 (by rw [k5 801 (by decide)]; omega) (by rw [k5 801 (by decide)]; omega)
        rw [this, k5 801 (by decide), z]
        omega) (by omega) (by omega)
      exact ⟨sum', M', N', b1, b2, b3, b4, by rw [b5, a9, k6 2 (by omega) (by omega)]⟩
theorem s_hour {M N : Mem} {nA nB : Nat} {p : Int} (h : pRel M N) (hA : 5000 ≤ nA) (hB : 5000 ≤ nB) : pSim (f_X11_hour nA p M) (f_X12_hour nB p N) N := by
  have h1 := pR_num h
  unfold f_X11_hour f_X12_hour
  rw [p_isB, p_isIn]
  by_cases hp : 1 ≤ p ∧ p ≤ 60
  · rw [if_pos hp, if_neg (show ¬ (1 : Int) = 0 by decide), if_neg (show ¬ (1 : Int) = 0 by decide), h1.2.2.1.1, p_wI (x := N 802 8 + p) (by omega) (by omega)]
    by_cases e : N 802 8 + p ≤ 9999
    · rw [if_pos e, if_pos e]
      simp only [p_lt]
      have R0 : pRel M (upM N 801 29 0) := pRel_same h rfl (fun _ _ _ _ _ _ _ => rfl) (h.2.2.1 762 (Or.inr (Or.inr (Or.inl rfl)))) (fun x x0 x1 i => up_nex (by omega)) ⟨up_nei (by decide), up_nei (by decide), up_nei (by decide), up_nei (by decide)⟩
      obtain ⟨sum, M', N', a1, a2, a3, a4, -⟩ := l_hours (c := p) (p := p) (P0 := 0) (by omega) (by omega) (by omega) 70 nA nB 0 0 M (upM N 801 29 0) (by omega) (by omega) (by omega) (by omega) (by omega) (by omega) (by omega) R0 (fun _ _ => by rw [up_eq]; rfl) (by rw [up_nex (by decide)]; omega) (Or.inl rfl)
      unfold f_X11_passHours f_X12_arePassed
      rw [a1, a2, if_pos rfl, Option.bind_some, Option.bind_some, Option.bind_some]
      dsimp only
      rw [if_neg (by decide), a4 (by decide) (by decide)]
      exact ⟨sum, M', N', rfl, by rw [Int.zero_add], a3⟩
    · rw [if_neg e, if_neg e]
      exact ⟨-1, M, N, rfl, rfl, h⟩
  · rw [if_neg hp, if_pos rfl, if_pos rfl]
    exact ⟨-1, M, N, rfl, rfl, h⟩
