set_option linter.unusedVariables false
set_option linter.unusedSimpArgs false
theorem pSt_pm {M M' N : Mem} {s q st v : Int} (h : pSt M N s) (a : pPM M M' s q st v) : pSt M' N s := by
  obtain ⟨u1, u2⟩ := h
  obtain ⟨a1, a2, -⟩ := a
  refine ⟨by rw [a2 0 (by decide)]; exact u1, fun i i0 i1 => ?_⟩
  rw [a1 (s + 1) (by omega) (by omega) (by omega) (by omega), a1 (s + 2) (by omega) (by omega) (by omega) (by omega), a1 (s + 3) (by omega) (by omega) (by omega) (by omega), a1 (s + 4) (by omega) (by omega) (by omega) (by omega), a1 (s + 5) (by omega) (by omega) (by omega) (by omega)]
  exact u2 i i0 i1
theorem pLaw_pm {M M' N : Mem} {s q st v : Int} (h : pLaw M N) (hs : s = 3 ∨ s = 762) (a : pPM M M' s q st v) : pLaw M' N :=
  pLaw_same h (a.1 0 (by omega) (by omega) (by omega) (by omega) 0) (fun x hx => a.1 x (by omega) (by omega) (by omega) (by omega)) rfl (fun _ => rfl)
theorem pLaw_fr {M M' N N' : Mem} (h : pLaw M N) (f : pFr M M' N N') : pLaw M' N' :=
  pLaw_same h (f.1 0 (by decide) 0) (fun x hx => f.1 x (by omega)) (f.2.1 802 (by decide) (by decide) (by decide) 3) (f.2.1 804 (by decide) (by decide) (by decide))
theorem pSt_fr {M M' N N' : Mem} {s : Int} (h : pSt M N s) (hs : s = 3 ∨ s = 762) (f : pFr M M' N N') : pSt M' N' s :=
  pSt_same h (fun x _ _ => f.1 x (by omega)) (f.2.1 802 (by decide) (by decide) (by decide))
section Rope
variable {M N M0 N0 : Mem} {s H P0 W0 st q q4 dw uw : Int} {p n nr : Nat}
theorem l_dn (R : pRp M N s H P0 W0 p) (F : pFp M0 N0 M N s W0 p) (hL : pLaw M N) (hs : s = 3 ∨ s = 762) (hW : 0 ≤ W0 ∧ W0 ≤ 80000) (hH : H ≤ 10099) (hst : 0 ≤ st ∧ st + 1 < N 802 0) (hq : q = -1 ∨ ∃ j : Nat, q = j ∧ (j : Int) < N 802 1 ∧ p.testBit j = false ∧ N 802 (89 + 6 * (j : Int)) ≠ N 802 (90 + 6 * (j : Int))) (hdw : 0 ≤ dw ∧ dw ≤ 99) (hn : 400 ≤ n) (hnr : 400 ≤ nr) :
    ∃ (x : Nat) (v : Int) (M2 N1 : Mem), f_X1_useRope_J82 n s st q q4 dw uw M = f_X1_useRope_J128 n s st q4 dw uw (x : Int) M2 ∧ f_X12_rope_J70 nr st q q4 dw uw N = f_X12_rope_J95 nr st q q4 dw uw v N1 ∧ pFr M M N N1 ∧ pLaw M2 N1 ∧ pSt M2 N1 s ∧ M2 s 11 = N1 802 8 ∧ x < 128 ∧ (x = 0 ∨ ∃ j : Nat, q = j ∧ x = 2 ^ j)
      ∧ (∀ (N3 : Mem) (s0 w : Int), pFr M M N1 N3 → ∃ N4, (if q = -1 then f_X12_rope_J144 nr st q4 s0 w N3 else (f_X12_go q (wI (st + 1)) v N3).bind fun q20 => f_X12_rope_J144 nr st q4 s0 w q20) = f_X12_rope_J144 nr st q4 s0 w N4 ∧ pRp M2 N4 s H P0 W0 (p ||| x) ∧ pFp M0 N0 M2 N4 s W0 (p ||| x) ∧ (∀ i : Int, 0 ≤ i → i < 7 → i ≠ q → N4 802 (89 + 6 * i) = N 802 (89 + 6 * i) ∧ N4 802 (90 + 6 * i) = N 802 (90 + 6 * i))) := by
  have l := R.1
  have hr := l.2.2.1
  have n9 := l.1.1
  unfold f_X1_useRope_J82 f_X12_rope_J70
  rcases hq with hq | ⟨j, hj, hj1, hj2, hj3⟩
  · subst hq
    rw [if_pos rfl, if_neg (by decide)]
    refine ⟨0, 0, M, N, rfl, rfl, pFr_rfl, hL, l.1, hr.1, by omega, Or.inl rfl, fun N3 s0 w f => ⟨N3, if_pos rfl, ?_, ?_, fun i _ _ _ => ⟨f.2.1 802 (by decide) (by decide) (by decide) _, f.2.1 802 (by decide) (by decide) (by decide) _⟩⟩⟩
    · rw [Nat.or_zero]; exact pRp_fr R hs f
    · rw [Nat.or_zero]; exact pFp_fr F f
  · subst hj
    have n7 := l.2.1.1
    obtain ⟨v, M1, N1, k1, k2, k3, k4, k5⟩ := s_takes (s := s) (st := st) (w := dw) (hh := N 802 8) (n1 := n) (n2 := nr) hL l.1 (by omega) hr.1 (by omega) (by omega) (by omega) hn hnr
    have R1 := pRp_fr R hs k5
    have g := R1.1.2.1.2 j (by omega) (by rw [k5.2.1 802 (by decide) (by decide) (by decide)]; exact hj1)
    have h1 := R1.1.2.2
    have e8 : ∀ i, N1 802 i = N 802 i := k5.2.1 802 (by decide) (by decide) (by decide)
    have h11 := h1.1
    rw [e8] at h11
    obtain ⟨Ma, M2, m1, m2, m3⟩ := l_pm (M := M1) (s := s) (q := j) (st := st + 1) (v := v) (by omega) (by omega) k3 k4 (by omega) (by omega) (by omega) (by omega) (by omega) (by omega) h1.2.2.2.2.1 h1.2.2.2.2.2
    rw [if_neg (by omega), if_pos (by omega), k1, k2, Option.bind_some, Option.bind_some]
    dsimp only
    rw [m1, Option.bind_some, p_wI (x := st + 1) (by omega) (by omega), m2, Option.bind_some]
    have e0 : bOr 0 (bShl 1 j) = ((2 ^ j : Nat) : Int) := by
      have := p_orpow (s := 0) (i := j) (by omega) (by omega)
      rw [Nat.zero_or] at this
      exact this
    rw [e0]
    refine ⟨2 ^ j, v, M2, N1, rfl, rfl, ⟨fun _ _ _ => rfl, k5.2⟩, pLaw_pm (pLaw_fr hL k5) hs m3, pSt_pm (pSt_fr l.1 hs k5) m3, by rw [m3.2.1 11 (by decide)]; exact h1.1.1, Nat.lt_of_le_of_lt (Nat.pow_le_pow_right (by omega) (show j ≤ 6 by omega)) (by decide), Or.inr ⟨j, rfl, rfl⟩, fun N3 s0 w f => ?_⟩
    have R3 : pRp M1 N3 s H P0 W0 p := pRp_fr R1 hs ⟨fun _ _ _ => rfl, f.2⟩
    have F3 : pFp M0 N0 M1 N3 s W0 p := pFp_fr (pFp_fr F k5) ⟨fun _ _ _ => rfl, f.2⟩
    have e3 : ∀ i, N3 802 i = N1 802 i := f.2.1 802 (by decide) (by decide) (by decide)
    have g3 := R3.1.2.1.2 j (by omega) (by rw [e3, e8]; exact hj1)
    have h3 := R3.1.2.2
    have c7 := p_cnt7 R3.2.1
    have h38 := h3.1
    obtain ⟨N4, m4, m5⟩ := l_go (N := N3) (q := j) (st := st + 1) (v := v) (by omega) (by omega) k3 k4 (by omega) (by omega) (by omega) (by omega) (by omega) (by omega) (by rcases R3.2.2.2.2 with ⟨-, -, z, -⟩ | ⟨-, -, z⟩ <;> omega) (by rcases R3.2.2.2.2 with ⟨-, -, z, -⟩ | ⟨-, -, z⟩ <;> omega) (by rcases R3.2.2.2.2 with ⟨-, z, -⟩ | ⟨-, z, -⟩ <;> omega)
    rw [if_neg (by omega), m4, Option.bind_some]
    obtain ⟨r1, r2⟩ := pRp_mv R3 F3 hs hW.1 hH (by rw [e3, e8]; exact hj1) hj2 (by rw [e3, e3, e8, e8]; exact hj3) (by omega) (by rw [e3, e8]; omega) k3 k4 m3 m5
    exact ⟨N4, rfl, r1, r2, fun i i0 i1 i2 => ⟨by rw [m5.2.2.2.2.2.2.1 _ (by omega) (by omega) (by omega) (by omega), e3, e8], by rw [m5.2.2.2.2.2.2.1 _ (by omega) (by omega) (by omega) (by omega), e3, e8]⟩⟩
theorem l_up {N1 N4' : Mem} {v1 : Int} {x : Nat} (R : pRp M N4' s H P0 W0 (p ||| x)) (hL : pLaw M N1) (hS : pSt M N1 s) (h11 : M s 11 = N1 802 8) (e1 : N1 802 1 = N4' 802 1) (hs : s = 3 ∨ s = 762) (hW : 0 ≤ W0 ∧ W0 ≤ 80000) (hH : H ≤ 10099) (hst : 0 ≤ st ∧ st + 1 < N1 802 0) (hq : q4 = -1 ∨ ∃ j : Nat, q4 = j ∧ (j : Int) < N1 802 1 ∧ (p ||| x).testBit j = false) (hdw : 0 ≤ dw ∧ dw ≤ 99) (huw : 0 ≤ uw ∧ uw ≤ 99) (hx : x < 128) (hn : 400 ≤ n) (hnr : 400 ≤ nr) :
    ∃ (x' : Nat) (v : Int) (M2 N2 : Mem), f_X1_useRope_J128 n s st q4 dw uw (x : Int) M = f_X1_useRope_J169 n s st dw uw (x' : Int) M2 ∧ f_X12_rope_J95 nr st q q4 dw uw v1 N1 = f_X12_rope_J115 nr st q q4 dw uw v1 v N2 ∧ pFr M M N1 N2 ∧ pLaw M2 N2 ∧ pSt M2 N2 s ∧ M2 s 11 = N2 802 8 ∧ x' < 128
      ∧ (∀ (N4 : Mem) (w : Int), pRp M N4 s H P0 W0 (p ||| x) → pFp M0 N0 M N4 s W0 (p ||| x) → N4 802 1 = N1 802 1 → N4 802 0 = N1 802 0 → (∀ j : Nat, q4 = j → N4 802 (89 + 6 * (j : Int)) ≠ N4 802 (90 + 6 * (j : Int))) → ∃ N5, f_X12_rope_J144 nr st q4 v w N4 = f_X12_rope_J157 nr st w N5 ∧ pRp M2 N5 s H P0 W0 (p ||| x') ∧ pFp M0 N0 M2 N5 s W0 (p ||| x')) := by
  have l := R.1
  have hr := l.2.2.1
  have n9 := hS.1
  unfold f_X1_useRope_J128 f_X12_rope_J95 f_X12_rope_J144
  rcases hq with hq | ⟨j, hj, hj1, hj2⟩
  · subst hq
    rw [if_pos rfl, if_neg (by decide)]
    exact ⟨x, 0, M, N1, rfl, rfl, pFr_rfl, hL, hS, h11, hx, fun N4 w r f _ _ _ => ⟨N4, if_pos rfl, r, f⟩⟩
  · subst hj
    have n7 := l.2.1.1
    have n1' : M s 11 ≤ 10099 := by omega
    obtain ⟨v, M1, N2, k1, k2, k3, k4, k5⟩ := s_hauls (s := s) (st := st) (w := uw) (ot := dw) (hh := N1 802 8) (n1 := n) (n2 := nr) hL hS (by omega) h11 (by omega) rfl (by omega) (by omega) (by omega) hn hnr
    have R1 : pRp M1 N4' s H P0 W0 (p ||| x) := pRp_fr R hs ⟨k5.1, fun _ _ _ _ _ => rfl, fun _ _ => rfl⟩
    have g := R1.1.2.1.2 j (by omega) (by omega)
    have h1 := R1.1.2.2
    have e8 : ∀ i, N2 802 i = N1 802 i := k5.2.1 802 (by decide) (by decide) (by decide)
    have h18 := h1.1
    obtain ⟨Ma, M2, m1, m2, m3⟩ := l_pm (M := M1) (s := s) (q := j) (st := st) (v := v) (by omega) (by omega) k3 k4 (by omega) (by omega) (by omega) (by omega) (by omega) (by omega) h1.2.2.2.2.1 h1.2.2.2.2.2
    rw [if_neg (by omega), if_pos (by omega), k1, k2, Option.bind_some, Option.bind_some]
    dsimp only
    rw [m1, Option.bind_some, m2, Option.bind_some, p_orpow (by omega) (by omega)]
    have hx' : x ||| 2 ^ j < 128 := Nat.or_lt_two_pow (n := 7) hx (Nat.pow_lt_pow_right (by omega) (by omega))
    refine ⟨x ||| 2 ^ j, v, M2, N2, rfl, rfl, ⟨fun _ _ _ => rfl, k5.2⟩, pLaw_pm (pLaw_fr hL k5) hs m3, pSt_pm (pSt_fr hS hs k5) m3, by rw [m3.2.1 11 (by decide), k5.1 s (by omega), e8]; exact h11, hx', fun N4 w r f z1 z0 zg => ?_⟩
    have R3 : pRp M1 N4 s H P0 W0 (p ||| x) := pRp_fr r hs ⟨k5.1, fun _ _ _ _ _ => rfl, fun _ _ => rfl⟩
    have F3 : pFp M0 N0 M1 N4 s W0 (p ||| x) := pFp_fr f ⟨k5.1, fun _ _ _ _ _ => rfl, fun _ _ => rfl⟩
    have g3 := R3.1.2.1.2 j (by omega) (by omega)
    have h3 := R3.1.2.2
    have c7 := p_cnt7 R3.2.1
    have h38 := h3.1
    obtain ⟨N5, m4, m5⟩ := l_go (N := N4) (q := j) (st := st) (v := v) (by omega) (by omega) k3 k4 (by omega) (by omega) (by omega) (by omega) (by omega) (by omega) (by rcases R3.2.2.2.2 with ⟨-, -, z, -⟩ | ⟨-, -, z⟩ <;> omega) (by rcases R3.2.2.2.2 with ⟨-, -, z, -⟩ | ⟨-, -, z⟩ <;> omega) (by rcases R3.2.2.2.2 with ⟨-, z, -⟩ | ⟨-, z, -⟩ <;> omega)
    rw [if_neg (by omega), m4, Option.bind_some, ← Nat.or_assoc]
    obtain ⟨r1, r2⟩ := pRp_mv R3 F3 hs hW.1 hH (by omega) hj2 (zg j rfl) (by omega) (by omega) k3 k4 m3 m5
    exact ⟨N5, rfl, r1, r2⟩
/-- the rope wears -/
theorem pRp_worn {v : Int} (R : pRp M N s H P0 W0 p) (F : pFp M0 N0 M N s W0 p) (hs : s = 3 ∨ s = 762) (hst : 0 ≤ st ∧ st < N 802 0) (hv : 0 ≤ v ∧ v ≤ 100) : pRp (upM M (s + 5) st v) (upM N 802 (20 + 8 * st) v) s H P0 W0 p ∧ pFp M0 N0 (upM M (s + 5) st v) (upM N 802 (20 + 8 * st) v) s W0 p := by
  obtain ⟨⟨l1, l2, l3⟩, h2, h3, h4, h5⟩ := R
  have n9 := l1.1
  have n7 := l2.1
  have e : ∀ j, j ≠ 20 + 8 * st → upM N 802 (20 + 8 * st) v 802 j = N 802 j := fun j hj => up_nei hj
  have eM : ∀ x, x ≠ s + 5 → ∀ j, upM M (s + 5) st v x j = M x j := fun x hx j => up_nex hx
  refine ⟨⟨⟨⟨?_, fun i i0 i1 => ?_⟩, ⟨?_, fun i i0 i1 => ?_⟩, ?_, ?_, ?_, ?_, ?_⟩, h2, fun j hj => ?_, fun k0 k1 => ?_, ?_⟩, ?_⟩
  · rw [eM s (by omega), e 0 (by omega)]; exact l1.1
  · rw [e 0 (by omega)] at i1
    have g := l1.2 i i0 i1
    rw [eM (s + 1) (by omega), eM (s + 2) (by omega), eM (s + 3) (by omega), eM (s + 4) (by omega), e (16 + 8 * i) (by omega), e (17 + 8 * i) (by omega), e (18 + 8 * i) (by omega), e (19 + 8 * i) (by omega), up_if, up_at]
    refine ⟨g.1, g.2.1, g.2.2.1, g.2.2.2.1, ?_⟩
    by_cases c : i = st
    · rw [if_pos c, if_pos (by omega)]
      exact ⟨rfl, hv⟩
    · rw [if_neg c, if_neg (by omega)]
      exact g.2.2.2.2
  · rw [eM s (by omega), e 1 (by omega)]; exact l2.1
  · rw [e 1 (by omega)] at i1
    rw [eM (s + 6) (by omega), eM (s + 7) (by omega), eM (s + 8) (by omega), eM (s + 9) (by omega), e 0 (by omega), e (88 + 6 * i) (by omega), e (89 + 6 * i) (by omega), e (90 + 6 * i) (by omega), e (91 + 6 * i) (by omega)]
    exact l2.2 i i0 i1
  · rw [eM s (by omega), e 8 (by omega)]; exact l3.1
  · rw [eM s (by omega), e 9 (by omega)]; exact l3.2.1
  · rw [eM s (by omega), e 10 (by omega)]; exact l3.2.2.1
  · rw [eM s (by omega), e 11 (by omega)]; exact l3.2.2.2.1
  · rw [eM s (by omega)]; exact l3.2.2.2.2
  · rw [up_nex (by decide)]; exact h3 j hj
  · rw [up_nex (by decide)]; exact h4 k0 k1
  · rw [up_nex (by decide), e 12 (by omega)]
    rcases h5 with ⟨e1, e2, e3, e4⟩ | h5
    · refine Or.inl ⟨e1, e2, e3, ?_⟩
      obtain ⟨b1, b2, b3⟩ := e4
      refine ⟨by rw [eM 3 (by omega)]; exact b1, b2, fun i i0 i1 => ?_⟩
      rw [eM (3 + 10) (by omega), e _ (by omega)]
      exact b3 i i0 i1
    · exact Or.inr h5
  · obtain ⟨f1, f2, f3, f4, f5, f6, f7, f8⟩ := F
    refine ⟨fun x x0 x1 j => by rw [eM x (by omega)]; exact f1 x x0 x1 j, fun x x0 x1 j => by rw [up_nex (by omega)]; exact f2 x x0 x1 j, fun j j0 j1 => by rw [up_nex (by decide)]; exact f3 j j0 j1, ?_, fun i i0 i1 => by rw [e i (by omega)]; exact f5 i i0 i1, fun z i i0 => by rw [e i (by omega)]; exact f6 z i i0, fun i i0 i1 => by rw [e i (by omega)]; exact f7 i i0 i1, fun i i0 i1 => by rw [e (90 + 6 * i) (by omega), e (89 + 6 * i) (by omega)]; exact f8 i i0 i1⟩
    refine pStat_trans f4 ⟨fun i hi => ?_, fun t s0 s1 => ⟨?_, ?_, ?_, ?_⟩, fun t s0 s1 => ⟨?_, ?_, ?_⟩⟩
    all_goals exact e _ (by omega)
end Rope
