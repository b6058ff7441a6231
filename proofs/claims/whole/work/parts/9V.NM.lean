set_option linter.unusedVariables false
set_option linter.unusedSimpArgs false
/-! text: a law's clause -/
theorem l_lawRead {nA : Nat} {a L c x l f : Int} {M N : Mem} (hc : pCx c x) (hA : 1100 ≤ nA) (hL : (a = 0 ∧ L = 3) ∨ (a = 1 ∧ L = 0)) (hq : qPre a c x l 0 0 0 0 f M N) :
    ∃ v M', f_X4_readPart nA L 0 M = some (v, M') ∧ ((v = 1 ∧ qDone a c x l a (1 - a) f M N M') ∨ (v = 0 ∧ qFail a c x M N M')) := by
  have hq' := hq
  obtain ⟨q1, q2, q3, q4, q5, q6, q7, q8, q9⟩ := hq
  have no : ¬ pOpen N := by
    rintro ⟨j, j0, j1, j2⟩
    omega
  unfold f_X4_readPart
  rcases hL with ⟨h1, h2⟩ | ⟨h1, h2⟩
  · subst h1 h2
    have nn : noNot N := by
      obtain ⟨va, g1, g2⟩ := l_askHere (N := N) (by omega) (by omega)
      have va0 : va = 0 := by
        rcases g2 with ⟨-, z, -⟩ | ⟨z, -⟩
        · exact absurd q5.1 z
        · exact z
      subst va0
      intro n hn
      unfold f_X12_isAskAhead
      rw [g1 n (by omega), Option.bind_some, if_pos rfl]
    obtain ⟨v, M', r1, r2⟩ := l_part3 (a := 0) (l := l) hc hA 100 (by decide) M N 0 0 0 0 f hq' (by decide) (by decide) (Or.inl rfl) (Or.inr nn)
    refine ⟨v, M', r1, ?_⟩
    rcases r2 with ⟨v1, s⟩ | ⟨v0, s⟩
    · exact Or.inl ⟨v1, l_endNum hc q5.1 s⟩
    · exact Or.inr ⟨v0, s⟩
  · subst h1 h2
    obtain ⟨v, M', r1, r2⟩ := l_part0 (l := l) hc hA 100 (by decide) M N 0 0 f hq' (by decide) (Or.inl rfl) no
    refine ⟨v, M', r1, ?_⟩
    rcases r2 with ⟨v1, s⟩ | ⟨v0, s⟩
    · exact Or.inl ⟨v1, l_endAsk hc q5.1 s⟩
    · exact Or.inr ⟨v0, s⟩
theorem pWf_ne {o v : Int → Int} {f t n1 b1 : Int} (h : pWf o v f t n1 b1) (hn : n1 ≠ 0 ∨ b1 ≠ 0) : f ≠ t := by
  obtain ⟨n, b, h1, h2, h3, h4, h5⟩ := h
  intro e
  subst e
  omega
theorem l_lawB {M N : Mem} {c x l k s L : Int} (hc : pCx c x) (h : pHd M N c x l k s) (hs : s ≤ 4) (hL : L = if s = 4 then 0 else 3) {nA nB : Nat} (hA : 1100 ≤ nA) (hB : 1400 ≤ nB) :
    qCl c x M N (f_X4_readClause_J145 nA L (upM M (c + 5) s (M c 3))) (f_X12_body nB s (x + 1 + 5 * k) N) (fun M' => f_X4_readClause_J173 nA M') (fun M' N' => pRdK M' N' c x l (k + 1) ∧ M' c 0 = k ∧ N' 804 x = k ∧ N 801 8 ≤ N' 801 8 ∧ M' 703 2 = M 703 2 ∧ M' 703 3 = M 703 3) := by
  have hh := h
  have hcx := hc
  obtain ⟨a1, a2, a3, a4, a5, a6, a7, a8, a9, a10, ⟨a11, a12, a13, a14⟩, a15, ⟨a16, a17, a18, a19⟩⟩ := h
  obtain ⟨x1, x2, x3, x4, x5⟩ := hc
  generalize hf : N 801 13 = f at *
  -- the kind of law
  obtain ⟨a, ha, hLa, haq⟩ : ∃ a : Int, a = (if s = 4 then 1 else 0) ∧ ((a = 0 ∧ L = 3) ∨ (a = 1 ∧ L = 0)) ∧ (a = 0 ∨ a = 1) := by
    by_cases z : s = 4
    · exact ⟨1, by rw [if_pos z], Or.inr ⟨rfl, by rw [hL, if_pos z]⟩, Or.inr rfl⟩
    · exact ⟨0, by rw [if_neg z], Or.inl ⟨rfl, by rw [hL, if_neg z]⟩, Or.inl rfl⟩
  have body : f_X12_body nB s (x + 1 + 5 * k) N = f_X12_lawClause nB (x + 1 + 5 * k) a N := by
    unfold f_X12_body
    simp only [bind_eta]
    by_cases z : s = 4
    · rw [if_pos z, ha, if_pos z]
    · rw [if_neg z, if_neg (by omega), if_neg (by omega), if_neg (by omega), if_neg (by omega), if_neg (by omega), if_neg (by omega), if_neg (by omega), ha, if_neg z]
  -- the stores at the reading's start
  obtain ⟨N9, hN9⟩ : ∃ N9, N9 = upM (upM (upM (upM (upM N 804 (x + 2 + 5 * k) f) 801 16 0) 801 17 0) 801 18 0) 801 19 a := ⟨_, rfl⟩
  obtain ⟨M1, hM1⟩ : ∃ M1, M1 = upM M (c + 5) s f := ⟨_, rfl⟩
  have g9 : ∀ y j, ¬ (y = 804 ∧ j = x + 2 + 5 * k) → ¬ (y = 801 ∧ 16 ≤ j ∧ j ≤ 19) → N9 y j = N y j := fun y j u v => by
    rw [hN9, up_ne (by omega), up_ne (by omega), up_ne (by omega), up_ne (by omega), up_ne u]
  have g1 : ∀ y j, ¬ (y = c + 5 ∧ j = s) → M1 y j = M y j := fun y j u => by rw [hM1, up_ne u]
  have n16 : N9 801 16 = 0 := by rw [hN9, up_nei (by decide), up_nei (by decide), up_nei (by decide), up_eq]
  have n17 : N9 801 17 = 0 := by rw [hN9, up_nei (by decide), up_nei (by decide), up_eq]
  have n18 : N9 801 18 = 0 := by rw [hN9, up_nei (by decide), up_eq]
  have n19 : N9 801 19 = a := by rw [hN9, up_eq]
  have n13 : N9 801 13 = f := by rw [g9 _ _ (by omega) (by omega)]; exact hf
  have nfr : N9 804 (x + 2 + 5 * k) = f := by rw [hN9, up_nex (by decide), up_nex (by decide), up_nex (by decide), up_nex (by decide), up_eq]
  have tp1 : pTp M1 N9 l := ⟨by rw [g1 _ _ (by omega)]; exact a1.1, by rw [g9 _ _ (by omega) (by omega)]; exact a1.2.1, a1.2.2.1, a1.2.2.2.1, fun i i0 i1 => by rw [g1 _ _ (by omega), g9 _ _ (by omega) (by omega)]; exact a1.2.2.2.2 i i0 i1⟩
  have tok1 : pTok M1 N9 l := by
    unfold pTok at *
    rw [g1 703 5 (by omega), g1 703 6 (by omega), g1 703 7 (by omega), g1 703 8 (by omega), g9 801 7 (by omega) (by omega), g9 801 8 (by omega) (by omega), g9 801 9 (by omega) (by omega), g9 801 10 (by omega) (by omega), g9 801 11 (by omega) (by omega)]
    exact a2
  have e8 : N9 801 8 = N 801 8 := g9 _ _ (by omega) (by omega)
  have m3 : M1 c 3 = f := by rw [g1 _ _ (by omega)]; exact a4.1
  have pre : qPre a c x l 0 0 0 0 f M1 N9 := by
    refine ⟨⟨tp1, tok1, ⟨by rw [g1 _ _ (by omega)]; exact a3.1, by rw [g9 _ _ (by omega) (by omega)]; exact a3.2⟩, ⟨⟨by omega, by omega, by omega, by omega⟩, fun j j0 j1 => ?_, fun t t0 t1 => by omega⟩, by omega, by omega⟩, n16, n17, n18, ⟨n19, haq⟩, ⟨?_, ?_, ?_⟩, ⟨fun _ => 0, fun _ => 0, rfl, rfl, rfl, rfl, fun i i0 i1 => by omega⟩, ⟨by omega, by omega, by omega, by omega, by omega⟩, by omega, by omega⟩
    · rw [n13] at j1
      rw [g1 _ _ (by omega), g1 _ _ (by omega), g9 _ _ (by omega) (by omega), g9 _ _ (by omega) (by omega)]
      exact a5 j j0 (by omega)
    · rw [g1 _ _ (by omega), g9 _ _ (by omega) (by omega)]; omega
    · rw [g9 _ _ (by omega) (by omega)]; omega
    · rw [g9 _ _ (by omega) (by omega)]; omega
  obtain ⟨v, M2, r1, r2⟩ := l_lawRead hcx hA hLa pre
  have lawC : ∀ n, f_X12_lawClause n (x + 1 + 5 * k) a N = (f_X12_parsed_L20 n a N9).bind fun q3 => some (q3.1, upM q3.2 804 (x + 3 + 5 * k) (q3.2 801 13)) := by
    intro n
    unfold f_X12_lawClause
    rw [p_wI (x := x + 1 + 5 * k + 1) (by omega) (by omega), p_wI (x := x + 1 + 5 * k + 2) (by omega) (by omega), show x + 1 + 5 * k + 1 = x + 2 + 5 * k by omega, show x + 1 + 5 * k + 2 = x + 3 + 5 * k by omega, p_ck (by omega), p_lt, hf]
    unfold f_X12_parsed
    rw [p_lt, p_lt, p_lt, p_ck haq, p_lt, ← hN9]
    cases f_X12_parsed_L20 n a N9 with
    | none => rfl
    | some q => rw [Option.bind_some, Option.bind_some, p_ck (by omega), p_lt]
  rw [a4.1, ← hM1, body, lawC]
  unfold f_X4_readClause_J145
  rw [r1, Option.bind_some]
  rcases r2 with ⟨v1, N2, kq, s1, s2, s3, s4, s5, s6, s7⟩ | ⟨v0, N2, e, kq, s1, s2, s3, s4, s5, s6, s7, s8⟩
  · subst v1
    left
    rw [if_pos (show (1 : Int) ≠ 0 by decide)]
    have b300 := pPs300 s2
    obtain ⟨t1, t2, ⟨t3, t4⟩, ⟨⟨t5, t6, t7, t8⟩, t9, t10⟩, t11, t12⟩ := s2
    have m9 : M2 703 9 = s := by rw [s4 _ _ (by omega) (by omega) (by omega), g1 _ _ (by omega)]; exact a15.1
    have le13 : f ≤ N2 801 13 := by have := s5.2.2.2.1; omega
    have t3c : M2 c 3 = N2 801 13 := by omega
    have w : pWf (oX N2 x) (uX N2 x) f (N2 801 13) (1 - a) a := by rw [← t3c]; exact s6
    have ft : f < N2 801 13 := by
      have := pWf_ne w (by omega)
      omega
    dsimp only
    rw [p_ck (show isTx (M2 0 1) by rw [t3]; exact x1), p_ck (show 0 ≤ M2 703 9 ∧ M2 703 9 < 5 by omega), p_lt, t3, m9, t3c]
    obtain ⟨M3, hM3⟩ : ∃ M3, M3 = upM M2 (c + 6) s (N2 801 13) := ⟨_, rfl⟩
    obtain ⟨N3, hN3⟩ : ∃ N3, N3 = upM N2 804 (x + 3 + 5 * k) (N2 801 13) := ⟨_, rfl⟩
    have u3 : ∀ y j, ¬ (y = c + 6 ∧ j = s) → M3 y j = M2 y j := fun y j u => by rw [hM3, up_ne u]
    have v3 : ∀ y j, ¬ (y = 804 ∧ j = x + 3 + 5 * k) → N3 y j = N2 y j := fun y j u => by rw [hN3, up_ne u]
    have l4 : ∀ j, j < x + 121 + 2 * f → j ≠ x + 3 + 5 * k → j ≠ x + 2 + 5 * k → N3 804 j = N 804 j := fun j z0 z1 z2 => by
      rw [v3 _ _ (by omega), s5.2.1 j (by omega), g9 _ _ (by omega) (by omega)]
    have l2 : N3 804 (x + 2 + 5 * k) = f := by rw [v3 _ _ (by omega), s5.2.1 _ (by omega)]; exact nfr
    have l3 : N3 804 (x + 3 + 5 * k) = N2 801 13 := by rw [hN3, up_eq]
    have l1 : N3 804 (x + 1 + 5 * k) = s := by rw [l4 _ (by omega) (by omega) (by omega)]; exact a12
    have e13 : N3 801 13 = N2 801 13 := v3 _ _ (by omega)
    have hcd : pCds M3 N3 c x := by
      intro j j0 j1
      rw [e13] at j1
      rw [u3 _ _ (by omega), u3 _ _ (by omega), v3 _ _ (by omega), v3 _ _ (by omega)]
      exact t9 j j0 j1
    have fm : ∀ y j, c ≤ y → y < c + 7 → y ≠ c + 3 → y ≠ c + 4 → ¬ (y = c ∧ j = 3) → ¬ (y = c + 5 ∧ j = s) → ¬ (y = c + 6 ∧ j = s) → M3 y j = M y j := fun y j z0 z1 z2 z3 z4 z5 z6 => by
      rw [u3 _ _ z6, s4 _ _ (by omega) (by omega) z4, g1 _ _ z5]
    have m5 : M3 (c + 5) s = f := by rw [u3 _ _ (by omega), s4 _ _ (by omega) (by omega) (by omega), hM1, up_eq]
    have m6 : M3 (c + 6) s = N2 801 13 := by rw [hM3, up_eq]
    refine ⟨M3, N3, by rw [hM3], ?_, ⟨l_more hcx hh ?_ ?_ ⟨?_, ?_⟩ ⟨?_, by omega, ?_⟩ hcd (by omega) (fun j => fm _ _ (by omega) (by omega) (by omega) (by omega) (by omega) (by omega) (by omega)) (fun j hj => fm _ _ (by omega) (by omega) (by omega) (by omega) (by omega) (by omega) (by omega)) (fun j hj => ⟨fm _ _ (by omega) (by omega) (by omega) (by omega) (by omega) (by omega) (by omega), fm _ _ (by omega) (by omega) (by omega) (by omega) (by omega) (by omega) (by omega)⟩) (fun j j0 j1 => l4 j (by omega) (by omega) (by omega)) (fun j j0 j1 => l4 j (by omega) (by omega) (by omega)) ?_ ⟨⟨?_, ?_, ?_, ?_⟩, ?_⟩ (fun _ => by omega), ?_, ?_, ?_, ?_, ?_⟩, ?_, ?_⟩
    · have := s1 (nB - kq) (by omega)
      rw [show nB - kq + kq = nB by omega] at this
      rw [this, Option.bind_some, hN3]
    · exact ⟨by rw [u3 _ _ (by omega)]; exact t1.1, by rw [v3 _ _ (by omega)]; exact t1.2.1, t1.2.2.1, t1.2.2.2.1, fun i i0 i1 => by rw [u3 _ _ (by omega), v3 _ _ (by omega)]; exact t1.2.2.2.2 i i0 i1⟩
    · unfold pTok at *
      rw [u3 703 5 (by omega), u3 703 6 (by omega), u3 703 7 (by omega), u3 703 8 (by omega), v3 801 7 (by omega), v3 801 8 (by omega), v3 801 9 (by omega), v3 801 10 (by omega), v3 801 11 (by omega)]
      exact t2
    · rw [u3 _ _ (by omega)]; exact t3
    · rw [v3 _ _ (by omega)]; exact t4
    · rw [u3 _ _ (by omega), e13]; exact t3c
    · rw [e13, v3 _ _ (by omega)]; omega
    · rw [v3 _ _ (by omega), s5.1 _ _ (by omega) (by decide) (by decide), g9 _ _ (by omega) (by omega)]
    · rw [l1]; exact ⟨a13, a14⟩
    · rw [l1, fm _ _ (by omega) (by omega) (by omega) (by omega) (by omega) (by omega) (by omega)]; exact a11
    · rw [l1, l2, l3]
      refine fun _ => ⟨⟨by omega, ft, by omega⟩, m5, m6, fun i i0 i1 => hcd i (by omega) (by omega), ?_⟩
      have e : (if s = 4 then (0 : Int) else 1) = 1 - a ∧ (if s = 4 then (1 : Int) else 0) = a := by
        by_cases z : s = 4
        · rw [if_pos z, if_pos z]; rw [if_pos z] at ha; omega
        · rw [if_neg z, if_neg z]; rw [if_neg z] at ha; omega
      rw [e.1, e.2]
      refine pWf_same w (fun j j0 j1 => ?_)
      unfold oX uX
      rw [if_pos j1, if_pos j1, v3 _ _ (by omega), v3 _ _ (by omega)]
      exact ⟨rfl, rfl⟩
    · rw [l1]; intro z; omega
    · rw [l1, l3, e13]; intro _; exact Int.le_refl _
    · rw [fm _ _ (by omega) (by omega) (by omega) (by omega) (by omega) (by omega) (by omega)]; exact a16
    · rw [l4 _ (by omega) (by omega) (by omega)]; exact a17
    · have := s5.2.2.2.2
      rw [v3 _ _ (by omega)]; omega
    · rw [u3 _ _ (by omega), s4 _ _ (by omega) (by omega) (by omega), g1 _ _ (by omega)]
    · rw [u3 _ _ (by omega), s4 _ _ (by omega) (by omega) (by omega), g1 _ _ (by omega)]
    · intro y j u z
      rw [u3 _ _ (by omega), s4 _ _ (by omega) (by omega) (by omega), g1 _ _ (by omega)]
    · intro y j u z w'
      rw [v3 _ _ (by omega)]
      by_cases q : y = 804
      · subst q
        rw [s5.2.1 j (by omega), g9 _ _ (by omega) (by omega)]
      · rw [s5.1 _ _ (by omega) q w', g9 _ _ (by omega) (by omega)]
  · subst v0
    right
    rw [if_neg (show ¬ (0 : Int) ≠ 0 by decide)]
    refine ⟨M2, upM N2 804 (x + 3 + 5 * k) (N2 801 13), e, rfl, ?_, s2, s3, by rw [up_nex (by decide)]; exact s4, ?_, ?_⟩
    · have := s1 (nB - kq) (by omega)
      rw [show nB - kq + kq = nB by omega] at this
      rw [this, Option.bind_some]
    · intro y j u z
      rw [s5 y j (by omega) (by omega) (by omega), g1 _ _ (by omega)]
    · intro y j u z w'
      rw [up_ne (by omega)]
      by_cases q : y = 804
      · subst q
        rw [s6.2.1 j (by omega), g9 _ _ (by omega) (by omega)]
      · rw [s6.1 _ _ (by omega) q w', g9 _ _ (by omega) (by omega)]
