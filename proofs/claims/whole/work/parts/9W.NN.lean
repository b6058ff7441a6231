set_option linter.unusedVariables false
set_option linter.unusedSimpArgs false
/-! text: a clause -/
theorem pRdK_same {M N M' N' : Mem} {c x l kk : Int} (hc : 773 ≤ c) (hk : kk ≤ 24) (h : pRdK M N c x l kk) (tp : pTp M' N' l) (tok : pTok M' N' l) (fM : ∀ y j, y ≠ 703 → ¬ (y = c ∧ j = 0) → M' y j = M y j) (fN : ∀ y j, ¬ (y = 801 ∧ 7 ≤ j ∧ j ≤ 11) → ¬ (y = 804 ∧ j = x) → N' y j = N y j) (h8 : N 801 8 ≤ N' 801 8) : pRdK M' N' c x l kk := by
  obtain ⟨a1, a2, a3, a4, a5, a6, a7, a8, a9⟩ := h
  have e13 : N' 801 13 = N 801 13 := fN _ _ (by omega) (by omega)
  have gM : ∀ y j, c < y → M' y j = M y j := fun y j z => fM y j (by omega) (by omega)
  have gN : ∀ j, x < j → N' 804 j = N 804 j := fun j z => fN _ _ (by omega) (by omega)
  have hcd : pCds M' N' c x := by
    intro j j0 j1
    rw [e13] at j1
    rw [gM _ _ (by omega), gM _ _ (by omega), gN _ (by omega), gN _ (by omega)]
    exact a5 j j0 j1
  refine ⟨tp, tok, ⟨by rw [fM _ _ (by omega) (by omega)]; exact a3.1, by rw [fN _ _ (by omega) (by omega)]; exact a3.2⟩, ⟨by rw [fM _ _ (by omega) (by omega), e13]; exact a4.1, by omega, by omega⟩, hcd, fun k k0 k1 => ?_, fun k q k0 k1 k2 k3 => ?_, ?_, fun t t0 t1 => ?_⟩
  · obtain ⟨b1, b2⟩ := a6 k k0 k1
    refine ⟨pClause_keep b1 (gM _ _ (by omega)) (fun q _ _ => gM _ _ (by omega)) (fun _ => ⟨gM _ _ (by omega), gM _ _ (by omega)⟩) (fun q _ _ => gN _ (by omega)) (fun _ i i0 i1 => ⟨gN _ (by omega), gN _ (by omega)⟩) (fun g i i0 i1 => hcd i i0 (by have := b2 g; omega)), fun g => ?_⟩
    rw [gN _ (by omega)] at g
    rw [gN _ (by omega), e13]
    exact b2 g
  · rw [gN _ (by omega)] at k3 ⊢
    rw [gN _ (by omega)]
    exact a7 k q k0 k1 k2 k3
  · rw [fN _ _ (by omega) (by omega)]; exact a8
  · have := a9 t t0 t1
    unfold pLw at *
    rw [fN 801 20 (by omega) (by omega), gM _ _ (by omega), gM _ _ (by omega)]
    rcases this with ⟨y1, y2, q, q0, q1, q2⟩ | ⟨y1, y2, y3⟩
    · exact Or.inl ⟨y1, y2, q, q0, q1, by rw [gN _ (by omega)]; exact q2⟩
    · exact Or.inr ⟨y1, y2, fun q q0 q1 => by rw [gN _ (by omega)]; exact y3 q q0 q1⟩
theorem l_failC {c x e : Int} {M N M1 N1 : Mem} {A B : Option (Int × Mem)} {G : Mem → Option (Int × Mem)} {P : Mem → Mem → Prop} (hA : A = (lt (f_X4_failBy e M1) fun q => ck (q.1 = 0 ∨ q.1 = 1) (some (q.1, q.2)))) (hB : B = some (e, N1)) (he : e ≠ 0) (h7 : M1 703 7 = N1 801 8) (gM : hM c M M1) (gN : hN x N N1) : qCl c x M N A B G P :=
  Or.inr ⟨_, N1, e, hA.trans (l_fb e M1), hB, he, by rw [up_nei (by decide), up_eq], by rw [up_eq]; exact h7, fun y j u v => by
    rw [up_ne (by omega), up_ne (by omega)]
    exact gM y j u v, gN⟩
/-- a clause's end -/
theorem l_semi {M N : Mem} {c x l k : Int} (hc : pCx c x) (h : pRdK M N c x l (k + 1)) (h0 : M c 0 = k) (hx : N 804 x = k) (k0 : 0 ≤ k ∧ k < 24) {nA nB : Nat} (hA : 700 ≤ nA) (hB : 700 ≤ nB) :
    qCl c x M N (f_X4_readClause_J173 nA M) (ck (0 ≤ (N 801 12) ∧ (N 801 12) < 2916) (lt (upM N 804 (N 801 12) (wI ((N 804 (N 801 12)) + 1))) fun M13 => if (M13 801 9) = 59 then ((f_X12_nextToken nB M13).bind fun q15 => some (0, q15)) else (some (1, M13)))) (fun M' => some (1, M')) (fun M' N' => pRd M' N' c x l ∧ N 801 8 + 1 ≤ N' 801 8 ∧ M' 703 2 = M 703 2 ∧ M' 703 3 = M 703 3) := by
  have hh := h
  obtain ⟨x1, x2, x3, x4, x5⟩ := hc
  obtain ⟨a1, a2, a3, a4, -⟩ := h
  have kd : pKd M N := a2.2.2.2.2.2.2.1
  have s59 := (kd_all kd).2.2.2.1 59 (by unfold isSg; omega)
  unfold f_X4_readClause_J173
  rw [a3.1, a3.2, p_ck (c := 0 ≤ x ∧ x < 2916) (by omega), hx, p_wI (x := k + 1) (by omega) (by omega), p_lt (upM N 804 x (k + 1)), up_nex (by decide)]
  by_cases z : M 703 6 = 59
  · rw [if_pos z, if_pos (s59.mpr z), p_ck x1, p_lt, h0, p_wI (x := k + 1) (by omega) (by omega)]
    obtain ⟨M1, hM1⟩ : ∃ M1, M1 = upM M c 0 (k + 1) := ⟨_, rfl⟩
    obtain ⟨N1, hN1⟩ : ∃ N1, N1 = upM N 804 x (k + 1) := ⟨_, rfl⟩
    rw [← hM1, ← hN1]
    have g1 : ∀ y j, ¬ (y = c ∧ j = 0) → M1 y j = M y j := fun y j u => by rw [hM1, up_ne u]
    have g2 : ∀ y j, ¬ (y = 804 ∧ j = x) → N1 y j = N y j := fun y j u => by rw [hN1, up_ne u]
    have tp1 : pTp M1 N1 l := ⟨by rw [g1 _ _ (by omega)]; exact a1.1, by rw [g2 _ _ (by omega)]; exact a1.2.1, a1.2.2.1, a1.2.2.2.1, fun i i0 i1 => by rw [g1 _ _ (by omega), g2 _ _ (by omega)]; exact a1.2.2.2.2 i i0 i1⟩
    have tok1 : pTok M1 N1 l := by
      unfold pTok at *
      rw [g1 703 5 (by omega), g1 703 6 (by omega), g1 703 7 (by omega), g1 703 8 (by omega), g2 801 7 (by omega), g2 801 8 (by omega), g2 801 9 (by omega), g2 801 10 (by omega), g2 801 11 (by omega)]
      exact a2
    obtain ⟨M2, N2, b1, b2, b3, b4, b5, b6, b7⟩ := l_adv0 tp1 tok1 hA
    have n7 : N1 801 7 = N 801 7 := g2 _ _ (by omega)
    have n9 : N 801 9 ≠ 0 := by
      have := s59.mpr z
      omega
    have t8 := a2.2.2.2.2.2.2.2.2 n9
    have ex : N2 804 x = k + 1 := by rw [b4 _ _ (by omega), hN1, up_eq]
    left
    refine ⟨M2, N2, by rw [b1, Option.bind_some], by rw [b2 nB hB, Option.bind_some], ⟨⟨?_, ?_, by omega, by omega⟩, by omega, ?_, ?_⟩, fun y j u v => ?_, fun y j u v w => ?_⟩
    · rw [ex]
      exact pRdK_same x2 (by omega) hh b5 b6 (fun y j u v => by rw [b3 _ _ (by omega), g1 _ _ v]) (fun y j u v => by rw [b4 _ _ (by omega), g2 _ _ v]) (by omega)
    · rw [b3 _ _ (by omega), ex, hM1, up_eq]
    · rw [b3 _ _ (by omega), g1 _ _ (by omega)]
    · rw [b3 _ _ (by omega), g1 _ _ (by omega)]
    · rw [b3 _ _ (by omega), g1 _ _ (by omega)]
    · rw [b4 _ _ (by omega), g2 _ _ (by omega)]
  · rw [if_neg z, if_neg (fun y => z (s59.mp y))]
    exact l_failC (M1 := M) (N1 := upM N 804 x (k + 1)) rfl rfl (by decide) (by rw [up_nex (by decide)]; exact a2.2.2.2.1) (fun _ _ _ _ => rfl) (fun y j u v w => by rw [up_ne (by omega)])
theorem l_join {M N M9 N4 : Mem} {c x l k : Int} {A B : Option (Int × Mem)} (hc : pCx c x) (k0 : 0 ≤ k ∧ k < 24) {nA nB : Nat} (hA : 700 ≤ nA) (hB : 700 ≤ nB) (gM : hM c M M9) (gN : hN x N N4) (h8 : N 801 8 ≤ N4 801 8) (h2 : M9 703 2 = M 703 2 ∧ M9 703 3 = M 703 3)
    (h : qCl c x M9 N4 A B (fun M' => f_X4_readClause_J173 nA M') (fun M' N' => pRdK M' N' c x l (k + 1) ∧ M' c 0 = k ∧ N' 804 x = k ∧ N4 801 8 ≤ N' 801 8 ∧ M' 703 2 = M9 703 2 ∧ M' 703 3 = M9 703 3)) :
    qCl c x M N A (B.bind fun q10 => if q10.1 = 0 then (ck (0 ≤ (q10.2 801 12) ∧ (q10.2 801 12) < 2916) (lt (upM q10.2 804 (q10.2 801 12) (wI ((q10.2 804 (q10.2 801 12)) + 1))) fun M13 => if (M13 801 9) = 59 then ((f_X12_nextToken nB M13).bind fun q15 => some (0, q15)) else (some (1, M13)))) else (some (q10.1, q10.2))) (fun M' => some (1, M')) (fun M' N' => pRd M' N' c x l ∧ N 801 8 + 1 ≤ N' 801 8 ∧ M' 703 2 = M 703 2 ∧ M' 703 3 = M 703 3) := by
  rcases h with ⟨M', N', b1, b2, ⟨b3, b4, b5, b6, b7, b8⟩, b9, b10⟩ | ⟨M', N', e, b1, b2, b3, b4, b5, b6, b7⟩
  · rw [b1, b2, Option.bind_some, if_pos rfl]
    dsimp only
    rcases l_semi (nA := nA) (nB := nB) hc b3 b4 b5 k0 hA hB with ⟨M2, N2, d1, d2, ⟨d3, d4, d5, d6⟩, d7, d8⟩ | ⟨M2, N2, e, d1, d2, d3, d4, d5, d6, d7⟩
    · exact Or.inl ⟨M2, N2, d1, d2, ⟨d3, by omega, by omega, by omega⟩, hM_trans gM (hM_trans b9 d7), hN_trans gN (hN_trans b10 d8)⟩
    · exact Or.inr ⟨M2, N2, e, d1, d2, d3, d4, d5, hM_trans gM (hM_trans b9 d6), hN_trans gN (hN_trans b10 d7)⟩
  · rw [b1, b2, Option.bind_some, if_neg b3]
    exact Or.inr ⟨M', N', e, rfl, rfl, b3, b4, b5, hM_trans gM b6, hN_trans gN b7⟩
theorem l_hasLaw {M : Mem} {c s : Int} (hs : 0 ≤ s) : f_X6_hasLaw c s M = some (if s < 5 ∧ M (c + 5) s < M (c + 6) s then 1 else 0) := by
  unfold f_X6_hasLaw
  rw [if_neg (by omega)]
  by_cases z : 5 ≤ s
  · rw [if_pos z, if_neg (by omega)]
  · rw [if_neg z, p_ck (by omega)]
    by_cases y : M (c + 6) s ≤ M (c + 5) s
    · rw [if_pos y, if_neg (by omega)]
    · rw [if_neg y, if_pos (by omega)]
/-- a clause, by both -/
theorem l_clause {M N : Mem} {c x l : Int} (hc : pCx c x) (h : pRd M N c x l) (hne : N 801 9 ≠ 0) {nA nB : Nat} (hA : 1100 ≤ nA) (hB : 1400 ≤ nB) :
    qCl c x M N (f_X4_readClause nA M) (f_X12_clause nB N) (fun M' => some (1, M')) (fun M' N' => pRd M' N' c x l ∧ N 801 8 + 1 ≤ N' 801 8 ∧ M' 703 2 = M 703 2 ∧ M' 703 3 = M 703 3) := by
  have hcx := hc
  obtain ⟨x1, x2, x3, x4, x5⟩ := hc
  obtain ⟨⟨a1, a2, ⟨a3, a3'⟩, ⟨a4, a4', a4''⟩, a5, a6, a7, a8, a9⟩, a10, a11, a12⟩ := h
  have kd : pKd M N := a2.2.2.2.2.2.2.1
  have e7 : M 703 7 = N 801 8 := a2.2.2.2.1
  have t8 := a2.2.2.2.2.2.2.2.2 hne
  have ka := kd_all kd
  unfold f_X4_readClause f_X12_clause
  rw [q_sort kd, p_lt, p_isB]
  by_cases r : 128 ≤ M 703 6 ∧ M 703 6 ≤ 139
  · rw [if_pos r, if_pos r, if_pos (by decide), p_wI (x := M 703 6 - 128) (by omega) (by omega), if_pos (show 0 ≤ M 703 6 - 128 by omega)]
    obtain ⟨s, hs⟩ : ∃ s, s = M 703 6 - 128 := ⟨_, rfl⟩
    rw [← hs]
    obtain ⟨M1, hM1⟩ : ∃ M1, M1 = upM M 703 9 s := ⟨_, rfl⟩
    rw [← hM1]
    have g1 : ∀ y j, ¬ (y = 703 ∧ j = 9) → M1 y j = M y j := fun y j u => by rw [hM1, up_ne u]
    have m9 : M1 703 9 = s := by rw [hM1, up_eq]
    have hMM1 : hM c M M1 := fun y j u v => g1 y j (by omega)
    rw [g1 0 1 (by omega), a3, p_ck x1, m9, l_hasLaw (by omega), g1 (c + 5) _ (by omega), g1 (c + 6) _ (by omega), Option.bind_some]
    by_cases had : s < 5 ∧ M (c + 5) s < M (c + 6) s
    · rw [if_pos had, if_neg (by decide), if_neg (by omega)]
      have hs1 : f_X12_has (N 801 20) s = 1 := by
        rcases a9 s (by omega) (by omega) with y | y
        · exact y.1
        · have := y.2.1; omega
      rw [hs1, if_neg (by decide)]
      exact l_failC rfl rfl (by decide) (by rw [g1 _ _ (by omega)]; exact e7) hMM1 (fun _ _ _ _ _ => rfl)
    · rw [if_neg had, if_pos rfl]
      have free : s ≤ 4 → f_X12_has (N 801 20) s = 0 ∧ ∀ k, 0 ≤ k → k < N 804 x → N 804 (x + 1 + 5 * k) ≠ s := by
        intro z
        rcases a9 s (by omega) (by omega) with y | y
        · have := y.2.1; omega
        · exact ⟨y.1, y.2.2⟩
      have refJ : (if 4 < s then f_X12_clause_J29 nB s N else if f_X12_has (N 801 20) s = 0 then f_X12_clause_J29 nB s N else some (4, N)) = f_X12_clause_J29 nB s N := by
        by_cases z : 4 < s
        · rw [if_pos z]
        · rw [if_neg z, (free (by omega)).1, if_pos rfl]
      rw [refJ]
      unfold f_X12_clause_J29
      rw [a3', p_ck (c := 0 ≤ x ∧ x < 2916) (by omega), g1 c 0 (by omega), a10]
      by_cases k24 : N 804 x = 24
      · rw [if_neg (by omega), if_neg (by omega)]
        exact l_failC rfl rfl (by decide) (by rw [g1 _ _ (by omega)]; exact e7) hMM1 (fun _ _ _ _ _ => rfl)
      · generalize hk : N 804 x = k at *
        rw [if_pos (show k < 24 by omega), if_pos k24, p_ck (c := 0 ≤ k ∧ k < 24) (by omega), p_lt (upM M1 (c + 1) k (M 703 6))]
        obtain ⟨M8, hM8⟩ : ∃ M8, M8 = upM M1 (c + 1) k (M 703 6) := ⟨_, rfl⟩
        obtain ⟨N1, hN1⟩ : ∃ N1, N1 = if 4 < s then N else upM N 801 20 (bOr (N 801 20) (bShl 1 s)) := ⟨_, rfl⟩
        have ref2 : (if 4 < s then f_X12_clause_J65 nB s k N else lt (upM N 801 20 (bOr (N 801 20) (bShl 1 s))) fun M16 => f_X12_clause_J65 nB s k M16) = f_X12_clause_J65 nB s k N1 := by
          rw [hN1]
          by_cases z : 4 < s
          · rw [if_pos z, if_pos z]
          · rw [if_neg z, if_neg z, p_lt]
        rw [ref2, ← hM8]
        have n1 : ∀ y j, ¬ (y = 801 ∧ j = 20) → N1 y j = N y j := fun y j u => by
          rw [hN1]
          by_cases z : 4 < s
          · rw [if_pos z]
          · rw [if_neg z, up_ne u]
        have n20 : (0 ≤ N1 801 20 ∧ N1 801 20 ≤ 31) ∧ (s ≤ 4 → f_X12_has (N1 801 20) s = 1) ∧ ∀ t, 0 ≤ t → t < 5 → t ≠ s → f_X12_has (N1 801 20) t = f_X12_has (N 801 20) t := by
          rw [hN1]
          by_cases z : 4 < s
          · rw [if_pos z]
            exact ⟨a8, fun y => by omega, fun _ _ _ _ => rfl⟩
          · rw [if_neg z, up_eq]
            obtain ⟨w1, w2⟩ := has_or (v := N 801 20) (s := s) a8 (by omega)
            refine ⟨w1, fun _ => by rw [w2 s (by omega) (by omega), if_pos rfl], fun t t0 t1 t2 => by rw [w2 t t0 t1, if_neg t2]⟩
        unfold f_X12_clause_J65
        rw [p_lt]
        obtain ⟨N2, hN2⟩ : ∃ N2, N2 = upM N1 801 14 s := ⟨_, rfl⟩
        rw [← hN2]
        have g8 : ∀ y j, ¬ (y = 703 ∧ j = 9) → ¬ (y = c + 1 ∧ j = k) → M8 y j = M y j := fun y j u v => by rw [hM8, up_ne v, g1 _ _ u]
        have n2 : ∀ y j, ¬ (y = 801 ∧ (j = 14 ∨ j = 20)) → N2 y j = N y j := fun y j u => by rw [hN2, up_ne (by omega), n1 _ _ (by omega)]
        have tp2 : pTp M8 N2 l := ⟨by rw [g8 _ _ (by omega) (by omega)]; exact a1.1, by rw [n2 _ _ (by omega)]; exact a1.2.1, a1.2.2.1, a1.2.2.2.1, fun i i0 i1 => by rw [g8 _ _ (by omega) (by omega), n2 _ _ (by omega)]; exact a1.2.2.2.2 i i0 i1⟩
        have tok2 : pTok M8 N2 l := by
          unfold pTok at *
          rw [g8 703 5 (by omega) (by omega), g8 703 6 (by omega) (by omega), g8 703 7 (by omega) (by omega), g8 703 8 (by omega) (by omega), n2 801 7 (by omega), n2 801 8 (by omega), n2 801 9 (by omega), n2 801 10 (by omega), n2 801 11 (by omega)]
          exact a2
        obtain ⟨M9, N3, b1, b2, b3, b4, b5, b6, b7⟩ := l_adv0 tp2 tok2 (nA := nA) (by omega)
        have e12 : N3 801 12 = x := by rw [b4 _ _ (by omega), n2 _ _ (by omega)]; exact a3'
        rw [b1, b2 nB (by omega), Option.bind_some, Option.bind_some, e12, p_wI (x := x + 1) (by omega) (by omega), p_wI (x := 5 * k) (by omega) (by omega), p_wI (x := x + 1 + 5 * k) (by omega) (by omega), p_ck (c := 0 ≤ x + 1 + 5 * k ∧ x + 1 + 5 * k < 2916) (by omega), p_lt (upM N3 804 (x + 1 + 5 * k) s)]
        obtain ⟨N4, hN4⟩ : ∃ N4, N4 = upM N3 804 (x + 1 + 5 * k) s := ⟨_, rfl⟩
        rw [← hN4]
        have g9 : ∀ y j, ¬ (y = 703 ∧ 5 ≤ j ∧ j ≤ 9) → ¬ (y = c + 1 ∧ j = k) → M9 y j = M y j := fun y j u v => by rw [b3 _ _ (by omega), g8 _ _ (by omega) v]
        have n4 : ∀ y j, ¬ (y = 801 ∧ ((7 ≤ j ∧ j ≤ 11) ∨ j = 14 ∨ j = 20)) → ¬ (y = 804 ∧ j = x + 1 + 5 * k) → N4 y j = N y j := fun y j u v => by rw [hN4, up_ne v, b4 _ _ (by omega), n2 _ _ (by omega)]
        have n4' : ∀ j, N4 801 j = N3 801 j := fun j => by rw [hN4, up_nex (by decide)]
        have q20 : N4 801 20 = N1 801 20 := by rw [n4', b4 _ _ (by omega), hN2, up_nei (by decide)]
        have q8 : N2 801 7 = N 801 7 := n2 _ _ (by omega)
        have e13 : N4 801 13 = N 801 13 := n4 _ _ (by omega) (by omega)
        have le8 : N 801 8 + 1 ≤ N4 801 8 := by rw [n4']; omega
        have m99 : M9 703 9 = s := by rw [b3 _ _ (by omega), hM8, up_nex (by omega)]; exact m9
        have hcd : pCds M9 N4 c x := by
          intro j j0 j1
          rw [e13] at j1
          rw [g9 _ _ (by omega) (by omega), g9 _ _ (by omega) (by omega), n4 _ _ (by omega) (by omega), n4 _ _ (by omega) (by omega)]
          exact a5 j j0 j1
        have srt : ∀ q, 0 ≤ q → q < k → N4 804 (x + 1 + 5 * q) = N 804 (x + 1 + 5 * q) := fun q q0 q1 => n4 _ _ (by omega) (by omega)
        have hd : pHd M9 N4 c x l k s := by
          refine ⟨⟨b5.1, by rw [n4']; exact b5.2.1, b5.2.2.1, b5.2.2.2.1, fun q q0 q1 => by rw [hN4, up_nex (by decide)]; exact b5.2.2.2.2 q q0 q1⟩, ?_, ⟨?_, ?_⟩, ⟨?_, ?_, ?_⟩, hcd, fun q q0 q1 => ⟨⟨?_, ?_⟩, ?_⟩, ?_, by rw [q20]; exact n20.1, fun t t0 t1 t2 => ?_, fun z => by rw [q20]; exact n20.2.1 z, ⟨?_, ?_, by omega, by omega⟩, ⟨m99, ?_⟩, ⟨?_, ?_, a11, by omega⟩⟩
          · unfold pTok at *
            rw [n4', n4', n4', n4', n4']
            exact b6
          · rw [g9 _ _ (by omega) (by omega)]; exact a3
          · rw [n4 _ _ (by omega) (by omega)]; exact a3'
          · rw [g9 _ _ (by omega) (by omega), e13]; exact a4
          · rw [e13]; exact a4'
          · omega
          · obtain ⟨w1, w2⟩ := a6 q q0 q1
            refine pClause_keep w1 (g9 _ _ (by omega) (by omega)) (fun t t0 t1 => g9 _ _ (by omega) (by omega)) (fun _ => ⟨g9 _ _ (by omega) (by omega), g9 _ _ (by omega) (by omega)⟩) (fun t t0 t1 => n4 _ _ (by omega) (by omega)) (fun g i i0 i1 => ⟨n4 _ _ (by omega) (by omega), n4 _ _ (by omega) (by omega)⟩) (fun g i i0 i1 => hcd i i0 (by have := w2 g; omega))
          · rw [srt q q0 q1, n4 804 (x + 3 + 5 * q) (by omega) (by omega), e13]
            exact (a6 q q0 q1).2
          · intro z
            rw [srt q q0 q1]
            exact (free z).2 q q0 q1
          · intro p q p0 p1 p2 p3
            rw [srt p p0 (by omega)] at p3 ⊢
            rw [srt q (by omega) p2]
            exact a7 p q p0 p1 p2 p3
          · have := a9 t t0 t1
            unfold pLw at *
            rw [q20, n20.2.2 t t0 t1 t2, g9 (c + 5) _ (by omega) (by omega), g9 (c + 6) _ (by omega) (by omega)]
            rcases this with ⟨y1, y2, q, q0, q1, q2⟩ | ⟨y1, y2, y3⟩
            · exact Or.inl ⟨y1, y2, q, q0, q1, by rw [srt q q0 q1]; exact q2⟩
            · exact Or.inr ⟨y1, y2, fun q q0 q1 => by rw [srt q q0 q1]; exact y3 q q0 q1⟩
          · rw [b3 _ _ (by omega), hM8, up_eq]; omega
          · rw [hN4, up_eq]
          · rw [n4', b4 _ _ (by omega), hN2, up_eq]
          · rw [g9 _ _ (by omega) (by omega)]; exact a10
          · rw [n4 _ _ (by omega) (by omega)]; exact hk
        have gM : hM c M M9 := fun y j u v => g9 y j (by omega) (by omega)
        have gN : hN x N N4 := fun y j u v w => n4 y j (by omega) (by omega)
        have fz : M9 703 2 = M 703 2 ∧ M9 703 3 = M 703 3 := ⟨g9 _ _ (by omega) (by omega), g9 _ _ (by omega) (by omega)⟩
        have m01 : M9 0 1 = c := by rw [g9 _ _ (by omega) (by omega)]; exact a3
        by_cases z : s ≤ 4
        · rw [if_pos (show M 703 6 ≤ 132 by omega), m01, p_ck x1, m99, p_ck (c := 0 ≤ s ∧ s < 5) (by omega), p_lt (upM M9 (c + 5) s (M9 c 3))]
          have eL : (if M 703 6 ≠ 132 then f_X4_readClause_J145 nA 3 (upM M9 (c + 5) s (M9 c 3)) else f_X4_readClause_J145 nA 0 (upM M9 (c + 5) s (M9 c 3))) = f_X4_readClause_J145 nA (if s = 4 then 0 else 3) (upM M9 (c + 5) s (M9 c 3)) := by
            by_cases y : s = 4
            · rw [if_neg (by omega), if_pos y]
            · rw [if_pos (by omega), if_neg y]
          rw [eL]
          exact l_join hcx ⟨a11, by omega⟩ (nA := nA) (nB := nB) (by omega) (by omega) gM gN (by omega) fz (l_lawB hcx hd z rfl hA hB)
        · rw [if_neg (show ¬ M 703 6 ≤ 132 by omega), p_wI (x := M 703 6 - 133) (by omega) (by omega), show M 703 6 - 133 = s - 5 by omega]
          exact l_join hcx ⟨a11, by omega⟩ (nA := nA) (nB := nB) (by omega) (by omega) gM gN (by omega) fz (l_numB hcx hd (by omega) (by omega) (by omega))
  · rw [if_neg r, if_neg r, if_neg (by decide), if_neg (by decide)]
    exact l_failC rfl rfl (by decide) (by rw [up_nei (by decide)]; exact e7) (fun y j u v => by rw [up_ne (by omega)]) (fun _ _ _ _ _ => rfl)
