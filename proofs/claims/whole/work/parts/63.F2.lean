set_option linter.unusedVariables false
set_option linter.unusedSimpArgs false
set_option maxHeartbeats 4000000 in
theorem l_code {M0 N0 : Mem} {s wd st w ot c l f t x2 x3 : Int} {nf bf : Int → Int} (hc : M0 0 0 = c) (tx : isTx c) (hw : wI (wd - 128) = l) (hl : 0 ≤ l ∧ l < 5) (hsx : s + 6 ≤ 713 ∨ 713 < s) (ht : M0 (c + 6) l = t) (hx2 : 0 ≤ x2 ∧ x2 + 2 < 2916) (hx3 : 0 ≤ x3 ∧ x3 ≤ 2308) (hti : N0 804 (x2 + 2) = t) (f0 : 0 ≤ f) (t3 : t ≤ 300)
    (hs : pSt M0 N0 s) (ha : pAsk M0 N0 s st w ot)
    (hcd : ∀ i, f ≤ i → i < t → pCd (M0 (c + 3) i) (M0 (c + 4) i) (N0 804 (x3 + 2 * i)) (N0 804 (x3 + 2 * i + 1)))
    (hwf : ∀ i, f ≤ i → i < t → pStep (N0 804 (x3 + 2 * i)) (N0 804 (x3 + 2 * i + 1)) (nf i) (bf i) (nf (i + 1)) (bf (i + 1)) ∧ 0 ≤ nf i ∧ 0 ≤ bf i ∧ nf i + bf i ≤ 61) :
    ∀ (k n1 n2 : Nat) (i a b h : Int) (M N : Mem), t - i < k → k ≤ n1 → k ≤ n2 → f ≤ i → i ≤ t → a = nf i → b = bf i → h = a + b → (∀ x, x ≠ 713 → ∀ j, M x j = M0 x j) → (∀ x, x ≠ 807 → x ≠ 808 → ∀ j, N x j = N0 x j) → pStk M N a b →
      ∃ M' N', f_X2_valueOf_L18 n1 s wd st w ot h i M = some (nf t + bf t, M') ∧ f_X12_work_L47 n2 x2 x3 a b i N = some N' ∧ (∀ x, x ≠ 713 → ∀ j, M' x j = M0 x j) ∧ (∀ x, x ≠ 807 → x ≠ 808 → ∀ j, N' x j = N0 x j) ∧ pStk M' N' (nf t) (bf t) := by
  have tx2 : c + 6 < 713 ∨ 713 < c := by
    rcases tx with r | r | r | r | r <;> omega
  have hc0 : c ≠ 0 := by
    rcases tx with r | r | r | r | r <;> omega
  intro k
  induction k with
  | zero => intro n1 n2 i a b h M N h1; omega
  | succ k ih =>
    intro n1 n2 i a b h M N hk hn1 hn2 hfi hit ea eb eh hM hN hst
    obtain ⟨n1, rfl⟩ : ∃ m, n1 = m + 1 := ⟨n1 - 1, by omega⟩
    obtain ⟨n2, rfl⟩ : ∃ m, n2 = m + 1 := ⟨n2 - 1, by omega⟩
    have c1 : M 0 0 = c := by rw [hM 0 (by decide)]; exact hc
    have c2 : M (c + 6) l = t := by rw [hM _ (by omega)]; exact ht
    have c3 : ∀ j, M (c + 3) j = M0 (c + 3) j := fun j => hM _ (by omega) j
    have c4 : ∀ j, M (c + 4) j = M0 (c + 4) j := fun j => hM _ (by omega) j
    have d2 : N 804 (x2 + 2) = t := by rw [hN 804 (by decide) (by decide)]; exact hti
    have d3 : ∀ j, N 804 j = N0 804 j := hN 804 (by decide) (by decide)
    by_cases q : i = t
    · subst q
      refine ⟨M, N, ?_, ?_, hM, hN, by rw [← ea, ← eb]; exact hst⟩
      · rw [f_X2_valueOf_L18, c1, hw, p_ck tx, p_ck hl, if_pos (by omega), eh, ea, eb]
      · rw [f_X12_work_L47, p_wI (x := x2 + 2) (by omega) (by omega), p_ck (by omega), if_pos (by omega)]
    · have hlt : i < t := by omega
      obtain ⟨g1, g2, g3, g4⟩ := hwf i hfi hlt
      have gc := hcd i hfi hlt
      rw [← c3, ← c4, ← d3, ← d3] at gc
      rw [← d3, ← d3] at g1
      have hs' : pSt M N s := by
        obtain ⟨u1, u2⟩ := hs
        unfold pSt
        simp only [hM s (by omega), hM (s + 1) (by omega), hM (s + 2) (by omega), hM (s + 3) (by omega), hM (s + 4) (by omega), hM (s + 5) (by omega), hN 802 (by decide) (by decide)]
        exact ⟨u1, u2⟩
      have ha' : pAsk M N s st w ot := by
        unfold pAsk at ha ⊢
        simp only [hM s (by omega), hN 801 (by decide) (by decide), hN 802 (by decide) (by decide)]
        exact ha
      have hi3 : 0 ≤ i ∧ i < 300 := by omega
      generalize ho : N 804 (x3 + 2 * i) = o at *
      generalize hv : N 804 (x3 + 2 * i + 1) = v at *
      rw [← ea, ← eb] at g1
      have st1 : -1 ≤ N 801 21 ∧ N 801 21 ≤ 9 := by have := ha'.1; have := ha'.2.2.2.2.1; have := hs'.1; omega
      rcases g1 with ⟨r, v0, v1, m, e1, e2⟩ | ⟨r, v0, v1, m, e1, e2⟩ | ⟨r0, r1, v0, v1, m, e1, e2⟩ | ⟨r, m, e1, e2⟩ | ⟨r0, r1, m, e1, e2⟩ | ⟨r0, r1, m, e1, e2⟩ | ⟨r, m, m2, e1, e2⟩ | ⟨r0, r1, m, m2, e1, e2⟩
      · obtain ⟨x, y1, y2, y3, y4⟩ := l_push c1 tx hi3.1 hi3.2 hs' ha' gc (Or.inl ⟨r, v0, v1⟩)
        rw [l_c_push c1 tx hw hl (by omega) hi3 (by have := gc.1; rw [this, r]; exact Or.inl rfl) (by omega), l_r_push hx2 hx3 hi3 d2 hlt ho hv (by omega) (by omega) (by omega) st1, y1, y2, Option.bind_some, Option.bind_some]
        exact ih n1 n2 (i + 1) (a + 1) b (h + 1) _ _ (by omega) (by omega) (by omega) (by omega) (by omega) (by omega) (by omega) (by omega) (fun x hx j => by rw [up_nex hx]; exact hM x hx j) (fun x hx hx2 j => by rw [up_nex hx]; exact hN x hx hx2 j) (pStk_val hst (by omega) (by omega) (by omega) ⟨y3, y4⟩ (by omega))
      · obtain ⟨x, y1, y2, y3, y4⟩ := l_push c1 tx hi3.1 hi3.2 hs' ha' gc (Or.inr (Or.inl ⟨r, v0, v1⟩))
        have hop : 133 ≤ M (c + 3) i ∧ M (c + 3) i ≤ 151 := by
          have := gc.1
          rw [this, r, show pOp 1 v = pNm v from rfl]
          unfold pNm
          repeat' split
          all_goals omega
        rw [l_c_push c1 tx hw hl (by omega) hi3 (Or.inr hop) (by omega), l_r_push hx2 hx3 hi3 d2 hlt ho hv (by omega) (by omega) (by omega) st1, y1, y2, Option.bind_some, Option.bind_some]
        exact ih n1 n2 (i + 1) (a + 1) b (h + 1) _ _ (by omega) (by omega) (by omega) (by omega) (by omega) (by omega) (by omega) (by omega) (fun x hx j => by rw [up_nex hx]; exact hM x hx j) (fun x hx hx2 j => by rw [up_nex hx]; exact hN x hx hx2 j) (pStk_val hst (by omega) (by omega) (by omega) ⟨y3, y4⟩ (by omega))
      · obtain ⟨x, y1, y2, y3, y4⟩ := l_push c1 tx hi3.1 hi3.2 hs' ha' gc (Or.inr (Or.inr ⟨r0, r1, v0, v1⟩))
        have hop : 133 ≤ M (c + 3) i ∧ M (c + 3) i ≤ 151 := by
          have := gc.1
          have q : o = 2 ∨ o = 3 := by omega
          rcases q with z | z <;> rw [this, z]
          · exact ⟨by rw [show pOp 2 v = 150 from rfl]; decide, by rw [show pOp 2 v = 150 from rfl]; decide⟩
          · exact ⟨by rw [show pOp 3 v = 151 from rfl]; decide, by rw [show pOp 3 v = 151 from rfl]; decide⟩
        rw [l_c_push c1 tx hw hl (by omega) hi3 (Or.inr hop) (by omega), l_r_push hx2 hx3 hi3 d2 hlt ho hv (by omega) (by omega) (by omega) st1, y1, y2, Option.bind_some, Option.bind_some]
        exact ih n1 n2 (i + 1) (a + 1) b (h + 1) _ _ (by omega) (by omega) (by omega) (by omega) (by omega) (by omega) (by omega) (by omega) (fun x hx j => by rw [up_nex hx]; exact hM x hx j) (fun x hx hx2 j => by rw [up_nex hx]; exact hN x hx hx2 j) (pStk_val hst (by omega) (by omega) (by omega) ⟨y3, y4⟩ (by omega))
      · have hop : M (c + 3) i = 6 := by rw [gc.1, r]; rfl
        have g := hst.2 (a - 1) (by omega) (by omega)
        rw [show b + (a - 1) = h - 1 by omega] at g
        rw [l_c_un c1 tx hw hl (by omega) hi3 (Or.inl hop) (by omega), if_pos hop, l_r_neg hx2 hx3 hi3 d2 hlt (by rw [ho, r]) (by omega), g.1, p_wI (by omega) (by omega), p_wL (by omega) (by omega)]
        refine ih n1 n2 (i + 1) a b h _ _ (by omega) (by omega) (by omega) (by omega) (by omega) (by omega) (by omega) (by omega) (fun x hx j => by rw [up_nex hx]; exact hM x hx j) (fun x hx hx2 j => by rw [up_nex hx]; exact hN x hx hx2 j) ?_
        have := pStk_val (x := -(N 807 (a - 1))) hst (show 0 ≤ a - 1 by omega) (by omega) (by omega) (by omega) (show h - 1 = b + (a - 1) by omega)
        rwa [show a - 1 + 1 = a by omega] at this
      · obtain ⟨y, y1, y2⟩ := l_two (v := v) (a := M 713 (h - 2)) (b := M 713 (h - 1)) r0 r1
        have g := hst.2 (a - 1) (by omega) (by omega)
        have g' := hst.2 (a - 2) (by omega) (by omega)
        rw [show b + (a - 1) = h - 1 by omega] at g
        rw [show b + (a - 2) = h - 2 by omega] at g'
        have hop : M (c + 3) i ≠ 6 ∧ M (c + 3) i ≠ 154 ∧ M (c + 3) i ≠ 3 ∧ ¬ (133 ≤ M (c + 3) i ∧ M (c + 3) i ≤ 151) := by
          rw [gc.1]
          have q : o = 5 ∨ o = 6 ∨ o = 7 ∨ o = 8 := by omega
          rcases q with z | z | z | z <;> subst z
          · rw [show pOp 5 v = 43 from rfl]; decide
          · rw [show pOp 6 v = 45 from rfl]; decide
          · rw [show pOp 7 v = 42 from rfl]; decide
          · rw [show pOp 8 v = 47 from rfl]; decide
        obtain ⟨z1, z2, z3⟩ := p_cutclip y
        rw [l_c_bin c1 tx hw hl (by omega) hi3 hop (by omega), gc.1, y1, Option.bind_some, l_r_two hx2 hx3 hi3 d2 hlt ho r0 (by omega) (by omega), ← g.1, ← g'.1, y2, Option.bind_some, z1]
        refine ih n1 n2 (i + 1) (a - 1) b (h - 1) _ _ (by omega) (by omega) (by omega) (by omega) (by omega) (by omega) (by omega) (by omega) (fun x hx j => by rw [up_nex hx]; exact hM x hx j) (fun x hx hx2 j => by rw [up_nex hx]; exact hN x hx hx2 j) ?_
        have := pStk_val (x := f_X12_clip y) hst (show 0 ≤ a - 2 by omega) (by omega) (by omega) ⟨z2, z3⟩ (show h - 2 = b + (a - 2) by omega)
        rwa [show a - 2 + 1 = a - 1 by omega] at this
      · have y1 := l_cmp (v := v) (a := M 713 (h - 2)) (b := M 713 (h - 1)) r0 r1
        have g := hst.2 (a - 1) (by omega) (by omega)
        have g' := hst.2 (a - 2) (by omega) (by omega)
        rw [show b + (a - 1) = h - 1 by omega] at g
        rw [show b + (a - 2) = h - 2 by omega] at g'
        have hop : M (c + 3) i ≠ 6 ∧ M (c + 3) i ≠ 154 ∧ M (c + 3) i ≠ 3 ∧ ¬ (133 ≤ M (c + 3) i ∧ M (c + 3) i ≤ 151) := by
          rw [gc.1]
          have q : o = 10 ∨ o = 11 ∨ o = 12 ∨ o = 13 ∨ o = 14 ∨ o = 15 := by omega
          rcases q with z | z | z | z | z | z <;> subst z
          · rw [show pOp 10 v = 60 from rfl]; decide
          · rw [show pOp 11 v = 1 from rfl]; decide
          · rw [show pOp 12 v = 62 from rfl]; decide
          · rw [show pOp 13 v = 2 from rfl]; decide
          · rw [show pOp 14 v = 61 from rfl]; decide
          · rw [show pOp 15 v = 35 from rfl]; decide
        have z := p_asked o (M 713 (h - 2)) (M 713 (h - 1))
        have zc : f_X2_cut (f_X12_isAsked o (M 713 (h - 2)) (M 713 (h - 1))) = f_X12_isAsked o (M 713 (h - 2)) (M 713 (h - 1)) := by
          rcases z with r | r <;> rw [r] <;> decide
        rw [l_c_bin c1 tx hw hl (by omega) hi3 hop (by omega), gc.1, y1, Option.bind_some, l_r_cmp hx2 hx3 hi3 d2 hlt ho r0 (by omega) (by omega) (by omega), ← g.1, ← g'.1, zc]
        refine ih n1 n2 (i + 1) (a - 2) (b + 1) (h - 1) _ _ (by omega) (by omega) (by omega) (by omega) (by omega) (by omega) (by omega) (by omega) (fun x hx j => by rw [up_nex hx]; exact hM x hx j) (fun x hx hx2 j => by rw [up_nex hx2]; exact hN x hx hx2 j) ?_
        have := pStk_tr (p := b) hst (by omega) (by omega) z
        rw [show h - 2 = b by omega, show a - 2 = 0 by omega]
        rw [show h - 2 = b by omega] at this
        exact this
      · have hop : M (c + 3) i = 154 := by rw [gc.1, r]; rfl
        have g := hst.1 (b - 1) (by omega) (by omega)
        rw [l_c_un c1 tx hw hl (by omega) hi3 (Or.inr hop) (by omega), if_neg (by omega), l_r_not hx2 hx3 hi3 d2 hlt (by rw [ho, r]) (by omega)]
        have e : wI (1 - M 713 (h - 1)) = (if N 808 (b - 1) ≠ 0 then 0 else 1) := by
          rw [show h - 1 = b - 1 by omega, g.1]
          rcases g.2 with z | z <;> rw [z] <;> decide
        rw [e]
        refine ih n1 n2 (i + 1) a b h _ _ (by omega) (by omega) (by omega) (by omega) (by omega) (by omega) (by omega) (by omega) (fun x hx j => by rw [up_nex hx]; exact hM x hx j) (fun x hx hx2 j => by rw [up_nex hx2]; exact hN x hx hx2 j) ?_
        have := pStk_tr (p := b - 1) (x := if N 808 (b - 1) ≠ 0 then 0 else 1) hst (by omega) (by omega) (by split <;> simp)
        rw [show h - 1 = b - 1 by omega, show a = 0 by omega]
        rwa [show b - 1 + 1 = b by omega] at this
      · have g := hst.1 (b - 1) (by omega) (by omega)
        have g' := hst.1 (b - 2) (by omega) (by omega)
        have oo : o = 21 ∨ o = 22 := by omega
        have hop : M (c + 3) i ≠ 6 ∧ M (c + 3) i ≠ 154 ∧ M (c + 3) i ≠ 3 ∧ ¬ (133 ≤ M (c + 3) i ∧ M (c + 3) i ≤ 151) := by
          rw [gc.1]
          rcases oo with z | z <;> subst z
          · rw [show pOp 21 v = 153 from rfl]; decide
          · rw [show pOp 22 v = 152 from rfl]; decide
        have y := l_and (a := M 713 (h - 2)) (b := M 713 (h - 1)) (by rw [show h - 2 = b - 2 by omega, g'.1]; exact g'.2) (by rw [show h - 1 = b - 1 by omega, g.1]; exact g.2)
        rw [show h - 2 = b - 2 by omega, show h - 1 = b - 1 by omega, g.1, g'.1] at y
        have y1 : f_X2_joined (pOp o v) (M 713 (h - 2)) (M 713 (h - 1)) = some (if o = 21 then (if N 808 (b - 2) = 0 then 0 else if N 808 (b - 1) = 0 then 0 else 1) else (if N 808 (b - 2) ≠ 0 then 1 else if N 808 (b - 1) = 0 then 0 else 1)) := by
          rw [show h - 2 = b - 2 by omega, show h - 1 = b - 1 by omega, g.1, g'.1]
          rcases oo with z | z <;> subst z
          · rw [show pOp 21 v = 153 from rfl, if_pos rfl]; exact y.1
          · rw [show pOp 22 v = 152 from rfl, if_neg (by decide)]; exact y.2
        rw [l_c_bin c1 tx hw hl (by omega) hi3 hop (by omega), gc.1, y1, Option.bind_some, l_r_join hx2 hx3 hi3 d2 hlt ho oo (by omega)]
        generalize hz : (if o = 21 then (if N 808 (b - 2) = 0 then 0 else if N 808 (b - 1) = 0 then 0 else 1) else (if N 808 (b - 2) ≠ 0 then 1 else if N 808 (b - 1) = 0 then 0 else 1) : Int) = z
        have zz : z = 0 ∨ z = 1 := by
          rw [← hz]
          repeat' split
          all_goals first | exact Or.inl rfl | exact Or.inr rfl
        have zc : f_X2_cut z = z := by rcases zz with r | r <;> rw [r] <;> decide
        rw [zc]
        refine ih n1 n2 (i + 1) a (b - 1) (h - 1) _ _ (by omega) (by omega) (by omega) (by omega) (by omega) (by omega) (by omega) (by omega) (fun x hx j => by rw [up_nex hx]; exact hM x hx j) (fun x hx hx2 j => by rw [up_nex hx2]; exact hN x hx hx2 j) ?_
        have := pStk_tr (p := b - 2) hst (by omega) (by omega) zz
        rw [show h - 2 = b - 2 by omega, show a = 0 by omega]
        rwa [show b - 2 + 1 = b - 1 by omega] at this
