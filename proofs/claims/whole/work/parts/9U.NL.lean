set_option linter.unusedVariables false
set_option linter.unusedSimpArgs false
/-! text: a law's or a number's clause, between its word and its end -/
theorem has_tab : ∀ v : Fin 32, ∀ s t : Fin 5, f_X12_has (bOr (v.val : Int) (bShl 1 (s.val : Int))) (t.val : Int) = (if t.val = s.val then 1 else f_X12_has (v.val : Int) (t.val : Int)) ∧ 0 ≤ bOr (v.val : Int) (bShl 1 (s.val : Int)) ∧ bOr (v.val : Int) (bShl 1 (s.val : Int)) ≤ 31 := by decide +kernel
theorem has_or {v s : Int} (hv : 0 ≤ v ∧ v ≤ 31) (hs : 0 ≤ s ∧ s ≤ 4) : (0 ≤ bOr v (bShl 1 s) ∧ bOr v (bShl 1 s) ≤ 31) ∧ ∀ t, 0 ≤ t → t < 5 → f_X12_has (bOr v (bShl 1 s)) t = if t = s then 1 else f_X12_has v t := by
  obtain ⟨a, rfl⟩ : ∃ a : Nat, v = a := ⟨v.toNat, by omega⟩
  obtain ⟨b, rfl⟩ : ∃ b : Nat, s = b := ⟨s.toNat, by omega⟩
  refine ⟨(has_tab ⟨a, by omega⟩ ⟨b, by omega⟩ ⟨0, by omega⟩).2, fun t t0 t1 => ?_⟩
  obtain ⟨e, rfl⟩ : ∃ e : Nat, t = e := ⟨t.toNat, by omega⟩
  have := (has_tab ⟨a, by omega⟩ ⟨b, by omega⟩ ⟨e, by omega⟩).1
  dsimp only at this
  rw [this]
  by_cases z : e = b
  · rw [if_pos z, if_pos (by omega)]
  · rw [if_neg z, if_neg (by omega)]
/-- a law's state on both sides, with so many clauses -/
def pLw (M N : Mem) (c x kk t : Int) : Prop := (f_X12_has (N 801 20) t = 1 ∧ M (c + 5) t < M (c + 6) t ∧ ∃ k, 0 ≤ k ∧ k < kk ∧ N 804 (x + 1 + 5 * k) = t) ∨ (f_X12_has (N 801 20) t = 0 ∧ M (c + 6) t ≤ M (c + 5) t ∧ ∀ k, 0 ≤ k → k < kk → N 804 (x + 1 + 5 * k) ≠ t)
def pCds (M N : Mem) (c x : Int) : Prop := ∀ j, 0 ≤ j → j < N 801 13 → pCd (M (c + 3) j) (M (c + 4) j) (N 804 (x + 121 + 2 * j)) (N 804 (x + 122 + 2 * j))
def pCls (M N : Mem) (c x k : Int) : Prop := pClause M N c x k ∧ (N 804 (x + 1 + 5 * k) ≤ 4 → N 804 (x + 3 + 5 * k) ≤ N 801 13)
def pDis (N : Mem) (x kk : Int) : Prop := ∀ k q, 0 ≤ k → k < q → q < kk → N 804 (x + 1 + 5 * k) ≤ 4 → N 804 (x + 1 + 5 * q) ≠ N 804 (x + 1 + 5 * k)
/-- the stores when kk clauses are read -/
def pRdK (M N : Mem) (c x l kk : Int) : Prop := pTp M N l ∧ pTok M N l ∧ (M 0 1 = c ∧ N 801 12 = x) ∧ (M c 3 = N 801 13 ∧ 0 ≤ N 801 13 ∧ N 801 13 ≤ N 801 8) ∧ pCds M N c x ∧ (∀ k, 0 ≤ k → k < kk → pCls M N c x k) ∧ pDis N x kk ∧ (0 ≤ N 801 20 ∧ N 801 20 ≤ 31) ∧ (∀ t, 0 ≤ t → t < 5 → pLw M N c x kk t)
def pRd (M N : Mem) (c x l : Int) : Prop := pRdK M N c x l (N 804 x) ∧ M c 0 = N 804 x ∧ 0 ≤ N 804 x ∧ N 804 x ≤ 24
def hM (c : Int) (M M' : Mem) : Prop := ∀ y j, ¬ (y = 703 ∧ (j = 2 ∨ j = 3 ∨ (5 ≤ j ∧ j ≤ 9))) → ¬ (c ≤ y ∧ y < c + 7) → M' y j = M y j
def hN (x : Int) (N N' : Mem) : Prop := ∀ y j, ¬ (y = 801 ∧ ((7 ≤ j ∧ j ≤ 11) ∨ j = 13 ∨ j = 14 ∨ (16 ≤ j ∧ j ≤ 20))) → ¬ (y = 804 ∧ x ≤ j ∧ j < x + 729) → y ≠ 806 → N' y j = N y j
theorem hM_trans {c : Int} {M M1 M2 : Mem} (a : hM c M M1) (b : hM c M1 M2) : hM c M M2 := fun y j u v => (b y j u v).trans (a y j u v)
theorem hN_trans {x : Int} {N N1 N2 : Mem} (a : hN x N N1) (b : hN x N1 N2) : hN x N N2 := fun y j u v w => (b y j u v w).trans (a y j u v w)
theorem hM_g {c : Int} {M M' : Mem} (h : gPM c M M') : hM c M M' := fun y j u v => h y j (by omega) (by omega) (by omega)
theorem hN_g {x : Int} {N N' : Mem} (h : gPN x N N') : hN x N N' := fun y j u v w => by
  by_cases z : y = 804
  · subst z; exact h.2.1 j (by omega)
  · exact h.1 y j (by omega) z w
/-- done alike, or the same fault -/
def qCl (c x : Int) (M N : Mem) (A : Option (Int × Mem)) (B : Option (Int × Mem)) (G : Mem → Option (Int × Mem)) (P : Mem → Mem → Prop) : Prop :=
  (∃ M' N', A = G M' ∧ B = some (0, N') ∧ P M' N' ∧ hM c M M' ∧ hN x N N')
  ∨ (∃ M' N' e, A = some (0, M') ∧ B = some (e, N') ∧ e ≠ 0 ∧ M' 703 2 = e ∧ M' 703 3 = N' 801 8 ∧ hM c M M' ∧ hN x N N')
theorem pClause_keep {M N M' N' : Mem} {c x k : Int} (h : pClause M N c x k) (h1 : M' (c + 1) k = M (c + 1) k) (h2 : ∀ q, 0 ≤ q → q < 4 → M' (c + 2) (4 * k + q) = M (c + 2) (4 * k + q))
    (h5 : N 804 (x + 1 + 5 * k) ≤ 4 → M' (c + 5) (N 804 (x + 1 + 5 * k)) = M (c + 5) (N 804 (x + 1 + 5 * k)) ∧ M' (c + 6) (N 804 (x + 1 + 5 * k)) = M (c + 6) (N 804 (x + 1 + 5 * k)))
    (hn : ∀ q, 1 ≤ q → q ≤ 5 → N' 804 (x + q + 5 * k) = N 804 (x + q + 5 * k))
    (ho : N 804 (x + 1 + 5 * k) ≤ 4 → ∀ i, 0 ≤ i → i < N 804 (x + 3 + 5 * k) → N' 804 (x + 121 + 2 * i) = N 804 (x + 121 + 2 * i) ∧ N' 804 (x + 122 + 2 * i) = N 804 (x + 122 + 2 * i))
    (hd : N 804 (x + 1 + 5 * k) ≤ 4 → ∀ i, 0 ≤ i → i < N 804 (x + 3 + 5 * k) → pCd (M' (c + 3) i) (M' (c + 4) i) (N' 804 (x + 121 + 2 * i)) (N' 804 (x + 122 + 2 * i))) : pClause M' N' c x k := by
  unfold pClause at *
  have n1 := hn 1 (by decide) (by decide)
  have n2 := hn 2 (by decide) (by decide)
  have n3 := hn 3 (by decide) (by decide)
  rw [n1, n2, n3, h1]
  obtain ⟨b1, b2, b3, b4⟩ := h
  refine ⟨b1, b2, fun g => ?_, fun g q q0 q1 => ?_⟩
  · obtain ⟨c1, c2, c3, c4, c5⟩ := b3 g
    obtain ⟨e5, e6⟩ := h5 g
    refine ⟨c1, by rw [e5]; exact c2, by rw [e6]; exact c3, fun i i0 i1 => hd g i (by omega) i1, pWf_same c5 (fun j j0 j1 => ho g j (by omega) j1)⟩
  · have q4 : q < 4 := by
      unfold pNf at q1
      split at q1 <;> (try split at q1) <;> (try split at q1) <;> (try split at q1) <;> omega
    have nq := hn (2 + q) (by omega) (by omega)
    rw [show x + (2 + q) + 5 * k = x + 2 + 5 * k + q by omega] at nq
    rw [h2 q q0 q4, nq]
    exact b4 g q q0 q1
/-- behind a clause's word: s its sort, k its number -/
def pHd (M N : Mem) (c x l k s : Int) : Prop := pTp M N l ∧ pTok M N l ∧ (M 0 1 = c ∧ N 801 12 = x) ∧ (M c 3 = N 801 13 ∧ 0 ≤ N 801 13 ∧ N 801 13 ≤ N 801 8) ∧ pCds M N c x
  ∧ (∀ q, 0 ≤ q → q < k → pCls M N c x q ∧ (s ≤ 4 → N 804 (x + 1 + 5 * q) ≠ s)) ∧ pDis N x k ∧ (0 ≤ N 801 20 ∧ N 801 20 ≤ 31) ∧ (∀ t, 0 ≤ t → t < 5 → t ≠ s → pLw M N c x k t) ∧ (s ≤ 4 → f_X12_has (N 801 20) s = 1)
  ∧ (M (c + 1) k = 128 + s ∧ N 804 (x + 1 + 5 * k) = s ∧ 0 ≤ s ∧ s ≤ 11) ∧ (M 703 9 = s ∧ N 801 14 = s) ∧ (M c 0 = k ∧ N 804 x = k ∧ 0 ≤ k ∧ k < 24)
/-- what is a clause more -/
theorem l_more {M N M' N' : Mem} {c x l k s : Int} (hc : pCx c x) (h : pHd M N c x l k s) (tp : pTp M' N' l) (tok : pTok M' N' l) (h0 : M' 0 1 = c ∧ N' 801 12 = x) (h3 : M' c 3 = N' 801 13 ∧ 0 ≤ N' 801 13 ∧ N' 801 13 ≤ N' 801 8) (hcd : pCds M' N' c x) (h13 : N 801 13 ≤ N' 801 13)
    (g1 : ∀ j, M' (c + 1) j = M (c + 1) j) (g2 : ∀ j, j < 4 * k → M' (c + 2) j = M (c + 2) j) (g5 : ∀ j, j ≠ s → M' (c + 5) j = M (c + 5) j ∧ M' (c + 6) j = M (c + 6) j)
    (gn : ∀ j, x ≤ j → j ≤ x + 1 + 5 * k → N' 804 j = N 804 j) (gc : ∀ j, x + 121 ≤ j → j < x + 121 + 2 * N 801 13 → N' 804 j = N 804 j) (g20 : N' 801 20 = N 801 20)
    (new : pCls M' N' c x k) (law : s ≤ 4 → M' (c + 5) s < M' (c + 6) s) : pRdK M' N' c x l (k + 1) := by
  obtain ⟨a1, a2, a3, a4, a5, a6, a7, a8, a9, a10, ⟨a11, a12, a13, a14⟩, a15, ⟨a16, a17, a18, a19⟩⟩ := h
  have srt : ∀ q, 0 ≤ q → q ≤ k → N' 804 (x + 1 + 5 * q) = N 804 (x + 1 + 5 * q) := fun q q0 q1 => gn _ (by omega) (by omega)
  refine ⟨tp, tok, h0, h3, hcd, fun q q0 q1 => ?_, fun p q p0 p1 p2 p3 => ?_, by rw [g20]; exact a8, fun t t0 t1 => ?_⟩
  · by_cases z : q = k
    · subst z; exact new
    · obtain ⟨⟨b1, b2⟩, b3⟩ := a6 q q0 (by omega)
      have n3 : N' 804 (x + 3 + 5 * q) = N 804 (x + 3 + 5 * q) := gn _ (by omega) (by omega)
      refine ⟨pClause_keep b1 (g1 q) (fun t t0 t1 => g2 _ (by omega)) (fun g => ?_) (fun t t0 t1 => gn _ (by omega) (by omega)) (fun g i i0 i1 => ?_) (fun g i i0 i1 => hcd i i0 ?_), fun g => ?_⟩
      · have ne : N 804 (x + 1 + 5 * q) ≠ s := by
          by_cases y : s ≤ 4
          · exact b3 y
          · omega
        exact g5 _ ne
      · have := b2 g
        exact ⟨gc _ (by omega) (by omega), gc _ (by omega) (by omega)⟩
      · have := b2 g
        omega
      · rw [srt q q0 (by omega)] at g
        rw [n3]
        have := b2 g
        omega
  · rw [srt p p0 (by omega)] at p3 ⊢
    rw [srt q (by omega) (by omega)]
    by_cases z : q = k
    · subst z
      rw [a12]
      intro w
      by_cases y : s ≤ 4
      · exact (a6 p p0 p1).2 y w.symm
      · omega
    · exact a7 p q p0 p1 (by omega) p3
  · by_cases z : t = s
    · subst z
      left
      rw [g20]
      exact ⟨a10 (by omega), law (by omega), k, by omega, by omega, (srt k (by omega) (by omega)).trans a12⟩
    · obtain ⟨e5, e6⟩ := g5 t z
      unfold pLw
      rw [g20, e5, e6]
      rcases a9 t t0 t1 z with y | ⟨y1, y2, y3⟩
      · obtain ⟨y1, y2, q, q0, q1, q2⟩ := y
        exact Or.inl ⟨y1, y2, q, q0, by omega, (srt q q0 (by omega)).trans q2⟩
      · refine Or.inr ⟨y1, y2, fun q q0 q1 => ?_⟩
        rw [srt q q0 (by omega)]
        by_cases w : q = k
        · subst w
          rw [a12]; exact fun e => z e.symm
        · exact y3 q q0 (by omega)
/-- a clause of numbers -/
theorem l_numB {M N : Mem} {c x l k s : Int} (hc : pCx c x) (h : pHd M N c x l k s) (hs : 5 ≤ s) {nA nB : Nat} (hA : 800 ≤ nA) (hB : 700 ≤ nB) :
    qCl c x M N ((f_X4_readNumbers nA (s - 5) M).bind fun q26 => if q26.1 ≠ 0 then (f_X4_readClause_J173 nA q26.2) else (some (0, q26.2))) (f_X12_body nB s (x + 1 + 5 * k) N) (fun M' => f_X4_readClause_J173 nA M') (fun M' N' => pRdK M' N' c x l (k + 1) ∧ M' c 0 = k ∧ N' 804 x = k ∧ N 801 8 ≤ N' 801 8 ∧ M' 703 2 = M 703 2 ∧ M' 703 3 = M 703 3) := by
  have hh := h
  obtain ⟨a1, a2, a3, a4, a5, a6, a7, a8, a9, a10, ⟨a11, a12, a13, a14⟩, a15, ⟨a16, a17, a18, a19⟩⟩ := h
  obtain ⟨x1, x2, x3, x4, x5⟩ := hc
  have nf : 1 ≤ pNf s ∧ pNf s ≤ 4 := by have := tb_ok (s := s) (by omega); have := tb_len (s := s) (by omega); omega
  rcases l_numbers (p := x + 1 + 5 * k) (nA := nA) ⟨hs, a14⟩ ⟨a1, a2, a3.1, x1, x2⟩ hA a16 ⟨a18, a19⟩ (by omega) with ⟨M', N', b1, b2, b3, b4, b5, b6, b8, b9⟩ | ⟨M', N', e, b1, b2, b3, b4, b5, b6, b7⟩
  · left
    rw [b1, Option.bind_some]
    have gm : ∀ y j, c ≤ y → y < c + 7 → y ≠ c + 2 → M' y j = M y j := fun y j z0 z1 z2 => b4 y j (by omega) (by omega)
    have gn : ∀ j, ¬ (x + 2 + 5 * k ≤ j ∧ j < x + 6 + 5 * k) → N' 804 j = N 804 j := fun j z => b5.1 804 j (by omega) (by omega)
    have e13 : N' 801 13 = N 801 13 := b5.1 _ _ (by omega) (by omega)
    have hcd : pCds M' N' c x := by
      intro j j0 j1
      rw [e13] at j1
      rw [gm _ _ (by omega) (by omega) (by omega), gm _ _ (by omega) (by omega) (by omega), gn _ (by omega), gn _ (by omega)]
      exact a5 j j0 j1
    have e1 : N' 804 (x + 1 + 5 * k) = s := by rw [gn _ (by omega)]; exact a12
    refine ⟨M', N', if_pos (show ¬ (1 : Int) = 0 by decide), b2 nB hB, ⟨l_more ⟨x1, x2, x3, x4, x5⟩ hh b3.1 b3.2.1 ⟨b3.2.2.1, ?_⟩ ⟨?_, by omega, ?_⟩ hcd (by omega) (fun j => gm _ _ (by omega) (by omega) (by omega)) (fun j hj => b4 _ _ (by omega) (by omega)) (fun j hj => ⟨gm _ _ (by omega) (by omega) (by omega), gm _ _ (by omega) (by omega) (by omega)⟩) (fun j j0 j1 => gn j (by omega)) (fun j j0 j1 => gn j (by omega)) (b5.1 _ _ (by omega) (by omega)) ⟨⟨?_, ?_, ?_, ?_⟩, ?_⟩ (by omega), ?_, ?_, b5.2, b8, b9⟩, fun y j u v => ?_, fun y j u v w => ?_⟩
    · rw [b5.1 _ _ (by omega) (by omega)]; exact a3.2
    · rw [gm _ _ (by omega) (by omega) (by omega), e13]; exact a4.1
    · have := b5.2; omega
    · rw [e1]; exact ⟨a13, a14⟩
    · rw [e1, gm _ _ (by omega) (by omega) (by omega)]; exact a11
    · rw [e1]; intro z; omega
    · rw [e1]
      intro _ q q0 q1
      have := b6 q q0 q1
      rw [show x + 1 + 5 * k + 1 + q = x + 2 + 5 * k + q by omega] at this
      exact this
    · rw [e1]; intro z; omega
    · rw [gm _ _ (by omega) (by omega) (by omega)]; exact a16
    · rw [gn _ (by omega)]; exact a17
    · exact b4 y j (by omega) (by omega)
    · exact b5.1 y j (by omega) (by omega)
  · right
    rw [b1, Option.bind_some]
    exact ⟨M', N', e, if_neg (show ¬ (0 : Int) ≠ 0 by decide), b2 nB hB, b3, b4, b5, fun y j u v => b6 y j (by omega) (by omega), fun y j u v w => b7.1 y j (by omega) (by omega)⟩
