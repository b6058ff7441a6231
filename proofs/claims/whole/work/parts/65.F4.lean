set_option linter.unusedVariables false
set_option linter.unusedSimpArgs false
/-- what asking a law may change -/
def pFr (M M' N N' : Mem) : Prop := (∀ x, x ≠ 713 → ∀ j, M' x j = M x j) ∧ (∀ x, x ≠ 801 → x ≠ 807 → x ≠ 808 → ∀ j, N' x j = N x j) ∧ (∀ j, ¬ (21 ≤ j ∧ j ≤ 24) → N' 801 j = N 801 j)
theorem pFr_rfl {M N : Mem} : pFr M M N N := ⟨fun _ _ _ => rfl, fun _ _ _ _ _ => rfl, fun _ _ => rfl⟩
theorem pFr_trans {M M1 M2 N N1 N2 : Mem} (h : pFr M M1 N N1) (g : pFr M1 M2 N1 N2) : pFr M M2 N N2 :=
  ⟨fun x hx j => (g.1 x hx j).trans (h.1 x hx j), fun x a b c j => (g.2.1 x a b c j).trans (h.2.1 x a b c j), fun j hj => (g.2.2 j hj).trans (h.2.2 j hj)⟩
theorem l_ask (a b c d : Int) (N : Mem) : ∃ N1, f_X12_ask a b c d N = N1 ∧ N1 801 21 = a ∧ N1 801 22 = b ∧ N1 801 23 = c ∧ N1 801 24 = d ∧ (∀ x, x ≠ 801 → ∀ j, N1 x j = N x j) ∧ (∀ j, ¬ (21 ≤ j ∧ j ≤ 24) → N1 801 j = N 801 j) := by
  unfold f_X12_ask
  simp only [p_lt]
  refine ⟨_, rfl, ?_, ?_, ?_, ?_, fun x hx j => ?_, fun j hj => ?_⟩
  all_goals simp (disch := omega) only [up_nei, up_nex, up_eq]
theorem pSt_same {M N M' N' : Mem} {s : Int} (h : pSt M N s) (hM : ∀ x, s ≤ x → x < s + 6 → ∀ j, M' x j = M x j) (hN : ∀ j, N' 802 j = N 802 j) : pSt M' N' s := by
  obtain ⟨u1, u2⟩ := h
  unfold pSt
  simp only [hM s (by omega) (by omega), hM (s + 1) (by omega) (by omega), hM (s + 2) (by omega) (by omega), hM (s + 3) (by omega) (by omega), hM (s + 4) (by omega) (by omega), hM (s + 5) (by omega) (by omega), hN]
  exact ⟨u1, u2⟩
/-- both ask the same law -/
theorem l_law {M N : Mem} {s wd st w ot l hh : Int} {n1 n2 : Nat} (hL : pLaw M N) (hs : pSt M N s) (hst : 0 ≤ st ∧ st < N 802 0) (hhh : M s 11 = hh) (hh0 : 0 ≤ hh ∧ hh ≤ 10100) (hwt : 0 ≤ w ∧ w ≤ 198) (hot : 0 ≤ ot ∧ ot ≤ 99) (hl : 0 ≤ l ∧ l < 5) (hw : wI (wd - 128) = l) (hsx : s + 6 ≤ 713 ∨ 713 < s) (hn1 : 400 ≤ n1) (hn2 : 400 ≤ n2) :
    ∃ N1, f_X12_ask st hh w ot N = N1 ∧ (∀ x, x ≠ 801 → ∀ j, N1 x j = N x j) ∧ pFr M M N N1 ∧
    ((f_X2_hasLaw wd M = some 0 ∧ f_X12_clauseOf n2 l N1 = some (-1)) ∨
    (∃ k v M' N', f_X2_hasLaw wd M = some 1 ∧ f_X12_clauseOf n2 l N1 = some k ∧ 0 ≤ k ∧ f_X2_valueOf n1 wd s st w ot M = some (v, M') ∧ f_X12_work n2 k N1 = some N' ∧ pFr M M' N N' ∧ (l < 4 → N' 807 0 = v ∧ -1000000 ≤ v ∧ v ≤ 1000000) ∧ (l = 4 → N' 808 0 = v ∧ (v = 0 ∨ v = 1)))) := by
  obtain ⟨N1, a1, a2, a3, a4, a5, a6, a7⟩ := l_ask st hh w ot N
  refine ⟨N1, a1, a6, ⟨fun _ _ _ => rfl, fun x b _ _ j => a6 x b j, a7⟩, ?_⟩
  have hL1 : pLaw M N1 := pLaw_same hL rfl (fun _ _ _ => rfl) (a6 802 (by decide) 3) (a6 804 (by decide))
  have hs1 : pSt M N1 s := pSt_same hs (fun _ _ _ _ => rfl) (a6 802 (by decide))
  have ha : pAsk M N1 s st w ot := ⟨a2, by rw [a3, hhh], a4, a5, by rw [a6 802 (by decide)]; exact hst, by omega, hwt, hot⟩
  rcases l_says hL1 hs1 ha hl hw hsx hn1 hn2 with q | ⟨k, v, M', N', b1, b2, b3, b4, b5, b6, b7, b8, b9⟩
  · exact Or.inl q
  · exact Or.inr ⟨k, v, M', N', b1, b2, b3, b4, b5, ⟨b6, fun x x1 x2 x3 j => by rw [b7 x x2 x3, a6 x x1], fun j hj => by rw [b7 801 (by decide) (by decide), a7 j hj]⟩, b8, b9⟩
theorem s_takes {M N : Mem} {s st w hh : Int} {n1 n2 : Nat} (hL : pLaw M N) (hs : pSt M N s) (hst : 0 ≤ st ∧ st < N 802 0) (hhh : M s 11 = hh) (hh0 : 0 ≤ hh ∧ hh ≤ 10100) (hwt : 0 ≤ w ∧ w ≤ 198) (hsx : s + 6 ≤ 713 ∨ 713 < s) (hn1 : 400 ≤ n1) (hn2 : 400 ≤ n2) :
    ∃ v M' N', f_X2_takes n1 s st w M = some (v, M') ∧ f_X12_takesOf n2 st hh w N = some (v, N') ∧ 0 ≤ v ∧ v ≤ 9999 ∧ pFr M M' N N' := by
  obtain ⟨N1, a1, a2, a3, q⟩ := l_law (ot := 0) (wd := 128) (l := 0) (n1 := n1) (n2 := n2) hL hs hst hhh hh0 hwt (by omega) (by omega) (by rw [p_wI (by omega) (by omega)]; rfl) hsx hn1 hn2
  have g := hs.2 st hst.1 hst.2
  have h9 := hs.1
  unfold f_X2_takes f_X12_takesOf f_X12_says
  simp only [p_lt]
  rw [a1, p_at hst.1 (by omega) (by decide) (by decide), a2 802 (by decide), show 16 + 8 * st + 1 = 17 + 8 * st by omega]
  rcases q with ⟨q1, q2⟩ | ⟨k, v, M', N', b1, b2, b3, b4, b5, b6, b7, b8⟩
  · rw [q1, Option.bind_some, q2, Option.bind_some, Option.bind_some]
    rw [if_pos rfl, if_neg (by decide), p_ck (by omega), p_cut (by omega) (by omega) (by decide)]
    exact ⟨_, _, _, rfl, by rw [Option.bind_some]; exact congrArg some (Prod.ext (by show max 0 (min (N 802 (17 + 8 * st)) 9999) = _; omega) rfl), by omega, by omega, a3⟩
  · obtain ⟨c1, c2, c3⟩ := b7 (by decide)
    rw [b1, Option.bind_some, b2, Option.bind_some, Option.bind_some]
    rw [if_neg (by decide), if_pos b3, b4, b5, Option.bind_some, Option.bind_some, Option.bind_some, c1, p_cut (by omega) (by omega) (by decide)]
    exact ⟨_, _, _, rfl, rfl, by unfold f_X2_within; omega, by unfold f_X2_within; omega, b6⟩
theorem s_wears {M N : Mem} {s st w hh : Int} {n1 n2 : Nat} (hL : pLaw M N) (hs : pSt M N s) (hst : 0 ≤ st ∧ st < N 802 0) (hhh : M s 11 = hh) (hh0 : 0 ≤ hh ∧ hh ≤ 10100) (h8 : N 802 8 = hh) (hwt : 0 ≤ w ∧ w ≤ 198) (hsx : s + 6 ≤ 713 ∨ 713 < s) (hn1 : 400 ≤ n1) (hn2 : 400 ≤ n2) :
    ∃ v M' N', f_X2_wears n1 s st w M = some (v, M') ∧ f_X12_wearsOf n2 st w N = some (v, N') ∧ 0 ≤ v ∧ v ≤ 100 ∧ pFr M M' N N' := by
  obtain ⟨N1, a1, a2, a3, q⟩ := l_law (ot := 0) (wd := 130) (l := 2) (n1 := n1) (n2 := n2) hL hs hst hhh hh0 hwt (by omega) (by omega) (by rw [p_wI (by omega) (by omega)]; rfl) hsx hn1 hn2
  unfold f_X2_wears f_X12_wearsOf f_X12_says
  simp only [p_lt]
  rw [h8, a1]
  rcases q with ⟨q1, q2⟩ | ⟨k, v, M', N', b1, b2, b3, b4, b5, b6, b7, b8⟩
  · rw [q1, q2, Option.bind_some, Option.bind_some]
    rw [if_pos rfl, if_neg (by decide), p_cut (by omega) (by omega) (by decide)]
    exact ⟨_, _, _, rfl, rfl, by decide, by decide, a3⟩
  · obtain ⟨c1, c2, c3⟩ := b7 (by decide)
    rw [b1, b2, Option.bind_some, Option.bind_some]
    rw [if_neg (by decide), if_pos b3, b4, b5, Option.bind_some, Option.bind_some, Option.bind_some, c1, p_cut (by omega) (by omega) (by decide)]
    exact ⟨_, _, _, rfl, rfl, by unfold f_X2_within; omega, by unfold f_X2_within; omega, b6⟩
theorem p_prod {a h : Int} (h0 : 1 ≤ h) (h1 : h ≤ 99) (a0 : -198 ≤ a) (a1 : a ≤ 99) : -19602 ≤ a * h ∧ a * h ≤ 9801 ∧ (0 ≤ a → 0 ≤ a * h) ∧ (a ≤ 0 → a * h ≤ 0) := by
  refine ⟨?_, ?_, fun z => Int.mul_nonneg z (by omega), fun z => Int.mul_nonpos_of_nonpos_of_nonneg z (by omega)⟩
  · by_cases c : 0 ≤ a
    · have := Int.mul_nonneg c (show 0 ≤ h by omega)
      omega
    · have e : -198 * 99 ≤ a * h := by
        have e1 : -198 * h ≤ a * h := Int.mul_le_mul_of_nonneg_right a0 (by omega)
        omega
      omega
  · by_cases c : 0 ≤ a
    · have e1 : a * h ≤ 99 * h := Int.mul_le_mul_of_nonneg_right a1 (by omega)
      omega
    · have := Int.mul_nonpos_of_nonpos_of_nonneg (show a ≤ 0 by omega) (show 0 ≤ h by omega)
      omega
theorem s_hauls {M N : Mem} {s st w ot hh : Int} {n1 n2 : Nat} (hL : pLaw M N) (hs : pSt M N s) (hst : 0 ≤ st ∧ st < N 802 0) (hhh : M s 11 = hh) (hh0 : 0 ≤ hh ∧ hh ≤ 10100) (h8 : N 802 8 = hh) (hwt : 0 ≤ w ∧ w ≤ 99) (hot : 0 ≤ ot ∧ ot ≤ 99) (hsx : s + 6 ≤ 713 ∨ 713 < s) (hn1 : 400 ≤ n1) (hn2 : 400 ≤ n2) :
    ∃ v M' N', f_X2_hauls n1 s st w ot M = some (v, M') ∧ f_X12_haulsOf n2 st w ot N = some (v, N') ∧ 0 ≤ v ∧ v ≤ 9999 ∧ pFr M M' N N' := by
  obtain ⟨N1, a1, a2, a3, q⟩ := l_law (ot := ot) (wd := 129) (l := 1) (n1 := n1) (n2 := n2) hL hs hst hhh hh0 (show 0 ≤ w ∧ w ≤ 198 by omega) hot (by omega) (by rw [p_wI (by omega) (by omega)]; rfl) hsx hn1 hn2
  have g := (hs.2 st hst.1 hst.2).1
  have h9 := hs.1
  unfold f_X2_hauls f_X12_haulsOf f_X12_says
  simp only [p_lt]
  rw [h8, a1, p_at hst.1 (by omega) (by decide) (by decide), a2 802 (by decide), show 16 + 8 * st + 0 = 16 + 8 * st by omega]
  rcases q with ⟨q1, q2⟩ | ⟨k, v, M', N', b1, b2, b3, b4, b5, b6, b7, b8⟩
  · have pr := p_prod (a := w - ot) g.2.1 g.2.2 (by omega) (by omega)
    rw [q1, Option.bind_some, q2, Option.bind_some, Option.bind_some]
    rw [if_pos rfl, if_neg (by decide), p_ck (by omega), p_wI (x := w - ot) (by omega) (by omega), p_wI (x := (w - ot) * N 802 (16 + 8 * st)) (by omega) (by omega), p_cut (by omega) (by omega) (by decide), g.1]
    have e : wI (max 0 (w - ot) * N 802 (16 + 8 * st)) = max 0 (min ((w - ot) * N 802 (16 + 8 * st)) 9999) := by
      by_cases c : 0 ≤ w - ot
      · have := pr.2.2.1 c
        rw [show max 0 (w - ot) = w - ot by omega, p_wI (by omega) (by omega)]
        omega
      · have := pr.2.2.2 (by omega)
        rw [show max 0 (w - ot) = 0 by omega, Int.zero_mul, p_wI (by omega) (by omega)]
        omega
    rw [e]
    exact ⟨_, _, _, rfl, rfl, by omega, by omega, a3⟩
  · obtain ⟨c1, c2, c3⟩ := b7 (by decide)
    rw [b1, Option.bind_some, b2, Option.bind_some, Option.bind_some]
    rw [if_neg (by decide), if_pos b3, b4, b5, Option.bind_some, Option.bind_some, Option.bind_some, c1, p_cut (by omega) (by omega) (by decide)]
    exact ⟨_, _, _, rfl, rfl, by unfold f_X2_within; omega, by unfold f_X2_within; omega, b6⟩
theorem s_flows {M N : Mem} {s st hh : Int} {n1 n2 : Nat} (hL : pLaw M N) (hs : pSt M N s) (hst : 0 ≤ st ∧ st < N 802 0) (hhh : M s 11 = hh) (hh0 : 0 ≤ hh ∧ hh ≤ 10100) (h8 : N 802 8 = hh) (hsx : s + 6 ≤ 713 ∨ 713 < s) (hn1 : 400 ≤ n1) (hn2 : 400 ≤ n2) :
    ∃ v M' N', f_X2_flows n1 s st M = some (v, M') ∧ f_X12_flowsOf n2 st N = some (v, N') ∧ 0 ≤ v ∧ v ≤ N 802 (18 + 8 * st) ∧ pFr M M' N N' := by
  obtain ⟨N1, a1, a2, a3, q⟩ := l_law (w := 0) (ot := 0) (wd := 131) (l := 3) (n1 := n1) (n2 := n2) hL hs hst hhh hh0 (by omega) (by omega) (by omega) (by rw [p_wI (by omega) (by omega)]; rfl) hsx hn1 hn2
  have g := hs.2 st hst.1 hst.2
  have h9 := hs.1
  unfold f_X2_flows f_X12_flowsOf f_X12_says
  simp only [p_lt]
  rw [h8, a1, p_at hst.1 (by omega) (by decide) (by decide), p_at hst.1 (by omega) (by decide) (by decide), show 16 + 8 * st + 1 = 17 + 8 * st by omega, show 16 + 8 * st + 2 = 18 + 8 * st by omega, a2 802 (by decide) (17 + 8 * st), a2 802 (by decide) (18 + 8 * st)]
  rcases q with ⟨q1, q2⟩ | ⟨k, v, M', N', b1, b2, b3, b4, b5, b6, b7, b8⟩
  · rw [q1, Option.bind_some, Option.bind_some, Option.bind_some, Option.bind_some, q2, Option.bind_some]
    rw [if_pos rfl, if_neg (by decide), p_ck (by omega), g.2.1.1, g.2.2.1.1, p_wI (x := 10 * N 802 (17 + 8 * st)) (by omega) (by omega), p_wI (x := N 802 (18 + 8 * st) - 10 * N 802 (17 + 8 * st)) (by omega) (by omega), p_cut (by omega) (by omega) (by omega)]
    exact ⟨_, _, _, rfl, by rw [Option.bind_some]; exact congrArg some (Prod.ext (by show max 0 (min (N 802 (18 + 8 * st) - 10 * N 802 (17 + 8 * st)) (N 802 (18 + 8 * st))) = _; omega) rfl), by omega, by omega, a3⟩
  · obtain ⟨c1, c2, c3⟩ := b7 (by decide)
    rw [b1, Option.bind_some, Option.bind_some, Option.bind_some, Option.bind_some, b2, Option.bind_some]
    rw [if_neg (by decide), if_pos b3, b4, b5, Option.bind_some, Option.bind_some, Option.bind_some, p_ck (by omega), c1, p_cut (by omega) (by omega) (by omega)]
    have e : M' (s + 3) st = N 802 (18 + 8 * st) := by rw [b6.1 (s + 3) (by omega)]; exact g.2.2.1.1
    simp only [e]
    exact ⟨_, _, _, rfl, rfl, by unfold f_X2_within; omega, by unfold f_X2_within; omega, b6⟩
theorem s_falls {M N : Mem} {s st w hh : Int} {n1 n2 : Nat} (hL : pLaw M N) (hs : pSt M N s) (hst : 0 ≤ st ∧ st < N 802 0) (hhh : M s 11 = hh) (hh0 : 0 ≤ hh ∧ hh ≤ 10100) (h8 : N 802 8 = hh) (hwt : 0 ≤ w ∧ w ≤ 198) (hsx : s + 6 ≤ 713 ∨ 713 < s) (hn1 : 400 ≤ n1) (hn2 : 400 ≤ n2) :
    ∃ v M' N', f_X2_falls n1 s st w M = some (v, M') ∧ f_X12_isFalling n2 st w N = some (v, N') ∧ (v = 0 ∨ v = 1) ∧ pFr M M' N N' := by
  obtain ⟨N1, a1, a2, a3, q⟩ := l_law (ot := 0) (wd := 132) (l := 4) (n1 := n1) (n2 := n2) hL hs hst hhh hh0 hwt (by omega) (by omega) (by rw [p_wI (by omega) (by omega)]; rfl) hsx hn1 hn2
  have g := hs.2 st hst.1 hst.2
  have h9 := hs.1
  have e0 : f_X12_clauseOf n2 4 N = f_X12_clauseOf n2 4 N1 := (l_clauseSame (a2 802 (by decide) 3) (a2 804 (by decide)) 4 n2 0).symm
  unfold f_X2_falls f_X12_isFalling
  simp only [p_lt]
  rw [h8, a1, e0, p_at hst.1 (by omega) (by decide) (by decide), p_at hst.1 (by omega) (by decide) (by decide), show 16 + 8 * st + 1 = 17 + 8 * st by omega, show 16 + 8 * st + 2 = 18 + 8 * st by omega]
  rcases q with ⟨q1, q2⟩ | ⟨k, v, M', N', b1, b2, b3, b4, b5, b6, b7, b8⟩
  · rw [q1, q2, Option.bind_some, Option.bind_some]
    rw [if_pos rfl, if_neg (show ¬ (0 : Int) ≤ -1 by decide), p_ck (by omega), g.2.1.1, g.2.2.1.1, Option.bind_some, Option.bind_some]
    by_cases c : N 802 (18 + 8 * st) ≤ wI (10 * N 802 (17 + 8 * st))
    · rw [if_pos c, if_pos c]
      exact ⟨0, M, N, rfl, rfl, Or.inl rfl, pFr_rfl⟩
    · rw [if_neg c, if_neg c]
      exact ⟨1, M, N, rfl, rfl, Or.inr rfl, pFr_rfl⟩
  · obtain ⟨c1, c2⟩ := b8 rfl
    rw [b1, b2, Option.bind_some, Option.bind_some]
    rw [if_neg (by decide), if_pos b3, b4, b5, Option.bind_some, Option.bind_some, c1, p_ck c2]
    rcases c2 with r | r
    · rw [r, if_pos rfl]
      exact ⟨0, M', N', rfl, rfl, Or.inl rfl, b6⟩
    · rw [r]
      dsimp only
      rw [if_neg (show ¬ (1 : Int) = 0 by decide)]
      exact ⟨1, M', N', rfl, rfl, Or.inr rfl, b6⟩
