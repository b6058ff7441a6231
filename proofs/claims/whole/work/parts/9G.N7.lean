set_option linter.unusedVariables false
set_option linter.unusedSimpArgs false
/-! text: a number, a name, one above or below -/
def gPM (c : Int) (M M' : Mem) : Prop := ∀ y j, ¬ (y = 703 ∧ (j = 2 ∨ j = 3 ∨ (5 ≤ j ∧ j ≤ 8))) → ¬ (y = c + 3 ∨ y = c + 4) → ¬ (y = c ∧ j = 3) → M' y j = M y j
def gPN (x : Int) (N N' : Mem) : Prop := (∀ y j, ¬ (y = 801 ∧ ((7 ≤ j ∧ j ≤ 11) ∨ j = 13 ∨ (16 ≤ j ∧ j ≤ 18))) → y ≠ 804 → y ≠ 806 → N' y j = N y j) ∧ (∀ j, ¬ (x + 121 ≤ j ∧ j < x + 729) → N' 804 j = N 804 j) ∧ N 801 8 ≤ N' 801 8
/-- it failed, on both sides alike -/
def qFail (a c x : Int) (M N M' : Mem) : Prop := ∃ (N' : Mem) (e : Int) (k : Nat), (∀ n, 1000 ≤ n → f_X12_parsed_L20 (n + k) a N = some (e, N')) ∧ e ≠ 0 ∧ M' 703 2 = e ∧ M' 703 3 = N' 801 8 ∧ gPM c M M' ∧ gPN x N N' ∧ (N 801 8 + (k : Int) ≤ N' 801 8 + 1 ∧ N' 801 8 ≤ 300)
/-- one was read; N3: before the reference settles -/
def qOne (a c x l p d nn b f : Int) (M N M' : Mem) : Prop := ∃ (N3 : Mem) (k : Nat), (∀ N4, (∃ g : Nat, (g : Int) ≤ 500 + d ∧ ∀ n, g ≤ n → f_X12_settle n 7 N3 = some N4) → ∀ n, 1000 ≤ n → f_X12_parsed_L20 (n + k) a N = f_X12_parsed_L20 n a N4) ∧ pPs M' N3 c x l p ∧ N3 801 16 = p ∧ N3 801 17 = d ∧ N3 801 18 = 1 ∧ fPM c M M' ∧ fPN x p N N3 ∧ pWf (oX N3 x) (uX N3 x) f (M' c 3) (nn + 1) b ∧ (N 801 8 + (k : Int) ≤ N3 801 8 ∧ (1 : Int) ≤ k)
/-- before one is read -/
def qPre (a c x l p d nn b f : Int) (M N : Mem) : Prop := pPs M N c x l p ∧ N 801 16 = p ∧ N 801 17 = d ∧ N 801 18 = 0 ∧ (N 801 19 = a ∧ (a = 0 ∨ a = 1)) ∧ (M 703 9 = N 801 14 ∧ 0 ≤ N 801 14 ∧ N 801 14 ≤ 4) ∧ pWf (oX N x) (uX N x) f (M c 3) nn b ∧ (0 ≤ nn ∧ 0 ≤ b ∧ nn + b ≤ p ∧ 0 ≤ f ∧ f ≤ M c 3) ∧ (0 ≤ d ∧ d ≤ 8)
/-- the reference takes no `not` here -/
def noNot (N : Mem) : Prop := ∀ n, 400 ≤ n → f_X12_isAskAhead n N = some 0
theorem l_failBy (e : Int) (M : Mem) : f_X4_failBy e M = (0, upM (upM M 703 2 e) 703 3 (M 703 7)) := by
  unfold f_X4_failBy
  rw [p_lt, p_lt, up_nei (by decide)]
theorem gPM_of {c : Int} {M M' : Mem} (h : fPM c M M') : gPM c M M' := fun y j a b d => h y j (by omega) b d
theorem gPN_of {x p : Int} {N N' : Mem} (h : fPN x p N N') (h0 : 0 ≤ N 801 13) : gPN x N N' := ⟨h.1, fun j a => h.2.1 j (by omega), h.2.2.2.2⟩
theorem gPM_trans {c : Int} {M M1 M2 : Mem} (a : gPM c M M1) (b : gPM c M1 M2) : gPM c M M2 := fun y j h1 h2 h3 => (b y j h1 h2 h3).trans (a y j h1 h2 h3)
theorem gPN_trans {x : Int} {N N1 N2 : Mem} (a : gPN x N N1) (b : gPN x N1 N2) : gPN x N N2 := ⟨fun y j h1 h2 h3 => (b.1 y j h1 h2 h3).trans (a.1 y j h1 h2 h3), fun j h => (b.2.1 j h).trans (a.2.1 j h), by have := a.2.2; have := b.2.2; omega⟩
theorem pPs300 {M N : Mem} {c x l p : Int} (h : pPs M N c x l p) : N 801 8 ≤ 300 := Int.le_trans h.2.1.2.2.2.2.2.1 h.1.2.2.2.1
/-- a failure, where one should begin -/
theorem l_fl {a c x : Int} {M N M2 N2 : Mem} {e : Int} (h18 : N 801 18 = 0) (hb : ∀ n, 1000 ≤ n → f_X12_beginOne n N = some (e, N2)) (he : e ≠ 0) (h7 : M2 703 7 = N2 801 8 ∧ N2 801 8 ≤ 300) (hc : 773 ≤ c) (gM : gPM c M M2) (gN : gPN x N N2) : qFail a c x M N (upM (upM M2 703 2 e) 703 3 (M2 703 7)) := by
  refine ⟨N2, e, 1, fun n hn => ?_, he, by rw [up_nei (by decide), up_eq], by rw [up_eq]; exact h7.1, fun y j z1 z2 z3 => ?_, gN, by have := gN.2.2; have := h7.2; omega⟩
  · rw [f_X12_parsed_L20, if_pos h18, hb n hn, Option.bind_some, if_neg he]
  · rw [up_ne (by omega), up_ne (by omega)]
    exact gM y j z1 z2 z3
/-- a code, where one should begin -/
theorem l_ok {a c x l p d nn b f op arg o v : Int} {M N M2 N2 : Mem} {nA : Nat} (hc : pCx c x) (hq : qPre a c x l p d nn b f M N) (hA : 700 ≤ nA) (h2 : pPs M2 N2 c x l p) (h16 : N2 801 16 = p) (h17 : N2 801 17 = N 801 17) (h13 : N2 801 13 = N 801 13) (h6 : ∀ j, N2 806 j = N 806 j) (h4 : ∀ j, N2 804 j = N 804 j) (h3 : M2 c 3 = M c 3)
    (hb : ∀ n, 1000 ≤ n → f_X12_beginOne n N = (f_X12_one n o v N2).bind fun q => some (q.1, q.2)) (hcd : pCd op arg o v) (hne : N2 801 9 ≠ 0) (fM : fPM c M M2) (fN : fPN x p N N2) (hst : pStep o v nn b (nn + 1) b) :
    ∃ M1 M', f_X6_addCode c op arg M2 = some M1 ∧ f_X4_advance nA M1 = some M' ∧ qOne a c x l p d nn b f M N M' := by
  obtain ⟨q1, q2, q3, q4, q5, q6, q7, q8, q9⟩ := hq
  obtain ⟨M1, M', N1, N3, a1, a2, a3, a4, a5, a6, a7, a8, a9, a10, a11, a12, a13, a14, a15, a16⟩ := l_cod1 hc h2 h16 hcd hne hA
  refine ⟨M1, M', a1, a2, upM N3 801 18 1, 1, fun N4 hs n hn => ?_, a5, ?_, ?_, up_eq, fPM_trans fM a6, fPN_trans (Int.le_refl _) fN a7, ?_, ?_⟩
  · rw [f_X12_parsed_L20, if_pos q4, hb n hn]
    unfold f_X12_one
    rw [a3, Option.bind_some, a4 n (by omega), Option.bind_some, p_lt, hs.choose_spec.2 n (by have := hs.choose_spec.1; omega)]
    rfl
  · rw [up_nei (by decide)]; exact a9
  · rw [up_nei (by decide), a10, h17]; exact q3
  · rw [a16]
    have e : ∀ j, j < M c 3 → oX N2 x j = oX N x j ∧ uX N2 x j = uX N x j := by
      intro j hj
      unfold oX uX
      rw [h13, h16, q2, h6, h4, h4]
      exact ⟨rfl, rfl⟩
    have w : pWf (oX (upM N3 801 18 1) x) (uX (upM N3 801 18 1) x) f (M2 c 3) nn b := by
      refine pWf_same (h3 ▸ q7) (fun j j0 j1 => ?_)
      obtain ⟨u1, u2⟩ := a13 j j1
      obtain ⟨w1, w2⟩ := e j (by omega)
      exact ⟨u1.trans w1, u2.trans w2⟩
    exact pWf_one w (by omega) q8.1 q8.2.1 (by rw [a14, a15]; exact hst)
  · rw [up_nei (by decide)]
    have := fN.2.2.2.2
    omega
