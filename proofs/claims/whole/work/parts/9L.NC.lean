set_option linter.unusedVariables false
set_option linter.unusedSimpArgs false
/-! text: a part is read: products and sums -/
theorem opn_shift (A : Int → Int) (p : Int) : ∀ k, opn A p (k + 1) = (if A p = 4 ∨ A p = 20 then 1 else 0) + opn A (p + 1) k := by
  intro k
  induction k with
  | zero => rw [opn, opn, opn, show p + ((0 : Nat) : Int) = p by omega]; omega
  | succ k ih =>
    rw [opn, ih, opn, show p + ((k + 1 : Nat) : Int) = p + 1 + (k : Int) by omega]
    omega
/-- the token joins nothing at level L or above -/
def nj (L t : Int) : Prop := (L ≤ 4 → t ≠ 42 ∧ t ≠ 47) ∧ (L ≤ 3 → t ≠ 43 ∧ t ≠ 45) ∧ (L ≤ 1 → t ≠ 153) ∧ (L ≤ 0 → t ≠ 152)
/-- a part was read: what waits above p has at least the rank rk, and is no more than B -/
def qPart (a c x l p d n2 b2 f rk B L : Int) (M N M' : Mem) : Prop := ∃ (N' : Mem) (k w : Nat), (∀ n, 1000 ≤ n → f_X12_parsed_L20 (n + k) a N = f_X12_parsed_L20 n a N') ∧ pPs M' N' c x l p ∧ (N' 801 16 = p + (w : Int) ∧ (w : Int) ≤ B) ∧ (∀ j, p ≤ j → j < N' 801 16 → isOp (N' 806 j) ∧ rk ≤ f_X12_rank (N' 806 j)) ∧ N' 801 17 = d + opn (N' 806) p w ∧ N' 801 18 = 1 ∧ fPM c M M' ∧ fPN x p N N' ∧ pWf (oX N' x) (uX N' x) f (M' c 3) n2 b2 ∧ (N 801 8 + (k : Int) ≤ N' 801 8 ∧ (1 : Int) ≤ k) ∧ nj L (M' 703 6)
/-- a part of an arithmetic level, or a failure -/
def okPart (nA m : Nat) (L rk B s : Int) (D a c x l : Int) : Prop := ∀ (M N : Mem) (p d nn b f : Int), qPre a c x l p d nn b f M N → D ≤ d → p ≤ s + 3 * d → (p = 0 ∨ f_X12_rank (N 806 (p - 1)) < rk) → (M 703 6 ≠ 154 ∨ noNot N) → ∃ v M', f_rd nA m 0 L d M = some (v, M') ∧ ((v = 1 ∧ qPart a c x l p d (nn + 1) b f rk B L M N M') ∨ (v = 0 ∧ qFail a c x M N M'))
theorem l_part5 {nA m : Nat} {D a c x l : Int} (hc : pCx c x) (R : okOne nA m 2 D a c x l) : okPart nA (m + 1) 5 7 0 5 D a c x l := by
  intro M N p d nn b f hq hD hp hr hnot
  have hq' := hq
  obtain ⟨q1, q2, q3, q4, q5, q6, q7, q8, q9⟩ := hq
  obtain ⟨v, M', r1, r2⟩ := R M N p d nn b f hq' hD hp hnot
  show ∃ v M', b_X4_readPart nA (f_rd nA m) 5 d M = some (v, M') ∧ _
  unfold b_X4_readPart
  rw [if_pos (show (5 : Int) ≠ 2 by decide), if_neg (show ¬ (5 : Int) ≠ 5 by decide), r1, Option.bind_some]
  rcases r2 with ⟨v1, N3, k, s1, s2, s3, s4, s5, s6, s7, s8, s9⟩ | ⟨v0, s⟩
  · rw [p_ck (Or.inr v1)]
    obtain ⟨N4, g1, g2, g3, g4, g5, g6, g7, g8⟩ := l_settle (r := 7) (d := d) hc 0 N3 s2 (by omega) (fun j j0 j1 => by omega) (by
      rcases hr with z | z
      · exact Or.inl z
      · rw [s7.2.2.1 _ (by omega)]; exact Or.inr z) q9.1 (by omega) (by rw [s4, opn, Int.add_zero])
    refine ⟨v, M', rfl, Or.inl ⟨v1, N4, k, 0, s1 N4 ⟨1, by omega, fun n hn => ?_⟩, g2, ⟨by omega, by omega⟩, fun j j0 j1 => by omega, by rw [g5, opn, Int.add_zero], by rw [g6]; exact s5, s6, fPN_trans (Int.le_refl _) s7 g3, pWf_same s8 (fun j j0 j1 => g8 j j1), ?_, ?_⟩⟩
    · unfold f_X12_settle
      rw [g1 n (by omega)]
      rfl
    · have := g3.2.2.2.2
      omega
    · exact ⟨fun z => by omega, fun z => by omega, fun z => by omega, fun z => by omega⟩
  · rw [p_ck (Or.inl v0)]
    exact ⟨v, M', rfl, Or.inr ⟨v0, s⟩⟩
/-- an operation between: the reference settles, and puts it on the pile -/
theorem l_between {M N : Mem} {a c x l p d nn b f rk o : Int} {w : Nat} (hc : pCx c x) (h : pPs M N c x l p) (hw : N 801 16 = p + (w : Int)) (hp : p ≤ 130) (hall : ∀ j, p ≤ j → j < N 801 16 → isOp (N 806 j) ∧ rk ≤ f_X12_rank (N 806 j)) (hr : p = 0 ∨ f_X12_rank (N 806 (p - 1)) < rk) (h17 : N 801 17 = d + opn (N 806) p w) (hd : 0 ≤ d ∧ d ≤ 8) (h18 : N 801 18 = 1) (hk : f_X12_rank o = rk) (ho : 0 ≤ o)
    (h19 : N 801 19 = a ∧ (a = 0 ∨ a = 1)) (h9 : M 703 9 = N 801 14 ∧ 0 ≤ N 801 14 ∧ N 801 14 ≤ 4) (hwf : pWf (oX N x) (uX N x) f (M c 3) nn b) (hn : 0 ≤ nn ∧ 0 ≤ b ∧ nn + b ≤ p + 1 ∧ 0 ≤ f ∧ f ≤ M c 3) (hne : N 801 9 ≠ 0)
    {nA : Nat} (hA : 700 ≤ nA) (hb : ∀ n, 1000 ≤ n → f_X12_betweenOf n N = some o) :
    ∃ M2 N2, f_X4_advance nA M = some M2 ∧ (∀ n, 1000 ≤ n → f_X12_parsed_L20 (n + 1) a N = f_X12_parsed_L20 n a N2) ∧ qPre a c x l (p + 1) d nn b f M2 N2 ∧ N2 806 p = o ∧ fPM c M M2 ∧ fPN x p N N2 ∧ N 801 8 + 1 ≤ N2 801 8 := by
  have hcx := hc
  have p0 := h.2.2.2.1.1.2.2.1
  have p150 := h.2.2.2.2.2
  obtain ⟨x1, x2, x3, x4, x5⟩ := hc
  obtain ⟨N1, g1, g2, g3, g4, g5, g6, g7, g8⟩ := l_settle (r := rk) (d := d) hcx w N h hw hall hr hd.1 (by omega) h17
  have g9 : N1 801 9 ≠ 0 := fun z => hne ((kd_all h.2.1.2.2.2.2.2.2.1).2.1.mpr ((kd_all g2.2.1.2.2.2.2.2.2.1).2.1.mp z))
  have c1 := g2.2.2.2.1.1
  obtain ⟨M2, N2, a1, a2, a3, a4, a5, a6, a7, a8, a9, a10, a11, a12⟩ := l_pshT (N1 := upM (upM (upM N1 806 p o) 801 16 (p + 1)) 801 18 0) (o := o) (w := d) hcx g2 g4 g9 (by omega) hA
    (fun y j z1 z2 => by rw [up_ne (by omega), up_ne (by omega), up_ne (by omega)]) (by rw [up_nei (by decide), up_eq]) (by rw [up_nei (by decide), up_nei (by decide), up_nex (by decide)]; exact g5) up_eq (by rw [up_nex (by decide), up_nex (by decide), up_eq])
  have mc : M2 c 3 = M c 3 := a3 _ _ (by omega)
  have g88 := g3.2.2.2.2
  refine ⟨M2, N2, a1, fun n hn' => ?_, ⟨a4, a5, a6, a7, ?_, ?_, ?_, ?_, hd⟩, a8, fPM_kM a3, fPN_trans (Int.le_refl _) g3 a9, by omega⟩
  · rw [f_X12_parsed_L20, if_neg (by omega)]
    unfold f_X12_behindOne
    rw [hb n hn', Option.bind_some, if_neg (by omega), hk]
    unfold f_X12_settle
    rw [g1 n (by omega), Option.bind_some, Option.bind_some, g4, p_ck (by omega), p_lt, up_nex (by decide), g4, p_wI (x := p + 1) (by omega) (by omega), p_lt, p_lt, a2 n (by omega), Option.bind_some]
    rfl
  · rw [a9.1 _ _ (by omega) (by decide) (by decide), g3.1 _ _ (by omega) (by decide) (by decide)]; exact h19
  · rw [a3 _ _ (by omega), a9.1 _ _ (by omega) (by decide) (by decide), g3.1 _ _ (by omega) (by decide) (by decide)]; exact h9
  · rw [mc]
    refine pWf_same hwf (fun j j0 j1 => ?_)
    obtain ⟨u1, u2⟩ := a11 j j1
    obtain ⟨w1, w2⟩ := g8 j j1
    exact ⟨u1.trans w1, u2.trans w2⟩
  · rw [mc]; omega
