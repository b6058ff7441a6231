set_option linter.unusedVariables false
set_option linter.unusedSimpArgs false
/-! text: what is asked, by `and` and `or` -/
def okAskP (nA m : Nat) (L rk B s : Int) (c x l : Int) : Prop := ∀ (M N : Mem) (p b f : Int), qPre 1 c x l p 0 0 b f M N → p ≤ s → (p = 0 ∨ (1 ≤ f_X12_rank (N 806 (p - 1)) ∧ f_X12_rank (N 806 (p - 1)) < rk)) → ¬ pOpen N → ∃ v M', f_rd nA m 0 L 0 M = some (v, M') ∧ ((v = 1 ∧ qAsk c x l p 0 (b + 1) f rk B L M N M') ∨ (v = 0 ∧ qFail 1 c x M N M'))
theorem l_askP2 {nA m : Nat} {c x l : Int} (R : okAsk nA m 0 c x l) : okAskP nA (m + 1) 2 3 11 2 c x l := by
  intro M N p b f hq hp hr hno
  show ∃ v M', b_X4_readPart nA (f_rd nA m) 2 0 M = some (v, M') ∧ _
  unfold b_X4_readPart
  obtain ⟨v, M', r1, r2⟩ := R M N p 0 b f hq (by decide) (by omega) (by
    rcases hr with z | z
    · exact Or.inl z
    · exact Or.inr (by omega)) hno
  rw [if_neg (by decide), r1, Option.bind_some]
  rcases r2 with ⟨v1, s⟩ | ⟨v0, s⟩
  · rw [p_ck (Or.inr v1)]
    exact ⟨v, M', rfl, Or.inl ⟨v1, s⟩⟩
  · rw [p_ck (Or.inl v0)]
    exact ⟨v, M', rfl, Or.inr ⟨v0, s⟩⟩
theorem l_joinsB {M : Mem} {L rk o t : Int} (hL : (L = 1 ∧ rk = 2 ∧ o = 21 ∧ t = 153) ∨ (L = 0 ∧ rk = 1 ∧ o = 22 ∧ t = 152)) : (f_X4_joinsAt L M = 1 ∧ M 703 6 = t) ∨ (f_X4_joinsAt L M = 0 ∧ (nj (L + 1) (M 703 6) → nj L (M 703 6))) := by
  rcases hL with ⟨h1, h2, h3, h4⟩ | ⟨h1, h2, h3, h4⟩
  · subst h1 h4
    unfold f_X4_joinsAt
    rw [if_neg (by decide), if_pos rfl]
    by_cases y : M 703 6 = 153
    · rw [if_neg (fun z => z y)]; exact Or.inl ⟨rfl, y⟩
    · rw [if_pos y]
      exact Or.inr ⟨rfl, fun z => ⟨fun _ => z.1 (by decide), fun _ => z.2.1 (by decide), fun _ => y, fun w => by omega⟩⟩
  · subst h1 h4
    unfold f_X4_joinsAt
    rw [if_pos rfl]
    by_cases y : M 703 6 = 152
    · rw [if_neg (fun z => z y)]; exact Or.inl ⟨rfl, y⟩
    · rw [if_pos y]
      exact Or.inr ⟨rfl, fun z => ⟨fun _ => z.1 (by decide), fun _ => z.2.1 (by decide), fun _ => z.2.2.1 (by decide), fun _ => y⟩⟩
theorem l_loopB {nA m : Nat} {L rk B s o t c x l : Int} (hc : pCx c x) (hL : (L = 1 ∧ rk = 2 ∧ o = 21 ∧ t = 153) ∨ (L = 0 ∧ rk = 1 ∧ o = 22 ∧ t = 152)) (hB : 0 ≤ B ∧ B ≤ 12) (hs : 0 ≤ s ∧ s ≤ 5) (R : okAskP nA m (L + 1) (rk + 1) B (s + 1) c x l) {M N : Mem} {p b f : Int} (hq : qPre 1 c x l p 0 0 b f M N) (hp : p ≤ s) (hr : p = 0 ∨ (1 ≤ f_X12_rank (N 806 (p - 1)) ∧ f_X12_rank (N 806 (p - 1)) < rk)) (hno : ¬ pOpen N) :
    ∀ (k n : Nat) (x3 : Int) (M1 : Mem), 300 - x3 < k → k + 710 ≤ n → 0 ≤ x3 → x3 ≤ 300 → x3 ≤ M1 703 7 → qAsk c x l p 0 (b + 1) f rk (B + 1) (L + 1) M N M1 →
    ∃ v M', f_X4_readPart_L37 n (f_rd nA m) L 0 x3 M1 = some (v, M') ∧ ((v = 1 ∧ qAsk c x l p 0 (b + 1) f rk (B + 1) L M N M') ∨ (v = 0 ∧ qFail 1 c x M N M')) := by
  intro k
  induction k with
  | zero => intro n x3 M1 g0 g1 g2 g3; omega
  | succ k ih =>
    intro n x3 M1 g0 g1 g2 g3 g4 hpart
    obtain ⟨n, rfl⟩ : ∃ n', n = n' + 1 := ⟨n - 1, by omega⟩
    have hq' := hq
    obtain ⟨q1, q2, q3, q4, q5, q6, q7, q8, q9⟩ := hq
    have g13 := q1.2.2.2.1.1.2.1
    have p0 := q1.2.2.2.1.1.2.2.1
    have l300 := q1.1.2.2.2.1
    obtain ⟨N1, k1, w1, s1, s2, s3, s4, s5, s6, s7, s8, s9, s10, s11, s12⟩ := hpart
    have tok := s2.2.1
    have kd : pKd M1 N1 := tok.2.2.2.2.2.2.1
    have ka := kd_all kd
    have e7 : M1 703 7 = N1 801 8 := tok.2.2.2.1
    have c1 := s2.2.2.2.1.1
    have c0 := q1.2.2.2.1.1
    have t150 := s2.2.2.2.2.2
    have no1 : ¬ pOpen N1 := notOpen hno (by omega) s8 (fun j j0 j1 => by have := (s4 j j0 j1).1; unfold isOp at this; omega)
    have e19 : N1 801 19 = 1 := by rw [s8.1 _ _ (by omega) (by decide) (by decide)]; exact q5.1
    have rk_o : f_X12_rank o = rk ∧ pOp o 0 = t ∧ (o = 21 ∨ o = 22) ∧ t ≠ 4 := by
      rcases hL with ⟨-, h2, h3, h4⟩ | ⟨-, h2, h3, h4⟩ <;> subst h2 h3 h4 <;> decide
    rw [f_X4_readPart_L37]
    have stop : nj L (M1 703 6) → ∃ v M', some ((1 : Int), M1) = some (v, M') ∧ ((v = 1 ∧ qAsk c x l p 0 (b + 1) f rk (B + 1) L M N M') ∨ (v = 0 ∧ qFail 1 c x M N M')) := fun z =>
      ⟨1, M1, rfl, Or.inl ⟨rfl, N1, k1, w1, s1, s2, s3, s4, s5, s6, s7, s8, s9, s10, z, s12⟩⟩
    by_cases c3 : 300 ≤ x3
    · rw [if_pos c3]
      have z0 : N1 801 9 = 0 := by
        by_cases z : N1 801 9 = 0
        · exact z
        · have := tok.2.2.2.2.2.2.2.2 z
          have := tok.2.2.1
          omega
      have t4 := ka.2.1.mp z0
      exact stop (by rw [t4]; unfold nj; omega)
    · rw [if_neg c3]
      rcases l_joinsB (M := M1) hL with ⟨j1, j2⟩ | ⟨j1, j2⟩
      · rw [j1, if_neg (show ¬ (1 : Int) = 0 by decide)]
        have nj3 : nj 3 (M1 703 6) := ⟨fun _ => s11.1 (by omega), fun _ => s11.2.1 (by omega), fun z => by omega, fun z => by omega⟩
        have bet : ∀ n, 200 ≤ n → f_X12_betweenOf n N1 = some o := fun n hn => by
          obtain ⟨va, h1, h2⟩ := l_askHere (N := N1) (by omega) (by omega)
          have va1 : va = 1 := by
            rcases h2 with ⟨z, -, -⟩ | ⟨-, z⟩
            · exact z
            · rcases z with z | z
              · omega
              · exact absurd z no1
          subst va1
          rw [q_bta kd nj3 (h1 n hn), l_cmp1 p0 (by omega) s12 hn, Option.bind_some, if_pos (by decide), j2]
          rcases hL with ⟨-, -, h3, h4⟩ | ⟨-, -, h3, h4⟩ <;> subst h3 h4 <;> decide
        obtain ⟨M2, N2, a1, a2, a3, a4, a5, a6, a7⟩ := l_between (nn := 0) (o := o) hc s2 s3.1 (by omega) s4 (by
          rcases hr with z | z
          · exact Or.inl z
          · rw [s8.2.2.1 _ (by omega)]; exact Or.inr z.2) s5 q9 s6 rk_o.1 (by omega) ⟨e19, Or.inr rfl⟩ (by rw [s7 703 9 (by omega) (by have := hc.2.1; omega) (by have := hc.2.1; omega), s8.1 _ _ (by omega) (by decide) (by decide)]; exact q6) s9 (by have := s8.2.2.2.1; omega) (fun z => by have := ka.2.1.mp z; omega) (nA := n) (by omega) (fun n hn => bet n (by omega))
        rw [a1, Option.bind_some, p_wI (x := L + 1) (by omega) (by omega)]
        have e16 := a3.2.1
        obtain ⟨v, M3, r1, r2⟩ := R M2 N2 (p + 1) (b + 1) f a3 (by omega) (Or.inr (by rw [show p + 1 - 1 = p by omega, a4, rk_o.1]; omega)) (notOpen no1 (by omega) a6 (fun j j0 j1 => by
          by_cases z : j = p
          · rw [z, a4]; omega
          · omega))
        rw [r1, Option.bind_some]
        have far : ∀ n, 1000 ≤ n → f_X12_parsed_L20 (n + (k1 + 1)) 1 N = f_X12_parsed_L20 n 1 N2 := fun n hn => by
          rw [show n + (k1 + 1) = (n + 1) + k1 by omega, s1 (n + 1) (by omega), a2 n hn]
        rcases r2 with ⟨v1, N3, k3, w3, u1, u2, u3, u4, u5, u6, u7, u8, u9, u10, u11, u12⟩ | ⟨v0, u⟩
        · rw [if_pos (show (v, M3).1 ≠ 0 from by show v ≠ 0; omega)]
          have e4 : N3 806 p = o := by rw [u8.2.2.1 p (by omega)]; exact a4
          have iso : isOp (N3 806 p) := by rw [e4]; unfold isOp; omega
          have cM : M3 0 1 = c := u2.2.2.1.1
          have c2 := a3.1.2.2.2.1.1
          have c5 := u2.2.2.2.1.1
          have d8 := u8.2.2.2.1
          have f2 := a3.2.2.2.2.2.2.2.1.2.2.2.2
          obtain ⟨M4, w_1, w_2, w_3, w_4, w_5, w_6⟩ := l_wait (n2 := 0) (b2 := b + 1) hc u2 (by omega) iso u9 (by omega) (by omega) (by omega) (by rw [e4]; exact Or.inr (Or.inr (Or.inr (Or.inr (Or.inr (Or.inr (Or.inr ⟨by omega, by omega, rfl, by omega, rfl, by omega⟩)))))))
          rw [show pOp (N3 806 p) 0 = M1 703 6 by rw [e4, rk_o.2.1, j2]] at w_1
          show ∃ v M', ck (isTx (M3 0 1)) ((f_X6_addCode (M3 0 1) (M1 703 6) 0 M3).bind fun q11 => f_X4_readPart_L37 n (f_rd nA m) L 0 (wI (x3 + 1)) q11) = some (v, M') ∧ _
          rw [cM, p_ck hc.1, w_1, Option.bind_some, p_wI (x := x3 + 1) (by omega) (by omega)]
          have t3 := u2.2.1.2.2.2.1
          obtain ⟨j, j0, j1', j2', j3⟩ := u12
          refine ih n (x3 + 1) M4 (by omega) (by omega) (by omega) (by omega) (by rw [w_6]; omega) ⟨N3, k3 + (k1 + 1), w3 + 1, fun n hn => ?_, w_2, ⟨by omega, by omega⟩, fun j y0 y1 => ?_, ?_, u6, fPM_trans (fPM_trans (fPM_trans s7 a5) u7) w_3, fPN_trans (Int.le_refl _) (fPN_trans (Int.le_refl _) s8 a6) ⟨u8.1, u8.2.1, fun j hj => u8.2.2.1 j (by omega), u8.2.2.2.1, u8.2.2.2.2⟩, w_5, by omega, by rw [w_6]; exact u11, ⟨j, by omega, j1', j2', j3⟩⟩
          · rw [show n + (k3 + (k1 + 1)) = (n + k3) + (k1 + 1) by omega, far (n + k3) (by omega)]
            exact u1 n hn
          · by_cases z : j = p
            · subst z
              exact ⟨iso, by rw [e4, rk_o.1]; exact Int.le_refl _⟩
            · have := u4 j (by omega) y1
              exact ⟨this.1, by omega⟩
          · rw [opn_shift, e4, if_neg (by omega), u5]; omega
        · rw [if_neg (show ¬ (v, M3).1 ≠ 0 from fun z => z v0)]
          exact ⟨0, M3, rfl, Or.inr ⟨rfl, qFail_onk u far (fPM_trans s7 a5) (fPN_trans (Int.le_refl _) s8 a6) g13 (by omega)⟩⟩
      · rw [j1, if_pos rfl]
        exact stop (j2 s11)
theorem l_askPA {nA m : Nat} {L rk B s o t c x l : Int} (hc : pCx c x) (hA : 1100 ≤ nA) (hL : (L = 1 ∧ rk = 2 ∧ o = 21 ∧ t = 153) ∨ (L = 0 ∧ rk = 1 ∧ o = 22 ∧ t = 152)) (hB : 0 ≤ B ∧ B ≤ 12) (hs : 0 ≤ s ∧ s ≤ 5) (R : okAskP nA m (L + 1) (rk + 1) B (s + 1) c x l) : okAskP nA (m + 1) L rk (B + 1) s c x l := by
  intro M N p b f hq hp hr hno
  show ∃ v M', b_X4_readPart nA (f_rd nA m) L 0 M = some (v, M') ∧ _
  unfold b_X4_readPart
  obtain ⟨v, M1, r1, r2⟩ := R M N p b f hq (by omega) (by
    rcases hr with z | z
    · exact Or.inl z
    · exact Or.inr (by omega)) hno
  have t8 := hq.1.2.1.2.2.2.2.1
  rw [if_pos (show L ≠ 2 by omega), if_pos (show L ≠ 5 by omega), p_wI (x := L + 1) (by omega) (by omega), r1, Option.bind_some]
  rcases r2 with ⟨v1, N1, k1, w1, s1, s2, s3, s4, s5, s6, s7, s8, s9, s10, s11, s12⟩ | ⟨v0, u⟩
  · rw [if_pos (show (v, M1).1 ≠ 0 from by show v ≠ 0; omega)]
    have e7 : M1 703 7 = N1 801 8 := s2.2.1.2.2.2.1
    exact l_loopB hc hL hB hs R hq hp hr hno 310 nA 0 M1 (by omega) (by omega) (by omega) (by omega) (by omega) ⟨N1, k1, w1, s1, s2, ⟨s3.1, by omega⟩, fun j y0 y1 => ⟨(s4 j y0 y1).1, by have := (s4 j y0 y1).2; omega⟩, s5, s6, s7, s8, s9, s10, s11, s12⟩
  · rw [if_neg (show ¬ (v, M1).1 ≠ 0 from fun z => z v0)]
    exact ⟨0, M1, rfl, Or.inr ⟨rfl, u⟩⟩
/-- one thing asked, whatever opens -/
theorem l_askAll {nA : Nat} {c x l : Int} (hc : pCx c x) (hA : 1100 ≤ nA) : ∀ (t m : Nat), 49 ≤ m → okAsk nA (m + t) (9 - t) c x l := by
  intro t
  induction t with
  | zero =>
    intro m hm M N p d b f hq hD
    have := hq.2.2.2.2.2.2.2.2
    omega
  | succ t ih =>
    intro m hm
    rw [show m + (t + 1) = m + t + 1 by omega, show (9 : Int) - ((t + 1 : Nat) : Int) = 8 - t by omega]
    refine l_askT hc hA (l_part3 hc hA (m + t) (by omega)) ?_
    have := ih m hm
    rw [show (8 - (t : Int)) + 1 = 9 - t by omega]
    exact this
/-- the whole of what falls asks -/
theorem l_part0 {nA : Nat} {c x l : Int} (hc : pCx c x) (hA : 1100 ≤ nA) (m : Nat) (hm : 62 ≤ m) : okAskP nA m 0 1 13 0 c x l := by
  obtain ⟨m, rfl⟩ : ∃ m', m = m' + 9 + 1 + 1 + 1 := ⟨m - 12, by omega⟩
  have a0 : okAsk nA (m + 9) 0 c x l := l_askAll hc hA 9 m (by omega)
  exact l_askPA (B := 12) (s := 0) hc hA (Or.inr ⟨rfl, rfl, rfl, rfl⟩) (by decide) (by decide) (l_askPA (B := 11) (s := 1) hc hA (Or.inl ⟨rfl, rfl, rfl, rfl⟩) (by decide) (by decide) (l_askP2 a0))
