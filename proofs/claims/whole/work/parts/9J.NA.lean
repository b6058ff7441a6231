set_option linter.unusedVariables false
set_option linter.unusedSimpArgs false
/-! text: one is read -/
theorem l_fb (e : Int) (M : Mem) : (lt (f_X4_failBy e M) fun q => ck (q.1 = 0 ∨ q.1 = 1) (some (q.1, q.2))) = some (0, upM (upM M 703 2 e) 703 3 (M 703 7)) := by
  rw [l_failBy, p_lt, p_ck (Or.inl rfl)]
theorem q_law {M N : Mem} {t : Int} (h6 : M 703 6 = t) (h9 : M 703 9 = N 801 14) (hn : 0 ≤ nmO t) : (f_X4_isNameOfLaw M = 0 ∧ f_X12_isOf (nmO t) N = 0) ∨ (f_X4_isNameOfLaw M = 1 ∧ f_X12_isOf (nmO t) N = 1) := by
  unfold f_X4_isNameOfLaw f_X12_isOf
  rw [h6, h9]
  by_cases a : t = 148
  · have e : nmO t = 7 := by rw [a]; decide
    rw [e, if_neg (show ¬ t ≠ 148 from fun z => z a), if_neg (show ¬ (7 : Int) < 7 by decide), if_neg (show ¬ (7 : Int) ≠ 7 by decide)]
    by_cases b : N 801 14 = 3
    · rw [if_pos b]; exact Or.inl ⟨rfl, rfl⟩
    · rw [if_neg b]; exact Or.inr ⟨rfl, rfl⟩
  · rw [if_pos (show t ≠ 148 from a)]
    by_cases a2 : t = 149
    · have e : nmO t = 8 := by rw [a2]; decide
      rw [e, if_neg (show ¬ t ≠ 149 from fun z => z a2), if_neg (show ¬ (8 : Int) < 7 by decide), if_pos (show (8 : Int) ≠ 7 by decide)]
      by_cases b : N 801 14 = 1
      · rw [if_neg (show ¬ N 801 14 ≠ 1 from fun z => z b)]; exact Or.inr ⟨rfl, rfl⟩
      · rw [if_pos (show N 801 14 ≠ 1 from b)]; exact Or.inl ⟨rfl, rfl⟩
    · rw [if_pos (show t ≠ 149 from a2)]
      have : nmO t < 7 := by
        unfold nmO at *
        rw [if_neg a, if_neg a2] at *
        grind
      rw [if_pos this]
      exact Or.inr ⟨rfl, rfl⟩
section One
variable {nA m : Nat} {a c x l p d nn b f : Int} {M N : Mem}
theorem l_oneNum (hc : pCx c x) (hA : 700 ≤ nA) (hq : qPre a c x l p d nn b f M N) (hp : p ≤ 5 + 3 * d) (R : Nat → Int → Int → Mem → Option (Int × Mem)) (t3 : M 703 6 = 3) :
    ∃ v M', f_X4_readOne_J17 nA R 3 M = some (v, M') ∧ ((v = 1 ∧ qOne a c x l p d nn b f M N M') ∨ (v = 0 ∧ qFail a c x M N M')) := by
  have hq' := hq
  obtain ⟨q1, q2, q3, q4, q5, q6, q7, q8, q9⟩ := hq
  have kd : pKd M N := q1.2.1.2.2.2.2.2.2.1
  obtain ⟨g1, g2, g3, g4, g5, g6⟩ := q_figs kd t3
  have cM := q1.2.2.1.1
  unfold f_X4_readOne_J17
  rw [if_neg (by decide)]
  by_cases z : M 703 8 ≤ 9999
  · rw [if_pos z]
    unfold f_X4_readOne_J38 f_X4_readOne_J56
    rw [if_pos rfl, cM, p_ck hc.1]
    obtain ⟨M1, M', a1, a2, a3⟩ := l_ok (op := 3) (arg := M 703 8) (o := 0) (v := N 801 10) (M2 := M) (N2 := N) hc hq' hA q1 q2 rfl rfl (fun _ => rfl) (fun _ => rfl) rfl (fun n hn => by
      unfold f_X12_beginOne
      rw [if_neg (fun y => y g1), if_pos (g2.mp z)]) ⟨rfl, fun _ => g3 z, fun y => by omega, fun y => by omega⟩ (by omega) fPM_rfl fPN_rfl (Or.inl ⟨rfl, g4, g2.mp z, by omega, rfl, rfl⟩)
    rw [a1, Option.bind_some, a2, Option.bind_some]
    exact ⟨1, M', rfl, Or.inl ⟨rfl, a3⟩⟩
  · rw [if_neg z, l_fb]
    exact ⟨0, _, rfl, Or.inr ⟨rfl, l_fl q4 (fun n hn => by
      unfold f_X12_beginOne
      rw [if_neg (fun y => y g1), if_neg (fun y => z (g2.mpr y))]) (by decide) ⟨q1.2.1.2.2.2.1, pPs300 q1⟩ hc.2.1 (fun _ _ _ _ _ => rfl) ⟨fun _ _ _ _ _ => rfl, fun _ _ => rfl, Int.le_refl _⟩⟩⟩
theorem l_oneName (hc : pCx c x) (hA : 700 ≤ nA) (hq : qPre a c x l p d nn b f M N) (hp : p ≤ 5 + 3 * d) (R : Nat → Int → Int → Mem → Option (Int × Mem)) (hn : 0 ≤ nmO (M 703 6)) (hnm : pNm (nmO (M 703 6)) = M 703 6) (h8 : nmO (M 703 6) ≤ 8) (t3 : M 703 6 ≠ 3) :
    ∃ v M', f_X4_readOne_J17 nA R (M 703 6) M = some (v, M') ∧ ((v = 1 ∧ qOne a c x l p d nn b f M N M') ∨ (v = 0 ∧ qFail a c x M N M')) := by
  have hq' := hq
  obtain ⟨q1, q2, q3, q4, q5, q6, q7, q8, q9⟩ := hq
  have kd : pKd M N := q1.2.1.2.2.2.2.2.2.1
  have ka := kd_all kd
  have qn := q_name kd
  have cM := q1.2.2.1.1
  have k1 : N 801 9 ≠ 1 := fun z => t3 (ka.1.mp z)
  have k0 : N 801 9 ≠ 0 := fun z => by
    have := ka.2.1.mp z
    rw [this] at hn
    exact absurd hn (by decide)
  unfold f_X4_readOne_J17
  rw [if_pos t3]
  unfold f_X4_readOne_J38
  rw [if_neg t3]
  rcases q_law (M := M) (N := N) rfl q6.1 hn with ⟨u1, u2⟩ | ⟨u1, u2⟩
  · rw [u1, if_neg (by decide), l_fb]
    exact ⟨0, _, rfl, Or.inr ⟨rfl, l_fl q4 (fun n hn' => by
      unfold f_X12_beginOne
      rw [if_pos k1, qn, if_neg (by omega), u2, if_pos rfl]) (by decide) ⟨q1.2.1.2.2.2.1, pPs300 q1⟩ hc.2.1 (fun _ _ _ _ _ => rfl) ⟨fun _ _ _ _ _ => rfl, fun _ _ => rfl, Int.le_refl _⟩⟩⟩
  · rw [u1, if_pos (by decide)]
    unfold f_X4_readOne_J56
    rw [cM, p_ck hc.1]
    obtain ⟨M1, M', a1, a2, a3⟩ := l_ok (op := M 703 6) (arg := M 703 8) (o := 1) (v := nmO (M 703 6)) (M2 := M) (N2 := N) hc hq' hA q1 q2 rfl rfl (fun _ => rfl) (fun _ => rfl) rfl (fun n hn' => by
      unfold f_X12_beginOne
      rw [if_pos k1, qn, if_neg (by omega), u2, if_neg (by decide)]) ⟨by rw [show pOp 1 (nmO (M 703 6)) = pNm (nmO (M 703 6)) from rfl]; exact hnm.symm, fun y => by omega, fun y => by omega, fun y => by omega⟩ k0 fPM_rfl fPN_rfl (Or.inr (Or.inl ⟨rfl, hn, h8, by omega, rfl, rfl⟩))
    rw [a1, Option.bind_some, a2, Option.bind_some]
    exact ⟨1, M', rfl, Or.inl ⟨rfl, a3⟩⟩
theorem l_oneBes (hc : pCx c x) (hA : 700 ≤ nA) (hq : qPre a c x l p d nn b f M N) (hp : p ≤ 5 + 3 * d) (R : Nat → Int → Int → Mem → Option (Int × Mem)) {o : Int} (ho : (M 703 6 = 150 ∧ o = 2) ∨ (M 703 6 = 151 ∧ o = 3)) (hb : ∀ n, 1000 ≤ n → f_X12_beginOne n N = (f_X12_beside n o N).bind fun q => some (q.1, q.2)) :
    ∃ v M', f_X4_readOne_J88 nA R (M 703 6) M = some (v, M') ∧ ((v = 1 ∧ qOne a c x l p d nn b f M N M') ∨ (v = 0 ∧ qFail a c x M N M')) := by
  have hq' := hq
  obtain ⟨q1, q2, q3, q4, q5, q6, q7, q8, q9⟩ := hq
  have hcx := hc
  obtain ⟨M2, N2, r1, r2, r3, r4, r5, r6, r7⟩ := l_adv hc q1 hA
  have kd : pKd M2 N2 := r5.2.1.2.2.2.2.2.2.1
  have ka := kd_all kd
  have qn := q_name kd
  have cM := r5.2.2.1.1
  have gN : fPN x p N N2 := fPN_kN r4 r7
  have g13 := q1.2.2.2.1.1.2.1
  unfold f_X4_readOne_J88
  rw [r1, Option.bind_some]
  rcases q_isName (M2 703 6) with ⟨u1, u2, u3, u4⟩ | ⟨u1, u2⟩
  · rw [u1, if_pos (by decide)]
    have as : (f_X4_isAskedBeside M2 = 1 ∧ 2 ≤ nmO (M2 703 6) ∧ nmO (M2 703 6) ≤ 6) ∨ (f_X4_isAskedBeside M2 = 0 ∧ ¬ (2 ≤ nmO (M2 703 6) ∧ nmO (M2 703 6) ≤ 6)) := by
      unfold f_X4_isAskedBeside
      by_cases y : M2 703 6 = 135 ∨ M2 703 6 = 133 ∨ M2 703 6 = 148 ∨ M2 703 6 = 149
      · right
        rcases y with y | y | y | y <;> rw [y] <;> decide
      · left
        rw [if_neg (by omega), if_neg (by omega), if_neg (by omega), if_neg (by omega)]
        refine ⟨rfl, ?_⟩
        by_cases y0 : nmO (M2 703 6) = 0
        · rw [y0] at u4; exact absurd (Or.inl u4.symm) y
        · by_cases y1 : nmO (M2 703 6) = 1
          · rw [y1] at u4; exact absurd (Or.inr (Or.inl u4.symm)) y
          · by_cases y7 : nmO (M2 703 6) = 7
            · rw [y7] at u4; exact absurd (Or.inr (Or.inr (Or.inl u4.symm))) y
            · by_cases y8 : nmO (M2 703 6) = 8
              · rw [y8] at u4; exact absurd (Or.inr (Or.inr (Or.inr u4.symm))) y
              · omega
    rcases as with ⟨w1, w2⟩ | ⟨w1, w2⟩
    · rw [w1, if_pos (by decide), cM, p_ck hc.1]
      have kk : N2 801 9 ≠ 0 := fun z => by
        have := ka.2.1.mp z
        rw [this] at u2
        exact absurd u2 (by decide)
      obtain ⟨M1, M', a1, a2, a3⟩ := l_ok (op := M 703 6) (arg := M2 703 6) (o := o) (v := nmO (M2 703 6)) (M2 := M2) (N2 := N2) hc hq' hA r5 (by rw [r4 _ _ (by omega)]; exact q2) (r4 _ _ (by omega)) (r4 _ _ (by omega)) (fun _ => r4 _ _ (by omega)) (fun _ => r4 _ _ (by omega)) (r3 _ _ (by have := hc.2.1; omega)) (fun n hn' => by
        rw [hb n hn']
        unfold f_X12_beside
        rw [r2 n (by omega), Option.bind_some, qn, if_pos u2, p_isIn, if_pos w2, if_neg (by decide), Option.bind_assoc]
        rfl) ⟨by rcases ho with ⟨z1, z2⟩ | ⟨z1, z2⟩ <;> rw [z1, z2] <;> rfl, fun y => by omega, fun y => u4.symm, fun y => u4.symm⟩ kk (fPM_kM r3) gN (Or.inr (Or.inr (Or.inl ⟨by omega, by omega, w2.1, w2.2, by omega, rfl, rfl⟩)))
      rw [a1, Option.bind_some, a2, Option.bind_some]
      exact ⟨1, M', rfl, Or.inl ⟨rfl, a3⟩⟩
    · rw [w1, if_neg (by decide), l_fb]
      exact ⟨0, _, rfl, Or.inr ⟨rfl, l_fl q4 (fun n hn' => by
        rw [hb n hn']
        unfold f_X12_beside
        rw [r2 n (by omega), Option.bind_some, qn, if_pos u2, p_isIn, if_neg w2, if_pos rfl]
        rfl) (by decide) ⟨r5.2.1.2.2.2.1, pPs300 r5⟩ hc.2.1 (gPM_of (fPM_kM r3)) (gPN_of gN g13)⟩⟩
  · rw [u1, if_neg (by decide), l_fb]
    exact ⟨0, _, rfl, Or.inr ⟨rfl, l_fl q4 (fun n hn' => by
      rw [hb n hn']
      unfold f_X12_beside
      rw [r2 n (by omega), Option.bind_some, qn, if_neg (by omega)]
      rfl) (by decide) ⟨r5.2.1.2.2.2.1, pPs300 r5⟩ hc.2.1 (gPM_of (fPM_kM r3)) (gPN_of gN g13)⟩⟩
end One
