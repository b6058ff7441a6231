set_option linter.unusedVariables false
set_option linter.unusedSimpArgs false
/-! text: one is read, all cases -/
/-- where no number and no name stands, the reference's next question -/
theorem l_begin2 {M N : Mem} (kd : pKd M N) (t3 : M 703 6 ≠ 3) (nn : nmO (M 703 6) = -1) (n : Nat) : f_X12_beginOne n N = (if M 703 6 = 150 then (f_X12_beside n 2 N).bind fun q => some (q.1, q.2) else if M 703 6 = 151 then (f_X12_beside n 3 N).bind fun q => some (q.1, q.2) else if M 703 6 = 40 then (f_X12_opened n 40 N).bind fun q => some (q.1, q.2) else if M 703 6 = 45 then (f_X12_opened n 4 N).bind fun q => some (q.1, q.2) else if M 703 6 = 154 then (f_X12_isAskAhead n N).bind fun q8 => if q8 = 0 then (some (1, N)) else ((f_X12_opened n 20 N).bind fun q10 => some (q10.1, q10.2)) else some (1, N)) := by
  have ka := kd_all kd
  have qn := q_name kd
  obtain ⟨-, -, -, -, -, -, -, -, -, -, ca, cb, -, -, cn⟩ := cw2
  have w150 := q_word kd (i := 22) (by decide) ca
  have w151 := q_word kd (i := 23) (by decide) cb
  have w154 := q_word kd (i := 26) (by decide) cn
  rw [show (128 : Int) + ((22 : Nat) : Int) = 150 by decide] at w150
  rw [show (128 : Int) + ((23 : Nat) : Int) = 151 by decide] at w151
  rw [show (128 : Int) + ((26 : Nat) : Int) = 154 by decide] at w154
  have k40 := ka.2.2.2.1 40 (by unfold isSg; omega)
  have k45 := ka.2.2.2.1 45 (by unfold isSg; omega)
  have e : ∀ (P : Prop) [Decidable P], ((if P then (1 : Int) else 0) = 0) = ¬ P := by
    intro P _
    by_cases c : P
    · simp [c]
    · simp [c]
  unfold f_X12_beginOne
  rw [if_pos (show N 801 9 ≠ 1 from fun z => t3 (ka.1.mp z)), qn, nn, if_pos (show (-1 : Int) < 0 by decide), w150, w151, w154]
  simp only [e, ite_not, ne_eq, k40, k45]
theorem l_readOne {nA m : Nat} {D a c x l : Int} (hc : pCx c x) (hA : 700 ≤ nA) (Rm : okMin nA m (D + 1) a c x l) (Rp : okPar nA m (D + 1) a c x l) : okOne nA (m + 1) 2 D a c x l := by
  intro M N p d nn b f hq hD hp hnot
  have hq' := hq
  obtain ⟨q1, q2, q3, q4, q5, q6, q7, q8, q9⟩ := hq
  have kd : pKd M N := q1.2.1.2.2.2.2.2.2.1
  have ka := kd_all kd
  have p0 := q1.2.2.2.1.1.2.2.1
  have g13 := q1.2.2.2.1.1.2.1
  show ∃ v M', b_X4_readOne nA (f_rd nA m) d M = some (v, M') ∧ _
  unfold b_X4_readOne
  by_cases t3 : M 703 6 = 3
  · rw [if_pos t3, t3]
    exact l_oneNum hc hA hq' hp _ t3
  · rw [if_neg t3]
    rcases q_isName (M 703 6) with ⟨u1, u2, u3, u4⟩ | ⟨u1, u2⟩
    · rw [u1, if_neg (show ¬ (1 : Int) = 0 by decide)]
      exact l_oneName hc hA hq' hp _ u2 u4 u3 t3
    · rw [u1, if_pos rfl]
      have bg := l_begin2 kd t3 u2
      by_cases t150 : M 703 6 = 150
      · rw [if_pos t150]
        refine l_oneBes hc hA hq' hp _ (o := 2) (Or.inl ⟨t150, rfl⟩) (fun n hn => ?_)
        rw [bg, if_pos t150]
      · rw [if_neg t150]
        by_cases t151 : M 703 6 = 151
        · rw [if_neg (show ¬ M 703 6 ≠ 151 from fun z => z t151)]
          refine l_oneBes hc hA hq' hp _ (o := 3) (Or.inr ⟨t151, rfl⟩) (fun n hn => ?_)
          rw [bg, if_neg t150, if_pos t151]
        · rw [if_pos (show M 703 6 ≠ 151 from t151)]
          by_cases t40 : M 703 6 = 40
          · rw [if_pos t40, t40]
            have hb : ∀ n, 1000 ≤ n → f_X12_beginOne n N = (f_X12_opened n 40 N).bind fun q => some (q.1, q.2) := fun n hn => by rw [bg, if_neg t150, if_neg t151, if_pos t40]
            have hne : N 801 9 ≠ 0 := fun z => by have := ka.2.1.mp z; omega
            unfold f_X4_readOne_J157
            by_cases d8 : d < 8
            · obtain ⟨M2, N2, a1, a2, a3, a4, a5, a6, a7⟩ := l_opnT hc hq' hp d8 hne hA hb
              rw [if_pos d8, a1, Option.bind_some, if_pos (show (40 : Int) ≠ 45 by decide), p_wI (x := d + 1) (by omega) (by omega)]
              obtain ⟨v, M', r1, r2⟩ := Rp M2 N2 p d nn b f a3 (by omega) p0 q9.1 hp q8.2.2.1 a4
              rw [r1, Option.bind_some]
              rcases r2 with ⟨v1, s⟩ | ⟨v0, s⟩
              · rw [p_ck (Or.inr v1)]
                exact ⟨v, M', rfl, Or.inl ⟨v1, qOne_on s a2 a5 a6 a7⟩⟩
              · rw [p_ck (Or.inl v0)]
                exact ⟨v, M', rfl, Or.inr ⟨v0, qFail_on s a2 a5 a6 g13 a7⟩⟩
            · rw [if_neg d8, l_fb]
              exact ⟨0, _, rfl, Or.inr ⟨rfl, l_fl q4 (fun n hn => by
                rw [hb n hn]
                unfold f_X12_opened
                rw [q3, if_neg (show ¬ d ≠ 8 by omega)]
                rfl) (by decide) ⟨q1.2.1.2.2.2.1, pPs300 q1⟩ hc.2.1 (fun _ _ _ _ _ => rfl) ⟨fun _ _ _ _ _ => rfl, fun _ _ => rfl, Int.le_refl _⟩⟩⟩
          · rw [if_neg t40]
            by_cases t45 : M 703 6 = 45
            · rw [if_pos t45, t45]
              have hb : ∀ n, 1000 ≤ n → f_X12_beginOne n N = (f_X12_opened n 4 N).bind fun q => some (q.1, q.2) := fun n hn => by rw [bg, if_neg t150, if_neg t151, if_neg t40, if_pos t45]
              have hne : N 801 9 ≠ 0 := fun z => by have := ka.2.1.mp z; omega
              unfold f_X4_readOne_J157
              by_cases d8 : d < 8
              · obtain ⟨M2, N2, a1, a2, a3, a4, a5, a6, a7⟩ := l_opnT hc hq' hp d8 hne hA hb
                rw [if_pos d8, a1, Option.bind_some, if_neg (show ¬ (45 : Int) ≠ 45 by decide), p_wI (x := d + 1) (by omega) (by omega)]
                obtain ⟨v, M', r1, r2⟩ := Rm M2 N2 p d nn b f a3 (by omega) p0 q9.1 hp q8.2.2.1 a4
                rw [r1, Option.bind_some]
                rcases r2 with ⟨v1, s⟩ | ⟨v0, s⟩
                · rw [p_ck (Or.inr v1)]
                  exact ⟨v, M', rfl, Or.inl ⟨v1, qOne_on s a2 a5 a6 a7⟩⟩
                · rw [p_ck (Or.inl v0)]
                  exact ⟨v, M', rfl, Or.inr ⟨v0, qFail_on s a2 a5 a6 g13 a7⟩⟩
              · rw [if_neg d8, l_fb]
                exact ⟨0, _, rfl, Or.inr ⟨rfl, l_fl q4 (fun n hn => by
                  rw [hb n hn]
                  unfold f_X12_opened
                  rw [q3, if_neg (show ¬ d ≠ 8 by omega)]
                  rfl) (by decide) ⟨q1.2.1.2.2.2.1, pPs300 q1⟩ hc.2.1 (fun _ _ _ _ _ => rfl) ⟨fun _ _ _ _ _ => rfl, fun _ _ => rfl, Int.le_refl _⟩⟩⟩
            · rw [if_neg t45, l_fb]
              exact ⟨0, _, rfl, Or.inr ⟨rfl, l_fl q4 (fun n hn => by
                rw [bg, if_neg t150, if_neg t151, if_neg t40, if_neg t45]
                by_cases t154 : M 703 6 = 154
                · rw [if_pos t154]
                  rcases hnot with z | z
                  · exact absurd t154 z
                  · rw [z n (by omega), Option.bind_some, if_pos rfl]
                · rw [if_neg t154]) (by decide) ⟨q1.2.1.2.2.2.1, pPs300 q1⟩ hc.2.1 (fun _ _ _ _ _ => rfl) ⟨fun _ _ _ _ _ => rfl, fun _ _ => rfl, Int.le_refl _⟩⟩⟩
