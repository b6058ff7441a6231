set_option linter.unusedVariables false
set_option linter.unusedSimpArgs false
/-! text: one thing asked is read -/
theorem l_askT {nA m : Nat} {D c x l : Int} (hc : pCx c x) (hA : 1100 ≤ nA) (R3 : okPart nA m 3 5 2 3 0 1 c x l) (Rk : okAsk nA m (D + 1) c x l) : okAsk nA (m + 1) D c x l := by
  intro M N p d b f hq hD hp hr hno
  have hq' := hq
  obtain ⟨q1, q2, q3, q4, q5, q6, q7, q8, q9⟩ := hq
  have p0 := q1.2.2.2.1.1.2.2.1
  have g13 := q1.2.2.2.1.1.2.1
  have kd0 : pKd M N := q1.2.1.2.2.2.2.2.2.1
  have ka0 := kd_all kd0
  show ∃ v M', b_X4_readAsk nA (f_rd nA m) d M = some (v, M') ∧ _
  unfold b_X4_readAsk
  by_cases t154 : M 703 6 = 154
  · rw [if_neg (fun z => z t154)]
    obtain ⟨va, h1, h2⟩ := l_askHere (N := N) (by omega) (by omega)
    have va1 : va = 1 := by
      rcases h2 with ⟨z, -, -⟩ | ⟨-, z⟩
      · exact z
      · rcases z with z | z
        · rw [q5.1] at z; exact absurd z (by decide)
        · exact absurd z hno
    subst va1
    have ah : ∀ n, 200 ≤ n → f_X12_isAskAhead n N = some 1 := by
      intro n hn
      unfold f_X12_isAskAhead
      rw [h1 n hn, Option.bind_some, if_neg (by decide)]
      by_cases z : N 801 16 = 0
      · rw [if_pos z]
      · rw [if_neg z, p_wI (by omega) (by omega), p_ck (by omega), p_isIn]
        rcases hr with y | y
        · omega
        · rw [q2, if_pos y, if_neg (by decide)]
    have hb : ∀ n, 1000 ≤ n → f_X12_beginOne n N = (f_X12_opened n 20 N).bind fun q => some (q.1, q.2) := fun n hn => by
      rw [l_begin2 kd0 (by omega) (by rw [t154]; decide), if_neg (by omega), if_neg (by omega), if_neg (by omega), if_neg (by omega), if_pos t154, ah n (by omega), Option.bind_some, if_neg (by decide)]
    by_cases d8 : d < 8
    · obtain ⟨M2, N2, a1, a2, a3, a4, a5, a6, a7⟩ := l_opnT hc hq' (by omega) d8 (fun z => by have := ka0.2.1.mp z; omega) (nA := nA) (by omega) hb
      have e16 := a3.2.1
      rw [if_pos d8, a1, Option.bind_some, p_wI (x := d + 1) (by omega) (by omega)]
      obtain ⟨v, M3, r1, r2⟩ := Rk M2 N2 (p + 1) (d + 1) b f a3 (by omega) (by omega) (Or.inr (by rw [show p + 1 - 1 = p by omega, a4]; decide)) (notOpen hno (by omega) a6 (fun j j0 j1 => by rw [show j = p by omega, a4]; decide))
      rw [r1, Option.bind_some]
      rcases r2 with ⟨v1, N3, k3, w3, u1, u2, u3, u4, u5, u6, u7, u8, u9, u10, u11, u12⟩ | ⟨v0, u⟩
      · rw [if_pos (show (v, M3).1 ≠ 0 from by show v ≠ 0; omega)]
        have e4 : N3 806 p = 20 := by rw [u8.2.2.1 p (by omega)]; exact a4
        have cM : M3 0 1 = c := u2.2.2.1.1
        have c2 := a3.1.2.2.2.1.1
        have c5 := u2.2.2.2.1.1
        have d9 := u8.2.2.2.1
        have f2 := a3.2.2.2.2.2.2.2.1.2.2.2.2
        obtain ⟨M4, w_1, w_2, w_3, w_4, w_5, w_6⟩ := l_wait (n2 := 0) (b2 := b + 1) hc u2 (by omega) (by rw [e4]; unfold isOp; omega) u9 (by omega) (by omega) (by omega) (by rw [e4]; exact Or.inr (Or.inr (Or.inr (Or.inr (Or.inr (Or.inr (Or.inl ⟨rfl, rfl, by omega, rfl, rfl⟩)))))))
        rw [show pOp (N3 806 p) 0 = 154 by rw [e4]; decide] at w_1
        show ∃ v M', ck (isTx (M3 0 1)) ((f_X6_addCode (M3 0 1) 154 0 M3).bind fun q22 => some (1, q22)) = some (v, M') ∧ _
        rw [cM, p_ck hc.1, w_1, Option.bind_some]
        obtain ⟨j, j0, j1, j2, j3⟩ := u12
        refine ⟨1, M4, rfl, Or.inl ⟨rfl, N3, k3 + 1, w3 + 1, fun n hn => ?_, w_2, ⟨by omega, by omega⟩, fun j y0 y1 => ?_, ?_, u6, fPM_trans (fPM_trans a5 u7) w_3, fPN_trans (Int.le_refl _) a6 ⟨u8.1, u8.2.1, fun j hj => u8.2.2.1 j (by omega), u8.2.2.2.1, u8.2.2.2.2⟩, w_5, ?_, by rw [w_6]; exact u11, ⟨j, by omega, j1, j2, j3⟩⟩⟩
        · rw [show n + (k3 + 1) = (n + k3) + 1 by omega, a2 (n + k3) (by omega)]
          exact u1 n hn
        · by_cases z : j = p
          · subst z
            rw [e4]
            exact ⟨by unfold isOp; omega, by decide⟩
          · exact u4 j (by omega) y1
        · rw [opn_shift, e4, if_pos (Or.inr rfl), u5]; omega
        · have := a6.2.2.2.2; omega
      · rw [if_neg (show ¬ (v, M3).1 ≠ 0 from fun z => z v0)]
        exact ⟨0, M3, rfl, Or.inr ⟨rfl, qFail_on u a2 a5 a6 g13 a7⟩⟩
    · rw [if_neg d8, l_fb]
      exact ⟨0, _, rfl, Or.inr ⟨rfl, l_fl q4 (fun n hn => by
        rw [hb n hn]
        unfold f_X12_opened
        rw [q3, if_neg (show ¬ d ≠ 8 by omega)]
        rfl) (by decide) ⟨q1.2.1.2.2.2.1, pPs300 q1⟩ hc.2.1 (fun _ _ _ _ _ => rfl) ⟨fun _ _ _ _ _ => rfl, fun _ _ => rfl, Int.le_refl _⟩⟩⟩
  · rw [if_pos t154]
    obtain ⟨v, M1, r1, r2⟩ := R3 M N p d 0 b f hq' q9.1 (by omega) (by
      rcases hr with z | z
      · exact Or.inl z
      · exact Or.inr (by omega)) (Or.inl t154)
    rw [r1, Option.bind_some]
    rcases r2 with ⟨v1, N1, k1, w1, s1, s2, s3, s4, s5, s6, s7, s8, s9, s10, s11⟩ | ⟨v0, u⟩
    · rw [if_pos (show (v, M1).1 ≠ 0 from by show v ≠ 0; omega)]
      have kd : pKd M1 N1 := s2.2.1.2.2.2.2.2.2.1
      have ka := kd_all kd
      have t150 := s2.2.2.2.2.2
      have c1 := s2.2.2.2.1.1
      have c0 := q1.2.2.2.1.1
      have no1 : ¬ pOpen N1 := notOpen hno (by omega) s8 (fun j j0 j1 => by have := (s4 j j0 j1).1; unfold isOp at this; omega)
      have e19 : N1 801 19 = 1 := by rw [s8.1 _ _ (by omega) (by decide) (by decide)]; exact q5.1
      obtain ⟨va, h1, h2⟩ := l_askHere (N := N1) (by omega) (by omega)
      have va1 : va = 1 := by
        rcases h2 with ⟨z, -, -⟩ | ⟨-, z⟩
        · exact z
        · rcases z with z | z
          · omega
          · exact absurd z no1
      subst va1
      obtain ⟨vo, o1, o2⟩ := l_isOpen (N := N1) (by omega) (by omega)
      have vo0 : vo = 0 := by
        rcases o2 with ⟨-, z⟩ | ⟨z, -⟩
        · exact absurd z no1
        · exact z
      subst vo0
      have hr1 : p = 0 ∨ f_X12_rank (N1 806 (p - 1)) < 4 := by
        rcases hr with z | z
        · exact Or.inl z
        · rw [s8.2.2.1 _ (by omega)]; exact Or.inr (by omega)
      have cm : ∀ n, 200 ≤ n → f_X12_isCompared n N1 = some 0 := fun n hn => l_cmp0 p0 (by omega) (by omega) (fun j j0 j1 => by have := (s4 j j0 j1).2; omega) hr1 hn
      have bet : ∀ n, 200 ≤ n → f_X12_betweenOf n N1 = some (cpO (M1 703 6)) := fun n hn => by
        rw [q_bta kd s11 (h1 n hn), cm n hn, Option.bind_some, if_neg (by decide)]
      dsimp only
      rcases cpO_in (M1 703 6) with ⟨y1, y2⟩ | ⟨y1, y2, y3, y4⟩
      · rw [if_neg (by omega), if_neg (by omega), if_neg (by omega), if_neg (by omega), if_neg (by omega), if_neg (by omega), l_fb]
        refine ⟨0, _, rfl, Or.inr ⟨rfl, N1, 1, k1 + 1, fun n hn => ?_, by decide, by rw [up_nei (by decide), up_eq], by rw [up_eq]; exact s2.2.1.2.2.2.1, fun y j z1 z2 z3 => ?_, gPN_of s8 g13, by have := pPs300 s2; omega⟩⟩
        · rw [show n + (k1 + 1) = (n + 1) + k1 by omega, s1 (n + 1) (by omega), f_X12_parsed_L20, if_neg (by omega)]
          unfold f_X12_behindOne
          rw [bet n (by omega), y1, Option.bind_some, if_pos (by decide), o1 n (by omega), Option.bind_some, if_pos rfl, Option.bind_some, if_pos rfl]
          dsimp only
          rw [o1 n (by omega), Option.bind_some, if_neg (by decide), if_neg (by decide), cm n (by omega), Option.bind_some, if_neg (by decide)]
        · rw [up_ne (by omega), up_ne (by omega)]
          exact gPM_of s7 y j z1 z2 z3
      · have goal : ∃ v M', f_X4_readAsk_J107 nA (f_rd nA m) d (M1 703 6) M1 = some (v, M') ∧ ((v = 1 ∧ qAsk c x l p d (b + 1) f 3 (11 - d) 2 M N M') ∨ (v = 0 ∧ qFail 1 c x M N M')) := by
          have rk := (p_rank (cpO (M1 703 6))).2.2.2.1 ⟨y1, y2⟩
          obtain ⟨M2, N2, a1, a2, a3, a4, a5, a6, a7⟩ := l_between (nn := 0 + 1) (o := cpO (M1 703 6)) (rk := 4) hc s2 s3.1 (by omega) (fun j j0 j1 => ⟨(s4 j j0 j1).1, by have := (s4 j j0 j1).2; omega⟩) hr1 s5 q9 s6 rk (by omega) ⟨e19, Or.inr rfl⟩ (by rw [s7 703 9 (by omega) (by have := hc.2.1; omega) (by have := hc.2.1; omega), s8.1 _ _ (by omega) (by decide) (by decide)]; exact q6) s9 (by have := s8.2.2.2.1; omega) (fun z => by have := ka.2.1.mp z; omega) (nA := nA) (by omega) (fun n hn => bet n (by omega))
          have e16 := a3.2.1
          unfold f_X4_readAsk_J107
          rw [a1, Option.bind_some]
          obtain ⟨v, M3, r1, r2⟩ := R3 M2 N2 (p + 1) d (0 + 1) b f a3 q9.1 (by omega) (Or.inr (by rw [show p + 1 - 1 = p by omega, a4, rk]; decide)) (Or.inr (noNot_of (by omega) (by omega) (by rw [e16, show p + 1 - 1 = p by omega, a4, rk]; decide)))
          rw [r1, Option.bind_some]
          have far : ∀ n, 1000 ≤ n → f_X12_parsed_L20 (n + (k1 + 1)) 1 N = f_X12_parsed_L20 n 1 N2 := fun n hn => by
            rw [show n + (k1 + 1) = (n + 1) + k1 by omega, s1 (n + 1) (by omega), a2 n hn]
          rcases r2 with ⟨v1, N3, k3, w3, u1, u2, u3, u4, u5, u6, u7, u8, u9, u10, u11⟩ | ⟨v0, u⟩
          · rw [if_pos (show (v, M3).1 ≠ 0 from by show v ≠ 0; omega)]
            have e4 : N3 806 p = cpO (M1 703 6) := by rw [u8.2.2.1 p (by omega)]; exact a4
            have iso : isOp (N3 806 p) := by rw [e4]; unfold isOp; omega
            have cM : M3 0 1 = c := u2.2.2.1.1
            have c2 := a3.1.2.2.2.1.1
            have c5 := u2.2.2.2.1.1
            have d8 := u8.2.2.2.1
            have f2 := a3.2.2.2.2.2.2.2.1.2.2.2.2
            obtain ⟨M4, w_1, w_2, w_3, w_4, w_5, w_6⟩ := l_wait (n2 := 0) (b2 := b + 1) hc u2 (by omega) iso u9 (by omega) (by omega) (by omega) (by rw [e4]; exact Or.inr (Or.inr (Or.inr (Or.inr (Or.inr (Or.inl ⟨y1, y2, rfl, rfl, rfl⟩))))))
            rw [show pOp (N3 806 p) 0 = M1 703 6 by rw [e4]; exact y3] at w_1
            show ∃ v M', ck (isTx (M3 0 1)) ((f_X6_addCode (M3 0 1) (M1 703 6) 0 M3).bind fun q9 => some (1, q9)) = some (v, M') ∧ _
            rw [cM, p_ck hc.1, w_1, Option.bind_some]
            refine ⟨1, M4, rfl, Or.inl ⟨rfl, N3, k3 + (k1 + 1), w3 + 1, fun n hn => ?_, w_2, ⟨by omega, by omega⟩, fun j y0 y1 => ?_, ?_, u6, fPM_trans (fPM_trans (fPM_trans s7 a5) u7) w_3, fPN_trans (Int.le_refl _) (fPN_trans (Int.le_refl _) s8 a6) ⟨u8.1, u8.2.1, fun j hj => u8.2.2.1 j (by omega), u8.2.2.2.1, u8.2.2.2.2⟩, w_5, by omega, ?_, ?_⟩⟩
            · rw [show n + (k3 + (k1 + 1)) = (n + k3) + (k1 + 1) by omega, far (n + k3) (by omega)]
              exact u1 n hn
            · by_cases z : j = p
              · subst z
                exact ⟨iso, by rw [e4, rk]; decide⟩
              · have := u4 j (by omega) y1
                exact ⟨this.1, by omega⟩
            · rw [opn_shift, e4, if_neg (by omega), u5, Int.zero_add]
            · rw [w_6]
              exact ⟨fun _ => u11.1 (by decide), fun _ => u11.2.1 (by decide), fun z => by omega, fun z => by omega⟩
            · exact ⟨p, Int.le_refl _, by omega, by rw [e4]; exact rk, fun i i0 i1 => by have := (u4 i (by omega) i1).2; omega⟩
          · rw [if_neg (show ¬ (v, M3).1 ≠ 0 from fun z => z v0)]
            exact ⟨0, M3, rfl, Or.inr ⟨rfl, qFail_onk u far (fPM_trans s7 a5) (fPN_trans (Int.le_refl _) s8 a6) g13 (by omega)⟩⟩
        have chain : (if M1 703 6 = 60 then f_X4_readAsk_J107 nA (f_rd nA m) d (M1 703 6) M1 else if M1 703 6 = 62 then f_X4_readAsk_J107 nA (f_rd nA m) d (M1 703 6) M1 else if M1 703 6 = 61 then f_X4_readAsk_J107 nA (f_rd nA m) d (M1 703 6) M1 else if M1 703 6 = 35 then f_X4_readAsk_J107 nA (f_rd nA m) d (M1 703 6) M1 else if M1 703 6 = 1 then f_X4_readAsk_J107 nA (f_rd nA m) d (M1 703 6) M1 else if M1 703 6 = 2 then f_X4_readAsk_J107 nA (f_rd nA m) d (M1 703 6) M1 else (lt (f_X4_failBy 1 M1) fun q15 => ck (q15.1 = 0 ∨ q15.1 = 1) (some (q15.1, q15.2)))) = f_X4_readAsk_J107 nA (f_rd nA m) d (M1 703 6) M1 := by
          split
          · rfl
          · split
            · rfl
            · split
              · rfl
              · split
                · rfl
                · split
                  · rfl
                  · split
                    · rfl
                    · omega
        rw [chain]
        exact goal
    · rw [if_neg (show ¬ (v, M1).1 ≠ 0 from fun z => z v0)]
      exact ⟨0, M1, rfl, Or.inr ⟨rfl, u⟩⟩
