/-! ===== methods: X11_centuries, X11_undo, X11_ofStep, X11_ofShip, X11_is, X11_book, X11_lookAhead, X11_foretoldShip, X11_foretoldStep, X11_comes, X11_voyage, X11_areShips, X11_hauling, X11_endOfFall, X11_thing, X11_upThere, X11_toRaise, X11_states, X11_sound, X11_high, X11_wreck, X11_inOrder, X11_outOfOrder, X11_misheard, X11_apart, X11_chains, X11_waiting, X11_run, X11_image, X11_back, X11_about, X12_copy, X12_isIn, X12_cut, X12_has, X12_bits, X12_isStep, X12_isShip, X12_isRiser, X12_at, X12_put, X12_get, X12_set, X12_step ===== -/
def f_X11_centuries_L72 : Nat → Int → Int → Mem → Option (Mem)
  | 0, _, _, _ => none
  | n + 1, x2, x3, M => if x2 ≤ x3 then (some M) else (lt (upM M 3 14 (iRem (wI ((wI ((M 3 14) * 293)) + 191)) 30313)) fun M8 => (f_X11_doDrawn n (M 3 14) M8).bind fun q9 => f_X11_centuries_L72 n x2 (wI (x3 + 1)) q9)
set_option maxRecDepth 100000 in
set_option maxHeartbeats 4000000 in
theorem e_X11_centuries_L72 {g : Gm} {d : Nat} {x2 : Int} {r : Vv} {σ' : Sg} {N : Mem} (hd : 6 ≤ d) : ∀ (n : Nat) {x3 : Int} {M : Mem} {q : Mem}, f_X11_centuries_L72 n x2 x3 M = some q → Ev g d mtX11_centuries 119 [(0, vR 1)] [] (sg (mx q N)) (0, 0) r σ' → Ev g d mtX11_centuries 72 [(0, vR 1), (2, vI x2), (3, vI x3)] [] (sg (mx M N)) (0, 0) r σ' := by
  intro n
  induction n with
  | zero =>
    intro x3 M q h hk0
    rw [f_X11_centuries_L72.eq_1] at h
    cases h
  | succ n ih =>
    intro x3 M q h hk0
    rw [f_X11_centuries_L72.eq_2] at h
    refine ev_iload_n (pc := 72) 2 dX11_centuries_72 rfl rfl ?_
    refine ev_iload_n (pc := 73) 1 dX11_centuries_73 rfl rfl ?_
    refine ev_icmp_ge (pc := 74) (tgt := 119) dX11_centuries_74 (by decide) (fun b7 => ?_) (fun b7 => ?_)
    · rw [if_pos b7] at h
      cases h
      refine ev_pick [0] rfl ?_
      exact hk0
    · rw [if_neg b7] at h
      refine ev_aload_n (pc := 77) 0 dX11_centuries_77 rfl rfl ?_
      refine ev_getR (pc := 78) fl11_23 rfl dX11_centuries_78 rfl kd_1 (by omega) (rf_1_2 _) ?_
      refine ev_getIc (pc := 81) fl11_187 rfl dX11_centuries_81 rfl (sea_k sea_c3) (sea_nz sea_c3) (sea_n9 sea_c3) 14 rfl ?_
      refine ev_istore (pc := 84) (il' := [(4, vI (M 3 14)), (0, vR 1), (2, vI x2), (3, vI x3)]) dX11_centuries_84 (Nat.le_of_ble_eq_true rfl) rfl ?_
      refine ev_aload_n (pc := 86) 1 dX11_centuries_86 rfl rfl ?_
      refine ev_getR (pc := 87) fl11_23 rfl dX11_centuries_87 rfl kd_1 (by omega) (rf_1_2 _) ?_
      refine ev_iload (pc := 90) 0 dX11_centuries_90 rfl ?_
      refine ev_sipush (pc := 92) (x := 293) dX11_centuries_92 cs_293 ?_
      refine ev_imul (pc := 95) dX11_centuries_95 ?_
      refine ev_sipush (pc := 96) (x := 191) dX11_centuries_96 cs_191 ?_
      refine ev_iadd (pc := 99) dX11_centuries_99 ?_
      refine ev_sipush (pc := 100) (x := 30313) dX11_centuries_100 cs_30313 ?_
      refine ev_irem (pc := 103) dX11_centuries_103 (by omega) ?_
      obtain ⟨M8, eM8, h⟩ := lt_some h
      refine ev_putIc (pc := 104) fl11_187 rfl dX11_centuries_104 (sea_k sea_c3) (sea_nz sea_c3) (sea_n9 sea_c3) eM8 ?_
      refine ev_aload_n (pc := 107) 1 dX11_centuries_107 rfl rfl ?_
      refine ev_iload (pc := 108) 0 dX11_centuries_108 rfl ?_
      obtain ⟨q9, hq9, h⟩ := bd h
      refine ev_cV0 (pc := 110) [vI (M 3 14)] [] rfl mkX11_doDrawn ml11_190 mnX11_doDrawn dX11_centuries_110 kd_1 (by omega) rfl (Nat.le_of_ble_eq_true rfl) (by omega) (e_X11_doDrawn (d := d - 1) (M' := q9) (by omega)  hq9) ?_
      refine ev_iinc (pc := 113) (il' := [(3, vI (wI (x3 + 1))), (4, vI (M 3 14)), (0, vR 1), (2, vI x2)]) 3 dX11_centuries_113 rfl (Nat.le_of_ble_eq_true rfl) rfl rfl ?_
      refine ev_goto (pc := 116) (tgt := 72) dX11_centuries_116 (by decide) ?_
      refine ev_pick [2, 3, 0] rfl ?_
      exact ih h hk0
def f_X11_centuries (n : Nat) (p0 p1 : Int) (M : Mem) : Option (Int × Mem) := if (f_X11_isBetween 0 p0 9999) = 0 then (some ((-1), M)) else (if (f_X11_isBetween 1 p1 40) = 0 then (some ((-1), M)) else (if (M 3 0) = 0 then (some ((-1), M)) else (if (M 3 6) ≠ 0 then ((f_X0_keep 14 3 M).bind fun q5 => lt (upM q5 3 14 (wI ((wI (p0 * 2)) + 83))) fun M6 => (f_X11_centuries_L72 n p1 0 M6).bind fun q10 => some ((q10 3 11), q10)) else (some ((-1), M)))))
set_option maxRecDepth 100000 in
set_option maxHeartbeats 4000000 in
theorem e_X11_centuries {g : Gm} {d : Nat} {n : Nat} {p0 p1 : Int} {M N : Mem} {v : Int} {M' : Mem} (hd : 6 ≤ d) (h : f_X11_centuries n p0 p1 M = some (v, M')) : EvM g d mtX11_centuries [vR 1, vI p0, vI p1] (sg (mx M N)) (0, 0) (vI v) (sg (mx M' N)) := by
  unfold f_X11_centuries at h
  refine EvM.of mkX11_centuries.2.2.2.1 (Nat.le_of_ble_eq_true rfl) ?_
  change Ev g d mtX11_centuries 0 [(0, vR 1), (1, vI p0), (2, vI p1)] [] (sg (mx M N)) (0, 0) (vI v) (sg (mx M' N))
  refine ev_iconst (pc := 0) (x := 0) dX11_centuries_0 ci_0 ?_
  refine ev_iload_n (pc := 1) 1 dX11_centuries_1 rfl rfl ?_
  refine ev_sipush (pc := 2) (x := 9999) dX11_centuries_2 cs_9999 ?_
  refine ev_cS (pc := 5) [vI 0, vI p0, vI 9999] [] rfl mkX11_isBetween ml11_86 msX11_isBetween dX11_centuries_5 rfl (Nat.le_of_ble_eq_true rfl) (by omega) rfl (e_X11_isBetween (d := d - 1) (v := (f_X11_isBetween 0 p0 9999)) (by omega)  rfl) ?_
  refine ev_if_eq (pc := 8) (tgt := 41) dX11_centuries_8 (by decide) (fun b1 => ?_) (fun b1 => ?_)
  · rw [if_pos b1] at h
    refine ev_iconst (pc := 41) (x := (-1)) dX11_centuries_41 ci_m1 ?_
    cases h
    exact ev_iret (pc := 42) dX11_centuries_42 rfl
  · rw [if_neg b1] at h
    refine ev_iconst (pc := 11) (x := 1) dX11_centuries_11 ci_1 ?_
    refine ev_iload_n (pc := 12) 2 dX11_centuries_12 rfl rfl ?_
    refine ev_bipush (pc := 13) (x := 40) dX11_centuries_13 cb_40 ?_
    refine ev_cS (pc := 15) [vI 1, vI p1, vI 40] [] rfl mkX11_isBetween ml11_86 msX11_isBetween dX11_centuries_15 rfl (Nat.le_of_ble_eq_true rfl) (by omega) rfl (e_X11_isBetween (d := d - 1) (v := (f_X11_isBetween 1 p1 40)) (by omega)  rfl) ?_
    refine ev_if_eq (pc := 18) (tgt := 41) dX11_centuries_18 (by decide) (fun b2 => ?_) (fun b2 => ?_)
    · rw [if_pos b2] at h
      refine ev_iconst (pc := 41) (x := (-1)) dX11_centuries_41 ci_m1 ?_
      cases h
      exact ev_iret (pc := 42) dX11_centuries_42 rfl
    · rw [if_neg b2] at h
      refine ev_aload_n (pc := 21) 0 dX11_centuries_21 rfl rfl ?_
      refine ev_getR (pc := 22) fl11_23 rfl dX11_centuries_22 rfl kd_1 (by omega) (rf_1_2 _) ?_
      refine ev_getIc (pc := 25) fl11_90 rfl dX11_centuries_25 rfl (sea_k sea_c3) (sea_nz sea_c3) (sea_n9 sea_c3) 0 rfl ?_
      refine ev_if_eq (pc := 28) (tgt := 41) dX11_centuries_28 (by decide) (fun b3 => ?_) (fun b3 => ?_)
      · rw [if_pos b3] at h
        refine ev_iconst (pc := 41) (x := (-1)) dX11_centuries_41 ci_m1 ?_
        cases h
        exact ev_iret (pc := 42) dX11_centuries_42 rfl
      · rw [if_neg b3] at h
        refine ev_aload_n (pc := 31) 0 dX11_centuries_31 rfl rfl ?_
        refine ev_getR (pc := 32) fl11_23 rfl dX11_centuries_32 rfl kd_1 (by omega) (rf_1_2 _) ?_
        refine ev_getIc (pc := 35) fl11_105 rfl dX11_centuries_35 rfl (sea_k sea_c3) (sea_nz sea_c3) (sea_n9 sea_c3) 6 rfl ?_
        refine ev_if_ne (pc := 38) (tgt := 43) dX11_centuries_38 (by decide) (fun b4 => ?_) (fun b4 => ?_)
        · rw [if_pos b4] at h
          refine ev_aload_n (pc := 43) 0 dX11_centuries_43 rfl rfl ?_
          refine ev_getR (pc := 44) fl11_12 rfl dX11_centuries_44 rfl kd_1 (by omega) (rf_1_0 _) ?_
          refine ev_getR (pc := 47) fl11_147 rfl dX11_centuries_47 rfl (whole_k whole_c2) (whole_nz whole_c2) (rf_2_1 _) ?_
          refine ev_aload_n (pc := 50) 0 dX11_centuries_50 rfl rfl ?_
          refine ev_getR (pc := 51) fl11_23 rfl dX11_centuries_51 rfl kd_1 (by omega) (rf_1_2 _) ?_
          obtain ⟨q5, hq5, h⟩ := bd h
          refine ev_cV0 (pc := 54) [vR 3] [] rfl mkX0_keep ml11_151 mnX0_keep dX11_centuries_54 (acts_k acts_c14) (acts_nz acts_c14) rfl (Nat.le_of_ble_eq_true rfl) (by omega) (e_X0_keep (d := d - 1) (M' := q5) (by omega) acts_c14 sea_c3 hq5) ?_
          refine ev_aload_n (pc := 57) 0 dX11_centuries_57 rfl rfl ?_
          refine ev_getR (pc := 58) fl11_23 rfl dX11_centuries_58 rfl kd_1 (by omega) (rf_1_2 _) ?_
          refine ev_iload_n (pc := 61) 1 dX11_centuries_61 rfl rfl ?_
          refine ev_iconst (pc := 62) (x := 2) dX11_centuries_62 ci_2 ?_
          refine ev_imul (pc := 63) dX11_centuries_63 ?_
          refine ev_bipush (pc := 64) (x := 83) dX11_centuries_64 cb_83 ?_
          refine ev_iadd (pc := 66) dX11_centuries_66 ?_
          obtain ⟨M6, eM6, h⟩ := lt_some h
          refine ev_putIc (pc := 67) fl11_187 rfl dX11_centuries_67 (sea_k sea_c3) (sea_nz sea_c3) (sea_n9 sea_c3) eM6 ?_
          refine ev_iconst (pc := 70) (x := 0) dX11_centuries_70 ci_0 ?_
          refine ev_istore_n (pc := 71) (il' := [(3, vI 0), (0, vR 1), (1, vI p0), (2, vI p1)]) dX11_centuries_71 rfl (Nat.le_of_ble_eq_true rfl) rfl ?_
          obtain ⟨q10, hq10, h⟩ := bd h
          refine ev_pick [1, 3, 0] rfl ?_
          refine e_X11_centuries_L72 hd  n hq10 ?_
          refine ev_aload_n (pc := 119) 0 dX11_centuries_119 rfl rfl ?_
          refine ev_getR (pc := 120) fl11_23 rfl dX11_centuries_120 rfl kd_1 (by omega) (rf_1_2 _) ?_
          refine ev_getIc (pc := 123) fl11_140 rfl dX11_centuries_123 rfl (sea_k sea_c3) (sea_nz sea_c3) (sea_n9 sea_c3) 11 rfl ?_
          cases h
          exact ev_iret (pc := 126) dX11_centuries_126 rfl
        · rw [if_neg b4] at h
          refine ev_iconst (pc := 41) (x := (-1)) dX11_centuries_41 ci_m1 ?_
          cases h
          exact ev_iret (pc := 42) dX11_centuries_42 rfl
def f_X11_undo (M : Mem) : Option (Int × Mem) := (f_X0_takeBack 14 3 M).bind fun q1 => some (q1.1, q1.2)
set_option maxRecDepth 100000 in
set_option maxHeartbeats 4000000 in
theorem e_X11_undo {g : Gm} {d : Nat} {M N : Mem} {v : Int} {M' : Mem} (hd : 3 ≤ d) (h : f_X11_undo M = some (v, M')) : EvM g d mtX11_undo [vR 1] (sg (mx M N)) (0, 0) (vI v) (sg (mx M' N)) := by
  unfold f_X11_undo at h
  refine EvM.of mkX11_undo.2.2.2.1 (Nat.le_of_ble_eq_true rfl) ?_
  change Ev g d mtX11_undo 0 [(0, vR 1)] [] (sg (mx M N)) (0, 0) (vI v) (sg (mx M' N))
  refine ev_aload_n (pc := 0) 0 dX11_undo_0 rfl rfl ?_
  refine ev_getR (pc := 1) fl11_12 rfl dX11_undo_1 rfl kd_1 (by omega) (rf_1_0 _) ?_
  refine ev_getR (pc := 4) fl11_147 rfl dX11_undo_4 rfl (whole_k whole_c2) (whole_nz whole_c2) (rf_2_1 _) ?_
  refine ev_aload_n (pc := 7) 0 dX11_undo_7 rfl rfl ?_
  refine ev_getR (pc := 8) fl11_23 rfl dX11_undo_8 rfl kd_1 (by omega) (rf_1_2 _) ?_
  obtain ⟨q1, hq1, h⟩ := bd h
  refine ev_cV (pc := 11) [vR 3] [] rfl mkX0_takeBack ml11_193 mnX0_takeBack dX11_undo_11 (acts_k acts_c14) (acts_nz acts_c14) rfl (Nat.le_of_ble_eq_true rfl) (by omega) rfl (e_X0_takeBack (d := d - 1) (v := q1.1) (M' := q1.2) (by omega) acts_c14 sea_c3 hq1) ?_
  cases h
  exact ev_iret (pc := 14) dX11_undo_14 rfl
def f_X11_ofStep (n : Nat) (p0 p1 : Int) (M : Mem) : Option (Int × Mem) := if (f_X11_isStep p0 M) ≠ 0 then (if p1 = 0 then (ck (0 ≤ p0 ∧ p0 < 9) (some ((M 4 p0), M))) else (if p1 = 1 then (ck (0 ≤ p0 ∧ p0 < 9) (some ((M 5 p0), M))) else (if p1 = 2 then (ck (0 ≤ p0 ∧ p0 < 9) (some ((M 6 p0), M))) else (if p1 = 3 then (ck (0 ≤ p0 ∧ p0 < 9) (some ((M 7 p0), M))) else (if p1 = 4 then (ck (0 ≤ p0 ∧ p0 < 9) (some ((M 8 p0), M))) else (if p1 = 5 then ((f_X5_shipsOn n 3 p0 M).bind fun q13 => some (q13, M)) else (if p1 = 6 then ((f_X2_flows n 3 p0 M).bind fun q15 => some (q15.1, q15.2)) else (some ((-1), M))))))))) else (some ((-1), M))
set_option maxRecDepth 100000 in
set_option maxHeartbeats 4000000 in
theorem e_X11_ofStep {g : Gm} {d : Nat} {n : Nat} {p0 p1 : Int} {M N : Mem} {v : Int} {M' : Mem} (hd : 3 ≤ d) (h : f_X11_ofStep n p0 p1 M = some (v, M')) : EvM g d mtX11_ofStep [vR 1, vI p0, vI p1] (sg (mx M N)) (0, 0) (vI v) (sg (mx M' N)) := by
  unfold f_X11_ofStep at h
  refine EvM.of mkX11_ofStep.2.2.2.1 (Nat.le_of_ble_eq_true rfl) ?_
  change Ev g d mtX11_ofStep 0 [(0, vR 1), (1, vI p0), (2, vI p1)] [] (sg (mx M N)) (0, 0) (vI v) (sg (mx M' N))
  refine ev_aload_n (pc := 0) 0 dX11_ofStep_0 rfl rfl ?_
  refine ev_iload_n (pc := 1) 1 dX11_ofStep_1 rfl rfl ?_
  refine ev_cV (pc := 2) [vI p0] [] rfl mkX11_isStep ml11_102 mnX11_isStep dX11_ofStep_2 kd_1 (by omega) rfl (Nat.le_of_ble_eq_true rfl) (by omega) rfl (e_X11_isStep (d := d - 1) (v := (f_X11_isStep p0 M)) (by omega)  rfl) ?_
  refine ev_if_ne (pc := 5) (tgt := 10) dX11_ofStep_5 (by decide) (fun b1 => ?_) (fun b1 => ?_)
  · rw [if_pos b1] at h
    refine ev_iload_n (pc := 10) 2 dX11_ofStep_10 rfl rfl ?_
    by_cases b2 : p1 = 0
    · rw [if_pos b2] at h
      refine ev_tswIn (pc := 11) (tgt := 52) dX11_ofStep_11 (by omega) (by omega) (by rw [b2] <;> rfl) (by decide) ?_
      refine ev_aload_n (pc := 52) 0 dX11_ofStep_52 rfl rfl ?_
      refine ev_getR (pc := 53) fl11_23 rfl dX11_ofStep_53 rfl kd_1 (by omega) (rf_1_2 _) ?_
      refine ev_getR (pc := 56) fl11_197 rfl dX11_ofStep_56 rfl (sea_k sea_c3) (sea_nz sea_c3) (rf_3_1 _) ?_
      refine ev_iload_n (pc := 59) 1 dX11_ofStep_59 rfl rfl ?_
      obtain ⟨c3, h⟩ := ck_some h
      refine ev_ildc (pc := 60) dX11_ofStep_60 kd_4 (by omega) (by omega) c3.1 c3.2 ?_
      cases h
      exact ev_iret (pc := 61) dX11_ofStep_61 rfl
    · rw [if_neg b2] at h
      by_cases b4 : p1 = 1
      · rw [if_pos b4] at h
        refine ev_tswIn (pc := 11) (tgt := 62) dX11_ofStep_11 (by omega) (by omega) (by rw [b4] <;> rfl) (by decide) ?_
        refine ev_aload_n (pc := 62) 0 dX11_ofStep_62 rfl rfl ?_
        refine ev_getR (pc := 63) fl11_23 rfl dX11_ofStep_63 rfl kd_1 (by omega) (rf_1_2 _) ?_
        refine ev_getR (pc := 66) fl11_165 rfl dX11_ofStep_66 rfl (sea_k sea_c3) (sea_nz sea_c3) (rf_3_2 _) ?_
        refine ev_iload_n (pc := 69) 1 dX11_ofStep_69 rfl rfl ?_
        obtain ⟨c5, h⟩ := ck_some h
        refine ev_ildc (pc := 70) dX11_ofStep_70 kd_5 (by omega) (by omega) c5.1 c5.2 ?_
        cases h
        exact ev_iret (pc := 71) dX11_ofStep_71 rfl
      · rw [if_neg b4] at h
        by_cases b6 : p1 = 2
        · rw [if_pos b6] at h
          refine ev_tswIn (pc := 11) (tgt := 72) dX11_ofStep_11 (by omega) (by omega) (by rw [b6] <;> rfl) (by decide) ?_
          refine ev_aload_n (pc := 72) 0 dX11_ofStep_72 rfl rfl ?_
          refine ev_getR (pc := 73) fl11_23 rfl dX11_ofStep_73 rfl kd_1 (by omega) (rf_1_2 _) ?_
          refine ev_getR (pc := 76) fl11_161 rfl dX11_ofStep_76 rfl (sea_k sea_c3) (sea_nz sea_c3) (rf_3_3 _) ?_
          refine ev_iload_n (pc := 79) 1 dX11_ofStep_79 rfl rfl ?_
          obtain ⟨c7, h⟩ := ck_some h
          refine ev_ildc (pc := 80) dX11_ofStep_80 kd_6 (by omega) (by omega) c7.1 c7.2 ?_
          cases h
          exact ev_iret (pc := 81) dX11_ofStep_81 rfl
        · rw [if_neg b6] at h
          by_cases b8 : p1 = 3
          · rw [if_pos b8] at h
            refine ev_tswIn (pc := 11) (tgt := 82) dX11_ofStep_11 (by omega) (by omega) (by rw [b8] <;> rfl) (by decide) ?_
            refine ev_aload_n (pc := 82) 0 dX11_ofStep_82 rfl rfl ?_
            refine ev_getR (pc := 83) fl11_23 rfl dX11_ofStep_83 rfl kd_1 (by omega) (rf_1_2 _) ?_
            refine ev_getR (pc := 86) fl11_200 rfl dX11_ofStep_86 rfl (sea_k sea_c3) (sea_nz sea_c3) (rf_3_4 _) ?_
            refine ev_iload_n (pc := 89) 1 dX11_ofStep_89 rfl rfl ?_
            obtain ⟨c9, h⟩ := ck_some h
            refine ev_ildc (pc := 90) dX11_ofStep_90 kd_7 (by omega) (by omega) c9.1 c9.2 ?_
            cases h
            exact ev_iret (pc := 91) dX11_ofStep_91 rfl
          · rw [if_neg b8] at h
            by_cases b10 : p1 = 4
            · rw [if_pos b10] at h
              refine ev_tswIn (pc := 11) (tgt := 92) dX11_ofStep_11 (by omega) (by omega) (by rw [b10] <;> rfl) (by decide) ?_
              refine ev_aload_n (pc := 92) 0 dX11_ofStep_92 rfl rfl ?_
              refine ev_getR (pc := 93) fl11_23 rfl dX11_ofStep_93 rfl kd_1 (by omega) (rf_1_2 _) ?_
              refine ev_getR (pc := 96) fl11_171 rfl dX11_ofStep_96 rfl (sea_k sea_c3) (sea_nz sea_c3) (rf_3_5 _) ?_
              refine ev_iload_n (pc := 99) 1 dX11_ofStep_99 rfl rfl ?_
              obtain ⟨c11, h⟩ := ck_some h
              refine ev_ildc (pc := 100) dX11_ofStep_100 kd_8 (by omega) (by omega) c11.1 c11.2 ?_
              cases h
              exact ev_iret (pc := 101) dX11_ofStep_101 rfl
            · rw [if_neg b10] at h
              by_cases b12 : p1 = 5
              · rw [if_pos b12] at h
                refine ev_tswIn (pc := 11) (tgt := 102) dX11_ofStep_11 (by omega) (by omega) (by rw [b12] <;> rfl) (by decide) ?_
                refine ev_aload_n (pc := 102) 0 dX11_ofStep_102 rfl rfl ?_
                refine ev_getR (pc := 103) fl11_23 rfl dX11_ofStep_103 rfl kd_1 (by omega) (rf_1_2 _) ?_
                refine ev_iload_n (pc := 106) 1 dX11_ofStep_106 rfl rfl ?_
                obtain ⟨q13, hq13, h⟩ := bd h
                refine ev_cV (pc := 107) [vI p0] [] rfl mkX5_shipsOn ml11_203 mnX5_shipsOn dX11_ofStep_107 (sea_k sea_c3) (sea_nz sea_c3) rfl (Nat.le_of_ble_eq_true rfl) (by omega) rfl (e_X5_shipsOn (d := d - 1) (v := q13) (by omega) sea_c3 hq13) ?_
                cases h
                exact ev_iret (pc := 110) dX11_ofStep_110 rfl
              · rw [if_neg b12] at h
                by_cases b14 : p1 = 6
                · rw [if_pos b14] at h
                  refine ev_tswIn (pc := 11) (tgt := 111) dX11_ofStep_11 (by omega) (by omega) (by rw [b14] <;> rfl) (by decide) ?_
                  refine ev_aload_n (pc := 111) 0 dX11_ofStep_111 rfl rfl ?_
                  refine ev_getR (pc := 112) fl11_45 rfl dX11_ofStep_112 rfl kd_1 (by omega) (rf_1_6 _) ?_
                  refine ev_aload_n (pc := 115) 0 dX11_ofStep_115 rfl rfl ?_
                  refine ev_getR (pc := 116) fl11_23 rfl dX11_ofStep_116 rfl kd_1 (by omega) (rf_1_2 _) ?_
                  refine ev_iload_n (pc := 119) 1 dX11_ofStep_119 rfl rfl ?_
                  obtain ⟨q15, hq15, h⟩ := bd h
                  refine ev_cV (pc := 120) [vR 3, vI p0] [] rfl mkX2_flows ml11_206 mnX2_flows dX11_ofStep_120 kd_705 (by omega) rfl (Nat.le_of_ble_eq_true rfl) (by omega) rfl (e_X2_flows (d := d - 1) (v := q15.1) (M' := q15.2) (by omega) sea_c3 hq15) ?_
                  cases h
                  exact ev_iret (pc := 123) dX11_ofStep_123 rfl
                · rw [if_neg b14] at h
                  refine ev_tswOut (pc := 11) (tgt := 124) dX11_ofStep_11 (by omega) (by decide) ?_
                  refine ev_iconst (pc := 124) (x := (-1)) dX11_ofStep_124 ci_m1 ?_
                  cases h
                  exact ev_iret (pc := 125) dX11_ofStep_125 rfl
  · rw [if_neg b1] at h
    refine ev_iconst (pc := 8) (x := (-1)) dX11_ofStep_8 ci_m1 ?_
    cases h
    exact ev_iret (pc := 9) dX11_ofStep_9 rfl
def f_X11_ofShip (p0 p1 : Int) (M : Mem) : Option (Int) := if (f_X11_isShip p0 M) ≠ 0 then (if p1 = 0 then (ck (0 ≤ p0 ∧ p0 < 7) (some (M 9 p0))) else (if p1 = 1 then (ck (0 ≤ p0 ∧ p0 < 7) (some (M 10 p0))) else (if p1 = 2 then (ck (0 ≤ p0 ∧ p0 < 7) (some (M 11 p0))) else (if p1 = 3 then (ck (0 ≤ p0 ∧ p0 < 7) (some (M 12 p0))) else (some (-1)))))) else (some (-1))
set_option maxRecDepth 100000 in
set_option maxHeartbeats 4000000 in
theorem e_X11_ofShip {g : Gm} {d : Nat} {p0 p1 : Int} {M N : Mem} {v : Int} (hd : 2 ≤ d) (h : f_X11_ofShip p0 p1 M = some v) : EvM g d mtX11_ofShip [vR 1, vI p0, vI p1] (sg (mx M N)) (0, 0) (vI v) (sg (mx M N)) := by
  unfold f_X11_ofShip at h
  refine EvM.of mkX11_ofShip.2.2.2.1 (Nat.le_of_ble_eq_true rfl) ?_
  change Ev g d mtX11_ofShip 0 [(0, vR 1), (1, vI p0), (2, vI p1)] [] (sg (mx M N)) (0, 0) (vI v) (sg (mx M N))
  refine ev_aload_n (pc := 0) 0 dX11_ofShip_0 rfl rfl ?_
  refine ev_iload_n (pc := 1) 1 dX11_ofShip_1 rfl rfl ?_
  refine ev_cV (pc := 2) [vI p0] [] rfl mkX11_isShip ml11_174 mnX11_isShip dX11_ofShip_2 kd_1 (by omega) rfl (Nat.le_of_ble_eq_true rfl) (by omega) rfl (e_X11_isShip (d := d - 1) (v := (f_X11_isShip p0 M)) (by omega)  rfl) ?_
  refine ev_if_ne (pc := 5) (tgt := 10) dX11_ofShip_5 (by decide) (fun b1 => ?_) (fun b1 => ?_)
  · rw [if_pos b1] at h
    refine ev_iload_n (pc := 10) 2 dX11_ofShip_10 rfl rfl ?_
    by_cases b2 : p1 = 0
    · rw [if_pos b2] at h
      refine ev_tswIn (pc := 11) (tgt := 40) dX11_ofShip_11 (by omega) (by omega) (by rw [b2] <;> rfl) (by decide) ?_
      refine ev_aload_n (pc := 40) 0 dX11_ofShip_40 rfl rfl ?_
      refine ev_getR (pc := 41) fl11_23 rfl dX11_ofShip_41 rfl kd_1 (by omega) (rf_1_2 _) ?_
      refine ev_getR (pc := 44) fl11_210 rfl dX11_ofShip_44 rfl (sea_k sea_c3) (sea_nz sea_c3) (rf_3_7 _) ?_
      refine ev_iload_n (pc := 47) 1 dX11_ofShip_47 rfl rfl ?_
      obtain ⟨c3, h⟩ := ck_some h
      refine ev_ildc (pc := 48) dX11_ofShip_48 kd_9 (by omega) (by omega) c3.1 c3.2 ?_
      cases h
      exact ev_iret (pc := 49) dX11_ofShip_49 rfl
    · rw [if_neg b2] at h
      by_cases b4 : p1 = 1
      · rw [if_pos b4] at h
        refine ev_tswIn (pc := 11) (tgt := 50) dX11_ofShip_11 (by omega) (by omega) (by rw [b4] <;> rfl) (by decide) ?_
        refine ev_aload_n (pc := 50) 0 dX11_ofShip_50 rfl rfl ?_
        refine ev_getR (pc := 51) fl11_23 rfl dX11_ofShip_51 rfl kd_1 (by omega) (rf_1_2 _) ?_
        refine ev_getR (pc := 54) fl11_213 rfl dX11_ofShip_54 rfl (sea_k sea_c3) (sea_nz sea_c3) (rf_3_8 _) ?_
        refine ev_iload_n (pc := 57) 1 dX11_ofShip_57 rfl rfl ?_
        obtain ⟨c5, h⟩ := ck_some h
        refine ev_ildc (pc := 58) dX11_ofShip_58 kd_10 (by omega) (by omega) c5.1 c5.2 ?_
        cases h
        exact ev_iret (pc := 59) dX11_ofShip_59 rfl
      · rw [if_neg b4] at h
        by_cases b6 : p1 = 2
        · rw [if_pos b6] at h
          refine ev_tswIn (pc := 11) (tgt := 60) dX11_ofShip_11 (by omega) (by omega) (by rw [b6] <;> rfl) (by decide) ?_
          refine ev_aload_n (pc := 60) 0 dX11_ofShip_60 rfl rfl ?_
          refine ev_getR (pc := 61) fl11_23 rfl dX11_ofShip_61 rfl kd_1 (by omega) (rf_1_2 _) ?_
          refine ev_getR (pc := 64) fl11_177 rfl dX11_ofShip_64 rfl (sea_k sea_c3) (sea_nz sea_c3) (rf_3_9 _) ?_
          refine ev_iload_n (pc := 67) 1 dX11_ofShip_67 rfl rfl ?_
          obtain ⟨c7, h⟩ := ck_some h
          refine ev_ildc (pc := 68) dX11_ofShip_68 kd_11 (by omega) (by omega) c7.1 c7.2 ?_
          cases h
          exact ev_iret (pc := 69) dX11_ofShip_69 rfl
        · rw [if_neg b6] at h
          by_cases b8 : p1 = 3
          · rw [if_pos b8] at h
            refine ev_tswIn (pc := 11) (tgt := 70) dX11_ofShip_11 (by omega) (by omega) (by rw [b8] <;> rfl) (by decide) ?_
            refine ev_aload_n (pc := 70) 0 dX11_ofShip_70 rfl rfl ?_
            refine ev_getR (pc := 71) fl11_23 rfl dX11_ofShip_71 rfl kd_1 (by omega) (rf_1_2 _) ?_
            refine ev_getR (pc := 74) fl11_216 rfl dX11_ofShip_74 rfl (sea_k sea_c3) (sea_nz sea_c3) (rf_3_10 _) ?_
            refine ev_iload_n (pc := 77) 1 dX11_ofShip_77 rfl rfl ?_
            obtain ⟨c9, h⟩ := ck_some h
            refine ev_ildc (pc := 78) dX11_ofShip_78 kd_12 (by omega) (by omega) c9.1 c9.2 ?_
            cases h
            exact ev_iret (pc := 79) dX11_ofShip_79 rfl
          · rw [if_neg b8] at h
            refine ev_tswOut (pc := 11) (tgt := 80) dX11_ofShip_11 (by omega) (by decide) ?_
            refine ev_iconst (pc := 80) (x := (-1)) dX11_ofShip_80 ci_m1 ?_
            cases h
            exact ev_iret (pc := 81) dX11_ofShip_81 rfl
  · rw [if_neg b1] at h
    refine ev_iconst (pc := 8) (x := (-1)) dX11_ofShip_8 ci_m1 ?_
    cases h
    exact ev_iret (pc := 9) dX11_ofShip_9 rfl
def f_X11_is (p0 : Int) (M : Mem) : Int := (if p0 = 0 then (M 3 11) else (if p0 = 1 then (M 3 12) else (if p0 = 2 then (M 3 13) else (if p0 = 3 then (M 3 14) else (-2)))))
set_option maxRecDepth 100000 in
set_option maxHeartbeats 4000000 in
theorem e_X11_is {g : Gm} {d : Nat} {p0 : Int} {M N : Mem} {v : Int} (hd : 0 ≤ d) (h : f_X11_is p0 M = v) : EvM g d mtX11_is [vR 1, vI p0] (sg (mx M N)) (0, 0) (vI v) (sg (mx M N)) := by
  unfold f_X11_is at h
  refine EvM.of mkX11_is.2.2.2.1 (Nat.le_of_ble_eq_true rfl) ?_
  change Ev g d mtX11_is 0 [(0, vR 1), (1, vI p0)] [] (sg (mx M N)) (0, 0) (vI v) (sg (mx M N))
  refine ev_iload_n (pc := 0) 1 dX11_is_0 rfl rfl ?_
  by_cases b1 : p0 = 0
  · rw [if_pos b1] at h
    refine ev_tswIn (pc := 1) (tgt := 32) dX11_is_1 (by omega) (by omega) (by rw [b1] <;> rfl) (by decide) ?_
    refine ev_aload_n (pc := 32) 0 dX11_is_32 rfl rfl ?_
    refine ev_getR (pc := 33) fl11_23 rfl dX11_is_33 rfl kd_1 (by omega) (rf_1_2 _) ?_
    refine ev_getIc (pc := 36) fl11_140 rfl dX11_is_36 rfl (sea_k sea_c3) (sea_nz sea_c3) (sea_n9 sea_c3) 11 rfl ?_
    cases h
    exact ev_iret (pc := 39) dX11_is_39 rfl
  · rw [if_neg b1] at h
    by_cases b2 : p0 = 1
    · rw [if_pos b2] at h
      refine ev_tswIn (pc := 1) (tgt := 40) dX11_is_1 (by omega) (by omega) (by rw [b2] <;> rfl) (by decide) ?_
      refine ev_aload_n (pc := 40) 0 dX11_is_40 rfl rfl ?_
      refine ev_getR (pc := 41) fl11_23 rfl dX11_is_41 rfl kd_1 (by omega) (rf_1_2 _) ?_
      refine ev_getIc (pc := 44) fl11_219 rfl dX11_is_44 rfl (sea_k sea_c3) (sea_nz sea_c3) (sea_n9 sea_c3) 12 rfl ?_
      cases h
      exact ev_iret (pc := 47) dX11_is_47 rfl
    · rw [if_neg b2] at h
      by_cases b3 : p0 = 2
      · rw [if_pos b3] at h
        refine ev_tswIn (pc := 1) (tgt := 48) dX11_is_1 (by omega) (by omega) (by rw [b3] <;> rfl) (by decide) ?_
        refine ev_aload_n (pc := 48) 0 dX11_is_48 rfl rfl ?_
        refine ev_getR (pc := 49) fl11_23 rfl dX11_is_49 rfl kd_1 (by omega) (rf_1_2 _) ?_
        refine ev_getIc (pc := 52) fl11_222 rfl dX11_is_52 rfl (sea_k sea_c3) (sea_nz sea_c3) (sea_n9 sea_c3) 13 rfl ?_
        cases h
        exact ev_iret (pc := 55) dX11_is_55 rfl
      · rw [if_neg b3] at h
        by_cases b4 : p0 = 3
        · rw [if_pos b4] at h
          refine ev_tswIn (pc := 1) (tgt := 56) dX11_is_1 (by omega) (by omega) (by rw [b4] <;> rfl) (by decide) ?_
          refine ev_aload_n (pc := 56) 0 dX11_is_56 rfl rfl ?_
          refine ev_getR (pc := 57) fl11_23 rfl dX11_is_57 rfl kd_1 (by omega) (rf_1_2 _) ?_
          refine ev_getIc (pc := 60) fl11_187 rfl dX11_is_60 rfl (sea_k sea_c3) (sea_nz sea_c3) (sea_n9 sea_c3) 14 rfl ?_
          cases h
          exact ev_iret (pc := 63) dX11_is_63 rfl
        · rw [if_neg b4] at h
          refine ev_tswOut (pc := 1) (tgt := 64) dX11_is_1 (by omega) (by decide) ?_
          refine ev_bipush (pc := 64) (x := (-2)) dX11_is_64 cb_m2 ?_
          cases h
          exact ev_iret (pc := 66) dX11_is_66 rfl
def f_X11_book (p0 p1 : Int) (M : Mem) : Option (Int) := if p0 ≠ (-1) then (if (f_X11_isBetween 0 p0 (wI ((M 3 15) - 1))) ≠ 0 then (if p1 = 0 then (ck (0 ≤ p0 ∧ p0 < 40) (some (iDiv (M 13 p0) 100))) else (if p1 = 1 then (ck (0 ≤ p0 ∧ p0 < 40) (some (iRem (iDiv (M 13 p0) 10) 10))) else (if p1 = 2 then (ck (0 ≤ p0 ∧ p0 < 40) (some (iRem (M 13 p0) 10))) else (some (-2))))) else (some (-2))) else (some (M 3 15))
set_option maxRecDepth 100000 in
set_option maxHeartbeats 4000000 in
theorem e_X11_book {g : Gm} {d : Nat} {p0 p1 : Int} {M N : Mem} {v : Int} (hd : 1 ≤ d) (h : f_X11_book p0 p1 M = some v) : EvM g d mtX11_book [vR 1, vI p0, vI p1] (sg (mx M N)) (0, 0) (vI v) (sg (mx M N)) := by
  unfold f_X11_book at h
  refine EvM.of mkX11_book.2.2.2.1 (Nat.le_of_ble_eq_true rfl) ?_
  change Ev g d mtX11_book 0 [(0, vR 1), (1, vI p0), (2, vI p1)] [] (sg (mx M N)) (0, 0) (vI v) (sg (mx M N))
  refine ev_iload_n (pc := 0) 1 dX11_book_0 rfl rfl ?_
  refine ev_iconst (pc := 1) (x := (-1)) dX11_book_1 ci_m1 ?_
  refine ev_icmp_ne (pc := 2) (tgt := 13) dX11_book_2 (by decide) (fun b1 => ?_) (fun b1 => ?_)
  · rw [if_pos b1] at h
    refine ev_iconst (pc := 13) (x := 0) dX11_book_13 ci_0 ?_
    refine ev_iload_n (pc := 14) 1 dX11_book_14 rfl rfl ?_
    refine ev_aload_n (pc := 15) 0 dX11_book_15 rfl rfl ?_
    refine ev_getR (pc := 16) fl11_23 rfl dX11_book_16 rfl kd_1 (by omega) (rf_1_2 _) ?_
    refine ev_getIc (pc := 19) fl11_225 rfl dX11_book_19 rfl (sea_k sea_c3) (sea_nz sea_c3) (sea_n9 sea_c3) 15 rfl ?_
    refine ev_iconst (pc := 22) (x := 1) dX11_book_22 ci_1 ?_
    refine ev_isub (pc := 23) dX11_book_23 ?_
    refine ev_cS (pc := 24) [vI 0, vI p0, vI (wI ((M 3 15) - 1))] [] rfl mkX11_isBetween ml11_86 msX11_isBetween dX11_book_24 rfl (Nat.le_of_ble_eq_true rfl) (by omega) rfl (e_X11_isBetween (d := d - 1) (v := (f_X11_isBetween 0 p0 (wI ((M 3 15) - 1)))) (by omega)  rfl) ?_
    refine ev_if_ne (pc := 27) (tgt := 33) dX11_book_27 (by decide) (fun b2 => ?_) (fun b2 => ?_)
    · rw [if_pos b2] at h
      refine ev_iload_n (pc := 33) 2 dX11_book_33 rfl rfl ?_
      by_cases b3 : p1 = 0
      · rw [if_pos b3] at h
        refine ev_tswIn (pc := 34) (tgt := 60) dX11_book_34 (by omega) (by omega) (by rw [b3] <;> rfl) (by decide) ?_
        refine ev_aload_n (pc := 60) 0 dX11_book_60 rfl rfl ?_
        refine ev_getR (pc := 61) fl11_23 rfl dX11_book_61 rfl kd_1 (by omega) (rf_1_2 _) ?_
        refine ev_getR (pc := 64) fl11_228 rfl dX11_book_64 rfl (sea_k sea_c3) (sea_nz sea_c3) (rf_3_16 _) ?_
        refine ev_iload_n (pc := 67) 1 dX11_book_67 rfl rfl ?_
        obtain ⟨c4, h⟩ := ck_some h
        refine ev_ildc (pc := 68) dX11_book_68 kd_13 (by omega) (by omega) c4.1 c4.2 ?_
        refine ev_bipush (pc := 69) (x := 100) dX11_book_69 cb_100 ?_
        refine ev_idiv (pc := 71) dX11_book_71 (by omega) ?_
        cases h
        exact ev_iret (pc := 72) dX11_book_72 rfl
      · rw [if_neg b3] at h
        by_cases b5 : p1 = 1
        · rw [if_pos b5] at h
          refine ev_tswIn (pc := 34) (tgt := 73) dX11_book_34 (by omega) (by omega) (by rw [b5] <;> rfl) (by decide) ?_
          refine ev_aload_n (pc := 73) 0 dX11_book_73 rfl rfl ?_
          refine ev_getR (pc := 74) fl11_23 rfl dX11_book_74 rfl kd_1 (by omega) (rf_1_2 _) ?_
          refine ev_getR (pc := 77) fl11_228 rfl dX11_book_77 rfl (sea_k sea_c3) (sea_nz sea_c3) (rf_3_16 _) ?_
          refine ev_iload_n (pc := 80) 1 dX11_book_80 rfl rfl ?_
          obtain ⟨c6, h⟩ := ck_some h
          refine ev_ildc (pc := 81) dX11_book_81 kd_13 (by omega) (by omega) c6.1 c6.2 ?_
          refine ev_bipush (pc := 82) (x := 10) dX11_book_82 cb_10 ?_
          refine ev_idiv (pc := 84) dX11_book_84 (by omega) ?_
          refine ev_bipush (pc := 85) (x := 10) dX11_book_85 cb_10 ?_
          refine ev_irem (pc := 87) dX11_book_87 (by omega) ?_
          cases h
          exact ev_iret (pc := 88) dX11_book_88 rfl
        · rw [if_neg b5] at h
          by_cases b7 : p1 = 2
          · rw [if_pos b7] at h
            refine ev_tswIn (pc := 34) (tgt := 89) dX11_book_34 (by omega) (by omega) (by rw [b7] <;> rfl) (by decide) ?_
            refine ev_aload_n (pc := 89) 0 dX11_book_89 rfl rfl ?_
            refine ev_getR (pc := 90) fl11_23 rfl dX11_book_90 rfl kd_1 (by omega) (rf_1_2 _) ?_
            refine ev_getR (pc := 93) fl11_228 rfl dX11_book_93 rfl (sea_k sea_c3) (sea_nz sea_c3) (rf_3_16 _) ?_
            refine ev_iload_n (pc := 96) 1 dX11_book_96 rfl rfl ?_
            obtain ⟨c8, h⟩ := ck_some h
            refine ev_ildc (pc := 97) dX11_book_97 kd_13 (by omega) (by omega) c8.1 c8.2 ?_
            refine ev_bipush (pc := 98) (x := 10) dX11_book_98 cb_10 ?_
            refine ev_irem (pc := 100) dX11_book_100 (by omega) ?_
            cases h
            exact ev_iret (pc := 101) dX11_book_101 rfl
          · rw [if_neg b7] at h
            refine ev_tswOut (pc := 34) (tgt := 102) dX11_book_34 (by omega) (by decide) ?_
            refine ev_bipush (pc := 102) (x := (-2)) dX11_book_102 cb_m2 ?_
            cases h
            exact ev_iret (pc := 104) dX11_book_104 rfl
    · rw [if_neg b2] at h
      refine ev_bipush (pc := 30) (x := (-2)) dX11_book_30 cb_m2 ?_
      cases h
      exact ev_iret (pc := 32) dX11_book_32 rfl
  · rw [if_neg b1] at h
    refine ev_aload_n (pc := 5) 0 dX11_book_5 rfl rfl ?_
    refine ev_getR (pc := 6) fl11_23 rfl dX11_book_6 rfl kd_1 (by omega) (rf_1_2 _) ?_
    refine ev_getIc (pc := 9) fl11_225 rfl dX11_book_9 rfl (sea_k sea_c3) (sea_nz sea_c3) (sea_n9 sea_c3) 15 rfl ?_
    cases h
    exact ev_iret (pc := 12) dX11_book_12 rfl
def f_X11_lookAhead_L13 : Nat → Int → Int → Mem → Option (Mem)
  | 0, _, _, _ => none
  | n + 1, x1, x2, M => if x1 ≤ x2 then (some M) else ((f_X1_passOne n 762 M).bind fun q3 => f_X11_lookAhead_L13 n x1 (wI (x2 + 1)) q3.2)
set_option maxRecDepth 100000 in
set_option maxHeartbeats 4000000 in
theorem e_X11_lookAhead_L13 {g : Gm} {d : Nat} {x1 : Int} {r : Vv} {σ' : Sg} {N : Mem} (hd : 5 ≤ d) : ∀ (n : Nat) {x2 : Int} {M : Mem} {q : Mem}, f_X11_lookAhead_L13 n x1 x2 M = some q → Ev g d mtX11_lookAhead 36 [] [] (sg (mx q N)) (0, 0) r σ' → Ev g d mtX11_lookAhead 13 [(0, vR 1), (1, vI x1), (2, vI x2)] [] (sg (mx M N)) (0, 0) r σ' := by
  intro n
  induction n with
  | zero =>
    intro x2 M q h hk0
    rw [f_X11_lookAhead_L13.eq_1] at h
    cases h
  | succ n ih =>
    intro x2 M q h hk0
    rw [f_X11_lookAhead_L13.eq_2] at h
    refine ev_iload_n (pc := 13) 2 dX11_lookAhead_13 rfl rfl ?_
    refine ev_iload_n (pc := 14) 1 dX11_lookAhead_14 rfl rfl ?_
    refine ev_icmp_ge (pc := 15) (tgt := 36) dX11_lookAhead_15 (by decide) (fun b2 => ?_) (fun b2 => ?_)
    · rw [if_pos b2] at h
      cases h
      refine ev_pick [] rfl ?_
      exact hk0
    · rw [if_neg b2] at h
      refine ev_aload_n (pc := 18) 0 dX11_lookAhead_18 rfl rfl ?_
      refine ev_getR (pc := 19) fl11_54 rfl dX11_lookAhead_19 rfl kd_1 (by omega) (rf_1_7 _) ?_
      refine ev_aload_n (pc := 22) 0 dX11_lookAhead_22 rfl rfl ?_
      refine ev_getR (pc := 23) fl11_82 rfl dX11_lookAhead_23 rfl kd_1 (by omega) (rf_1_11 _) ?_
      obtain ⟨q3, hq3, h⟩ := bd h
      refine ev_cV (pc := 26) [vR 762] [] rfl mkX1_passOne ml11_234 mnX1_passOne dX11_lookAhead_26 kd_714 (by omega) rfl (Nat.le_of_ble_eq_true rfl) (by omega) rfl (e_X1_passOne (d := d - 1) (v := q3.1) (M' := q3.2) (by omega) sea_c762 hq3) ?_
      refine ev_pop (pc := 29) rfl dX11_lookAhead_29 ?_
      refine ev_iinc (pc := 30) (il' := [(2, vI (wI (x2 + 1))), (0, vR 1), (1, vI x1)]) 2 dX11_lookAhead_30 rfl (Nat.le_of_ble_eq_true rfl) rfl rfl ?_
      refine ev_goto (pc := 33) (tgt := 13) dX11_lookAhead_33 (by decide) ?_
      refine ev_pick [1, 2, 0] rfl ?_
      exact ih h hk0
def f_X11_lookAhead (n : Nat) (p0 : Int) (M : Mem) : Option (Mem) := (f_X5_copyFrom 762 3 M).bind fun q1 => (f_X11_lookAhead_L13 n p0 0 q1).bind fun q4 => some q4
set_option maxRecDepth 100000 in
set_option maxHeartbeats 4000000 in
theorem e_X11_lookAhead {g : Gm} {d : Nat} {n : Nat} {p0 : Int} {M N : Mem} {M' : Mem} (hd : 5 ≤ d) (h : f_X11_lookAhead n p0 M = some M') : EvM g d mtX11_lookAhead [vR 1, vI p0] (sg (mx M N)) (0, 0) vN (sg (mx M' N)) := by
  unfold f_X11_lookAhead at h
  refine EvM.of mkX11_lookAhead.2.2.2.1 (Nat.le_of_ble_eq_true rfl) ?_
  change Ev g d mtX11_lookAhead 0 [(0, vR 1), (1, vI p0)] [] (sg (mx M N)) (0, 0) vN (sg (mx M' N))
  refine ev_aload_n (pc := 0) 0 dX11_lookAhead_0 rfl rfl ?_
  refine ev_getR (pc := 1) fl11_82 rfl dX11_lookAhead_1 rfl kd_1 (by omega) (rf_1_11 _) ?_
  refine ev_aload_n (pc := 4) 0 dX11_lookAhead_4 rfl rfl ?_
  refine ev_getR (pc := 5) fl11_23 rfl dX11_lookAhead_5 rfl kd_1 (by omega) (rf_1_2 _) ?_
  obtain ⟨q1, hq1, h⟩ := bd h
  refine ev_cV0 (pc := 8) [vR 3] [] rfl mkX5_copyFrom ml11_383 mnX5_copyFrom dX11_lookAhead_8 (sea_k sea_c762) (sea_nz sea_c762) rfl (Nat.le_of_ble_eq_true rfl) (by omega) (e_X5_copyFrom (d := d - 1) (M' := q1) (by omega) sea_c762 sea_c3 hq1) ?_
  refine ev_iconst (pc := 11) (x := 0) dX11_lookAhead_11 ci_0 ?_
  refine ev_istore_n (pc := 12) (il' := [(2, vI 0), (0, vR 1), (1, vI p0)]) dX11_lookAhead_12 rfl (Nat.le_of_ble_eq_true rfl) rfl ?_
  obtain ⟨q4, hq4, h⟩ := bd h
  refine ev_pick [1, 2, 0] rfl ?_
  refine e_X11_lookAhead_L13 hd  n hq4 ?_
  cases h
  exact ev_vret (pc := 36) dX11_lookAhead_36 rfl
def f_X11_foretoldShip (n : Nat) (p0 p1 p2 : Int) (M : Mem) : Option (Int × Mem) := if (f_X11_isBetween 1 p0 60) = 0 then (some ((-1), M)) else (if (f_X11_isShip p1 M) = 0 then (some ((-1), M)) else (if (f_X11_isBetween 0 p2 1) ≠ 0 then ((f_X11_lookAhead n p0 M).bind fun q4 => if p2 ≠ 0 then (ck (0 ≤ p1 ∧ p1 < 7) (some ((q4 771 p1), q4))) else (ck (0 ≤ p1 ∧ p1 < 7) (some ((q4 769 p1), q4)))) else (some ((-1), M))))
set_option maxRecDepth 100000 in
set_option maxHeartbeats 4000000 in
theorem e_X11_foretoldShip {g : Gm} {d : Nat} {n : Nat} {p0 p1 p2 : Int} {M N : Mem} {v : Int} {M' : Mem} (hd : 6 ≤ d) (h : f_X11_foretoldShip n p0 p1 p2 M = some (v, M')) : EvM g d mtX11_foretoldShip [vR 1, vI p0, vI p1, vI p2] (sg (mx M N)) (0, 0) (vI v) (sg (mx M' N)) := by
  unfold f_X11_foretoldShip at h
  refine EvM.of mkX11_foretoldShip.2.2.2.1 (Nat.le_of_ble_eq_true rfl) ?_
  change Ev g d mtX11_foretoldShip 0 [(0, vR 1), (1, vI p0), (2, vI p1), (3, vI p2)] [] (sg (mx M N)) (0, 0) (vI v) (sg (mx M' N))
  refine ev_iconst (pc := 0) (x := 1) dX11_foretoldShip_0 ci_1 ?_
  refine ev_iload_n (pc := 1) 1 dX11_foretoldShip_1 rfl rfl ?_
  refine ev_bipush (pc := 2) (x := 60) dX11_foretoldShip_2 cb_60 ?_
  refine ev_cS (pc := 4) [vI 1, vI p0, vI 60] [] rfl mkX11_isBetween ml11_86 msX11_isBetween dX11_foretoldShip_4 rfl (Nat.le_of_ble_eq_true rfl) (by omega) rfl (e_X11_isBetween (d := d - 1) (v := (f_X11_isBetween 1 p0 60)) (by omega)  rfl) ?_
  refine ev_if_eq (pc := 7) (tgt := 27) dX11_foretoldShip_7 (by decide) (fun b1 => ?_) (fun b1 => ?_)
  · rw [if_pos b1] at h
    refine ev_iconst (pc := 27) (x := (-1)) dX11_foretoldShip_27 ci_m1 ?_
    cases h
    exact ev_iret (pc := 28) dX11_foretoldShip_28 rfl
  · rw [if_neg b1] at h
    refine ev_aload_n (pc := 10) 0 dX11_foretoldShip_10 rfl rfl ?_
    refine ev_iload_n (pc := 11) 2 dX11_foretoldShip_11 rfl rfl ?_
    refine ev_cV (pc := 12) [vI p1] [] rfl mkX11_isShip ml11_174 mnX11_isShip dX11_foretoldShip_12 kd_1 (by omega) rfl (Nat.le_of_ble_eq_true rfl) (by omega) rfl (e_X11_isShip (d := d - 1) (v := (f_X11_isShip p1 M)) (by omega)  rfl) ?_
    refine ev_if_eq (pc := 15) (tgt := 27) dX11_foretoldShip_15 (by decide) (fun b2 => ?_) (fun b2 => ?_)
    · rw [if_pos b2] at h
      refine ev_iconst (pc := 27) (x := (-1)) dX11_foretoldShip_27 ci_m1 ?_
      cases h
      exact ev_iret (pc := 28) dX11_foretoldShip_28 rfl
    · rw [if_neg b2] at h
      refine ev_iconst (pc := 18) (x := 0) dX11_foretoldShip_18 ci_0 ?_
      refine ev_iload_n (pc := 19) 3 dX11_foretoldShip_19 rfl rfl ?_
      refine ev_iconst (pc := 20) (x := 1) dX11_foretoldShip_20 ci_1 ?_
      refine ev_cS (pc := 21) [vI 0, vI p2, vI 1] [] rfl mkX11_isBetween ml11_86 msX11_isBetween dX11_foretoldShip_21 rfl (Nat.le_of_ble_eq_true rfl) (by omega) rfl (e_X11_isBetween (d := d - 1) (v := (f_X11_isBetween 0 p2 1)) (by omega)  rfl) ?_
      refine ev_if_ne (pc := 24) (tgt := 29) dX11_foretoldShip_24 (by decide) (fun b3 => ?_) (fun b3 => ?_)
      · rw [if_pos b3] at h
        refine ev_aload_n (pc := 29) 0 dX11_foretoldShip_29 rfl rfl ?_
        refine ev_iload_n (pc := 30) 1 dX11_foretoldShip_30 rfl rfl ?_
        obtain ⟨q4, hq4, h⟩ := bd h
        refine ev_cV0 (pc := 31) [vI p0] [] rfl mkX11_lookAhead ml11_231 mnX11_lookAhead dX11_foretoldShip_31 kd_1 (by omega) rfl (Nat.le_of_ble_eq_true rfl) (by omega) (e_X11_lookAhead (d := d - 1) (M' := q4) (by omega)  hq4) ?_
        refine ev_iload_n (pc := 34) 3 dX11_foretoldShip_34 rfl rfl ?_
        refine ev_if_ne (pc := 35) (tgt := 50) dX11_foretoldShip_35 (by decide) (fun b5 => ?_) (fun b5 => ?_)
        · rw [if_pos b5] at h
          refine ev_aload_n (pc := 50) 0 dX11_foretoldShip_50 rfl rfl ?_
          refine ev_getR (pc := 51) fl11_82 rfl dX11_foretoldShip_51 rfl kd_1 (by omega) (rf_1_11 _) ?_
          refine ev_getR (pc := 54) fl11_216 rfl dX11_foretoldShip_54 rfl (sea_k sea_c762) (sea_nz sea_c762) (rf_762_10 _) ?_
          refine ev_iload_n (pc := 57) 2 dX11_foretoldShip_57 rfl rfl ?_
          obtain ⟨c6, h⟩ := ck_some h
          refine ev_ildc (pc := 58) dX11_foretoldShip_58 kd_771 (by omega) (by omega) c6.1 c6.2 ?_
          cases h
          exact ev_iret (pc := 59) dX11_foretoldShip_59 rfl
        · rw [if_neg b5] at h
          refine ev_aload_n (pc := 38) 0 dX11_foretoldShip_38 rfl rfl ?_
          refine ev_getR (pc := 39) fl11_82 rfl dX11_foretoldShip_39 rfl kd_1 (by omega) (rf_1_11 _) ?_
          refine ev_getR (pc := 42) fl11_213 rfl dX11_foretoldShip_42 rfl (sea_k sea_c762) (sea_nz sea_c762) (rf_762_8 _) ?_
          refine ev_iload_n (pc := 45) 2 dX11_foretoldShip_45 rfl rfl ?_
          obtain ⟨c7, h⟩ := ck_some h
          refine ev_ildc (pc := 46) dX11_foretoldShip_46 kd_769 (by omega) (by omega) c7.1 c7.2 ?_
          refine ev_goto (pc := 47) (tgt := 59) dX11_foretoldShip_47 (by decide) ?_
          cases h
          exact ev_iret (pc := 59) dX11_foretoldShip_59 rfl
      · rw [if_neg b3] at h
        refine ev_iconst (pc := 27) (x := (-1)) dX11_foretoldShip_27 ci_m1 ?_
        cases h
        exact ev_iret (pc := 28) dX11_foretoldShip_28 rfl
def f_X11_foretoldStep (n : Nat) (p0 p1 p2 : Int) (M : Mem) : Option (Int × Mem) := if (f_X11_isBetween 1 p0 60) = 0 then (some ((-1), M)) else (if (f_X11_isStep p1 M) = 0 then (some ((-1), M)) else (if (f_X11_isBetween 0 p2 1) ≠ 0 then ((f_X11_lookAhead n p0 M).bind fun q4 => if p2 ≠ 0 then (ck (0 ≤ p1 ∧ p1 < 9) (some ((q4 766 p1), q4))) else (ck (0 ≤ p1 ∧ p1 < 9) (some ((q4 765 p1), q4)))) else (some ((-1), M))))
set_option maxRecDepth 100000 in
set_option maxHeartbeats 4000000 in
theorem e_X11_foretoldStep {g : Gm} {d : Nat} {n : Nat} {p0 p1 p2 : Int} {M N : Mem} {v : Int} {M' : Mem} (hd : 6 ≤ d) (h : f_X11_foretoldStep n p0 p1 p2 M = some (v, M')) : EvM g d mtX11_foretoldStep [vR 1, vI p0, vI p1, vI p2] (sg (mx M N)) (0, 0) (vI v) (sg (mx M' N)) := by
  unfold f_X11_foretoldStep at h
  refine EvM.of mkX11_foretoldStep.2.2.2.1 (Nat.le_of_ble_eq_true rfl) ?_
  change Ev g d mtX11_foretoldStep 0 [(0, vR 1), (1, vI p0), (2, vI p1), (3, vI p2)] [] (sg (mx M N)) (0, 0) (vI v) (sg (mx M' N))
  refine ev_iconst (pc := 0) (x := 1) dX11_foretoldStep_0 ci_1 ?_
  refine ev_iload_n (pc := 1) 1 dX11_foretoldStep_1 rfl rfl ?_
  refine ev_bipush (pc := 2) (x := 60) dX11_foretoldStep_2 cb_60 ?_
  refine ev_cS (pc := 4) [vI 1, vI p0, vI 60] [] rfl mkX11_isBetween ml11_86 msX11_isBetween dX11_foretoldStep_4 rfl (Nat.le_of_ble_eq_true rfl) (by omega) rfl (e_X11_isBetween (d := d - 1) (v := (f_X11_isBetween 1 p0 60)) (by omega)  rfl) ?_
  refine ev_if_eq (pc := 7) (tgt := 27) dX11_foretoldStep_7 (by decide) (fun b1 => ?_) (fun b1 => ?_)
  · rw [if_pos b1] at h
    refine ev_iconst (pc := 27) (x := (-1)) dX11_foretoldStep_27 ci_m1 ?_
    cases h
    exact ev_iret (pc := 28) dX11_foretoldStep_28 rfl
  · rw [if_neg b1] at h
    refine ev_aload_n (pc := 10) 0 dX11_foretoldStep_10 rfl rfl ?_
    refine ev_iload_n (pc := 11) 2 dX11_foretoldStep_11 rfl rfl ?_
    refine ev_cV (pc := 12) [vI p1] [] rfl mkX11_isStep ml11_102 mnX11_isStep dX11_foretoldStep_12 kd_1 (by omega) rfl (Nat.le_of_ble_eq_true rfl) (by omega) rfl (e_X11_isStep (d := d - 1) (v := (f_X11_isStep p1 M)) (by omega)  rfl) ?_
    refine ev_if_eq (pc := 15) (tgt := 27) dX11_foretoldStep_15 (by decide) (fun b2 => ?_) (fun b2 => ?_)
    · rw [if_pos b2] at h
      refine ev_iconst (pc := 27) (x := (-1)) dX11_foretoldStep_27 ci_m1 ?_
      cases h
      exact ev_iret (pc := 28) dX11_foretoldStep_28 rfl
    · rw [if_neg b2] at h
      refine ev_iconst (pc := 18) (x := 0) dX11_foretoldStep_18 ci_0 ?_
      refine ev_iload_n (pc := 19) 3 dX11_foretoldStep_19 rfl rfl ?_
      refine ev_iconst (pc := 20) (x := 1) dX11_foretoldStep_20 ci_1 ?_
      refine ev_cS (pc := 21) [vI 0, vI p2, vI 1] [] rfl mkX11_isBetween ml11_86 msX11_isBetween dX11_foretoldStep_21 rfl (Nat.le_of_ble_eq_true rfl) (by omega) rfl (e_X11_isBetween (d := d - 1) (v := (f_X11_isBetween 0 p2 1)) (by omega)  rfl) ?_
      refine ev_if_ne (pc := 24) (tgt := 29) dX11_foretoldStep_24 (by decide) (fun b3 => ?_) (fun b3 => ?_)
      · rw [if_pos b3] at h
        refine ev_aload_n (pc := 29) 0 dX11_foretoldStep_29 rfl rfl ?_
        refine ev_iload_n (pc := 30) 1 dX11_foretoldStep_30 rfl rfl ?_
        obtain ⟨q4, hq4, h⟩ := bd h
        refine ev_cV0 (pc := 31) [vI p0] [] rfl mkX11_lookAhead ml11_231 mnX11_lookAhead dX11_foretoldStep_31 kd_1 (by omega) rfl (Nat.le_of_ble_eq_true rfl) (by omega) (e_X11_lookAhead (d := d - 1) (M' := q4) (by omega)  hq4) ?_
        refine ev_iload_n (pc := 34) 3 dX11_foretoldStep_34 rfl rfl ?_
        refine ev_if_ne (pc := 35) (tgt := 50) dX11_foretoldStep_35 (by decide) (fun b5 => ?_) (fun b5 => ?_)
        · rw [if_pos b5] at h
          refine ev_aload_n (pc := 50) 0 dX11_foretoldStep_50 rfl rfl ?_
          refine ev_getR (pc := 51) fl11_82 rfl dX11_foretoldStep_51 rfl kd_1 (by omega) (rf_1_11 _) ?_
          refine ev_getR (pc := 54) fl11_200 rfl dX11_foretoldStep_54 rfl (sea_k sea_c762) (sea_nz sea_c762) (rf_762_4 _) ?_
          refine ev_iload_n (pc := 57) 2 dX11_foretoldStep_57 rfl rfl ?_
          obtain ⟨c6, h⟩ := ck_some h
          refine ev_ildc (pc := 58) dX11_foretoldStep_58 kd_766 (by omega) (by omega) c6.1 c6.2 ?_
          cases h
          exact ev_iret (pc := 59) dX11_foretoldStep_59 rfl
        · rw [if_neg b5] at h
          refine ev_aload_n (pc := 38) 0 dX11_foretoldStep_38 rfl rfl ?_
          refine ev_getR (pc := 39) fl11_82 rfl dX11_foretoldStep_39 rfl kd_1 (by omega) (rf_1_11 _) ?_
          refine ev_getR (pc := 42) fl11_161 rfl dX11_foretoldStep_42 rfl (sea_k sea_c762) (sea_nz sea_c762) (rf_762_3 _) ?_
          refine ev_iload_n (pc := 45) 2 dX11_foretoldStep_45 rfl rfl ?_
          obtain ⟨c7, h⟩ := ck_some h
          refine ev_ildc (pc := 46) dX11_foretoldStep_46 kd_765 (by omega) (by omega) c7.1 c7.2 ?_
          refine ev_goto (pc := 47) (tgt := 59) dX11_foretoldStep_47 (by decide) ?_
          cases h
          exact ev_iret (pc := 59) dX11_foretoldStep_59 rfl
      · rw [if_neg b3] at h
        refine ev_iconst (pc := 27) (x := (-1)) dX11_foretoldStep_27 ci_m1 ?_
        cases h
        exact ev_iret (pc := 28) dX11_foretoldStep_28 rfl
def f_X11_comes_L17 : Nat → Int → Int → Mem → Option (Int × Mem)
  | 0, _, _, _ => none
  | n + 1, x1, x2, M => if 60 < x2 then (some ((-1), M)) else (ck (0 ≤ x1 ∧ x1 < 7) (if (M 769 x1) ≠ (M 770 x1) then ((f_X1_passOne n 762 M).bind fun q6 => f_X11_comes_L17 n x1 (wI (x2 + 1)) q6.2) else (some (x2, M))))
set_option maxRecDepth 100000 in
set_option maxHeartbeats 4000000 in
theorem e_X11_comes_L17 {g : Gm} {d : Nat} {x1 : Int} {N : Mem} (hd : 6 ≤ d) : ∀ (n : Nat) {x2 : Int} {M : Mem} {v : Int} {M' : Mem}, f_X11_comes_L17 n x1 x2 M = some (v, M') → Ev g d mtX11_comes 17 [(0, vR 1), (1, vI x1), (2, vI x2)] [] (sg (mx M N)) (0, 0) (vI v) (sg (mx M' N)) := by
  intro n
  induction n with
  | zero =>
    intro x2 M v M' h
    rw [f_X11_comes_L17.eq_1] at h
    cases h
  | succ n ih =>
    intro x2 M v M' h
    rw [f_X11_comes_L17.eq_2] at h
    refine ev_iload_n (pc := 17) 2 dX11_comes_17 rfl rfl ?_
    refine ev_bipush (pc := 18) (x := 60) dX11_comes_18 cb_60 ?_
    refine ev_icmp_gt (pc := 20) (tgt := 64) dX11_comes_20 (by decide) (fun b3 => ?_) (fun b3 => ?_)
    · rw [if_pos b3] at h
      refine ev_iconst (pc := 64) (x := (-1)) dX11_comes_64 ci_m1 ?_
      cases h
      exact ev_iret (pc := 65) dX11_comes_65 rfl
    · rw [if_neg b3] at h
      refine ev_aload_n (pc := 23) 0 dX11_comes_23 rfl rfl ?_
      refine ev_getR (pc := 24) fl11_82 rfl dX11_comes_24 rfl kd_1 (by omega) (rf_1_11 _) ?_
      refine ev_getR (pc := 27) fl11_213 rfl dX11_comes_27 rfl (sea_k sea_c762) (sea_nz sea_c762) (rf_762_8 _) ?_
      refine ev_iload_n (pc := 30) 1 dX11_comes_30 rfl rfl ?_
      obtain ⟨c4, h⟩ := ck_some h
      refine ev_ildc (pc := 31) dX11_comes_31 kd_769 (by omega) (by omega) c4.1 c4.2 ?_
      refine ev_aload_n (pc := 32) 0 dX11_comes_32 rfl rfl ?_
      refine ev_getR (pc := 33) fl11_82 rfl dX11_comes_33 rfl kd_1 (by omega) (rf_1_11 _) ?_
      refine ev_getR (pc := 36) fl11_177 rfl dX11_comes_36 rfl (sea_k sea_c762) (sea_nz sea_c762) (rf_762_9 _) ?_
      refine ev_iload_n (pc := 39) 1 dX11_comes_39 rfl rfl ?_
      refine ev_ildc (pc := 40) dX11_comes_40 kd_770 (by omega) (by omega) c4.1 c4.2 ?_
      refine ev_icmp_ne (pc := 41) (tgt := 46) dX11_comes_41 (by decide) (fun b5 => ?_) (fun b5 => ?_)
      · rw [if_pos b5] at h
        refine ev_aload_n (pc := 46) 0 dX11_comes_46 rfl rfl ?_
        refine ev_getR (pc := 47) fl11_54 rfl dX11_comes_47 rfl kd_1 (by omega) (rf_1_7 _) ?_
        refine ev_aload_n (pc := 50) 0 dX11_comes_50 rfl rfl ?_
        refine ev_getR (pc := 51) fl11_82 rfl dX11_comes_51 rfl kd_1 (by omega) (rf_1_11 _) ?_
        obtain ⟨q6, hq6, h⟩ := bd h
        refine ev_cV (pc := 54) [vR 762] [] rfl mkX1_passOne ml11_234 mnX1_passOne dX11_comes_54 kd_714 (by omega) rfl (Nat.le_of_ble_eq_true rfl) (by omega) rfl (e_X1_passOne (d := d - 1) (v := q6.1) (M' := q6.2) (by omega) sea_c762 hq6) ?_
        refine ev_pop (pc := 57) rfl dX11_comes_57 ?_
        refine ev_iinc (pc := 58) (il' := [(2, vI (wI (x2 + 1))), (0, vR 1), (1, vI x1)]) 2 dX11_comes_58 rfl (Nat.le_of_ble_eq_true rfl) rfl rfl ?_
        refine ev_goto (pc := 61) (tgt := 17) dX11_comes_61 (by decide) ?_
        refine ev_pick [1, 2, 0] rfl ?_
        exact ih h
      · rw [if_neg b5] at h
        refine ev_iload_n (pc := 44) 2 dX11_comes_44 rfl rfl ?_
        cases h
        exact ev_iret (pc := 45) dX11_comes_45 rfl
def f_X11_comes (n : Nat) (p0 : Int) (M : Mem) : Option (Int × Mem) := if (f_X11_isShip p0 M) ≠ 0 then ((f_X11_lookAhead n 0 M).bind fun q2 => f_X11_comes_L17 n p0 0 q2) else (some ((-1), M))
set_option maxRecDepth 100000 in
set_option maxHeartbeats 4000000 in
theorem e_X11_comes {g : Gm} {d : Nat} {n : Nat} {p0 : Int} {M N : Mem} {v : Int} {M' : Mem} (hd : 6 ≤ d) (h : f_X11_comes n p0 M = some (v, M')) : EvM g d mtX11_comes [vR 1, vI p0] (sg (mx M N)) (0, 0) (vI v) (sg (mx M' N)) := by
  unfold f_X11_comes at h
  refine EvM.of mkX11_comes.2.2.2.1 (Nat.le_of_ble_eq_true rfl) ?_
  change Ev g d mtX11_comes 0 [(0, vR 1), (1, vI p0)] [] (sg (mx M N)) (0, 0) (vI v) (sg (mx M' N))
  refine ev_aload_n (pc := 0) 0 dX11_comes_0 rfl rfl ?_
  refine ev_iload_n (pc := 1) 1 dX11_comes_1 rfl rfl ?_
  refine ev_cV (pc := 2) [vI p0] [] rfl mkX11_isShip ml11_174 mnX11_isShip dX11_comes_2 kd_1 (by omega) rfl (Nat.le_of_ble_eq_true rfl) (by omega) rfl (e_X11_isShip (d := d - 1) (v := (f_X11_isShip p0 M)) (by omega)  rfl) ?_
  refine ev_if_ne (pc := 5) (tgt := 10) dX11_comes_5 (by decide) (fun b1 => ?_) (fun b1 => ?_)
  · rw [if_pos b1] at h
    refine ev_aload_n (pc := 10) 0 dX11_comes_10 rfl rfl ?_
    refine ev_iconst (pc := 11) (x := 0) dX11_comes_11 ci_0 ?_
    obtain ⟨q2, hq2, h⟩ := bd h
    refine ev_cV0 (pc := 12) [vI 0] [] rfl mkX11_lookAhead ml11_231 mnX11_lookAhead dX11_comes_12 kd_1 (by omega) rfl (Nat.le_of_ble_eq_true rfl) (by omega) (e_X11_lookAhead (d := d - 1) (M' := q2) (by omega)  hq2) ?_
    refine ev_iconst (pc := 15) (x := 0) dX11_comes_15 ci_0 ?_
    refine ev_istore_n (pc := 16) (il' := [(2, vI 0), (0, vR 1), (1, vI p0)]) dX11_comes_16 rfl (Nat.le_of_ble_eq_true rfl) rfl ?_
    refine ev_pick [1, 2, 0] rfl ?_
    exact e_X11_comes_L17 hd  n h
  · rw [if_neg b1] at h
    refine ev_iconst (pc := 8) (x := (-1)) dX11_comes_8 ci_m1 ?_
    cases h
    exact ev_iret (pc := 9) dX11_comes_9 rfl
def f_X11_voyage (n : Nat) (p0 p1 p2 p3 p4 : Int) (M : Mem) : Option (Int × Mem) := if (f_X11_isWeight p0) = 0 then (some ((-100), M)) else (if (f_X11_isStep p1 M) = 0 then (some ((-100), M)) else (if (f_X11_isStep p2 M) = 0 then (some ((-100), M)) else (if p2 ≤ p1 then (some ((-100), M)) else (if (f_X11_isBetween 1 p3 48) ≠ 0 then (if p3 < (wI (p2 - p1)) then (some ((-100), M)) else (if (f_X11_isBetween (-2) p4 (wI ((wI (p2 - p1)) - 1))) ≠ 0 then ((f_X11_lookAhead n 0 M).bind fun q8 => (f_X9_plan n 762 p0 p1 (wI (p2 - p1)) p3 q8).bind fun q9 => if p4 ≠ (-2) then (if p4 ≠ (-1) then ((f_X9_hoursAheadOf n p4 q9).bind fun q12 => some (q12, q9)) else (some ((q9 (729 + 0) 0), q9))) else (some ((q9 (719 + 0) 0), q9))) else (some ((-100), M)))) else (some ((-100), M))))))
set_option maxRecDepth 100000 in
set_option maxHeartbeats 4000000 in
theorem e_X11_voyage {g : Gm} {d : Nat} {n : Nat} {p0 p1 p2 p3 p4 : Int} {M N : Mem} {v : Int} {M' : Mem} (hd : 6 ≤ d) (h : f_X11_voyage n p0 p1 p2 p3 p4 M = some (v, M')) : EvM g d mtX11_voyage [vR 1, vI p0, vI p1, vI p2, vI p3, vI p4] (sg (mx M N)) (0, 0) (vI v) (sg (mx M' N)) := by
  unfold f_X11_voyage at h
  refine EvM.of mkX11_voyage.2.2.2.1 (Nat.le_of_ble_eq_true rfl) ?_
  change Ev g d mtX11_voyage 0 [(0, vR 1), (1, vI p0), (2, vI p1), (3, vI p2), (4, vI p3), (5, vI p4)] [] (sg (mx M N)) (0, 0) (vI v) (sg (mx M' N))
  refine ev_iload_n (pc := 0) 1 dX11_voyage_0 rfl rfl ?_
  refine ev_cS (pc := 1) [vI p0] [] rfl mkX11_isWeight ml11_98 msX11_isWeight dX11_voyage_1 rfl (Nat.le_of_ble_eq_true rfl) (by omega) rfl (e_X11_isWeight (d := d - 1) (v := (f_X11_isWeight p0)) (by omega)  rfl) ?_
  refine ev_if_eq (pc := 4) (tgt := 39) dX11_voyage_4 (by decide) (fun b1 => ?_) (fun b1 => ?_)
  · rw [if_pos b1] at h
    refine ev_bipush (pc := 39) (x := (-100)) dX11_voyage_39 cb_m100 ?_
    cases h
    exact ev_iret (pc := 41) dX11_voyage_41 rfl
  · rw [if_neg b1] at h
    refine ev_aload_n (pc := 7) 0 dX11_voyage_7 rfl rfl ?_
    refine ev_iload_n (pc := 8) 2 dX11_voyage_8 rfl rfl ?_
    refine ev_cV (pc := 9) [vI p1] [] rfl mkX11_isStep ml11_102 mnX11_isStep dX11_voyage_9 kd_1 (by omega) rfl (Nat.le_of_ble_eq_true rfl) (by omega) rfl (e_X11_isStep (d := d - 1) (v := (f_X11_isStep p1 M)) (by omega)  rfl) ?_
    refine ev_if_eq (pc := 12) (tgt := 39) dX11_voyage_12 (by decide) (fun b2 => ?_) (fun b2 => ?_)
    · rw [if_pos b2] at h
      refine ev_bipush (pc := 39) (x := (-100)) dX11_voyage_39 cb_m100 ?_
      cases h
      exact ev_iret (pc := 41) dX11_voyage_41 rfl
    · rw [if_neg b2] at h
      refine ev_aload_n (pc := 15) 0 dX11_voyage_15 rfl rfl ?_
      refine ev_iload_n (pc := 16) 3 dX11_voyage_16 rfl rfl ?_
      refine ev_cV (pc := 17) [vI p2] [] rfl mkX11_isStep ml11_102 mnX11_isStep dX11_voyage_17 kd_1 (by omega) rfl (Nat.le_of_ble_eq_true rfl) (by omega) rfl (e_X11_isStep (d := d - 1) (v := (f_X11_isStep p2 M)) (by omega)  rfl) ?_
      refine ev_if_eq (pc := 20) (tgt := 39) dX11_voyage_20 (by decide) (fun b3 => ?_) (fun b3 => ?_)
      · rw [if_pos b3] at h
        refine ev_bipush (pc := 39) (x := (-100)) dX11_voyage_39 cb_m100 ?_
        cases h
        exact ev_iret (pc := 41) dX11_voyage_41 rfl
      · rw [if_neg b3] at h
        refine ev_iload_n (pc := 23) 2 dX11_voyage_23 rfl rfl ?_
        refine ev_iload_n (pc := 24) 3 dX11_voyage_24 rfl rfl ?_
        refine ev_icmp_ge (pc := 25) (tgt := 39) dX11_voyage_25 (by decide) (fun b4 => ?_) (fun b4 => ?_)
        · rw [if_pos b4] at h
          refine ev_bipush (pc := 39) (x := (-100)) dX11_voyage_39 cb_m100 ?_
          cases h
          exact ev_iret (pc := 41) dX11_voyage_41 rfl
        · rw [if_neg b4] at h
          refine ev_iconst (pc := 28) (x := 1) dX11_voyage_28 ci_1 ?_
          refine ev_iload (pc := 29) 4 dX11_voyage_29 rfl ?_
          refine ev_bipush (pc := 31) (x := 48) dX11_voyage_31 cb_48 ?_
          refine ev_cS (pc := 33) [vI 1, vI p3, vI 48] [] rfl mkX11_isBetween ml11_86 msX11_isBetween dX11_voyage_33 rfl (Nat.le_of_ble_eq_true rfl) (by omega) rfl (e_X11_isBetween (d := d - 1) (v := (f_X11_isBetween 1 p3 48)) (by omega)  rfl) ?_
          refine ev_if_ne (pc := 36) (tgt := 42) dX11_voyage_36 (by decide) (fun b5 => ?_) (fun b5 => ?_)
          · rw [if_pos b5] at h
            refine ev_iload_n (pc := 42) 3 dX11_voyage_42 rfl rfl ?_
            refine ev_iload_n (pc := 43) 2 dX11_voyage_43 rfl rfl ?_
            refine ev_isub (pc := 44) dX11_voyage_44 ?_
            refine ev_istore (pc := 45) (il' := [(6, vI (wI (p2 - p1))), (0, vR 1), (1, vI p0), (2, vI p1), (3, vI p2), (4, vI p3), (5, vI p4)]) dX11_voyage_45 (Nat.le_of_ble_eq_true rfl) rfl ?_
            refine ev_iload (pc := 47) 5 dX11_voyage_47 rfl ?_
            refine ev_iload (pc := 49) 0 dX11_voyage_49 rfl ?_
            refine ev_icmp_lt (pc := 51) (tgt := 68) dX11_voyage_51 (by decide) (fun b6 => ?_) (fun b6 => ?_)
            · rw [if_pos b6] at h
              refine ev_bipush (pc := 68) (x := (-100)) dX11_voyage_68 cb_m100 ?_
              cases h
              exact ev_iret (pc := 70) dX11_voyage_70 rfl
            · rw [if_neg b6] at h
              refine ev_bipush (pc := 54) (x := (-2)) dX11_voyage_54 cb_m2 ?_
              refine ev_iload (pc := 56) 6 dX11_voyage_56 rfl ?_
              refine ev_iload (pc := 58) 0 dX11_voyage_58 rfl ?_
              refine ev_iconst (pc := 60) (x := 1) dX11_voyage_60 ci_1 ?_
              refine ev_isub (pc := 61) dX11_voyage_61 ?_
              refine ev_cS (pc := 62) [vI (-2), vI p4, vI (wI ((wI (p2 - p1)) - 1))] [] rfl mkX11_isBetween ml11_86 msX11_isBetween dX11_voyage_62 rfl (Nat.le_of_ble_eq_true rfl) (by omega) rfl (e_X11_isBetween (d := d - 1) (v := (f_X11_isBetween (-2) p4 (wI ((wI (p2 - p1)) - 1)))) (by omega)  rfl) ?_
              refine ev_if_ne (pc := 65) (tgt := 71) dX11_voyage_65 (by decide) (fun b7 => ?_) (fun b7 => ?_)
              · rw [if_pos b7] at h
                refine ev_aload_n (pc := 71) 1 dX11_voyage_71 rfl rfl ?_
                refine ev_iconst (pc := 72) (x := 0) dX11_voyage_72 ci_0 ?_
                obtain ⟨q8, hq8, h⟩ := bd h
                refine ev_cV0 (pc := 73) [vI 0] [] rfl mkX11_lookAhead ml11_231 mnX11_lookAhead dX11_voyage_73 kd_1 (by omega) rfl (Nat.le_of_ble_eq_true rfl) (by omega) (e_X11_lookAhead (d := d - 1) (M' := q8) (by omega)  hq8) ?_
                refine ev_aload_n (pc := 76) 1 dX11_voyage_76 rfl rfl ?_
                refine ev_getR (pc := 77) fl11_61 rfl dX11_voyage_77 rfl kd_1 (by omega) (rf_1_8 _) ?_
                refine ev_aload_n (pc := 80) 1 dX11_voyage_80 rfl rfl ?_
                refine ev_getR (pc := 81) fl11_82 rfl dX11_voyage_81 rfl kd_1 (by omega) (rf_1_11 _) ?_
                refine ev_iload_n (pc := 84) 2 dX11_voyage_84 rfl rfl ?_
                refine ev_iload_n (pc := 85) 3 dX11_voyage_85 rfl rfl ?_
                refine ev_iload (pc := 86) 0 dX11_voyage_86 rfl ?_
                refine ev_iload (pc := 88) 5 dX11_voyage_88 rfl ?_
                obtain ⟨q9, hq9, h⟩ := bd h
                refine ev_cV0 (pc := 90) [vR 762, vI p0, vI p1, vI (wI (p2 - p1)), vI p3] [] rfl mkX9_plan ml11_237 mnX9_plan dX11_voyage_90 kd_717 (by omega) rfl (Nat.le_of_ble_eq_true rfl) (by omega) (e_X9_plan (d := d - 1) (M' := q9) (by omega) sea_c762 hq9) ?_
                refine ev_iload (pc := 93) 6 dX11_voyage_93 rfl ?_
                refine ev_bipush (pc := 95) (x := (-2)) dX11_voyage_95 cb_m2 ?_
                refine ev_icmp_ne (pc := 97) (tgt := 112) dX11_voyage_97 (by decide) (fun b10 => ?_) (fun b10 => ?_)
                · rw [if_pos b10] at h
                  refine ev_iload (pc := 112) 6 dX11_voyage_112 rfl ?_
                  refine ev_iconst (pc := 114) (x := (-1)) dX11_voyage_114 ci_m1 ?_
                  refine ev_icmp_ne (pc := 115) (tgt := 132) dX11_voyage_115 (by decide) (fun b11 => ?_) (fun b11 => ?_)
                  · rw [if_pos b11] at h
                    refine ev_aload_n (pc := 132) 1 dX11_voyage_132 rfl rfl ?_
                    refine ev_getR (pc := 133) fl11_61 rfl dX11_voyage_133 rfl kd_1 (by omega) (rf_1_8 _) ?_
                    refine ev_iload (pc := 136) 6 dX11_voyage_136 rfl ?_
                    obtain ⟨q12, hq12, h⟩ := bd h
                    refine ev_cV (pc := 138) [vI p4] [] rfl mkX9_hoursAheadOf ml11_248 mnX9_hoursAheadOf dX11_voyage_138 kd_717 (by omega) rfl (Nat.le_of_ble_eq_true rfl) (by omega) rfl (e_X9_hoursAheadOf (d := d - 1) (v := q12) (by omega)  hq12) ?_
                    cases h
                    exact ev_iret (pc := 141) dX11_voyage_141 rfl
                  · rw [if_neg b11] at h
                    refine ev_aload_n (pc := 118) 1 dX11_voyage_118 rfl rfl ?_
                    refine ev_getR (pc := 119) fl11_61 rfl dX11_voyage_119 rfl kd_1 (by omega) (rf_1_8 _) ?_
                    refine ev_getR (pc := 122) fl11_245 rfl dX11_voyage_122 rfl kd_717 (by omega) (rf_717_2 _) ?_
                    refine ev_iconst (pc := 125) (x := 0) dX11_voyage_125 ci_0 ?_
                    refine ev_rld (pc := 126) dX11_voyage_126 (by decide) kd_728 (by omega) (by omega) (by omega) (row728_R _ (by omega) (by omega)) ?_
                    refine ev_iconst (pc := 127) (x := 0) dX11_voyage_127 ci_0 ?_
                    refine ev_ildc (pc := 128) dX11_voyage_128 (row728_K (by omega) (by omega)) (by have h9 := (by omega); have h8 := (by omega); omega) (by have h9 := (by omega); have h8 := (by omega); omega) (by omega) (by omega) ?_
                    refine ev_goto (pc := 129) (tgt := 141) dX11_voyage_129 (by decide) ?_
                    cases h
                    exact ev_iret (pc := 141) dX11_voyage_141 rfl
                · rw [if_neg b10] at h
                  refine ev_aload_n (pc := 100) 1 dX11_voyage_100 rfl rfl ?_
                  refine ev_getR (pc := 101) fl11_61 rfl dX11_voyage_101 rfl kd_1 (by omega) (rf_1_8 _) ?_
                  refine ev_getR (pc := 104) fl11_241 rfl dX11_voyage_104 rfl kd_717 (by omega) (rf_717_1 _) ?_
                  refine ev_iconst (pc := 107) (x := 0) dX11_voyage_107 ci_0 ?_
                  refine ev_rld (pc := 108) dX11_voyage_108 (by decide) kd_718 (by omega) (by omega) (by omega) (row718_R _ (by omega) (by omega)) ?_
                  refine ev_iconst (pc := 109) (x := 0) dX11_voyage_109 ci_0 ?_
                  refine ev_ildc (pc := 110) dX11_voyage_110 (row718_K (by omega) (by omega)) (by have h9 := (by omega); have h8 := (by omega); omega) (by have h9 := (by omega); have h8 := (by omega); omega) (by omega) (by omega) ?_
                  cases h
                  exact ev_iret (pc := 111) dX11_voyage_111 rfl
              · rw [if_neg b7] at h
                refine ev_bipush (pc := 68) (x := (-100)) dX11_voyage_68 cb_m100 ?_
                cases h
                exact ev_iret (pc := 70) dX11_voyage_70 rfl
          · rw [if_neg b5] at h
            refine ev_bipush (pc := 39) (x := (-100)) dX11_voyage_39 cb_m100 ?_
            cases h
            exact ev_iret (pc := 41) dX11_voyage_41 rfl
def f_X11_areShips (p0 : Int) (M : Mem) : Int := (f_X11_isBetween 0 p0 (wI ((bShl 1 (M 3 6)) - 1)))
set_option maxRecDepth 100000 in
set_option maxHeartbeats 4000000 in
theorem e_X11_areShips {g : Gm} {d : Nat} {p0 : Int} {M N : Mem} {v : Int} (hd : 1 ≤ d) (h : f_X11_areShips p0 M = v) : EvM g d mtX11_areShips [vR 1, vI p0] (sg (mx M N)) (0, 0) (vI v) (sg (mx M N)) := by
  unfold f_X11_areShips at h
  refine EvM.of mkX11_areShips.2.2.2.1 (Nat.le_of_ble_eq_true rfl) ?_
  change Ev g d mtX11_areShips 0 [(0, vR 1), (1, vI p0)] [] (sg (mx M N)) (0, 0) (vI v) (sg (mx M N))
  refine ev_iconst (pc := 0) (x := 0) dX11_areShips_0 ci_0 ?_
  refine ev_iload_n (pc := 1) 1 dX11_areShips_1 rfl rfl ?_
  refine ev_iconst (pc := 2) (x := 1) dX11_areShips_2 ci_1 ?_
  refine ev_aload_n (pc := 3) 0 dX11_areShips_3 rfl rfl ?_
  refine ev_getR (pc := 4) fl11_23 rfl dX11_areShips_4 rfl kd_1 (by omega) (rf_1_2 _) ?_
  refine ev_getIc (pc := 7) fl11_105 rfl dX11_areShips_7 rfl (sea_k sea_c3) (sea_nz sea_c3) (sea_n9 sea_c3) 6 rfl ?_
  refine ev_ishl (pc := 10) dX11_areShips_10 ?_
  refine ev_iconst (pc := 11) (x := 1) dX11_areShips_11 ci_1 ?_
  refine ev_isub (pc := 12) dX11_areShips_12 ?_
  refine ev_cS (pc := 13) [vI 0, vI p0, vI (wI ((bShl 1 (M 3 6)) - 1))] [] rfl mkX11_isBetween ml11_86 msX11_isBetween dX11_areShips_13 rfl (Nat.le_of_ble_eq_true rfl) (by omega) rfl (e_X11_isBetween (d := d - 1) (v := (f_X11_isBetween 0 p0 (wI ((bShl 1 (M 3 6)) - 1)))) (by omega)  rfl) ?_
  cases h
  exact ev_zret (pc := 16) (z_X11_isBetween ..) dX11_areShips_16 rfl
theorem z_X11_areShips (p0 : Int) (M : Mem) : f_X11_areShips p0 M = 0 ∨ f_X11_areShips p0 M = 1 := by
  unfold f_X11_areShips
  all_goals first | exact Or.inl rfl | exact Or.inr rfl | exact z_X11_isBetween ..
def f_X11_hauling_J85 (n : Nat) (x1 x2 x3 x4 : Int) (M : Mem) : Option (Int × Mem) := (f_X3_choose n 3 x1 x2 x3 M).bind fun q9 => if x4 ≠ (-1) then ((f_X3_partnerOf n x4 q9).bind fun q11 => some (q11, q9)) else (some ((q9 748 6), q9))
set_option maxRecDepth 100000 in
set_option maxHeartbeats 4000000 in
theorem e_X11_hauling_J85 {g : Gm} {d : Nat} {n : Nat} {x1 x2 x3 x4 : Int} {M N : Mem} {v : Int} {M' : Mem} (hd : 4 ≤ d) (h : f_X11_hauling_J85 n x1 x2 x3 x4 M = some (v, M')) : Ev g d mtX11_hauling 85 [(0, vR 1), (1, vI x1), (2, vI x2), (3, vI x3), (4, vI x4)] [] (sg (mx M N)) (0, 0) (vI v) (sg (mx M' N)) := by
  unfold f_X11_hauling_J85 at h
  refine ev_aload_n (pc := 85) 0 dX11_hauling_85 rfl rfl ?_
  refine ev_getR (pc := 86) fl11_68 rfl dX11_hauling_86 rfl kd_1 (by omega) (rf_1_9 _) ?_
  refine ev_aload_n (pc := 89) 0 dX11_hauling_89 rfl rfl ?_
  refine ev_getR (pc := 90) fl11_23 rfl dX11_hauling_90 rfl kd_1 (by omega) (rf_1_2 _) ?_
  refine ev_iload_n (pc := 93) 1 dX11_hauling_93 rfl rfl ?_
  refine ev_iload_n (pc := 94) 2 dX11_hauling_94 rfl rfl ?_
  refine ev_iload_n (pc := 95) 3 dX11_hauling_95 rfl rfl ?_
  obtain ⟨q9, hq9, h⟩ := bd h
  refine ev_cV0 (pc := 96) [vR 3, vI x1, vI x2, vI x3] [] rfl mkX3_choose ml11_259 mnX3_choose dX11_hauling_96 kd_748 (by omega) rfl (Nat.le_of_ble_eq_true rfl) (by omega) (e_X3_choose (d := d - 1) (M' := q9) (by omega) sea_c3 hq9) ?_
  refine ev_iload (pc := 99) 4 dX11_hauling_99 rfl ?_
  refine ev_iconst (pc := 101) (x := (-1)) dX11_hauling_101 ci_m1 ?_
  refine ev_icmp_ne (pc := 102) (tgt := 115) dX11_hauling_102 (by decide) (fun b10 => ?_) (fun b10 => ?_)
  · rw [if_pos b10] at h
    refine ev_aload_n (pc := 115) 0 dX11_hauling_115 rfl rfl ?_
    refine ev_getR (pc := 116) fl11_68 rfl dX11_hauling_116 rfl kd_1 (by omega) (rf_1_9 _) ?_
    refine ev_iload (pc := 119) 4 dX11_hauling_119 rfl ?_
    obtain ⟨q11, hq11, h⟩ := bd h
    refine ev_cV (pc := 121) [vI x4] [] rfl mkX3_partnerOf ml11_266 mnX3_partnerOf dX11_hauling_121 kd_748 (by omega) rfl (Nat.le_of_ble_eq_true rfl) (by omega) rfl (e_X3_partnerOf (d := d - 1) (v := q11) (by omega)  hq11) ?_
    cases h
    exact ev_iret (pc := 124) dX11_hauling_124 rfl
  · rw [if_neg b10] at h
    refine ev_aload_n (pc := 105) 0 dX11_hauling_105 rfl rfl ?_
    refine ev_getR (pc := 106) fl11_68 rfl dX11_hauling_106 rfl kd_1 (by omega) (rf_1_9 _) ?_
    refine ev_getIc (pc := 109) fl11_263 rfl dX11_hauling_109 rfl kd_748 (by omega) (by omega) 6 rfl ?_
    refine ev_goto (pc := 112) (tgt := 124) dX11_hauling_112 (by decide) ?_
    cases h
    exact ev_iret (pc := 124) dX11_hauling_124 rfl
def f_X11_hauling (n : Nat) (p0 p1 p2 p3 : Int) (M : Mem) : Option (Int × Mem) := if (f_X11_hasRiser p0 M) = 0 then (some ((-2), M)) else (if (f_X11_areShips p1 M) = 0 then (some ((-2), M)) else (if (f_X11_areShips p2 M) = 0 then (some ((-2), M)) else (if (bAnd p1 p2) ≠ 0 then (some ((-2), M)) else (if p1 ≠ 0 then (if 4 < (f_J6_bitCount_0f7a4 p1) then (some ((-2), M)) else (if (f_J6_bitCount_0f7a4 p2) ≤ 4 then (if p3 = (-1) then (f_X11_hauling_J85 n p0 p1 p2 p3 M) else (if (f_X11_isShip p3 M) = 0 then (some ((-2), M)) else (if (bAnd (bOr p1 p2) (bShl 1 p3)) ≠ 0 then (f_X11_hauling_J85 n p0 p1 p2 p3 M) else (some ((-2), M))))) else (some ((-2), M)))) else (some ((-2), M))))))
set_option maxRecDepth 100000 in
set_option maxHeartbeats 4000000 in
theorem e_X11_hauling {g : Gm} {d : Nat} {n : Nat} {p0 p1 p2 p3 : Int} {M N : Mem} {v : Int} {M' : Mem} (hd : 4 ≤ d) (h : f_X11_hauling n p0 p1 p2 p3 M = some (v, M')) : EvM g d mtX11_hauling [vR 1, vI p0, vI p1, vI p2, vI p3] (sg (mx M N)) (0, 0) (vI v) (sg (mx M' N)) := by
  unfold f_X11_hauling at h
  refine EvM.of mkX11_hauling.2.2.2.1 (Nat.le_of_ble_eq_true rfl) ?_
  change Ev g d mtX11_hauling 0 [(0, vR 1), (1, vI p0), (2, vI p1), (3, vI p2), (4, vI p3)] [] (sg (mx M N)) (0, 0) (vI v) (sg (mx M' N))
  refine ev_aload_n (pc := 0) 0 dX11_hauling_0 rfl rfl ?_
  refine ev_iload_n (pc := 1) 1 dX11_hauling_1 rfl rfl ?_
  refine ev_cV (pc := 2) [vI p0] [] rfl mkX11_hasRiser ml11_168 mnX11_hasRiser dX11_hauling_2 kd_1 (by omega) rfl (Nat.le_of_ble_eq_true rfl) (by omega) rfl (e_X11_hasRiser (d := d - 1) (v := (f_X11_hasRiser p0 M)) (by omega)  rfl) ?_
  refine ev_if_eq (pc := 5) (tgt := 34) dX11_hauling_5 (by decide) (fun b1 => ?_) (fun b1 => ?_)
  · rw [if_pos b1] at h
    refine ev_bipush (pc := 34) (x := (-2)) dX11_hauling_34 cb_m2 ?_
    cases h
    exact ev_iret (pc := 36) dX11_hauling_36 rfl
  · rw [if_neg b1] at h
    refine ev_aload_n (pc := 8) 0 dX11_hauling_8 rfl rfl ?_
    refine ev_iload_n (pc := 9) 2 dX11_hauling_9 rfl rfl ?_
    refine ev_cV (pc := 10) [vI p1] [] rfl mkX11_areShips ml11_251 mnX11_areShips dX11_hauling_10 kd_1 (by omega) rfl (Nat.le_of_ble_eq_true rfl) (by omega) rfl (e_X11_areShips (d := d - 1) (v := (f_X11_areShips p1 M)) (by omega)  rfl) ?_
    refine ev_if_eq (pc := 13) (tgt := 34) dX11_hauling_13 (by decide) (fun b2 => ?_) (fun b2 => ?_)
    · rw [if_pos b2] at h
      refine ev_bipush (pc := 34) (x := (-2)) dX11_hauling_34 cb_m2 ?_
      cases h
      exact ev_iret (pc := 36) dX11_hauling_36 rfl
    · rw [if_neg b2] at h
      refine ev_aload_n (pc := 16) 0 dX11_hauling_16 rfl rfl ?_
      refine ev_iload_n (pc := 17) 3 dX11_hauling_17 rfl rfl ?_
      refine ev_cV (pc := 18) [vI p2] [] rfl mkX11_areShips ml11_251 mnX11_areShips dX11_hauling_18 kd_1 (by omega) rfl (Nat.le_of_ble_eq_true rfl) (by omega) rfl (e_X11_areShips (d := d - 1) (v := (f_X11_areShips p2 M)) (by omega)  rfl) ?_
      refine ev_if_eq (pc := 21) (tgt := 34) dX11_hauling_21 (by decide) (fun b3 => ?_) (fun b3 => ?_)
      · rw [if_pos b3] at h
        refine ev_bipush (pc := 34) (x := (-2)) dX11_hauling_34 cb_m2 ?_
        cases h
        exact ev_iret (pc := 36) dX11_hauling_36 rfl
      · rw [if_neg b3] at h
        refine ev_iload_n (pc := 24) 2 dX11_hauling_24 rfl rfl ?_
        refine ev_iload_n (pc := 25) 3 dX11_hauling_25 rfl rfl ?_
        refine ev_iand (pc := 26) dX11_hauling_26 ?_
        refine ev_if_ne (pc := 27) (tgt := 34) dX11_hauling_27 (by decide) (fun b4 => ?_) (fun b4 => ?_)
        · rw [if_pos b4] at h
          refine ev_bipush (pc := 34) (x := (-2)) dX11_hauling_34 cb_m2 ?_
          cases h
          exact ev_iret (pc := 36) dX11_hauling_36 rfl
        · rw [if_neg b4] at h
          refine ev_iload_n (pc := 30) 2 dX11_hauling_30 rfl rfl ?_
          refine ev_if_ne (pc := 31) (tgt := 37) dX11_hauling_31 (by decide) (fun b5 => ?_) (fun b5 => ?_)
          · rw [if_pos b5] at h
            refine ev_iload_n (pc := 37) 2 dX11_hauling_37 rfl rfl ?_
            refine ev_cS (pc := 38) [vI p1] [] rfl mkJ6_bitCount_0f7a4 ml11_254 msJ6_bitCount_0f7a4 dX11_hauling_38 rfl (Nat.le_of_ble_eq_true rfl) (by omega) rfl (e_J6_bitCount_0f7a4 (d := d - 1) (v := (f_J6_bitCount_0f7a4 p1)) (by omega)  rfl) ?_
            refine ev_iconst (pc := 41) (x := 4) dX11_hauling_41 ci_4 ?_
            refine ev_icmp_gt (pc := 42) (tgt := 53) dX11_hauling_42 (by decide) (fun b6 => ?_) (fun b6 => ?_)
            · rw [if_pos b6] at h
              refine ev_bipush (pc := 53) (x := (-2)) dX11_hauling_53 cb_m2 ?_
              cases h
              exact ev_iret (pc := 55) dX11_hauling_55 rfl
            · rw [if_neg b6] at h
              refine ev_iload_n (pc := 45) 3 dX11_hauling_45 rfl rfl ?_
              refine ev_cS (pc := 46) [vI p2] [] rfl mkJ6_bitCount_0f7a4 ml11_254 msJ6_bitCount_0f7a4 dX11_hauling_46 rfl (Nat.le_of_ble_eq_true rfl) (by omega) rfl (e_J6_bitCount_0f7a4 (d := d - 1) (v := (f_J6_bitCount_0f7a4 p2)) (by omega)  rfl) ?_
              refine ev_iconst (pc := 49) (x := 4) dX11_hauling_49 ci_4 ?_
              refine ev_icmp_le (pc := 50) (tgt := 56) dX11_hauling_50 (by decide) (fun b7 => ?_) (fun b7 => ?_)
              · rw [if_pos b7] at h
                refine ev_iload (pc := 56) 4 dX11_hauling_56 rfl ?_
                refine ev_iconst (pc := 58) (x := (-1)) dX11_hauling_58 ci_m1 ?_
                refine ev_icmp_eq (pc := 59) (tgt := 85) dX11_hauling_59 (by decide) (fun b8 => ?_) (fun b8 => ?_)
                · rw [if_pos b8] at h
                  refine ev_pick [0, 1, 2, 3, 4] rfl ?_
                  exact e_X11_hauling_J85 hd  h
                · rw [if_neg b8] at h
                  refine ev_aload_n (pc := 62) 0 dX11_hauling_62 rfl rfl ?_
                  refine ev_iload (pc := 63) 4 dX11_hauling_63 rfl ?_
                  refine ev_cV (pc := 65) [vI p3] [] rfl mkX11_isShip ml11_174 mnX11_isShip dX11_hauling_65 kd_1 (by omega) rfl (Nat.le_of_ble_eq_true rfl) (by omega) rfl (e_X11_isShip (d := d - 1) (v := (f_X11_isShip p3 M)) (by omega)  rfl) ?_
                  refine ev_if_eq (pc := 68) (tgt := 82) dX11_hauling_68 (by decide) (fun b12 => ?_) (fun b12 => ?_)
                  · rw [if_pos b12] at h
                    refine ev_bipush (pc := 82) (x := (-2)) dX11_hauling_82 cb_m2 ?_
                    cases h
                    exact ev_iret (pc := 84) dX11_hauling_84 rfl
                  · rw [if_neg b12] at h
                    refine ev_iload_n (pc := 71) 2 dX11_hauling_71 rfl rfl ?_
                    refine ev_iload_n (pc := 72) 3 dX11_hauling_72 rfl rfl ?_
                    refine ev_ior (pc := 73) dX11_hauling_73 ?_
                    refine ev_iconst (pc := 74) (x := 1) dX11_hauling_74 ci_1 ?_
                    refine ev_iload (pc := 75) 4 dX11_hauling_75 rfl ?_
                    refine ev_ishl (pc := 77) dX11_hauling_77 ?_
                    refine ev_iand (pc := 78) dX11_hauling_78 ?_
                    refine ev_if_ne (pc := 79) (tgt := 85) dX11_hauling_79 (by decide) (fun b13 => ?_) (fun b13 => ?_)
                    · rw [if_pos b13] at h
                      refine ev_pick [0, 1, 2, 3, 4] rfl ?_
                      exact e_X11_hauling_J85 hd  h
                    · rw [if_neg b13] at h
                      refine ev_bipush (pc := 82) (x := (-2)) dX11_hauling_82 cb_m2 ?_
                      cases h
                      exact ev_iret (pc := 84) dX11_hauling_84 rfl
              · rw [if_neg b7] at h
                refine ev_bipush (pc := 53) (x := (-2)) dX11_hauling_53 cb_m2 ?_
                cases h
                exact ev_iret (pc := 55) dX11_hauling_55 rfl
          · rw [if_neg b5] at h
            refine ev_bipush (pc := 34) (x := (-2)) dX11_hauling_34 cb_m2 ?_
            cases h
            exact ev_iret (pc := 36) dX11_hauling_36 rfl
def f_X11_endOfFall_L2 : Nat → Int → Int → Mem → Option (Int × Mem)
  | 0, _, _, _ => none
  | n + 1, x1, x3, M => if (M 3 0) ≤ x3 then (some (x3, M)) else ((f_X2_falls n 3 x3 x1 M).bind fun q2 => if q2.1 = 0 then (some (x3, q2.2)) else (f_X11_endOfFall_L2 n x1 (wI (x3 + 1)) q2.2))
set_option maxRecDepth 100000 in
set_option maxHeartbeats 4000000 in
theorem e_X11_endOfFall_L2 {g : Gm} {d : Nat} {x1 : Int} {r : Vv} {σ' : Sg} {N : Mem} (hd : 3 ≤ d) : ∀ (n : Nat) {x3 : Int} {M : Mem} {q : Int × Mem}, f_X11_endOfFall_L2 n x1 x3 M = some q → Ev g d mtX11_endOfFall 35 [(3, vI q.1)] [] (sg (mx q.2 N)) (0, 0) r σ' → Ev g d mtX11_endOfFall 2 [(0, vR 1), (1, vI x1), (3, vI x3)] [] (sg (mx M N)) (0, 0) r σ' := by
  intro n
  induction n with
  | zero =>
    intro x3 M q h hk0
    rw [f_X11_endOfFall_L2.eq_1] at h
    cases h
  | succ n ih =>
    intro x3 M q h hk0
    rw [f_X11_endOfFall_L2.eq_2] at h
    refine ev_iload_n (pc := 2) 2 dX11_endOfFall_2 rfl rfl ?_
    refine ev_aload_n (pc := 3) 0 dX11_endOfFall_3 rfl rfl ?_
    refine ev_getR (pc := 4) fl11_23 rfl dX11_endOfFall_4 rfl kd_1 (by omega) (rf_1_2 _) ?_
    refine ev_getIc (pc := 7) fl11_90 rfl dX11_endOfFall_7 rfl (sea_k sea_c3) (sea_nz sea_c3) (sea_n9 sea_c3) 0 rfl ?_
    refine ev_icmp_ge (pc := 10) (tgt := 35) dX11_endOfFall_10 (by decide) (fun b1 => ?_) (fun b1 => ?_)
    · rw [if_pos b1] at h
      cases h
      refine ev_pick [2] rfl ?_
      exact hk0
    · rw [if_neg b1] at h
      refine ev_aload_n (pc := 13) 0 dX11_endOfFall_13 rfl rfl ?_
      refine ev_getR (pc := 14) fl11_45 rfl dX11_endOfFall_14 rfl kd_1 (by omega) (rf_1_6 _) ?_
      refine ev_aload_n (pc := 17) 0 dX11_endOfFall_17 rfl rfl ?_
      refine ev_getR (pc := 18) fl11_23 rfl dX11_endOfFall_18 rfl kd_1 (by omega) (rf_1_2 _) ?_
      refine ev_iload_n (pc := 21) 2 dX11_endOfFall_21 rfl rfl ?_
      refine ev_iload_n (pc := 22) 1 dX11_endOfFall_22 rfl rfl ?_
      obtain ⟨q2, hq2, h⟩ := bd h
      refine ev_cV (pc := 23) [vR 3, vI x3, vI x1] [] rfl mkX2_falls ml11_385 mnX2_falls dX11_endOfFall_23 kd_705 (by omega) rfl (Nat.le_of_ble_eq_true rfl) (by omega) rfl (e_X2_falls (d := d - 1) (v := q2.1) (M' := q2.2) (by omega) sea_c3 hq2) ?_
      refine ev_if_eq (pc := 26) (tgt := 35) dX11_endOfFall_26 (by decide) (fun b3 => ?_) (fun b3 => ?_)
      · rw [if_pos b3] at h
        cases h
        refine ev_pick [2] rfl ?_
        exact hk0
      · rw [if_neg b3] at h
        refine ev_iinc (pc := 29) (il' := [(3, vI (wI (x3 + 1))), (0, vR 1), (1, vI x1)]) 2 dX11_endOfFall_29 rfl (Nat.le_of_ble_eq_true rfl) rfl rfl ?_
        refine ev_goto (pc := 32) (tgt := 2) dX11_endOfFall_32 (by decide) ?_
        refine ev_pick [1, 2, 0] rfl ?_
        exact ih h hk0
def f_X11_endOfFall (n : Nat) (p0 p1 : Int) (M : Mem) : Option (Int × Mem) := (f_X11_endOfFall_L2 n p0 p1 M).bind fun q4 => some (q4.1, q4.2)
set_option maxRecDepth 100000 in
set_option maxHeartbeats 4000000 in
theorem e_X11_endOfFall {g : Gm} {d : Nat} {n : Nat} {p0 p1 : Int} {M N : Mem} {v : Int} {M' : Mem} (hd : 3 ≤ d) (h : f_X11_endOfFall n p0 p1 M = some (v, M')) : EvM g d mtX11_endOfFall [vR 1, vI p0, vI p1] (sg (mx M N)) (0, 0) (vI v) (sg (mx M' N)) := by
  unfold f_X11_endOfFall at h
  refine EvM.of mkX11_endOfFall.2.2.2.1 (Nat.le_of_ble_eq_true rfl) ?_
  change Ev g d mtX11_endOfFall 0 [(0, vR 1), (1, vI p0), (2, vI p1)] [] (sg (mx M N)) (0, 0) (vI v) (sg (mx M' N))
  refine ev_iload_n (pc := 0) 2 dX11_endOfFall_0 rfl rfl ?_
  refine ev_istore_n (pc := 1) (il' := [(3, vI p1), (0, vR 1), (1, vI p0), (2, vI p1)]) dX11_endOfFall_1 rfl (Nat.le_of_ble_eq_true rfl) rfl ?_
  obtain ⟨q4, hq4, h⟩ := bd h
  refine ev_pick [1, 2, 0] rfl ?_
  refine e_X11_endOfFall_L2 hd  n hq4 ?_
  refine ev_iload_n (pc := 35) 0 dX11_endOfFall_35 rfl rfl ?_
  cases h
  exact ev_iret (pc := 36) dX11_endOfFall_36 rfl
def f_X11_thing (n : Nat) (p0 p1 : Int) (M : Mem) : Option (Int × Mem) := if (f_X11_isWeight p0) = 0 then (some ((-1), M)) else (if (f_X11_isStep p1 M) ≠ 0 then ((f_X11_endOfFall n p0 p1 M).bind fun q3 => some (q3.1, q3.2)) else (some ((-1), M)))
set_option maxRecDepth 100000 in
set_option maxHeartbeats 4000000 in
theorem e_X11_thing {g : Gm} {d : Nat} {n : Nat} {p0 p1 : Int} {M N : Mem} {v : Int} {M' : Mem} (hd : 4 ≤ d) (h : f_X11_thing n p0 p1 M = some (v, M')) : EvM g d mtX11_thing [vR 1, vI p0, vI p1] (sg (mx M N)) (0, 0) (vI v) (sg (mx M' N)) := by
  unfold f_X11_thing at h
  refine EvM.of mkX11_thing.2.2.2.1 (Nat.le_of_ble_eq_true rfl) ?_
  change Ev g d mtX11_thing 0 [(0, vR 1), (1, vI p0), (2, vI p1)] [] (sg (mx M N)) (0, 0) (vI v) (sg (mx M' N))
  refine ev_iload_n (pc := 0) 1 dX11_thing_0 rfl rfl ?_
  refine ev_cS (pc := 1) [vI p0] [] rfl mkX11_isWeight ml11_98 msX11_isWeight dX11_thing_1 rfl (Nat.le_of_ble_eq_true rfl) (by omega) rfl (e_X11_isWeight (d := d - 1) (v := (f_X11_isWeight p0)) (by omega)  rfl) ?_
  refine ev_if_eq (pc := 4) (tgt := 15) dX11_thing_4 (by decide) (fun b1 => ?_) (fun b1 => ?_)
  · rw [if_pos b1] at h
    refine ev_iconst (pc := 15) (x := (-1)) dX11_thing_15 ci_m1 ?_
    cases h
    exact ev_iret (pc := 16) dX11_thing_16 rfl
  · rw [if_neg b1] at h
    refine ev_aload_n (pc := 7) 0 dX11_thing_7 rfl rfl ?_
    refine ev_iload_n (pc := 8) 2 dX11_thing_8 rfl rfl ?_
    refine ev_cV (pc := 9) [vI p1] [] rfl mkX11_isStep ml11_102 mnX11_isStep dX11_thing_9 kd_1 (by omega) rfl (Nat.le_of_ble_eq_true rfl) (by omega) rfl (e_X11_isStep (d := d - 1) (v := (f_X11_isStep p1 M)) (by omega)  rfl) ?_
    refine ev_if_ne (pc := 12) (tgt := 17) dX11_thing_12 (by decide) (fun b2 => ?_) (fun b2 => ?_)
    · rw [if_pos b2] at h
      refine ev_aload_n (pc := 17) 0 dX11_thing_17 rfl rfl ?_
      refine ev_iload_n (pc := 18) 1 dX11_thing_18 rfl rfl ?_
      refine ev_iload_n (pc := 19) 2 dX11_thing_19 rfl rfl ?_
      obtain ⟨q3, hq3, h⟩ := bd h
      refine ev_cV (pc := 20) [vI p0, vI p1] [] rfl mkX11_endOfFall ml11_269 mnX11_endOfFall dX11_thing_20 kd_1 (by omega) rfl (Nat.le_of_ble_eq_true rfl) (by omega) rfl (e_X11_endOfFall (d := d - 1) (v := q3.1) (M' := q3.2) (by omega)  hq3) ?_
      cases h
      exact ev_iret (pc := 23) dX11_thing_23 rfl
    · rw [if_neg b2] at h
      refine ev_iconst (pc := 15) (x := (-1)) dX11_thing_15 ci_m1 ?_
      cases h
      exact ev_iret (pc := 16) dX11_thing_16 rfl
def f_X11_upThere_L22 : Nat → Int → Int → Int → Int → Mem → Option (Int × Mem)
  | 0, _, _, _, _, _ => none
  | n + 1, x1, x2, x3, x4, M => if x2 < x4 then (some (x3, M)) else ((f_X11_endOfFall n x1 x4 M).bind fun q4 => if q4.1 < x2 then (f_X11_upThere_L22 n x1 x2 x3 (wI (x4 + 1)) q4.2) else (f_X11_upThere_L22 n x1 x2 (bOr x3 (bShl 1 x4)) (wI (x4 + 1)) q4.2))
set_option maxRecDepth 100000 in
set_option maxHeartbeats 4000000 in
theorem e_X11_upThere_L22 {g : Gm} {d : Nat} {x1 x2 : Int} {r : Vv} {σ' : Sg} {N : Mem} (hd : 4 ≤ d) : ∀ (n : Nat) {x3 x4 : Int} {M : Mem} {q : Int × Mem}, f_X11_upThere_L22 n x1 x2 x3 x4 M = some q → Ev g d mtX11_upThere 52 [(3, vI q.1)] [] (sg (mx q.2 N)) (0, 0) r σ' → Ev g d mtX11_upThere 22 [(0, vR 1), (1, vI x1), (2, vI x2), (3, vI x3), (4, vI x4)] [] (sg (mx M N)) (0, 0) r σ' := by
  intro n
  induction n with
  | zero =>
    intro x3 x4 M q h hk0
    rw [f_X11_upThere_L22.eq_1] at h
    cases h
  | succ n ih =>
    intro x3 x4 M q h hk0
    rw [f_X11_upThere_L22.eq_2] at h
    refine ev_iload (pc := 22) 4 dX11_upThere_22 rfl ?_
    refine ev_iload_n (pc := 24) 2 dX11_upThere_24 rfl rfl ?_
    refine ev_icmp_gt (pc := 25) (tgt := 52) dX11_upThere_25 (by decide) (fun b3 => ?_) (fun b3 => ?_)
    · rw [if_pos b3] at h
      cases h
      refine ev_pick [3] rfl ?_
      exact hk0
    · rw [if_neg b3] at h
      refine ev_aload_n (pc := 28) 0 dX11_upThere_28 rfl rfl ?_
      refine ev_iload_n (pc := 29) 1 dX11_upThere_29 rfl rfl ?_
      refine ev_iload (pc := 30) 4 dX11_upThere_30 rfl ?_
      obtain ⟨q4, hq4, h⟩ := bd h
      refine ev_cV (pc := 32) [vI x1, vI x4] [] rfl mkX11_endOfFall ml11_269 mnX11_endOfFall dX11_upThere_32 kd_1 (by omega) rfl (Nat.le_of_ble_eq_true rfl) (by omega) rfl (e_X11_endOfFall (d := d - 1) (v := q4.1) (M' := q4.2) (by omega)  hq4) ?_
      refine ev_iload_n (pc := 35) 2 dX11_upThere_35 rfl rfl ?_
      refine ev_icmp_lt (pc := 36) (tgt := 46) dX11_upThere_36 (by decide) (fun b5 => ?_) (fun b5 => ?_)
      · rw [if_pos b5] at h
        refine ev_iinc (pc := 46) (il' := [(4, vI (wI (x4 + 1))), (0, vR 1), (1, vI x1), (2, vI x2), (3, vI x3)]) 4 dX11_upThere_46 rfl (Nat.le_of_ble_eq_true rfl) rfl rfl ?_
        refine ev_goto (pc := 49) (tgt := 22) dX11_upThere_49 (by decide) ?_
        refine ev_pick [1, 2, 3, 4, 0] rfl ?_
        exact ih h hk0
      · rw [if_neg b5] at h
        refine ev_iload_n (pc := 39) 3 dX11_upThere_39 rfl rfl ?_
        refine ev_iconst (pc := 40) (x := 1) dX11_upThere_40 ci_1 ?_
        refine ev_iload (pc := 41) 4 dX11_upThere_41 rfl ?_
        refine ev_ishl (pc := 43) dX11_upThere_43 ?_
        refine ev_ior (pc := 44) dX11_upThere_44 ?_
        refine ev_istore_n (pc := 45) (il' := [(3, vI (bOr x3 (bShl 1 x4))), (0, vR 1), (1, vI x1), (2, vI x2), (4, vI x4)]) dX11_upThere_45 rfl (Nat.le_of_ble_eq_true rfl) rfl ?_
        refine ev_iinc (pc := 46) (il' := [(4, vI (wI (x4 + 1))), (3, vI (bOr x3 (bShl 1 x4))), (0, vR 1), (1, vI x1), (2, vI x2)]) 4 dX11_upThere_46 rfl (Nat.le_of_ble_eq_true rfl) rfl rfl ?_
        refine ev_goto (pc := 49) (tgt := 22) dX11_upThere_49 (by decide) ?_
        refine ev_pick [2, 3, 4, 1, 0] rfl ?_
        exact ih h hk0
def f_X11_upThere (n : Nat) (p0 p1 : Int) (M : Mem) : Option (Int × Mem) := if (f_X11_isWeight p0) = 0 then (some ((-1), M)) else (if (f_X11_isStep p1 M) ≠ 0 then ((f_X11_upThere_L22 n p0 p1 0 0 M).bind fun q6 => some (q6.1, q6.2)) else (some ((-1), M)))
set_option maxRecDepth 100000 in
set_option maxHeartbeats 4000000 in
theorem e_X11_upThere {g : Gm} {d : Nat} {n : Nat} {p0 p1 : Int} {M N : Mem} {v : Int} {M' : Mem} (hd : 4 ≤ d) (h : f_X11_upThere n p0 p1 M = some (v, M')) : EvM g d mtX11_upThere [vR 1, vI p0, vI p1] (sg (mx M N)) (0, 0) (vI v) (sg (mx M' N)) := by
  unfold f_X11_upThere at h
  refine EvM.of mkX11_upThere.2.2.2.1 (Nat.le_of_ble_eq_true rfl) ?_
  change Ev g d mtX11_upThere 0 [(0, vR 1), (1, vI p0), (2, vI p1)] [] (sg (mx M N)) (0, 0) (vI v) (sg (mx M' N))
  refine ev_iload_n (pc := 0) 1 dX11_upThere_0 rfl rfl ?_
  refine ev_cS (pc := 1) [vI p0] [] rfl mkX11_isWeight ml11_98 msX11_isWeight dX11_upThere_1 rfl (Nat.le_of_ble_eq_true rfl) (by omega) rfl (e_X11_isWeight (d := d - 1) (v := (f_X11_isWeight p0)) (by omega)  rfl) ?_
  refine ev_if_eq (pc := 4) (tgt := 15) dX11_upThere_4 (by decide) (fun b1 => ?_) (fun b1 => ?_)
  · rw [if_pos b1] at h
    refine ev_iconst (pc := 15) (x := (-1)) dX11_upThere_15 ci_m1 ?_
    cases h
    exact ev_iret (pc := 16) dX11_upThere_16 rfl
  · rw [if_neg b1] at h
    refine ev_aload_n (pc := 7) 0 dX11_upThere_7 rfl rfl ?_
    refine ev_iload_n (pc := 8) 2 dX11_upThere_8 rfl rfl ?_
    refine ev_cV (pc := 9) [vI p1] [] rfl mkX11_isStep ml11_102 mnX11_isStep dX11_upThere_9 kd_1 (by omega) rfl (Nat.le_of_ble_eq_true rfl) (by omega) rfl (e_X11_isStep (d := d - 1) (v := (f_X11_isStep p1 M)) (by omega)  rfl) ?_
    refine ev_if_ne (pc := 12) (tgt := 17) dX11_upThere_12 (by decide) (fun b2 => ?_) (fun b2 => ?_)
    · rw [if_pos b2] at h
      refine ev_iconst (pc := 17) (x := 0) dX11_upThere_17 ci_0 ?_
      refine ev_istore_n (pc := 18) (il' := [(3, vI 0), (0, vR 1), (1, vI p0), (2, vI p1)]) dX11_upThere_18 rfl (Nat.le_of_ble_eq_true rfl) rfl ?_
      refine ev_iconst (pc := 19) (x := 0) dX11_upThere_19 ci_0 ?_
      refine ev_istore (pc := 20) (il' := [(4, vI 0), (3, vI 0), (0, vR 1), (1, vI p0), (2, vI p1)]) dX11_upThere_20 (Nat.le_of_ble_eq_true rfl) rfl ?_
      obtain ⟨q6, hq6, h⟩ := bd h
      refine ev_pick [2, 3, 4, 1, 0] rfl ?_
      refine e_X11_upThere_L22 hd  n hq6 ?_
      refine ev_iload_n (pc := 52) 0 dX11_upThere_52 rfl rfl ?_
      cases h
      exact ev_iret (pc := 53) dX11_upThere_53 rfl
    · rw [if_neg b2] at h
      refine ev_iconst (pc := 15) (x := (-1)) dX11_upThere_15 ci_m1 ?_
      cases h
      exact ev_iret (pc := 16) dX11_upThere_16 rfl
def f_X11_toRaise_L25 : Nat → Int → Int → Mem → Option (Int × Mem)
  | 0, _, _, _ => none
  | n + 1, x1, x2, M => if 99 < x2 then (some ((-1), M)) else (ck (0 ≤ x1 ∧ x1 < 9) (lt (upM M 764 x1 x2) fun M6 => (f_X2_flows n 762 x1 M6).bind fun q7 => if q7.1 ≠ 0 then (f_X11_toRaise_L25 n x1 (wI (x2 + 1)) q7.2) else (some (x2, q7.2))))
set_option maxRecDepth 100000 in
set_option maxHeartbeats 4000000 in
theorem e_X11_toRaise_L25 {g : Gm} {d : Nat} {x1 : Int} {N : Mem} (hd : 6 ≤ d) : ∀ (n : Nat) {x2 : Int} {M : Mem} {v : Int} {M' : Mem}, f_X11_toRaise_L25 n x1 x2 M = some (v, M') → Ev g d mtX11_toRaise 25 [(0, vR 1), (1, vI x1), (2, vI x2)] [] (sg (mx M N)) (0, 0) (vI v) (sg (mx M' N)) := by
  intro n
  induction n with
  | zero =>
    intro x2 M v M' h
    rw [f_X11_toRaise_L25.eq_1] at h
    cases h
  | succ n ih =>
    intro x2 M v M' h
    rw [f_X11_toRaise_L25.eq_2] at h
    refine ev_iload_n (pc := 25) 2 dX11_toRaise_25 rfl rfl ?_
    refine ev_bipush (pc := 26) (x := 99) dX11_toRaise_26 cb_99 ?_
    refine ev_icmp_gt (pc := 28) (tgt := 64) dX11_toRaise_28 (by decide) (fun b4 => ?_) (fun b4 => ?_)
    · rw [if_pos b4] at h
      refine ev_iconst (pc := 64) (x := (-1)) dX11_toRaise_64 ci_m1 ?_
      cases h
      exact ev_iret (pc := 65) dX11_toRaise_65 rfl
    · rw [if_neg b4] at h
      refine ev_aload_n (pc := 31) 0 dX11_toRaise_31 rfl rfl ?_
      refine ev_getR (pc := 32) fl11_82 rfl dX11_toRaise_32 rfl kd_1 (by omega) (rf_1_11 _) ?_
      refine ev_getR (pc := 35) fl11_165 rfl dX11_toRaise_35 rfl (sea_k sea_c762) (sea_nz sea_c762) (rf_762_2 _) ?_
      refine ev_iload_n (pc := 38) 1 dX11_toRaise_38 rfl rfl ?_
      refine ev_iload_n (pc := 39) 2 dX11_toRaise_39 rfl rfl ?_
      obtain ⟨c5, h⟩ := ck_some h
      obtain ⟨M6, eM6, h⟩ := lt_some h
      refine ev_istc (pc := 40) dX11_toRaise_40 kd_764 (by omega) (by omega) c5.1 c5.2 eM6 ?_
      refine ev_aload_n (pc := 41) 0 dX11_toRaise_41 rfl rfl ?_
      refine ev_getR (pc := 42) fl11_45 rfl dX11_toRaise_42 rfl kd_1 (by omega) (rf_1_6 _) ?_
      refine ev_aload_n (pc := 45) 0 dX11_toRaise_45 rfl rfl ?_
      refine ev_getR (pc := 46) fl11_82 rfl dX11_toRaise_46 rfl kd_1 (by omega) (rf_1_11 _) ?_
      refine ev_iload_n (pc := 49) 1 dX11_toRaise_49 rfl rfl ?_
      obtain ⟨q7, hq7, h⟩ := bd h
      refine ev_cV (pc := 50) [vR 762, vI x1] [] rfl mkX2_flows ml11_206 mnX2_flows dX11_toRaise_50 kd_705 (by omega) rfl (Nat.le_of_ble_eq_true rfl) (by omega) rfl (e_X2_flows (d := d - 1) (v := q7.1) (M' := q7.2) (by omega) sea_c762 hq7) ?_
      refine ev_if_ne (pc := 53) (tgt := 58) dX11_toRaise_53 (by decide) (fun b8 => ?_) (fun b8 => ?_)
      · rw [if_pos b8] at h
        refine ev_iinc (pc := 58) (il' := [(2, vI (wI (x2 + 1))), (0, vR 1), (1, vI x1)]) 2 dX11_toRaise_58 rfl (Nat.le_of_ble_eq_true rfl) rfl rfl ?_
        refine ev_goto (pc := 61) (tgt := 25) dX11_toRaise_61 (by decide) ?_
        refine ev_pick [1, 2, 0] rfl ?_
        exact ih h
      · rw [if_neg b8] at h
        refine ev_iload_n (pc := 56) 2 dX11_toRaise_56 rfl rfl ?_
        cases h
        exact ev_iret (pc := 57) dX11_toRaise_57 rfl
def f_X11_toRaise (n : Nat) (p0 : Int) (M : Mem) : Option (Int × Mem) := if (f_X11_isStep p0 M) ≠ 0 then ((f_X11_lookAhead n 0 M).bind fun q2 => ck (0 ≤ p0 ∧ p0 < 9) (f_X11_toRaise_L25 n p0 (q2 5 p0) q2)) else (some ((-1), M))
set_option maxRecDepth 100000 in
set_option maxHeartbeats 4000000 in
theorem e_X11_toRaise {g : Gm} {d : Nat} {n : Nat} {p0 : Int} {M N : Mem} {v : Int} {M' : Mem} (hd : 6 ≤ d) (h : f_X11_toRaise n p0 M = some (v, M')) : EvM g d mtX11_toRaise [vR 1, vI p0] (sg (mx M N)) (0, 0) (vI v) (sg (mx M' N)) := by
  unfold f_X11_toRaise at h
  refine EvM.of mkX11_toRaise.2.2.2.1 (Nat.le_of_ble_eq_true rfl) ?_
  change Ev g d mtX11_toRaise 0 [(0, vR 1), (1, vI p0)] [] (sg (mx M N)) (0, 0) (vI v) (sg (mx M' N))
  refine ev_aload_n (pc := 0) 0 dX11_toRaise_0 rfl rfl ?_
  refine ev_iload_n (pc := 1) 1 dX11_toRaise_1 rfl rfl ?_
  refine ev_cV (pc := 2) [vI p0] [] rfl mkX11_isStep ml11_102 mnX11_isStep dX11_toRaise_2 kd_1 (by omega) rfl (Nat.le_of_ble_eq_true rfl) (by omega) rfl (e_X11_isStep (d := d - 1) (v := (f_X11_isStep p0 M)) (by omega)  rfl) ?_
  refine ev_if_ne (pc := 5) (tgt := 10) dX11_toRaise_5 (by decide) (fun b1 => ?_) (fun b1 => ?_)
  · rw [if_pos b1] at h
    refine ev_aload_n (pc := 10) 0 dX11_toRaise_10 rfl rfl ?_
    refine ev_iconst (pc := 11) (x := 0) dX11_toRaise_11 ci_0 ?_
    obtain ⟨q2, hq2, h⟩ := bd h
    refine ev_cV0 (pc := 12) [vI 0] [] rfl mkX11_lookAhead ml11_231 mnX11_lookAhead dX11_toRaise_12 kd_1 (by omega) rfl (Nat.le_of_ble_eq_true rfl) (by omega) (e_X11_lookAhead (d := d - 1) (M' := q2) (by omega)  hq2) ?_
    refine ev_aload_n (pc := 15) 0 dX11_toRaise_15 rfl rfl ?_
    refine ev_getR (pc := 16) fl11_23 rfl dX11_toRaise_16 rfl kd_1 (by omega) (rf_1_2 _) ?_
    refine ev_getR (pc := 19) fl11_165 rfl dX11_toRaise_19 rfl (sea_k sea_c3) (sea_nz sea_c3) (rf_3_2 _) ?_
    refine ev_iload_n (pc := 22) 1 dX11_toRaise_22 rfl rfl ?_
    obtain ⟨c3, h⟩ := ck_some h
    refine ev_ildc (pc := 23) dX11_toRaise_23 kd_5 (by omega) (by omega) c3.1 c3.2 ?_
    refine ev_istore_n (pc := 24) (il' := [(2, vI (q2 5 p0)), (0, vR 1), (1, vI p0)]) dX11_toRaise_24 rfl (Nat.le_of_ble_eq_true rfl) rfl ?_
    refine ev_pick [1, 2, 0] rfl ?_
    exact e_X11_toRaise_L25 hd  n h
  · rw [if_neg b1] at h
    refine ev_iconst (pc := 8) (x := (-1)) dX11_toRaise_8 ci_m1 ?_
    cases h
    exact ev_iret (pc := 9) dX11_toRaise_9 rfl
def f_X11_states_L40 : Nat → Int → Int → Int → Mem → Option (Mem)
  | 0, _, _, _, _ => none
  | n + 1, x1, x2, x3, M => if (M 3 0) ≤ x3 then (some M) else ((f_X2_takes n 3 x3 10 M).bind fun q5 => ck (0 ≤ x3 ∧ x3 < 9) (lt (upM q5.2 758 x3 q5.1) fun M7 => f_X11_states_L40 n x1 x2 (wI (x3 + 1)) M7))
set_option maxRecDepth 100000 in
set_option maxHeartbeats 4000000 in
theorem e_X11_states_L40 {g : Gm} {d : Nat} {x1 x2 : Int} {r : Vv} {σ' : Sg} {N : Mem} (hd : 3 ≤ d) : ∀ (n : Nat) {x3 : Int} {M : Mem} {q : Mem}, f_X11_states_L40 n x1 x2 x3 M = some q → Ev g d mtX11_states 80 [(0, vR 1), (1, vI x1), (2, vI x2)] [] (sg (mx q N)) (0, 0) r σ' → Ev g d mtX11_states 40 [(0, vR 1), (1, vI x1), (2, vI x2), (3, vI x3)] [] (sg (mx M N)) (0, 0) r σ' := by
  intro n
  induction n with
  | zero =>
    intro x3 M q h hk0
    rw [f_X11_states_L40.eq_1] at h
    cases h
  | succ n ih =>
    intro x3 M q h hk0
    rw [f_X11_states_L40.eq_2] at h
    refine ev_iload_n (pc := 40) 3 dX11_states_40 rfl rfl ?_
    refine ev_aload_n (pc := 41) 0 dX11_states_41 rfl rfl ?_
    refine ev_getR (pc := 42) fl11_23 rfl dX11_states_42 rfl kd_1 (by omega) (rf_1_2 _) ?_
    refine ev_getIc (pc := 45) fl11_90 rfl dX11_states_45 rfl (sea_k sea_c3) (sea_nz sea_c3) (sea_n9 sea_c3) 0 rfl ?_
    refine ev_icmp_ge (pc := 48) (tgt := 80) dX11_states_48 (by decide) (fun b4 => ?_) (fun b4 => ?_)
    · rw [if_pos b4] at h
      cases h
      refine ev_pick [0, 1, 2] rfl ?_
      exact hk0
    · rw [if_neg b4] at h
      refine ev_aload_n (pc := 51) 0 dX11_states_51 rfl rfl ?_
      refine ev_getR (pc := 52) fl11_75 rfl dX11_states_52 rfl kd_1 (by omega) (rf_1_10 _) ?_
      refine ev_getR (pc := 55) fl11_274 rfl dX11_states_55 rfl kd_757 (by omega) (rf_757_0 _) ?_
      refine ev_iload_n (pc := 58) 3 dX11_states_58 rfl rfl ?_
      refine ev_aload_n (pc := 59) 0 dX11_states_59 rfl rfl ?_
      refine ev_getR (pc := 60) fl11_45 rfl dX11_states_60 rfl kd_1 (by omega) (rf_1_6 _) ?_
      refine ev_aload_n (pc := 63) 0 dX11_states_63 rfl rfl ?_
      refine ev_getR (pc := 64) fl11_23 rfl dX11_states_64 rfl kd_1 (by omega) (rf_1_2 _) ?_
      refine ev_iload_n (pc := 67) 3 dX11_states_67 rfl rfl ?_
      refine ev_bipush (pc := 68) (x := 10) dX11_states_68 cb_10 ?_
      obtain ⟨q5, hq5, h⟩ := bd h
      refine ev_cV (pc := 70) [vR 3, vI x3, vI 10] [vI x3, vR 758] rfl mkX2_takes ml11_277 mnX2_takes dX11_states_70 kd_705 (by omega) rfl (Nat.le_of_ble_eq_true rfl) (by omega) rfl (e_X2_takes (d := d - 1) (v := q5.1) (M' := q5.2) (by omega) sea_c3 hq5) ?_
      obtain ⟨c6, h⟩ := ck_some h
      obtain ⟨M7, eM7, h⟩ := lt_some h
      refine ev_istc (pc := 73) dX11_states_73 kd_758 (by omega) (by omega) c6.1 c6.2 eM7 ?_
      refine ev_iinc (pc := 74) (il' := [(3, vI (wI (x3 + 1))), (0, vR 1), (1, vI x1), (2, vI x2)]) 3 dX11_states_74 rfl (Nat.le_of_ble_eq_true rfl) rfl rfl ?_
      refine ev_goto (pc := 77) (tgt := 40) dX11_states_77 (by decide) ?_
      refine ev_pick [1, 2, 3, 0] rfl ?_
      exact ih h hk0
def f_X11_states (n : Nat) (p0 p1 : Int) (M : Mem) : Option (Int × Mem) := if (f_X11_isBetween 0 p0 999) = 0 then (some ((-1000000000), M)) else (if (M 3 0) = 0 then (some ((-1000000000), M)) else (if p1 = (-1) then ((f_X11_states_L40 n p0 p1 0 M).bind fun q8 => (f_X8_unite n (q8 3 0) p0 q8).bind fun q9 => if p1 ≠ (-1) then ((f_X8_unionOf n p1 q9).bind fun q11 => some (q11, q9)) else (some ((q9 759 0), q9))) else (if (f_X11_isStep p1 M) ≠ 0 then ((f_X11_states_L40 n p0 p1 0 M).bind fun q13 => (f_X8_unite n (q13 3 0) p0 q13).bind fun q14 => if p1 ≠ (-1) then ((f_X8_unionOf n p1 q14).bind fun q16 => some (q16, q14)) else (some ((q14 759 0), q14))) else (some ((-1000000000), M)))))
set_option maxRecDepth 100000 in
set_option maxHeartbeats 4000000 in
theorem e_X11_states {g : Gm} {d : Nat} {n : Nat} {p0 p1 : Int} {M N : Mem} {v : Int} {M' : Mem} (hd : 3 ≤ d) (h : f_X11_states n p0 p1 M = some (v, M')) : EvM g d mtX11_states [vR 1, vI p0, vI p1] (sg (mx M N)) (0, 0) (vI v) (sg (mx M' N)) := by
  unfold f_X11_states at h
  refine EvM.of mkX11_states.2.2.2.1 (Nat.le_of_ble_eq_true rfl) ?_
  change Ev g d mtX11_states 0 [(0, vR 1), (1, vI p0), (2, vI p1)] [] (sg (mx M N)) (0, 0) (vI v) (sg (mx M' N))
  refine ev_iconst (pc := 0) (x := 0) dX11_states_0 ci_0 ?_
  refine ev_iload_n (pc := 1) 1 dX11_states_1 rfl rfl ?_
  refine ev_sipush (pc := 2) (x := 999) dX11_states_2 cs_999 ?_
  refine ev_cS (pc := 5) [vI 0, vI p0, vI 999] [] rfl mkX11_isBetween ml11_86 msX11_isBetween dX11_states_5 rfl (Nat.le_of_ble_eq_true rfl) (by omega) rfl (e_X11_isBetween (d := d - 1) (v := (f_X11_isBetween 0 p0 999)) (by omega)  rfl) ?_
  refine ev_if_eq (pc := 8) (tgt := 34) dX11_states_8 (by decide) (fun b1 => ?_) (fun b1 => ?_)
  · rw [if_pos b1] at h
    refine ev_ldcw (pc := 34) (x := (-1000000000)) rfl kc11_273 cc_m1000000000 dX11_states_34 ?_
    cases h
    exact ev_iret (pc := 37) dX11_states_37 rfl
  · rw [if_neg b1] at h
    refine ev_aload_n (pc := 11) 0 dX11_states_11 rfl rfl ?_
    refine ev_getR (pc := 12) fl11_23 rfl dX11_states_12 rfl kd_1 (by omega) (rf_1_2 _) ?_
    refine ev_getIc (pc := 15) fl11_90 rfl dX11_states_15 rfl (sea_k sea_c3) (sea_nz sea_c3) (sea_n9 sea_c3) 0 rfl ?_
    refine ev_if_eq (pc := 18) (tgt := 34) dX11_states_18 (by decide) (fun b2 => ?_) (fun b2 => ?_)
    · rw [if_pos b2] at h
      refine ev_ldcw (pc := 34) (x := (-1000000000)) rfl kc11_273 cc_m1000000000 dX11_states_34 ?_
      cases h
      exact ev_iret (pc := 37) dX11_states_37 rfl
    · rw [if_neg b2] at h
      refine ev_iload_n (pc := 21) 2 dX11_states_21 rfl rfl ?_
      refine ev_iconst (pc := 22) (x := (-1)) dX11_states_22 ci_m1 ?_
      refine ev_icmp_eq (pc := 23) (tgt := 38) dX11_states_23 (by decide) (fun b3 => ?_) (fun b3 => ?_)
      · rw [if_pos b3] at h
        refine ev_iconst (pc := 38) (x := 0) dX11_states_38 ci_0 ?_
        refine ev_istore_n (pc := 39) (il' := [(3, vI 0), (0, vR 1), (1, vI p0), (2, vI p1)]) dX11_states_39 rfl (Nat.le_of_ble_eq_true rfl) rfl ?_
        obtain ⟨q8, hq8, h⟩ := bd h
        refine ev_pick [1, 2, 3, 0] rfl ?_
        refine e_X11_states_L40 hd  n hq8 ?_
        refine ev_aload_n (pc := 80) 0 dX11_states_80 rfl rfl ?_
        refine ev_getR (pc := 81) fl11_75 rfl dX11_states_81 rfl kd_1 (by omega) (rf_1_10 _) ?_
        refine ev_aload_n (pc := 84) 0 dX11_states_84 rfl rfl ?_
        refine ev_getR (pc := 85) fl11_23 rfl dX11_states_85 rfl kd_1 (by omega) (rf_1_2 _) ?_
        refine ev_getIc (pc := 88) fl11_90 rfl dX11_states_88 rfl (sea_k sea_c3) (sea_nz sea_c3) (sea_n9 sea_c3) 0 rfl ?_
        refine ev_iload_n (pc := 91) 1 dX11_states_91 rfl rfl ?_
        obtain ⟨q9, hq9, h⟩ := bd h
        refine ev_cV0 (pc := 92) [vI (q8 3 0), vI p0] [] rfl mkX8_unite ml11_281 mnX8_unite dX11_states_92 kd_757 (by omega) rfl (Nat.le_of_ble_eq_true rfl) (by omega) (e_X8_unite (d := d - 1) (M' := q9) (by omega)  hq9) ?_
        refine ev_iload_n (pc := 95) 2 dX11_states_95 rfl rfl ?_
        refine ev_iconst (pc := 96) (x := (-1)) dX11_states_96 ci_m1 ?_
        refine ev_icmp_ne (pc := 97) (tgt := 112) dX11_states_97 (by decide) (fun b10 => ?_) (fun b10 => ?_)
        · rw [if_pos b10] at h
          refine ev_aload_n (pc := 112) 0 dX11_states_112 rfl rfl ?_
          refine ev_getR (pc := 113) fl11_75 rfl dX11_states_113 rfl kd_1 (by omega) (rf_1_10 _) ?_
          refine ev_iload_n (pc := 116) 2 dX11_states_116 rfl rfl ?_
          obtain ⟨q11, hq11, h⟩ := bd h
          refine ev_cV (pc := 117) [vI p1] [] rfl mkX8_unionOf ml11_287 mnX8_unionOf dX11_states_117 kd_757 (by omega) rfl (Nat.le_of_ble_eq_true rfl) (by omega) rfl (e_X8_unionOf (d := d - 1) (v := q11) (by omega)  hq11) ?_
          cases h
          exact ev_iret (pc := 120) dX11_states_120 rfl
        · rw [if_neg b10] at h
          refine ev_aload_n (pc := 100) 0 dX11_states_100 rfl rfl ?_
          refine ev_getR (pc := 101) fl11_75 rfl dX11_states_101 rfl kd_1 (by omega) (rf_1_10 _) ?_
          refine ev_getR (pc := 104) fl11_284 rfl dX11_states_104 rfl kd_757 (by omega) (rf_757_1 _) ?_
          refine ev_iconst (pc := 107) (x := 0) dX11_states_107 ci_0 ?_
          refine ev_ildc (pc := 108) dX11_states_108 kd_759 (by omega) (by omega) (by omega) (by omega) ?_
          refine ev_goto (pc := 109) (tgt := 120) dX11_states_109 (by decide) ?_
          cases h
          exact ev_iret (pc := 120) dX11_states_120 rfl
      · rw [if_neg b3] at h
        refine ev_aload_n (pc := 26) 0 dX11_states_26 rfl rfl ?_
        refine ev_iload_n (pc := 27) 2 dX11_states_27 rfl rfl ?_
        refine ev_cV (pc := 28) [vI p1] [] rfl mkX11_isStep ml11_102 mnX11_isStep dX11_states_28 kd_1 (by omega) rfl (Nat.le_of_ble_eq_true rfl) (by omega) rfl (e_X11_isStep (d := d - 1) (v := (f_X11_isStep p1 M)) (by omega)  rfl) ?_
        refine ev_if_ne (pc := 31) (tgt := 38) dX11_states_31 (by decide) (fun b12 => ?_) (fun b12 => ?_)
        · rw [if_pos b12] at h
          refine ev_iconst (pc := 38) (x := 0) dX11_states_38 ci_0 ?_
          refine ev_istore_n (pc := 39) (il' := [(3, vI 0), (0, vR 1), (1, vI p0), (2, vI p1)]) dX11_states_39 rfl (Nat.le_of_ble_eq_true rfl) rfl ?_
          obtain ⟨q13, hq13, h⟩ := bd h
          refine ev_pick [1, 2, 3, 0] rfl ?_
          refine e_X11_states_L40 hd  n hq13 ?_
          refine ev_aload_n (pc := 80) 0 dX11_states_80 rfl rfl ?_
          refine ev_getR (pc := 81) fl11_75 rfl dX11_states_81 rfl kd_1 (by omega) (rf_1_10 _) ?_
          refine ev_aload_n (pc := 84) 0 dX11_states_84 rfl rfl ?_
          refine ev_getR (pc := 85) fl11_23 rfl dX11_states_85 rfl kd_1 (by omega) (rf_1_2 _) ?_
          refine ev_getIc (pc := 88) fl11_90 rfl dX11_states_88 rfl (sea_k sea_c3) (sea_nz sea_c3) (sea_n9 sea_c3) 0 rfl ?_
          refine ev_iload_n (pc := 91) 1 dX11_states_91 rfl rfl ?_
          obtain ⟨q14, hq14, h⟩ := bd h
          refine ev_cV0 (pc := 92) [vI (q13 3 0), vI p0] [] rfl mkX8_unite ml11_281 mnX8_unite dX11_states_92 kd_757 (by omega) rfl (Nat.le_of_ble_eq_true rfl) (by omega) (e_X8_unite (d := d - 1) (M' := q14) (by omega)  hq14) ?_
          refine ev_iload_n (pc := 95) 2 dX11_states_95 rfl rfl ?_
          refine ev_iconst (pc := 96) (x := (-1)) dX11_states_96 ci_m1 ?_
          refine ev_icmp_ne (pc := 97) (tgt := 112) dX11_states_97 (by decide) (fun b15 => ?_) (fun b15 => ?_)
          · rw [if_pos b15] at h
            refine ev_aload_n (pc := 112) 0 dX11_states_112 rfl rfl ?_
            refine ev_getR (pc := 113) fl11_75 rfl dX11_states_113 rfl kd_1 (by omega) (rf_1_10 _) ?_
            refine ev_iload_n (pc := 116) 2 dX11_states_116 rfl rfl ?_
            obtain ⟨q16, hq16, h⟩ := bd h
            refine ev_cV (pc := 117) [vI p1] [] rfl mkX8_unionOf ml11_287 mnX8_unionOf dX11_states_117 kd_757 (by omega) rfl (Nat.le_of_ble_eq_true rfl) (by omega) rfl (e_X8_unionOf (d := d - 1) (v := q16) (by omega)  hq16) ?_
            cases h
            exact ev_iret (pc := 120) dX11_states_120 rfl
          · rw [if_neg b15] at h
            refine ev_aload_n (pc := 100) 0 dX11_states_100 rfl rfl ?_
            refine ev_getR (pc := 101) fl11_75 rfl dX11_states_101 rfl kd_1 (by omega) (rf_1_10 _) ?_
            refine ev_getR (pc := 104) fl11_284 rfl dX11_states_104 rfl kd_757 (by omega) (rf_757_1 _) ?_
            refine ev_iconst (pc := 107) (x := 0) dX11_states_107 ci_0 ?_
            refine ev_ildc (pc := 108) dX11_states_108 kd_759 (by omega) (by omega) (by omega) (by omega) ?_
            refine ev_goto (pc := 109) (tgt := 120) dX11_states_109 (by decide) ?_
            cases h
            exact ev_iret (pc := 120) dX11_states_120 rfl
        · rw [if_neg b12] at h
          refine ev_ldcw (pc := 34) (x := (-1000000000)) rfl kc11_273 cc_m1000000000 dX11_states_34 ?_
          cases h
          exact ev_iret (pc := 37) dX11_states_37 rfl
def f_X11_sound (p0 p1 : Int) (M : Mem) : Option (Int × Mem) := if p0 ≠ (-1) then (if (f_X11_isBetween 0 p0 8) = 0 then (some ((-2), M)) else (if (f_X11_isBetween 0 p1 99) = 0 then (some ((-2), M)) else (if (M 346 0) < 8 then ((f_X7_addSound 346 p0 p1 M).bind fun q5 => some ((q5 346 0), q5)) else (some ((-2), M))))) else (lt (upM M 346 0 0) fun M6 => some (0, M6))
set_option maxRecDepth 100000 in
set_option maxHeartbeats 4000000 in
theorem e_X11_sound {g : Gm} {d : Nat} {p0 p1 : Int} {M N : Mem} {v : Int} {M' : Mem} (hd : 1 ≤ d) (h : f_X11_sound p0 p1 M = some (v, M')) : EvM g d mtX11_sound [vR 1, vI p0, vI p1] (sg (mx M N)) (0, 0) (vI v) (sg (mx M' N)) := by
  unfold f_X11_sound at h
  refine EvM.of mkX11_sound.2.2.2.1 (Nat.le_of_ble_eq_true rfl) ?_
  change Ev g d mtX11_sound 0 [(0, vR 1), (1, vI p0), (2, vI p1)] [] (sg (mx M N)) (0, 0) (vI v) (sg (mx M' N))
  refine ev_iload_n (pc := 0) 1 dX11_sound_0 rfl rfl ?_
  refine ev_iconst (pc := 1) (x := (-1)) dX11_sound_1 ci_m1 ?_
  refine ev_icmp_ne (pc := 2) (tgt := 15) dX11_sound_2 (by decide) (fun b1 => ?_) (fun b1 => ?_)
  · rw [if_pos b1] at h
    refine ev_iconst (pc := 15) (x := 0) dX11_sound_15 ci_0 ?_
    refine ev_iload_n (pc := 16) 1 dX11_sound_16 rfl rfl ?_
    refine ev_bipush (pc := 17) (x := 8) dX11_sound_17 cb_8 ?_
    refine ev_cS (pc := 19) [vI 0, vI p0, vI 8] [] rfl mkX11_isBetween ml11_86 msX11_isBetween dX11_sound_19 rfl (Nat.le_of_ble_eq_true rfl) (by omega) rfl (e_X11_isBetween (d := d - 1) (v := (f_X11_isBetween 0 p0 8)) (by omega)  rfl) ?_
    refine ev_if_eq (pc := 22) (tgt := 47) dX11_sound_22 (by decide) (fun b2 => ?_) (fun b2 => ?_)
    · rw [if_pos b2] at h
      refine ev_bipush (pc := 47) (x := (-2)) dX11_sound_47 cb_m2 ?_
      cases h
      exact ev_iret (pc := 49) dX11_sound_49 rfl
    · rw [if_neg b2] at h
      refine ev_iconst (pc := 25) (x := 0) dX11_sound_25 ci_0 ?_
      refine ev_iload_n (pc := 26) 2 dX11_sound_26 rfl rfl ?_
      refine ev_bipush (pc := 27) (x := 99) dX11_sound_27 cb_99 ?_
      refine ev_cS (pc := 29) [vI 0, vI p1, vI 99] [] rfl mkX11_isBetween ml11_86 msX11_isBetween dX11_sound_29 rfl (Nat.le_of_ble_eq_true rfl) (by omega) rfl (e_X11_isBetween (d := d - 1) (v := (f_X11_isBetween 0 p1 99)) (by omega)  rfl) ?_
      refine ev_if_eq (pc := 32) (tgt := 47) dX11_sound_32 (by decide) (fun b3 => ?_) (fun b3 => ?_)
      · rw [if_pos b3] at h
        refine ev_bipush (pc := 47) (x := (-2)) dX11_sound_47 cb_m2 ?_
        cases h
        exact ev_iret (pc := 49) dX11_sound_49 rfl
      · rw [if_neg b3] at h
        refine ev_aload_n (pc := 35) 0 dX11_sound_35 rfl rfl ?_
        refine ev_getR (pc := 36) fl11_28 rfl dX11_sound_36 rfl kd_1 (by omega) (rf_1_3 _) ?_
        refine ev_getIc (pc := 39) fl11_290 rfl dX11_sound_39 rfl (told_k told_c346) (told_nz told_c346) (told_n9 told_c346) 0 rfl ?_
        refine ev_bipush (pc := 42) (x := 8) dX11_sound_42 cb_8 ?_
        refine ev_icmp_lt (pc := 44) (tgt := 50) dX11_sound_44 (by decide) (fun b4 => ?_) (fun b4 => ?_)
        · rw [if_pos b4] at h
          refine ev_aload_n (pc := 50) 0 dX11_sound_50 rfl rfl ?_
          refine ev_getR (pc := 51) fl11_28 rfl dX11_sound_51 rfl kd_1 (by omega) (rf_1_3 _) ?_
          refine ev_iload_n (pc := 54) 1 dX11_sound_54 rfl rfl ?_
          refine ev_iload_n (pc := 55) 2 dX11_sound_55 rfl rfl ?_
          obtain ⟨q5, hq5, h⟩ := bd h
          refine ev_cV0 (pc := 56) [vI p0, vI p1] [] rfl mkX7_addSound ml11_295 mnX7_addSound dX11_sound_56 (told_k told_c346) (told_nz told_c346) rfl (Nat.le_of_ble_eq_true rfl) (by omega) (e_X7_addSound (d := d - 1) (M' := q5) (by omega) told_c346 hq5) ?_
          refine ev_aload_n (pc := 59) 0 dX11_sound_59 rfl rfl ?_
          refine ev_getR (pc := 60) fl11_28 rfl dX11_sound_60 rfl kd_1 (by omega) (rf_1_3 _) ?_
          refine ev_getIc (pc := 63) fl11_290 rfl dX11_sound_63 rfl (told_k told_c346) (told_nz told_c346) (told_n9 told_c346) 0 rfl ?_
          cases h
          exact ev_iret (pc := 66) dX11_sound_66 rfl
        · rw [if_neg b4] at h
          refine ev_bipush (pc := 47) (x := (-2)) dX11_sound_47 cb_m2 ?_
          cases h
          exact ev_iret (pc := 49) dX11_sound_49 rfl
  · rw [if_neg b1] at h
    refine ev_aload_n (pc := 5) 0 dX11_sound_5 rfl rfl ?_
    refine ev_getR (pc := 6) fl11_28 rfl dX11_sound_6 rfl kd_1 (by omega) (rf_1_3 _) ?_
    refine ev_iconst (pc := 9) (x := 0) dX11_sound_9 ci_0 ?_
    obtain ⟨M6, eM6, h⟩ := lt_some h
    refine ev_putIc (pc := 10) fl11_290 rfl dX11_sound_10 (told_k told_c346) (told_nz told_c346) (told_n9 told_c346) eM6 ?_
    refine ev_iconst (pc := 13) (x := 0) dX11_sound_13 ci_0 ?_
    cases h
    exact ev_iret (pc := 14) dX11_sound_14 rfl
def f_X11_high_L17 : Nat → Int → Int → Int → Int → Mem → Option (Int)
  | 0, _, _, _, _, _ => none
  | n + 1, x1, x2, x3, x4, M => if 99 < x4 then (some x3) else ((f_X7_mayBeHigh n 346 x1 x4 M).bind fun q3 => if q3 = 0 then (f_X11_high_L17 n x1 x2 x3 (wI (x4 + 1)) M) else (if x2 ≠ 0 then (f_X11_high_L17 n x1 x2 x4 (wI (x4 + 1)) M) else (some x4)))
set_option maxRecDepth 100000 in
set_option maxHeartbeats 4000000 in
theorem e_X11_high_L17 {g : Gm} {d : Nat} {x1 x2 : Int} {M N : Mem} (hd : 1 ≤ d) : ∀ (n : Nat) {x3 x4 : Int} {v : Int}, f_X11_high_L17 n x1 x2 x3 x4 M = some v → Ev g d mtX11_high 17 [(0, vR 1), (1, vI x1), (2, vI x2), (3, vI x3), (4, vI x4)] [] (sg (mx M N)) (0, 0) (vI v) (sg (mx M N)) := by
  intro n
  induction n with
  | zero =>
    intro x3 x4 v h
    rw [f_X11_high_L17.eq_1] at h
    cases h
  | succ n ih =>
    intro x3 x4 v h
    rw [f_X11_high_L17.eq_2] at h
    refine ev_iload (pc := 17) 4 dX11_high_17 rfl ?_
    refine ev_bipush (pc := 19) (x := 99) dX11_high_19 cb_99 ?_
    refine ev_icmp_gt (pc := 21) (tgt := 53) dX11_high_21 (by decide) (fun b2 => ?_) (fun b2 => ?_)
    · rw [if_pos b2] at h
      refine ev_iload_n (pc := 53) 3 dX11_high_53 rfl rfl ?_
      cases h
      exact ev_iret (pc := 54) dX11_high_54 rfl
    · rw [if_neg b2] at h
      refine ev_aload_n (pc := 24) 0 dX11_high_24 rfl rfl ?_
      refine ev_getR (pc := 25) fl11_28 rfl dX11_high_25 rfl kd_1 (by omega) (rf_1_3 _) ?_
      refine ev_iload_n (pc := 28) 1 dX11_high_28 rfl rfl ?_
      refine ev_iload (pc := 29) 4 dX11_high_29 rfl ?_
      obtain ⟨q3, hq3, h⟩ := bd h
      refine ev_cV (pc := 31) [vI x1, vI x4] [] rfl mkX7_mayBeHigh ml11_298 mnX7_mayBeHigh dX11_high_31 (told_k told_c346) (told_nz told_c346) rfl (Nat.le_of_ble_eq_true rfl) (by omega) rfl (e_X7_mayBeHigh (d := d - 1) (v := q3) (by omega) told_c346 hq3) ?_
      refine ev_if_eq (pc := 34) (tgt := 47) dX11_high_34 (by decide) (fun b4 => ?_) (fun b4 => ?_)
      · rw [if_pos b4] at h
        refine ev_iinc (pc := 47) (il' := [(4, vI (wI (x4 + 1))), (0, vR 1), (1, vI x1), (2, vI x2), (3, vI x3)]) 4 dX11_high_47 rfl (Nat.le_of_ble_eq_true rfl) rfl rfl ?_
        refine ev_goto (pc := 50) (tgt := 17) dX11_high_50 (by decide) ?_
        refine ev_pick [1, 2, 3, 4, 0] rfl ?_
        exact ih h
      · rw [if_neg b4] at h
        refine ev_iload_n (pc := 37) 2 dX11_high_37 rfl rfl ?_
        refine ev_if_ne (pc := 38) (tgt := 44) dX11_high_38 (by decide) (fun b5 => ?_) (fun b5 => ?_)
        · rw [if_pos b5] at h
          refine ev_iload (pc := 44) 4 dX11_high_44 rfl ?_
          refine ev_istore_n (pc := 46) (il' := [(3, vI x4), (0, vR 1), (1, vI x1), (2, vI x2), (4, vI x4)]) dX11_high_46 rfl (Nat.le_of_ble_eq_true rfl) rfl ?_
          refine ev_iinc (pc := 47) (il' := [(4, vI (wI (x4 + 1))), (3, vI x4), (0, vR 1), (1, vI x1), (2, vI x2)]) 4 dX11_high_47 rfl (Nat.le_of_ble_eq_true rfl) rfl rfl ?_
          refine ev_goto (pc := 50) (tgt := 17) dX11_high_50 (by decide) ?_
          refine ev_pick [2, 3, 4, 1, 0] rfl ?_
          exact ih h
        · rw [if_neg b5] at h
          refine ev_iload (pc := 41) 4 dX11_high_41 rfl ?_
          cases h
          exact ev_iret (pc := 43) dX11_high_43 rfl
def f_X11_high (n : Nat) (p0 p1 : Int) (M : Mem) : Option (Int) := if (f_X11_isBetween 0 p0 8) ≠ 0 then (f_X11_high_L17 n p0 p1 (-1) 1 M) else (some (-1))
set_option maxRecDepth 100000 in
set_option maxHeartbeats 4000000 in
theorem e_X11_high {g : Gm} {d : Nat} {n : Nat} {p0 p1 : Int} {M N : Mem} {v : Int} (hd : 1 ≤ d) (h : f_X11_high n p0 p1 M = some v) : EvM g d mtX11_high [vR 1, vI p0, vI p1] (sg (mx M N)) (0, 0) (vI v) (sg (mx M N)) := by
  unfold f_X11_high at h
  refine EvM.of mkX11_high.2.2.2.1 (Nat.le_of_ble_eq_true rfl) ?_
  change Ev g d mtX11_high 0 [(0, vR 1), (1, vI p0), (2, vI p1)] [] (sg (mx M N)) (0, 0) (vI v) (sg (mx M N))
  refine ev_iconst (pc := 0) (x := 0) dX11_high_0 ci_0 ?_
  refine ev_iload_n (pc := 1) 1 dX11_high_1 rfl rfl ?_
  refine ev_bipush (pc := 2) (x := 8) dX11_high_2 cb_8 ?_
  refine ev_cS (pc := 4) [vI 0, vI p0, vI 8] [] rfl mkX11_isBetween ml11_86 msX11_isBetween dX11_high_4 rfl (Nat.le_of_ble_eq_true rfl) (by omega) rfl (e_X11_isBetween (d := d - 1) (v := (f_X11_isBetween 0 p0 8)) (by omega)  rfl) ?_
  refine ev_if_ne (pc := 7) (tgt := 12) dX11_high_7 (by decide) (fun b1 => ?_) (fun b1 => ?_)
  · rw [if_pos b1] at h
    refine ev_iconst (pc := 12) (x := (-1)) dX11_high_12 ci_m1 ?_
    refine ev_istore_n (pc := 13) (il' := [(3, vI (-1)), (0, vR 1), (1, vI p0), (2, vI p1)]) dX11_high_13 rfl (Nat.le_of_ble_eq_true rfl) rfl ?_
    refine ev_iconst (pc := 14) (x := 1) dX11_high_14 ci_1 ?_
    refine ev_istore (pc := 15) (il' := [(4, vI 1), (3, vI (-1)), (0, vR 1), (1, vI p0), (2, vI p1)]) dX11_high_15 (Nat.le_of_ble_eq_true rfl) rfl ?_
    refine ev_pick [2, 3, 4, 1, 0] rfl ?_
    exact e_X11_high_L17 hd  n h
  · rw [if_neg b1] at h
    refine ev_iconst (pc := 10) (x := (-1)) dX11_high_10 ci_m1 ?_
    cases h
    exact ev_iret (pc := 11) dX11_high_11 rfl
def f_X11_wreck (p0 : Int) (M : Mem) : Option (Int × Mem) := if p0 ≠ (-1) then (if (f_X11_isBetween 0 p0 99) = 0 then (some ((-2), M)) else (if (M 346 3) < 10 then ((f_X7_addWreck 346 p0 M).bind fun q4 => some ((q4 346 3), q4)) else (some ((-2), M)))) else (lt (upM M 346 3 0) fun M5 => some (0, M5))
set_option maxRecDepth 100000 in
set_option maxHeartbeats 4000000 in
theorem e_X11_wreck {g : Gm} {d : Nat} {p0 : Int} {M N : Mem} {v : Int} {M' : Mem} (hd : 1 ≤ d) (h : f_X11_wreck p0 M = some (v, M')) : EvM g d mtX11_wreck [vR 1, vI p0] (sg (mx M N)) (0, 0) (vI v) (sg (mx M' N)) := by
  unfold f_X11_wreck at h
  refine EvM.of mkX11_wreck.2.2.2.1 (Nat.le_of_ble_eq_true rfl) ?_
  change Ev g d mtX11_wreck 0 [(0, vR 1), (1, vI p0)] [] (sg (mx M N)) (0, 0) (vI v) (sg (mx M' N))
  refine ev_iload_n (pc := 0) 1 dX11_wreck_0 rfl rfl ?_
  refine ev_iconst (pc := 1) (x := (-1)) dX11_wreck_1 ci_m1 ?_
  refine ev_icmp_ne (pc := 2) (tgt := 15) dX11_wreck_2 (by decide) (fun b1 => ?_) (fun b1 => ?_)
  · rw [if_pos b1] at h
    refine ev_iconst (pc := 15) (x := 0) dX11_wreck_15 ci_0 ?_
    refine ev_iload_n (pc := 16) 1 dX11_wreck_16 rfl rfl ?_
    refine ev_bipush (pc := 17) (x := 99) dX11_wreck_17 cb_99 ?_
    refine ev_cS (pc := 19) [vI 0, vI p0, vI 99] [] rfl mkX11_isBetween ml11_86 msX11_isBetween dX11_wreck_19 rfl (Nat.le_of_ble_eq_true rfl) (by omega) rfl (e_X11_isBetween (d := d - 1) (v := (f_X11_isBetween 0 p0 99)) (by omega)  rfl) ?_
    refine ev_if_eq (pc := 22) (tgt := 37) dX11_wreck_22 (by decide) (fun b2 => ?_) (fun b2 => ?_)
    · rw [if_pos b2] at h
      refine ev_bipush (pc := 37) (x := (-2)) dX11_wreck_37 cb_m2 ?_
      cases h
      exact ev_iret (pc := 39) dX11_wreck_39 rfl
    · rw [if_neg b2] at h
      refine ev_aload_n (pc := 25) 0 dX11_wreck_25 rfl rfl ?_
      refine ev_getR (pc := 26) fl11_28 rfl dX11_wreck_26 rfl kd_1 (by omega) (rf_1_3 _) ?_
      refine ev_getIc (pc := 29) fl11_302 rfl dX11_wreck_29 rfl (told_k told_c346) (told_nz told_c346) (told_n9 told_c346) 3 rfl ?_
      refine ev_bipush (pc := 32) (x := 10) dX11_wreck_32 cb_10 ?_
      refine ev_icmp_lt (pc := 34) (tgt := 40) dX11_wreck_34 (by decide) (fun b3 => ?_) (fun b3 => ?_)
      · rw [if_pos b3] at h
        refine ev_aload_n (pc := 40) 0 dX11_wreck_40 rfl rfl ?_
        refine ev_getR (pc := 41) fl11_28 rfl dX11_wreck_41 rfl kd_1 (by omega) (rf_1_3 _) ?_
        refine ev_iload_n (pc := 44) 1 dX11_wreck_44 rfl rfl ?_
        obtain ⟨q4, hq4, h⟩ := bd h
        refine ev_cV0 (pc := 45) [vI p0] [] rfl mkX7_addWreck ml11_305 mnX7_addWreck dX11_wreck_45 (told_k told_c346) (told_nz told_c346) rfl (Nat.le_of_ble_eq_true rfl) (by omega) (e_X7_addWreck (d := d - 1) (M' := q4) (by omega) told_c346 hq4) ?_
        refine ev_aload_n (pc := 48) 0 dX11_wreck_48 rfl rfl ?_
        refine ev_getR (pc := 49) fl11_28 rfl dX11_wreck_49 rfl kd_1 (by omega) (rf_1_3 _) ?_
        refine ev_getIc (pc := 52) fl11_302 rfl dX11_wreck_52 rfl (told_k told_c346) (told_nz told_c346) (told_n9 told_c346) 3 rfl ?_
        cases h
        exact ev_iret (pc := 55) dX11_wreck_55 rfl
      · rw [if_neg b3] at h
        refine ev_bipush (pc := 37) (x := (-2)) dX11_wreck_37 cb_m2 ?_
        cases h
        exact ev_iret (pc := 39) dX11_wreck_39 rfl
  · rw [if_neg b1] at h
    refine ev_aload_n (pc := 5) 0 dX11_wreck_5 rfl rfl ?_
    refine ev_getR (pc := 6) fl11_28 rfl dX11_wreck_6 rfl kd_1 (by omega) (rf_1_3 _) ?_
    refine ev_iconst (pc := 9) (x := 0) dX11_wreck_9 ci_0 ?_
    obtain ⟨M5, eM5, h⟩ := lt_some h
    refine ev_putIc (pc := 10) fl11_302 rfl dX11_wreck_10 (told_k told_c346) (told_nz told_c346) (told_n9 told_c346) eM5 ?_
    refine ev_iconst (pc := 13) (x := 0) dX11_wreck_13 ci_0 ?_
    cases h
    exact ev_iret (pc := 14) dX11_wreck_14 rfl
def f_X11_inOrder (n : Nat) (p0 : Int) (M : Mem) : Option (Int × Mem) := (f_X7_measureRows n 346 M).bind fun q1 => if p0 ≠ (-1) then (if (f_X11_isBetween 0 p0 (wI (q1.1 - 1))) = 0 then (some ((-2), q1.2)) else ((f_X7_reignInOrder n 346 p0 q1.1 q1.2).bind fun q4 => some (q4, q1.2))) else (some (q1.1, q1.2))
set_option maxRecDepth 100000 in
set_option maxHeartbeats 4000000 in
theorem e_X11_inOrder {g : Gm} {d : Nat} {n : Nat} {p0 : Int} {M N : Mem} {v : Int} {M' : Mem} (hd : 2 ≤ d) (h : f_X11_inOrder n p0 M = some (v, M')) : EvM g d mtX11_inOrder [vR 1, vI p0] (sg (mx M N)) (0, 0) (vI v) (sg (mx M' N)) := by
  unfold f_X11_inOrder at h
  refine EvM.of mkX11_inOrder.2.2.2.1 (Nat.le_of_ble_eq_true rfl) ?_
  change Ev g d mtX11_inOrder 0 [(0, vR 1), (1, vI p0)] [] (sg (mx M N)) (0, 0) (vI v) (sg (mx M' N))
  refine ev_aload_n (pc := 0) 0 dX11_inOrder_0 rfl rfl ?_
  refine ev_getR (pc := 1) fl11_28 rfl dX11_inOrder_1 rfl kd_1 (by omega) (rf_1_3 _) ?_
  obtain ⟨q1, hq1, h⟩ := bd h
  refine ev_cV (pc := 4) [] [] rfl mkX7_measureRows ml11_308 mnX7_measureRows dX11_inOrder_4 (told_k told_c346) (told_nz told_c346) rfl (Nat.le_of_ble_eq_true rfl) (by omega) rfl (e_X7_measureRows (d := d - 1) (v := q1.1) (M' := q1.2) (by omega) told_c346 hq1) ?_
  refine ev_istore_n (pc := 7) (il' := [(2, vI q1.1), (0, vR 1), (1, vI p0)]) dX11_inOrder_7 rfl (Nat.le_of_ble_eq_true rfl) rfl ?_
  refine ev_iload_n (pc := 8) 2 dX11_inOrder_8 rfl rfl ?_
  refine ev_iconst (pc := 9) (x := (-1)) dX11_inOrder_9 ci_m1 ?_
  refine ev_icmp_ne (pc := 10) (tgt := 15) dX11_inOrder_10 (by decide) (fun b2 => ?_) (fun b2 => ?_)
  · rw [if_pos b2] at h
    refine ev_iconst (pc := 15) (x := 0) dX11_inOrder_15 ci_0 ?_
    refine ev_iload_n (pc := 16) 2 dX11_inOrder_16 rfl rfl ?_
    refine ev_iload_n (pc := 17) 0 dX11_inOrder_17 rfl rfl ?_
    refine ev_iconst (pc := 18) (x := 1) dX11_inOrder_18 ci_1 ?_
    refine ev_isub (pc := 19) dX11_inOrder_19 ?_
    refine ev_cS (pc := 20) [vI 0, vI p0, vI (wI (q1.1 - 1))] [] rfl mkX11_isBetween ml11_86 msX11_isBetween dX11_inOrder_20 rfl (Nat.le_of_ble_eq_true rfl) (by omega) rfl (e_X11_isBetween (d := d - 1) (v := (f_X11_isBetween 0 p0 (wI (q1.1 - 1)))) (by omega)  rfl) ?_
    refine ev_if_eq (pc := 23) (tgt := 38) dX11_inOrder_23 (by decide) (fun b3 => ?_) (fun b3 => ?_)
    · rw [if_pos b3] at h
      refine ev_bipush (pc := 38) (x := (-2)) dX11_inOrder_38 cb_m2 ?_
      cases h
      exact ev_iret (pc := 40) dX11_inOrder_40 rfl
    · rw [if_neg b3] at h
      refine ev_aload_n (pc := 26) 1 dX11_inOrder_26 rfl rfl ?_
      refine ev_getR (pc := 27) fl11_28 rfl dX11_inOrder_27 rfl kd_1 (by omega) (rf_1_3 _) ?_
      refine ev_iload_n (pc := 30) 2 dX11_inOrder_30 rfl rfl ?_
      refine ev_iload_n (pc := 31) 0 dX11_inOrder_31 rfl rfl ?_
      obtain ⟨q4, hq4, h⟩ := bd h
      refine ev_cV (pc := 32) [vI p0, vI q1.1] [] rfl mkX7_reignInOrder ml11_312 mnX7_reignInOrder dX11_inOrder_32 (told_k told_c346) (told_nz told_c346) rfl (Nat.le_of_ble_eq_true rfl) (by omega) rfl (e_X7_reignInOrder (d := d - 1) (v := q4) (by omega) told_c346 hq4) ?_
      refine ev_goto (pc := 35) (tgt := 40) dX11_inOrder_35 (by decide) ?_
      cases h
      exact ev_iret (pc := 40) dX11_inOrder_40 rfl
  · rw [if_neg b2] at h
    refine ev_iload_n (pc := 13) 0 dX11_inOrder_13 rfl rfl ?_
    cases h
    exact ev_iret (pc := 14) dX11_inOrder_14 rfl
def f_X11_outOfOrder_L17 : Nat → Int → Int → Int → Mem → Option (Int)
  | 0, _, _, _, _ => none
  | n + 1, x1, x2, x3, M => if x2 ≤ x3 then (some x1) else (ck (0 ≤ x2 ∧ x2 < 10) (ck (0 ≤ x3 ∧ x3 < 10) (if (M 349 x3) ≤ (M 349 x2) then (f_X11_outOfOrder_L17 n x1 x2 (wI (x3 + 1)) M) else (f_X11_outOfOrder_L17 n (wI (x1 + 1)) x2 (wI (x3 + 1)) M))))
set_option maxRecDepth 100000 in
set_option maxHeartbeats 4000000 in
theorem e_X11_outOfOrder_L17 {g : Gm} {d : Nat} {x2 : Int} {r : Vv} {σ' : Sg} {M N : Mem} (hd : 0 ≤ d) : ∀ (n : Nat) {x1 x3 : Int} {q : Int}, f_X11_outOfOrder_L17 n x1 x2 x3 M = some q → Ev g d mtX11_outOfOrder 52 [(0, vR 1), (1, vI q), (2, vI x2)] [] (sg (mx M N)) (0, 0) r σ' → Ev g d mtX11_outOfOrder 17 [(0, vR 1), (1, vI x1), (2, vI x2), (3, vI x3)] [] (sg (mx M N)) (0, 0) r σ' := by
  intro n
  induction n with
  | zero =>
    intro x1 x3 q h hk0
    rw [f_X11_outOfOrder_L17.eq_1] at h
    cases h
  | succ n ih =>
    intro x1 x3 q h hk0
    rw [f_X11_outOfOrder_L17.eq_2] at h
    refine ev_iload_n (pc := 17) 3 dX11_outOfOrder_17 rfl rfl ?_
    refine ev_iload_n (pc := 18) 2 dX11_outOfOrder_18 rfl rfl ?_
    refine ev_icmp_ge (pc := 19) (tgt := 52) dX11_outOfOrder_19 (by decide) (fun b2 => ?_) (fun b2 => ?_)
    · rw [if_pos b2] at h
      cases h
      refine ev_pick [0, 1, 2] rfl ?_
      exact hk0
    · rw [if_neg b2] at h
      refine ev_aload_n (pc := 22) 0 dX11_outOfOrder_22 rfl rfl ?_
      refine ev_getR (pc := 23) fl11_28 rfl dX11_outOfOrder_23 rfl kd_1 (by omega) (rf_1_3 _) ?_
      refine ev_getR (pc := 26) fl11_315 rfl dX11_outOfOrder_26 rfl (told_k told_c346) (told_nz told_c346) (rf_346_4 _) ?_
      refine ev_iload_n (pc := 29) 2 dX11_outOfOrder_29 rfl rfl ?_
      obtain ⟨c3, h⟩ := ck_some h
      refine ev_ildc (pc := 30) dX11_outOfOrder_30 kd_349 (by omega) (by omega) c3.1 c3.2 ?_
      refine ev_aload_n (pc := 31) 0 dX11_outOfOrder_31 rfl rfl ?_
      refine ev_getR (pc := 32) fl11_28 rfl dX11_outOfOrder_32 rfl kd_1 (by omega) (rf_1_3 _) ?_
      refine ev_getR (pc := 35) fl11_315 rfl dX11_outOfOrder_35 rfl (told_k told_c346) (told_nz told_c346) (rf_346_4 _) ?_
      refine ev_iload_n (pc := 38) 3 dX11_outOfOrder_38 rfl rfl ?_
      obtain ⟨c4, h⟩ := ck_some h
      refine ev_ildc (pc := 39) dX11_outOfOrder_39 kd_349 (by omega) (by omega) c4.1 c4.2 ?_
      refine ev_icmp_ge (pc := 40) (tgt := 46) dX11_outOfOrder_40 (by decide) (fun b5 => ?_) (fun b5 => ?_)
      · rw [if_pos b5] at h
        refine ev_iinc (pc := 46) (il' := [(3, vI (wI (x3 + 1))), (0, vR 1), (1, vI x1), (2, vI x2)]) 3 dX11_outOfOrder_46 rfl (Nat.le_of_ble_eq_true rfl) rfl rfl ?_
        refine ev_goto (pc := 49) (tgt := 17) dX11_outOfOrder_49 (by decide) ?_
        refine ev_pick [1, 2, 3, 0] rfl ?_
        exact ih h hk0
      · rw [if_neg b5] at h
        refine ev_iinc (pc := 43) (il' := [(1, vI (wI (x1 + 1))), (0, vR 1), (2, vI x2), (3, vI x3)]) 1 dX11_outOfOrder_43 rfl (Nat.le_of_ble_eq_true rfl) rfl rfl ?_
        refine ev_iinc (pc := 46) (il' := [(3, vI (wI (x3 + 1))), (1, vI (wI (x1 + 1))), (0, vR 1), (2, vI x2)]) 3 dX11_outOfOrder_46 rfl (Nat.le_of_ble_eq_true rfl) rfl rfl ?_
        refine ev_goto (pc := 49) (tgt := 17) dX11_outOfOrder_49 (by decide) ?_
        refine ev_pick [2, 1, 3, 0] rfl ?_
        exact ih h hk0
def f_X11_outOfOrder_L4 : Nat → Int → Int → Mem → Option (Int)
  | 0, _, _, _ => none
  | n + 1, x1, x2, M => if (M 346 3) ≤ x2 then (some x1) else ((f_X11_outOfOrder_L17 n x1 x2 0 M).bind fun q6 => f_X11_outOfOrder_L4 n q6 (wI (x2 + 1)) M)
set_option maxRecDepth 100000 in
set_option maxHeartbeats 4000000 in
theorem e_X11_outOfOrder_L4 {g : Gm} {d : Nat} {r : Vv} {σ' : Sg} {M N : Mem} (hd : 0 ≤ d) : ∀ (n : Nat) {x1 x2 : Int} {q : Int}, f_X11_outOfOrder_L4 n x1 x2 M = some q → Ev g d mtX11_outOfOrder 58 [(1, vI q)] [] (sg (mx M N)) (0, 0) r σ' → Ev g d mtX11_outOfOrder 4 [(0, vR 1), (1, vI x1), (2, vI x2)] [] (sg (mx M N)) (0, 0) r σ' := by
  intro n
  induction n with
  | zero =>
    intro x1 x2 q h hk0
    rw [f_X11_outOfOrder_L4.eq_1] at h
    cases h
  | succ n ih =>
    intro x1 x2 q h hk0
    rw [f_X11_outOfOrder_L4.eq_2] at h
    refine ev_iload_n (pc := 4) 2 dX11_outOfOrder_4 rfl rfl ?_
    refine ev_aload_n (pc := 5) 0 dX11_outOfOrder_5 rfl rfl ?_
    refine ev_getR (pc := 6) fl11_28 rfl dX11_outOfOrder_6 rfl kd_1 (by omega) (rf_1_3 _) ?_
    refine ev_getIc (pc := 9) fl11_302 rfl dX11_outOfOrder_9 rfl (told_k told_c346) (told_nz told_c346) (told_n9 told_c346) 3 rfl ?_
    refine ev_icmp_ge (pc := 12) (tgt := 58) dX11_outOfOrder_12 (by decide) (fun b1 => ?_) (fun b1 => ?_)
    · rw [if_pos b1] at h
      cases h
      refine ev_pick [1] rfl ?_
      exact hk0
    · rw [if_neg b1] at h
      refine ev_iconst (pc := 15) (x := 0) dX11_outOfOrder_15 ci_0 ?_
      refine ev_istore_n (pc := 16) (il' := [(3, vI 0), (0, vR 1), (1, vI x1), (2, vI x2)]) dX11_outOfOrder_16 rfl (Nat.le_of_ble_eq_true rfl) rfl ?_
      obtain ⟨q6, hq6, h⟩ := bd h
      refine ev_pick [1, 2, 3, 0] rfl ?_
      refine e_X11_outOfOrder_L17 hd  n hq6 ?_
      refine ev_iinc (pc := 52) (il' := [(2, vI (wI (x2 + 1))), (0, vR 1), (1, vI q6)]) 2 dX11_outOfOrder_52 rfl (Nat.le_of_ble_eq_true rfl) rfl rfl ?_
      refine ev_goto (pc := 55) (tgt := 4) dX11_outOfOrder_55 (by decide) ?_
      refine ev_pick [1, 2, 0] rfl ?_
      exact ih h hk0
def f_X11_outOfOrder (n : Nat) (M : Mem) : Option (Int) := (f_X11_outOfOrder_L4 n 0 1 M).bind fun q7 => some q7
set_option maxRecDepth 100000 in
set_option maxHeartbeats 4000000 in
theorem e_X11_outOfOrder {g : Gm} {d : Nat} {n : Nat} {M N : Mem} {v : Int} (hd : 0 ≤ d) (h : f_X11_outOfOrder n M = some v) : EvM g d mtX11_outOfOrder [vR 1] (sg (mx M N)) (0, 0) (vI v) (sg (mx M N)) := by
  unfold f_X11_outOfOrder at h
  refine EvM.of mkX11_outOfOrder.2.2.2.1 (Nat.le_of_ble_eq_true rfl) ?_
  change Ev g d mtX11_outOfOrder 0 [(0, vR 1)] [] (sg (mx M N)) (0, 0) (vI v) (sg (mx M N))
  refine ev_iconst (pc := 0) (x := 0) dX11_outOfOrder_0 ci_0 ?_
  refine ev_istore_n (pc := 1) (il' := [(1, vI 0), (0, vR 1)]) dX11_outOfOrder_1 rfl (Nat.le_of_ble_eq_true rfl) rfl ?_
  refine ev_iconst (pc := 2) (x := 1) dX11_outOfOrder_2 ci_1 ?_
  refine ev_istore_n (pc := 3) (il' := [(2, vI 1), (1, vI 0), (0, vR 1)]) dX11_outOfOrder_3 rfl (Nat.le_of_ble_eq_true rfl) rfl ?_
  obtain ⟨q7, hq7, h⟩ := bd h
  refine ev_pick [2, 1, 0] rfl ?_
  refine e_X11_outOfOrder_L4 hd  n hq7 ?_
  refine ev_iload_n (pc := 58) 0 dX11_outOfOrder_58 rfl rfl ?_
  cases h
  exact ev_iret (pc := 59) dX11_outOfOrder_59 rfl
def f_X11_misheard (p0 p1 : Int) (M : Mem) : Option (Int × Mem) := if p0 ≠ (-1) then (if (f_X11_isBetween 0 p0 9) = 0 then (some ((-2), M)) else (if (f_X11_isBetween 0 p1 9) = 0 then (some ((-2), M)) else (if p0 ≠ p1 then (if (M 346 6) < 15 then ((f_X7_addMisheard 346 p0 p1 M).bind fun q6 => some ((q6 346 6), q6)) else (some ((-2), M))) else (some ((-2), M))))) else (lt (upM M 346 6 0) fun M7 => some (0, M7))
set_option maxRecDepth 100000 in
set_option maxHeartbeats 4000000 in
theorem e_X11_misheard {g : Gm} {d : Nat} {p0 p1 : Int} {M N : Mem} {v : Int} {M' : Mem} (hd : 1 ≤ d) (h : f_X11_misheard p0 p1 M = some (v, M')) : EvM g d mtX11_misheard [vR 1, vI p0, vI p1] (sg (mx M N)) (0, 0) (vI v) (sg (mx M' N)) := by
  unfold f_X11_misheard at h
  refine EvM.of mkX11_misheard.2.2.2.1 (Nat.le_of_ble_eq_true rfl) ?_
  change Ev g d mtX11_misheard 0 [(0, vR 1), (1, vI p0), (2, vI p1)] [] (sg (mx M N)) (0, 0) (vI v) (sg (mx M' N))
  refine ev_iload_n (pc := 0) 1 dX11_misheard_0 rfl rfl ?_
  refine ev_iconst (pc := 1) (x := (-1)) dX11_misheard_1 ci_m1 ?_
  refine ev_icmp_ne (pc := 2) (tgt := 15) dX11_misheard_2 (by decide) (fun b1 => ?_) (fun b1 => ?_)
  · rw [if_pos b1] at h
    refine ev_iconst (pc := 15) (x := 0) dX11_misheard_15 ci_0 ?_
    refine ev_iload_n (pc := 16) 1 dX11_misheard_16 rfl rfl ?_
    refine ev_bipush (pc := 17) (x := 9) dX11_misheard_17 cb_9 ?_
    refine ev_cS (pc := 19) [vI 0, vI p0, vI 9] [] rfl mkX11_isBetween ml11_86 msX11_isBetween dX11_misheard_19 rfl (Nat.le_of_ble_eq_true rfl) (by omega) rfl (e_X11_isBetween (d := d - 1) (v := (f_X11_isBetween 0 p0 9)) (by omega)  rfl) ?_
    refine ev_if_eq (pc := 22) (tgt := 40) dX11_misheard_22 (by decide) (fun b2 => ?_) (fun b2 => ?_)
    · rw [if_pos b2] at h
      refine ev_bipush (pc := 40) (x := (-2)) dX11_misheard_40 cb_m2 ?_
      cases h
      exact ev_iret (pc := 42) dX11_misheard_42 rfl
    · rw [if_neg b2] at h
      refine ev_iconst (pc := 25) (x := 0) dX11_misheard_25 ci_0 ?_
      refine ev_iload_n (pc := 26) 2 dX11_misheard_26 rfl rfl ?_
      refine ev_bipush (pc := 27) (x := 9) dX11_misheard_27 cb_9 ?_
      refine ev_cS (pc := 29) [vI 0, vI p1, vI 9] [] rfl mkX11_isBetween ml11_86 msX11_isBetween dX11_misheard_29 rfl (Nat.le_of_ble_eq_true rfl) (by omega) rfl (e_X11_isBetween (d := d - 1) (v := (f_X11_isBetween 0 p1 9)) (by omega)  rfl) ?_
      refine ev_if_eq (pc := 32) (tgt := 40) dX11_misheard_32 (by decide) (fun b3 => ?_) (fun b3 => ?_)
      · rw [if_pos b3] at h
        refine ev_bipush (pc := 40) (x := (-2)) dX11_misheard_40 cb_m2 ?_
        cases h
        exact ev_iret (pc := 42) dX11_misheard_42 rfl
      · rw [if_neg b3] at h
        refine ev_iload_n (pc := 35) 1 dX11_misheard_35 rfl rfl ?_
        refine ev_iload_n (pc := 36) 2 dX11_misheard_36 rfl rfl ?_
        refine ev_icmp_ne (pc := 37) (tgt := 43) dX11_misheard_37 (by decide) (fun b4 => ?_) (fun b4 => ?_)
        · rw [if_pos b4] at h
          refine ev_aload_n (pc := 43) 0 dX11_misheard_43 rfl rfl ?_
          refine ev_getR (pc := 44) fl11_28 rfl dX11_misheard_44 rfl kd_1 (by omega) (rf_1_3 _) ?_
          refine ev_getIc (pc := 47) fl11_318 rfl dX11_misheard_47 rfl (told_k told_c346) (told_nz told_c346) (told_n9 told_c346) 6 rfl ?_
          refine ev_bipush (pc := 50) (x := 15) dX11_misheard_50 cb_15 ?_
          refine ev_icmp_lt (pc := 52) (tgt := 58) dX11_misheard_52 (by decide) (fun b5 => ?_) (fun b5 => ?_)
          · rw [if_pos b5] at h
            refine ev_aload_n (pc := 58) 0 dX11_misheard_58 rfl rfl ?_
            refine ev_getR (pc := 59) fl11_28 rfl dX11_misheard_59 rfl kd_1 (by omega) (rf_1_3 _) ?_
            refine ev_iload_n (pc := 62) 1 dX11_misheard_62 rfl rfl ?_
            refine ev_iload_n (pc := 63) 2 dX11_misheard_63 rfl rfl ?_
            obtain ⟨q6, hq6, h⟩ := bd h
            refine ev_cV0 (pc := 64) [vI p0, vI p1] [] rfl mkX7_addMisheard ml11_321 mnX7_addMisheard dX11_misheard_64 (told_k told_c346) (told_nz told_c346) rfl (Nat.le_of_ble_eq_true rfl) (by omega) (e_X7_addMisheard (d := d - 1) (M' := q6) (by omega) told_c346 hq6) ?_
            refine ev_aload_n (pc := 67) 0 dX11_misheard_67 rfl rfl ?_
            refine ev_getR (pc := 68) fl11_28 rfl dX11_misheard_68 rfl kd_1 (by omega) (rf_1_3 _) ?_
            refine ev_getIc (pc := 71) fl11_318 rfl dX11_misheard_71 rfl (told_k told_c346) (told_nz told_c346) (told_n9 told_c346) 6 rfl ?_
            cases h
            exact ev_iret (pc := 74) dX11_misheard_74 rfl
          · rw [if_neg b5] at h
            refine ev_bipush (pc := 55) (x := (-2)) dX11_misheard_55 cb_m2 ?_
            cases h
            exact ev_iret (pc := 57) dX11_misheard_57 rfl
        · rw [if_neg b4] at h
          refine ev_bipush (pc := 40) (x := (-2)) dX11_misheard_40 cb_m2 ?_
          cases h
          exact ev_iret (pc := 42) dX11_misheard_42 rfl
  · rw [if_neg b1] at h
    refine ev_aload_n (pc := 5) 0 dX11_misheard_5 rfl rfl ?_
    refine ev_getR (pc := 6) fl11_28 rfl dX11_misheard_6 rfl kd_1 (by omega) (rf_1_3 _) ?_
    refine ev_iconst (pc := 9) (x := 0) dX11_misheard_9 ci_0 ?_
    obtain ⟨M7, eM7, h⟩ := lt_some h
    refine ev_putIc (pc := 10) fl11_318 rfl dX11_misheard_10 (told_k told_c346) (told_nz told_c346) (told_n9 told_c346) eM7 ?_
    refine ev_iconst (pc := 13) (x := 0) dX11_misheard_13 ci_0 ?_
    cases h
    exact ev_iret (pc := 14) dX11_misheard_14 rfl
def f_X11_apart_L16 : Nat → Int → Int → Int → Mem → Option (Int)
  | 0, _, _, _, _ => none
  | n + 1, x1, x2, x3, M => if (bShl 1 x1) ≤ x3 then (some x2) else (if (f_J6_bitCount_0f7a4 x3) ≤ (f_J6_bitCount_0f7a4 x2) then (f_X11_apart_L16 n x1 x2 (wI (x3 + 1)) M) else ((f_X7_areApart n 346 x3 M).bind fun q4 => if q4 = 0 then (f_X11_apart_L16 n x1 x2 (wI (x3 + 1)) M) else (f_X11_apart_L16 n x1 x3 (wI (x3 + 1)) M)))
set_option maxRecDepth 100000 in
set_option maxHeartbeats 4000000 in
theorem e_X11_apart_L16 {g : Gm} {d : Nat} {x1 : Int} {r : Vv} {σ' : Sg} {M N : Mem} (hd : 1 ≤ d) : ∀ (n : Nat) {x2 x3 : Int} {q : Int}, f_X11_apart_L16 n x1 x2 x3 M = some q → Ev g d mtX11_apart 53 [(2, vI q)] [] (sg (mx M N)) (0, 0) r σ' → Ev g d mtX11_apart 16 [(0, vR 1), (1, vI x1), (2, vI x2), (3, vI x3)] [] (sg (mx M N)) (0, 0) r σ' := by
  intro n
  induction n with
  | zero =>
    intro x2 x3 q h hk0
    rw [f_X11_apart_L16.eq_1] at h
    cases h
  | succ n ih =>
    intro x2 x3 q h hk0
    rw [f_X11_apart_L16.eq_2] at h
    refine ev_iload_n (pc := 16) 3 dX11_apart_16 rfl rfl ?_
    refine ev_iconst (pc := 17) (x := 1) dX11_apart_17 ci_1 ?_
    refine ev_iload_n (pc := 18) 1 dX11_apart_18 rfl rfl ?_
    refine ev_ishl (pc := 19) dX11_apart_19 ?_
    refine ev_icmp_ge (pc := 20) (tgt := 53) dX11_apart_20 (by decide) (fun b2 => ?_) (fun b2 => ?_)
    · rw [if_pos b2] at h
      cases h
      refine ev_pick [2] rfl ?_
      exact hk0
    · rw [if_neg b2] at h
      refine ev_iload_n (pc := 23) 3 dX11_apart_23 rfl rfl ?_
      refine ev_cS (pc := 24) [vI x3] [] rfl mkJ6_bitCount_0f7a4 ml11_254 msJ6_bitCount_0f7a4 dX11_apart_24 rfl (Nat.le_of_ble_eq_true rfl) (by omega) rfl (e_J6_bitCount_0f7a4 (d := d - 1) (v := (f_J6_bitCount_0f7a4 x3)) (by omega)  rfl) ?_
      refine ev_iload_n (pc := 27) 2 dX11_apart_27 rfl rfl ?_
      refine ev_cS (pc := 28) [vI x2] [vI (f_J6_bitCount_0f7a4 x3)] rfl mkJ6_bitCount_0f7a4 ml11_254 msJ6_bitCount_0f7a4 dX11_apart_28 rfl (Nat.le_of_ble_eq_true rfl) (by omega) rfl (e_J6_bitCount_0f7a4 (d := d - 1) (v := (f_J6_bitCount_0f7a4 x2)) (by omega)  rfl) ?_
      refine ev_icmp_le (pc := 31) (tgt := 47) dX11_apart_31 (by decide) (fun b3 => ?_) (fun b3 => ?_)
      · rw [if_pos b3] at h
        refine ev_iinc (pc := 47) (il' := [(3, vI (wI (x3 + 1))), (0, vR 1), (1, vI x1), (2, vI x2)]) 3 dX11_apart_47 rfl (Nat.le_of_ble_eq_true rfl) rfl rfl ?_
        refine ev_goto (pc := 50) (tgt := 16) dX11_apart_50 (by decide) ?_
        refine ev_pick [1, 2, 3, 0] rfl ?_
        exact ih h hk0
      · rw [if_neg b3] at h
        refine ev_aload_n (pc := 34) 0 dX11_apart_34 rfl rfl ?_
        refine ev_getR (pc := 35) fl11_28 rfl dX11_apart_35 rfl kd_1 (by omega) (rf_1_3 _) ?_
        refine ev_iload_n (pc := 38) 3 dX11_apart_38 rfl rfl ?_
        obtain ⟨q4, hq4, h⟩ := bd h
        refine ev_cV (pc := 39) [vI x3] [] rfl mkX7_areApart ml11_324 mnX7_areApart dX11_apart_39 (told_k told_c346) (told_nz told_c346) rfl (Nat.le_of_ble_eq_true rfl) (by omega) rfl (e_X7_areApart (d := d - 1) (v := q4) (by omega) told_c346 hq4) ?_
        refine ev_if_eq (pc := 42) (tgt := 47) dX11_apart_42 (by decide) (fun b5 => ?_) (fun b5 => ?_)
        · rw [if_pos b5] at h
          refine ev_iinc (pc := 47) (il' := [(3, vI (wI (x3 + 1))), (0, vR 1), (1, vI x1), (2, vI x2)]) 3 dX11_apart_47 rfl (Nat.le_of_ble_eq_true rfl) rfl rfl ?_
          refine ev_goto (pc := 50) (tgt := 16) dX11_apart_50 (by decide) ?_
          refine ev_pick [1, 2, 3, 0] rfl ?_
          exact ih h hk0
        · rw [if_neg b5] at h
          refine ev_iload_n (pc := 45) 3 dX11_apart_45 rfl rfl ?_
          refine ev_istore_n (pc := 46) (il' := [(2, vI x3), (0, vR 1), (1, vI x1), (3, vI x3)]) dX11_apart_46 rfl (Nat.le_of_ble_eq_true rfl) rfl ?_
          refine ev_iinc (pc := 47) (il' := [(3, vI (wI (x3 + 1))), (2, vI x3), (0, vR 1), (1, vI x1)]) 3 dX11_apart_47 rfl (Nat.le_of_ble_eq_true rfl) rfl rfl ?_
          refine ev_goto (pc := 50) (tgt := 16) dX11_apart_50 (by decide) ?_
          refine ev_pick [2, 3, 1, 0] rfl ?_
          exact ih h hk0
def f_X11_apart (n : Nat) (p0 : Int) (M : Mem) : Option (Int) := if (f_X11_isBetween 1 p0 10) ≠ 0 then ((f_X11_apart_L16 n p0 0 1 M).bind fun q6 => some q6) else (some (-1))
set_option maxRecDepth 100000 in
set_option maxHeartbeats 4000000 in
theorem e_X11_apart {g : Gm} {d : Nat} {n : Nat} {p0 : Int} {M N : Mem} {v : Int} (hd : 1 ≤ d) (h : f_X11_apart n p0 M = some v) : EvM g d mtX11_apart [vR 1, vI p0] (sg (mx M N)) (0, 0) (vI v) (sg (mx M N)) := by
  unfold f_X11_apart at h
  refine EvM.of mkX11_apart.2.2.2.1 (Nat.le_of_ble_eq_true rfl) ?_
  change Ev g d mtX11_apart 0 [(0, vR 1), (1, vI p0)] [] (sg (mx M N)) (0, 0) (vI v) (sg (mx M N))
  refine ev_iconst (pc := 0) (x := 1) dX11_apart_0 ci_1 ?_
  refine ev_iload_n (pc := 1) 1 dX11_apart_1 rfl rfl ?_
  refine ev_bipush (pc := 2) (x := 10) dX11_apart_2 cb_10 ?_
  refine ev_cS (pc := 4) [vI 1, vI p0, vI 10] [] rfl mkX11_isBetween ml11_86 msX11_isBetween dX11_apart_4 rfl (Nat.le_of_ble_eq_true rfl) (by omega) rfl (e_X11_isBetween (d := d - 1) (v := (f_X11_isBetween 1 p0 10)) (by omega)  rfl) ?_
  refine ev_if_ne (pc := 7) (tgt := 12) dX11_apart_7 (by decide) (fun b1 => ?_) (fun b1 => ?_)
  · rw [if_pos b1] at h
    refine ev_iconst (pc := 12) (x := 0) dX11_apart_12 ci_0 ?_
    refine ev_istore_n (pc := 13) (il' := [(2, vI 0), (0, vR 1), (1, vI p0)]) dX11_apart_13 rfl (Nat.le_of_ble_eq_true rfl) rfl ?_
    refine ev_iconst (pc := 14) (x := 1) dX11_apart_14 ci_1 ?_
    refine ev_istore_n (pc := 15) (il' := [(3, vI 1), (2, vI 0), (0, vR 1), (1, vI p0)]) dX11_apart_15 rfl (Nat.le_of_ble_eq_true rfl) rfl ?_
    obtain ⟨q6, hq6, h⟩ := bd h
    refine ev_pick [2, 3, 1, 0] rfl ?_
    refine e_X11_apart_L16 hd  n hq6 ?_
    refine ev_iload_n (pc := 53) 0 dX11_apart_53 rfl rfl ?_
    cases h
    exact ev_iret (pc := 54) dX11_apart_54 rfl
  · rw [if_neg b1] at h
    refine ev_iconst (pc := 10) (x := (-1)) dX11_apart_10 ci_m1 ?_
    cases h
    exact ev_iret (pc := 11) dX11_apart_11 rfl
def f_X11_chains_L19 : Nat → Int → Int → Int → Int → Mem → Option (Int)
  | 0, _, _, _, _, _ => none
  | n + 1, x1, x2, x3, x4, M => if x1 ≤ x4 then (some x2) else (if (bAnd x3 (bShl 1 x4)) ≠ 0 then (f_X11_chains_L19 n x1 x2 x3 (wI (x4 + 1)) M) else ((f_X7_chainOf n 346 x4 x1 M).bind fun q4 => f_X11_chains_L19 n x1 (wI (x2 + 1)) (bOr x3 q4) (wI (x4 + 1)) M))
set_option maxRecDepth 100000 in
set_option maxHeartbeats 4000000 in
theorem e_X11_chains_L19 {g : Gm} {d : Nat} {x1 : Int} {r : Vv} {σ' : Sg} {M N : Mem} (hd : 1 ≤ d) : ∀ (n : Nat) {x2 x3 x4 : Int} {q : Int}, f_X11_chains_L19 n x1 x2 x3 x4 M = some q → Ev g d mtX11_chains 56 [(2, vI q)] [] (sg (mx M N)) (0, 0) r σ' → Ev g d mtX11_chains 19 [(0, vR 1), (1, vI x1), (2, vI x2), (3, vI x3), (4, vI x4)] [] (sg (mx M N)) (0, 0) r σ' := by
  intro n
  induction n with
  | zero =>
    intro x2 x3 x4 q h hk0
    rw [f_X11_chains_L19.eq_1] at h
    cases h
  | succ n ih =>
    intro x2 x3 x4 q h hk0
    rw [f_X11_chains_L19.eq_2] at h
    refine ev_iload (pc := 19) 4 dX11_chains_19 rfl ?_
    refine ev_iload_n (pc := 21) 1 dX11_chains_21 rfl rfl ?_
    refine ev_icmp_ge (pc := 22) (tgt := 56) dX11_chains_22 (by decide) (fun b2 => ?_) (fun b2 => ?_)
    · rw [if_pos b2] at h
      cases h
      refine ev_pick [2] rfl ?_
      exact hk0
    · rw [if_neg b2] at h
      refine ev_iload_n (pc := 25) 3 dX11_chains_25 rfl rfl ?_
      refine ev_iconst (pc := 26) (x := 1) dX11_chains_26 ci_1 ?_
      refine ev_iload (pc := 27) 4 dX11_chains_27 rfl ?_
      refine ev_ishl (pc := 29) dX11_chains_29 ?_
      refine ev_iand (pc := 30) dX11_chains_30 ?_
      refine ev_if_ne (pc := 31) (tgt := 50) dX11_chains_31 (by decide) (fun b3 => ?_) (fun b3 => ?_)
      · rw [if_pos b3] at h
        refine ev_iinc (pc := 50) (il' := [(4, vI (wI (x4 + 1))), (0, vR 1), (1, vI x1), (2, vI x2), (3, vI x3)]) 4 dX11_chains_50 rfl (Nat.le_of_ble_eq_true rfl) rfl rfl ?_
        refine ev_goto (pc := 53) (tgt := 19) dX11_chains_53 (by decide) ?_
        refine ev_pick [1, 2, 3, 4, 0] rfl ?_
        exact ih h hk0
      · rw [if_neg b3] at h
        refine ev_iload_n (pc := 34) 3 dX11_chains_34 rfl rfl ?_
        refine ev_aload_n (pc := 35) 0 dX11_chains_35 rfl rfl ?_
        refine ev_getR (pc := 36) fl11_28 rfl dX11_chains_36 rfl kd_1 (by omega) (rf_1_3 _) ?_
        refine ev_iload (pc := 39) 4 dX11_chains_39 rfl ?_
        refine ev_iload_n (pc := 41) 1 dX11_chains_41 rfl rfl ?_
        obtain ⟨q4, hq4, h⟩ := bd h
        refine ev_cV (pc := 42) [vI x4, vI x1] [vI x3] rfl mkX7_chainOf ml11_327 mnX7_chainOf dX11_chains_42 (told_k told_c346) (told_nz told_c346) rfl (Nat.le_of_ble_eq_true rfl) (by omega) rfl (e_X7_chainOf (d := d - 1) (v := q4) (by omega) told_c346 hq4) ?_
        refine ev_ior (pc := 45) dX11_chains_45 ?_
        refine ev_istore_n (pc := 46) (il' := [(3, vI (bOr x3 q4)), (0, vR 1), (1, vI x1), (2, vI x2), (4, vI x4)]) dX11_chains_46 rfl (Nat.le_of_ble_eq_true rfl) rfl ?_
        refine ev_iinc (pc := 47) (il' := [(2, vI (wI (x2 + 1))), (3, vI (bOr x3 q4)), (0, vR 1), (1, vI x1), (4, vI x4)]) 3 dX11_chains_47 rfl (Nat.le_of_ble_eq_true rfl) rfl rfl ?_
        refine ev_iinc (pc := 50) (il' := [(4, vI (wI (x4 + 1))), (2, vI (wI (x2 + 1))), (3, vI (bOr x3 q4)), (0, vR 1), (1, vI x1)]) 4 dX11_chains_50 rfl (Nat.le_of_ble_eq_true rfl) rfl rfl ?_
        refine ev_goto (pc := 53) (tgt := 19) dX11_chains_53 (by decide) ?_
        refine ev_pick [3, 4, 1, 2, 0] rfl ?_
        exact ih h hk0
def f_X11_chains (n : Nat) (p0 : Int) (M : Mem) : Option (Int) := if (f_X11_isBetween 1 p0 10) ≠ 0 then ((f_X11_chains_L19 n p0 0 0 0 M).bind fun q5 => some q5) else (some (-1))
set_option maxRecDepth 100000 in
set_option maxHeartbeats 4000000 in
theorem e_X11_chains {g : Gm} {d : Nat} {n : Nat} {p0 : Int} {M N : Mem} {v : Int} (hd : 1 ≤ d) (h : f_X11_chains n p0 M = some v) : EvM g d mtX11_chains [vR 1, vI p0] (sg (mx M N)) (0, 0) (vI v) (sg (mx M N)) := by
  unfold f_X11_chains at h
  refine EvM.of mkX11_chains.2.2.2.1 (Nat.le_of_ble_eq_true rfl) ?_
  change Ev g d mtX11_chains 0 [(0, vR 1), (1, vI p0)] [] (sg (mx M N)) (0, 0) (vI v) (sg (mx M N))
  refine ev_iconst (pc := 0) (x := 1) dX11_chains_0 ci_1 ?_
  refine ev_iload_n (pc := 1) 1 dX11_chains_1 rfl rfl ?_
  refine ev_bipush (pc := 2) (x := 10) dX11_chains_2 cb_10 ?_
  refine ev_cS (pc := 4) [vI 1, vI p0, vI 10] [] rfl mkX11_isBetween ml11_86 msX11_isBetween dX11_chains_4 rfl (Nat.le_of_ble_eq_true rfl) (by omega) rfl (e_X11_isBetween (d := d - 1) (v := (f_X11_isBetween 1 p0 10)) (by omega)  rfl) ?_
  refine ev_if_ne (pc := 7) (tgt := 12) dX11_chains_7 (by decide) (fun b1 => ?_) (fun b1 => ?_)
  · rw [if_pos b1] at h
    refine ev_iconst (pc := 12) (x := 0) dX11_chains_12 ci_0 ?_
    refine ev_istore_n (pc := 13) (il' := [(2, vI 0), (0, vR 1), (1, vI p0)]) dX11_chains_13 rfl (Nat.le_of_ble_eq_true rfl) rfl ?_
    refine ev_iconst (pc := 14) (x := 0) dX11_chains_14 ci_0 ?_
    refine ev_istore_n (pc := 15) (il' := [(3, vI 0), (2, vI 0), (0, vR 1), (1, vI p0)]) dX11_chains_15 rfl (Nat.le_of_ble_eq_true rfl) rfl ?_
    refine ev_iconst (pc := 16) (x := 0) dX11_chains_16 ci_0 ?_
    refine ev_istore (pc := 17) (il' := [(4, vI 0), (3, vI 0), (2, vI 0), (0, vR 1), (1, vI p0)]) dX11_chains_17 (Nat.le_of_ble_eq_true rfl) rfl ?_
    obtain ⟨q5, hq5, h⟩ := bd h
    refine ev_pick [3, 4, 2, 1, 0] rfl ?_
    refine e_X11_chains_L19 hd  n hq5 ?_
    refine ev_iload_n (pc := 56) 0 dX11_chains_56 rfl rfl ?_
    cases h
    exact ev_iret (pc := 57) dX11_chains_57 rfl
  · rw [if_neg b1] at h
    refine ev_iconst (pc := 10) (x := (-1)) dX11_chains_10 ci_m1 ?_
    cases h
    exact ev_iret (pc := 11) dX11_chains_11 rfl
def f_X11_waiting (n : Nat) (p0 p1 : Int) (M : Mem) : Option (Int) := if (f_X11_isStep p0 M) = 0 then (some (-1)) else ((f_X5_bound n 3 p0 p1 M).bind fun q2 => some q2)
set_option maxRecDepth 100000 in
set_option maxHeartbeats 4000000 in
theorem e_X11_waiting {g : Gm} {d : Nat} {n : Nat} {p0 p1 : Int} {M N : Mem} {v : Int} (hd : 2 ≤ d) (h : f_X11_waiting n p0 p1 M = some v) : EvM g d mtX11_waiting [vR 1, vI p0, vI p1] (sg (mx M N)) (0, 0) (vI v) (sg (mx M N)) := by
  unfold f_X11_waiting at h
  refine EvM.of mkX11_waiting.2.2.2.1 (Nat.le_of_ble_eq_true rfl) ?_
  change Ev g d mtX11_waiting 0 [(0, vR 1), (1, vI p0), (2, vI p1)] [] (sg (mx M N)) (0, 0) (vI v) (sg (mx M N))
  refine ev_aload_n (pc := 0) 0 dX11_waiting_0 rfl rfl ?_
  refine ev_iload_n (pc := 1) 1 dX11_waiting_1 rfl rfl ?_
  refine ev_cV (pc := 2) [vI p0] [] rfl mkX11_isStep ml11_102 mnX11_isStep dX11_waiting_2 kd_1 (by omega) rfl (Nat.le_of_ble_eq_true rfl) (by omega) rfl (e_X11_isStep (d := d - 1) (v := (f_X11_isStep p0 M)) (by omega)  rfl) ?_
  refine ev_if_eq (pc := 5) (tgt := 20) dX11_waiting_5 (by decide) (fun b1 => ?_) (fun b1 => ?_)
  · rw [if_pos b1] at h
    refine ev_iconst (pc := 20) (x := (-1)) dX11_waiting_20 ci_m1 ?_
    cases h
    exact ev_iret (pc := 21) dX11_waiting_21 rfl
  · rw [if_neg b1] at h
    refine ev_aload_n (pc := 8) 0 dX11_waiting_8 rfl rfl ?_
    refine ev_getR (pc := 9) fl11_23 rfl dX11_waiting_9 rfl kd_1 (by omega) (rf_1_2 _) ?_
    refine ev_iload_n (pc := 12) 1 dX11_waiting_12 rfl rfl ?_
    refine ev_iload_n (pc := 13) 2 dX11_waiting_13 rfl rfl ?_
    obtain ⟨q2, hq2, h⟩ := bd h
    refine ev_cV (pc := 14) [vI p0, vI p1] [] rfl mkX5_bound ml11_330 mnX5_bound dX11_waiting_14 (sea_k sea_c3) (sea_nz sea_c3) rfl (Nat.le_of_ble_eq_true rfl) (by omega) rfl (e_X5_bound (d := d - 1) (v := q2) (by omega) sea_c3 hq2) ?_
    refine ev_goto (pc := 17) (tgt := 21) dX11_waiting_17 (by decide) ?_
    cases h
    exact ev_iret (pc := 21) dX11_waiting_21 rfl
def f_X11_run_L34 : Nat → Int → Int → Int → Int → Mem → Option (Int × Mem)
  | 0, _, _, _, _, _ => none
  | n + 1, x1, x2, x3, x4, M => if 48 < x4 then (some ((-1), M)) else ((f_X5_onGoals n 762 M).bind fun q4 => if q4 ≠ x2 then ((f_X1_passOne n 762 M).bind fun q6 => f_X11_run_L34 n x1 x2 q4 (wI (x4 + 1)) q6.2) else (if x1 = 0 then (some (x4, M)) else ((f_X11_lowest n (bAnd q4 (bXor x3 (-1)))).bind fun q8 => some (q8, M))))
set_option maxRecDepth 100000 in
set_option maxHeartbeats 4000000 in
theorem e_X11_run_L34 {g : Gm} {d : Nat} {x1 x2 : Int} {N : Mem} (hd : 6 ≤ d) : ∀ (n : Nat) {x3 x4 : Int} {M : Mem} {v : Int} {M' : Mem}, f_X11_run_L34 n x1 x2 x3 x4 M = some (v, M') → Ev g d mtX11_run 34 [(0, vR 1), (1, vI x1), (2, vI x2), (3, vI x3), (4, vI x4)] [] (sg (mx M N)) (0, 0) (vI v) (sg (mx M' N)) := by
  intro n
  induction n with
  | zero =>
    intro x3 x4 M v M' h
    rw [f_X11_run_L34.eq_1] at h
    cases h
  | succ n ih =>
    intro x3 x4 M v M' h
    rw [f_X11_run_L34.eq_2] at h
    refine ev_iload (pc := 34) 4 dX11_run_34 rfl ?_
    refine ev_bipush (pc := 36) (x := 48) dX11_run_36 cb_48 ?_
    refine ev_icmp_gt (pc := 38) (tgt := 96) dX11_run_38 (by decide) (fun b3 => ?_) (fun b3 => ?_)
    · rw [if_pos b3] at h
      refine ev_iconst (pc := 96) (x := (-1)) dX11_run_96 ci_m1 ?_
      cases h
      exact ev_iret (pc := 97) dX11_run_97 rfl
    · rw [if_neg b3] at h
      refine ev_aload_n (pc := 41) 0 dX11_run_41 rfl rfl ?_
      refine ev_getR (pc := 42) fl11_82 rfl dX11_run_42 rfl kd_1 (by omega) (rf_1_11 _) ?_
      obtain ⟨q4, hq4, h⟩ := bd h
      refine ev_cV (pc := 45) [] [] rfl mkX5_onGoals ml11_334 mnX5_onGoals dX11_run_45 (sea_k sea_c762) (sea_nz sea_c762) rfl (Nat.le_of_ble_eq_true rfl) (by omega) rfl (e_X5_onGoals (d := d - 1) (v := q4) (by omega) sea_c762 hq4) ?_
      refine ev_istore (pc := 48) (il' := [(5, vI q4), (0, vR 1), (1, vI x1), (2, vI x2), (3, vI x3), (4, vI x4)]) dX11_run_48 (Nat.le_of_ble_eq_true rfl) rfl ?_
      refine ev_iload (pc := 50) 0 dX11_run_50 rfl ?_
      refine ev_iload_n (pc := 52) 3 dX11_run_52 rfl rfl ?_
      refine ev_icmp_ne (pc := 53) (tgt := 75) dX11_run_53 (by decide) (fun b5 => ?_) (fun b5 => ?_)
      · rw [if_pos b5] at h
        refine ev_iload (pc := 75) 0 dX11_run_75 rfl ?_
        refine ev_istore_n (pc := 77) (il' := [(3, vI q4), (5, vI q4), (0, vR 1), (1, vI x1), (2, vI x2), (4, vI x4)]) dX11_run_77 rfl (Nat.le_of_ble_eq_true rfl) rfl ?_
        refine ev_aload_n (pc := 78) 2 dX11_run_78 rfl rfl ?_
        refine ev_getR (pc := 79) fl11_54 rfl dX11_run_79 rfl kd_1 (by omega) (rf_1_7 _) ?_
        refine ev_aload_n (pc := 82) 2 dX11_run_82 rfl rfl ?_
        refine ev_getR (pc := 83) fl11_82 rfl dX11_run_83 rfl kd_1 (by omega) (rf_1_11 _) ?_
        obtain ⟨q6, hq6, h⟩ := bd h
        refine ev_cV (pc := 86) [vR 762] [] rfl mkX1_passOne ml11_234 mnX1_passOne dX11_run_86 kd_714 (by omega) rfl (Nat.le_of_ble_eq_true rfl) (by omega) rfl (e_X1_passOne (d := d - 1) (v := q6.1) (M' := q6.2) (by omega) sea_c762 hq6) ?_
        refine ev_pop (pc := 89) rfl dX11_run_89 ?_
        refine ev_iinc (pc := 90) (il' := [(4, vI (wI (x4 + 1))), (3, vI q4), (5, vI q4), (0, vR 1), (1, vI x1), (2, vI x2)]) 5 dX11_run_90 rfl (Nat.le_of_ble_eq_true rfl) rfl rfl ?_
        refine ev_goto (pc := 93) (tgt := 34) dX11_run_93 (by decide) ?_
        refine ev_pick [3, 4, 5, 1, 0] rfl ?_
        exact ih h
      · rw [if_neg b5] at h
        refine ev_iload_n (pc := 56) 2 dX11_run_56 rfl rfl ?_
        refine ev_if_eq (pc := 57) (tgt := 72) dX11_run_57 (by decide) (fun b7 => ?_) (fun b7 => ?_)
        · rw [if_pos b7] at h
          refine ev_iload (pc := 72) 5 dX11_run_72 rfl ?_
          cases h
          exact ev_iret (pc := 74) dX11_run_74 rfl
        · rw [if_neg b7] at h
          refine ev_iload (pc := 60) 0 dX11_run_60 rfl ?_
          refine ev_iload_n (pc := 62) 4 dX11_run_62 rfl rfl ?_
          refine ev_iconst (pc := 63) (x := (-1)) dX11_run_63 ci_m1 ?_
          refine ev_ixor (pc := 64) dX11_run_64 ?_
          refine ev_iand (pc := 65) dX11_run_65 ?_
          obtain ⟨q8, hq8, h⟩ := bd h
          refine ev_cS (pc := 66) [vI (bAnd q4 (bXor x3 (-1)))] [] rfl mkX11_lowest ml11_337 msX11_lowest dX11_run_66 rfl (Nat.le_of_ble_eq_true rfl) (by omega) rfl (e_X11_lowest (d := d - 1) (v := q8) (by omega)  hq8) ?_
          refine ev_goto (pc := 69) (tgt := 74) dX11_run_69 (by decide) ?_
          cases h
          exact ev_iret (pc := 74) dX11_run_74 rfl
def f_X11_run (n : Nat) (p0 : Int) (M : Mem) : Option (Int × Mem) := if (M 3 6) ≠ 0 then ((f_X11_lookAhead n 0 M).bind fun q2 => f_X11_run_L34 n p0 (wI ((bShl 1 (M 3 6)) - 1)) 0 0 q2) else (some ((-1), M))
set_option maxRecDepth 100000 in
set_option maxHeartbeats 4000000 in
theorem e_X11_run {g : Gm} {d : Nat} {n : Nat} {p0 : Int} {M N : Mem} {v : Int} {M' : Mem} (hd : 6 ≤ d) (h : f_X11_run n p0 M = some (v, M')) : EvM g d mtX11_run [vR 1, vI p0] (sg (mx M N)) (0, 0) (vI v) (sg (mx M' N)) := by
  unfold f_X11_run at h
  refine EvM.of mkX11_run.2.2.2.1 (Nat.le_of_ble_eq_true rfl) ?_
  change Ev g d mtX11_run 0 [(0, vR 1), (1, vI p0)] [] (sg (mx M N)) (0, 0) (vI v) (sg (mx M' N))
  refine ev_aload_n (pc := 0) 0 dX11_run_0 rfl rfl ?_
  refine ev_getR (pc := 1) fl11_23 rfl dX11_run_1 rfl kd_1 (by omega) (rf_1_2 _) ?_
  refine ev_getIc (pc := 4) fl11_105 rfl dX11_run_4 rfl (sea_k sea_c3) (sea_nz sea_c3) (sea_n9 sea_c3) 6 rfl ?_
  refine ev_if_ne (pc := 7) (tgt := 12) dX11_run_7 (by decide) (fun b1 => ?_) (fun b1 => ?_)
  · rw [if_pos b1] at h
    refine ev_iconst (pc := 12) (x := 1) dX11_run_12 ci_1 ?_
    refine ev_aload_n (pc := 13) 0 dX11_run_13 rfl rfl ?_
    refine ev_getR (pc := 14) fl11_23 rfl dX11_run_14 rfl kd_1 (by omega) (rf_1_2 _) ?_
    refine ev_getIc (pc := 17) fl11_105 rfl dX11_run_17 rfl (sea_k sea_c3) (sea_nz sea_c3) (sea_n9 sea_c3) 6 rfl ?_
    refine ev_ishl (pc := 20) dX11_run_20 ?_
    refine ev_iconst (pc := 21) (x := 1) dX11_run_21 ci_1 ?_
    refine ev_isub (pc := 22) dX11_run_22 ?_
    refine ev_istore_n (pc := 23) (il' := [(2, vI (wI ((bShl 1 (M 3 6)) - 1))), (0, vR 1), (1, vI p0)]) dX11_run_23 rfl (Nat.le_of_ble_eq_true rfl) rfl ?_
    refine ev_iconst (pc := 24) (x := 0) dX11_run_24 ci_0 ?_
    refine ev_istore_n (pc := 25) (il' := [(3, vI 0), (2, vI (wI ((bShl 1 (M 3 6)) - 1))), (0, vR 1), (1, vI p0)]) dX11_run_25 rfl (Nat.le_of_ble_eq_true rfl) rfl ?_
    refine ev_aload_n (pc := 26) 2 dX11_run_26 rfl rfl ?_
    refine ev_iconst (pc := 27) (x := 0) dX11_run_27 ci_0 ?_
    obtain ⟨q2, hq2, h⟩ := bd h
    refine ev_cV0 (pc := 28) [vI 0] [] rfl mkX11_lookAhead ml11_231 mnX11_lookAhead dX11_run_28 kd_1 (by omega) rfl (Nat.le_of_ble_eq_true rfl) (by omega) (e_X11_lookAhead (d := d - 1) (M' := q2) (by omega)  hq2) ?_
    refine ev_iconst (pc := 31) (x := 0) dX11_run_31 ci_0 ?_
    refine ev_istore (pc := 32) (il' := [(4, vI 0), (3, vI 0), (2, vI (wI ((bShl 1 (M 3 6)) - 1))), (0, vR 1), (1, vI p0)]) dX11_run_32 (Nat.le_of_ble_eq_true rfl) rfl ?_
    refine ev_pick [3, 4, 2, 1, 0] rfl ?_
    exact e_X11_run_L34 hd  n h
  · rw [if_neg b1] at h
    refine ev_iconst (pc := 10) (x := (-1)) dX11_run_10 ci_m1 ?_
    cases h
    exact ev_iret (pc := 11) dX11_run_11 rfl
def f_X11_image (n : Nat) (M : Mem) : Option (Int × Mem) := (f_X10_copyFrom n 352 2 M).bind fun q1 => some ((q1 3 11), q1)
set_option maxRecDepth 100000 in
set_option maxHeartbeats 4000000 in
theorem e_X11_image {g : Gm} {d : Nat} {n : Nat} {M N : Mem} {v : Int} {M' : Mem} (hd : 5 ≤ d) (h : f_X11_image n M = some (v, M')) : EvM g d mtX11_image [vR 1] (sg (mx M N)) (0, 0) (vI v) (sg (mx M' N)) := by
  unfold f_X11_image at h
  refine EvM.of mkX11_image.2.2.2.1 (Nat.le_of_ble_eq_true rfl) ?_
  change Ev g d mtX11_image 0 [(0, vR 1)] [] (sg (mx M N)) (0, 0) (vI v) (sg (mx M' N))
  refine ev_aload_n (pc := 0) 0 dX11_image_0 rfl rfl ?_
  refine ev_getR (pc := 1) fl11_16 rfl dX11_image_1 rfl kd_1 (by omega) (rf_1_1 _) ?_
  refine ev_aload_n (pc := 4) 0 dX11_image_4 rfl rfl ?_
  refine ev_getR (pc := 5) fl11_12 rfl dX11_image_5 rfl kd_1 (by omega) (rf_1_0 _) ?_
  obtain ⟨q1, hq1, h⟩ := bd h
  refine ev_cV0 (pc := 8) [vR 2] [] rfl mkX10_copyFrom ml11_340 mnX10_copyFrom dX11_image_8 (whole_k whole_c352) (whole_nz whole_c352) rfl (Nat.le_of_ble_eq_true rfl) (by omega) (e_X10_copyFrom (d := d - 1) (M' := q1) (by omega) whole_c352 whole_c2 hq1) ?_
  refine ev_aload_n (pc := 11) 0 dX11_image_11 rfl rfl ?_
  refine ev_getR (pc := 12) fl11_23 rfl dX11_image_12 rfl kd_1 (by omega) (rf_1_2 _) ?_
  refine ev_getIc (pc := 15) fl11_140 rfl dX11_image_15 rfl (sea_k sea_c3) (sea_nz sea_c3) (sea_n9 sea_c3) 11 rfl ?_
  cases h
  exact ev_iret (pc := 18) dX11_image_18 rfl
def f_X11_back (n : Nat) (M : Mem) : Option (Int × Mem) := (f_X10_copyFrom n 2 352 M).bind fun q1 => (f_X11_chooseRuler q1).bind fun q2 => some ((q2 3 11), q2)
set_option maxRecDepth 100000 in
set_option maxHeartbeats 4000000 in
theorem e_X11_back {g : Gm} {d : Nat} {n : Nat} {M N : Mem} {v : Int} {M' : Mem} (hd : 5 ≤ d) (h : f_X11_back n M = some (v, M')) : EvM g d mtX11_back [vR 1] (sg (mx M N)) (0, 0) (vI v) (sg (mx M' N)) := by
  unfold f_X11_back at h
  refine EvM.of mkX11_back.2.2.2.1 (Nat.le_of_ble_eq_true rfl) ?_
  change Ev g d mtX11_back 0 [(0, vR 1)] [] (sg (mx M N)) (0, 0) (vI v) (sg (mx M' N))
  refine ev_aload_n (pc := 0) 0 dX11_back_0 rfl rfl ?_
  refine ev_getR (pc := 1) fl11_12 rfl dX11_back_1 rfl kd_1 (by omega) (rf_1_0 _) ?_
  refine ev_aload_n (pc := 4) 0 dX11_back_4 rfl rfl ?_
  refine ev_getR (pc := 5) fl11_16 rfl dX11_back_5 rfl kd_1 (by omega) (rf_1_1 _) ?_
  obtain ⟨q1, hq1, h⟩ := bd h
  refine ev_cV0 (pc := 8) [vR 352] [] rfl mkX10_copyFrom ml11_340 mnX10_copyFrom dX11_back_8 (whole_k whole_c2) (whole_nz whole_c2) rfl (Nat.le_of_ble_eq_true rfl) (by omega) (e_X10_copyFrom (d := d - 1) (M' := q1) (by omega) whole_c2 whole_c352 hq1) ?_
  refine ev_aload_n (pc := 11) 0 dX11_back_11 rfl rfl ?_
  obtain ⟨q2, hq2, h⟩ := bd h
  refine ev_cV0 (pc := 12) [] [] rfl mkX11_chooseRuler ml11_137 mnX11_chooseRuler dX11_back_12 kd_1 (by omega) rfl (Nat.le_of_ble_eq_true rfl) (by omega) (e_X11_chooseRuler (d := d - 1) (M' := q2) (by omega)  hq2) ?_
  refine ev_aload_n (pc := 15) 0 dX11_back_15 rfl rfl ?_
  refine ev_getR (pc := 16) fl11_23 rfl dX11_back_16 rfl kd_1 (by omega) (rf_1_2 _) ?_
  refine ev_getIc (pc := 19) fl11_140 rfl dX11_back_19 rfl (sea_k sea_c3) (sea_nz sea_c3) (sea_n9 sea_c3) 11 rfl ?_
  cases h
  exact ev_iret (pc := 22) dX11_back_22 rfl
def f_X11_about (p0 : Int) (M : Mem) : Int := (if p0 = 0 then (M 3 0) else (if p0 = 1 then (M 3 6) else (if p0 = 2 then (M 2 3) else (if p0 = 3 then (M 2 4) else (if p0 = 4 then (M 14 2) else (if p0 = 5 then (M 346 0) else (if p0 = 6 then (M 346 3) else (if p0 = 7 then (M 346 6) else (if p0 = 8 then (M 703 1) else (-2))))))))))
set_option maxRecDepth 100000 in
set_option maxHeartbeats 4000000 in
theorem e_X11_about {g : Gm} {d : Nat} {p0 : Int} {M N : Mem} {v : Int} (hd : 0 ≤ d) (h : f_X11_about p0 M = v) : EvM g d mtX11_about [vR 1, vI p0] (sg (mx M N)) (0, 0) (vI v) (sg (mx M N)) := by
  unfold f_X11_about at h
  refine EvM.of mkX11_about.2.2.2.1 (Nat.le_of_ble_eq_true rfl) ?_
  change Ev g d mtX11_about 0 [(0, vR 1), (1, vI p0)] [] (sg (mx M N)) (0, 0) (vI v) (sg (mx M N))
  refine ev_iload_n (pc := 0) 1 dX11_about_0 rfl rfl ?_
  by_cases b1 : p0 = 0
  · rw [if_pos b1] at h
    refine ev_tswIn (pc := 1) (tgt := 52) dX11_about_1 (by omega) (by omega) (by rw [b1] <;> rfl) (by decide) ?_
    refine ev_aload_n (pc := 52) 0 dX11_about_52 rfl rfl ?_
    refine ev_getR (pc := 53) fl11_23 rfl dX11_about_53 rfl kd_1 (by omega) (rf_1_2 _) ?_
    refine ev_getIc (pc := 56) fl11_90 rfl dX11_about_56 rfl (sea_k sea_c3) (sea_nz sea_c3) (sea_n9 sea_c3) 0 rfl ?_
    cases h
    exact ev_iret (pc := 59) dX11_about_59 rfl
  · rw [if_neg b1] at h
    by_cases b2 : p0 = 1
    · rw [if_pos b2] at h
      refine ev_tswIn (pc := 1) (tgt := 60) dX11_about_1 (by omega) (by omega) (by rw [b2] <;> rfl) (by decide) ?_
      refine ev_aload_n (pc := 60) 0 dX11_about_60 rfl rfl ?_
      refine ev_getR (pc := 61) fl11_23 rfl dX11_about_61 rfl kd_1 (by omega) (rf_1_2 _) ?_
      refine ev_getIc (pc := 64) fl11_105 rfl dX11_about_64 rfl (sea_k sea_c3) (sea_nz sea_c3) (sea_n9 sea_c3) 6 rfl ?_
      cases h
      exact ev_iret (pc := 67) dX11_about_67 rfl
    · rw [if_neg b2] at h
      by_cases b3 : p0 = 2
      · rw [if_pos b3] at h
        refine ev_tswIn (pc := 1) (tgt := 68) dX11_about_1 (by omega) (by omega) (by rw [b3] <;> rfl) (by decide) ?_
        refine ev_aload_n (pc := 68) 0 dX11_about_68 rfl rfl ?_
        refine ev_getR (pc := 69) fl11_12 rfl dX11_about_69 rfl kd_1 (by omega) (rf_1_0 _) ?_
        refine ev_getIc (pc := 72) fl11_119 rfl dX11_about_72 rfl (whole_k whole_c2) (whole_nz whole_c2) (whole_n9 whole_c2) 3 rfl ?_
        cases h
        exact ev_iret (pc := 75) dX11_about_75 rfl
      · rw [if_neg b3] at h
        by_cases b4 : p0 = 3
        · rw [if_pos b4] at h
          refine ev_tswIn (pc := 1) (tgt := 76) dX11_about_1 (by omega) (by omega) (by rw [b4] <;> rfl) (by decide) ?_
          refine ev_aload_n (pc := 76) 0 dX11_about_76 rfl rfl ?_
          refine ev_getR (pc := 77) fl11_12 rfl dX11_about_77 rfl kd_1 (by omega) (rf_1_0 _) ?_
          refine ev_getIc (pc := 80) fl11_134 rfl dX11_about_80 rfl (whole_k whole_c2) (whole_nz whole_c2) (whole_n9 whole_c2) 4 rfl ?_
          cases h
          exact ev_iret (pc := 83) dX11_about_83 rfl
        · rw [if_neg b4] at h
          by_cases b5 : p0 = 4
          · rw [if_pos b5] at h
            refine ev_tswIn (pc := 1) (tgt := 84) dX11_about_1 (by omega) (by omega) (by rw [b5] <;> rfl) (by decide) ?_
            refine ev_aload_n (pc := 84) 0 dX11_about_84 rfl rfl ?_
            refine ev_getR (pc := 85) fl11_12 rfl dX11_about_85 rfl kd_1 (by omega) (rf_1_0 _) ?_
            refine ev_getR (pc := 88) fl11_147 rfl dX11_about_88 rfl (whole_k whole_c2) (whole_nz whole_c2) (rf_2_1 _) ?_
            refine ev_getIc (pc := 91) fl11_344 rfl dX11_about_91 rfl (acts_k acts_c14) (acts_nz acts_c14) (acts_n9 acts_c14) 2 rfl ?_
            cases h
            exact ev_iret (pc := 94) dX11_about_94 rfl
          · rw [if_neg b5] at h
            by_cases b6 : p0 = 5
            · rw [if_pos b6] at h
              refine ev_tswIn (pc := 1) (tgt := 95) dX11_about_1 (by omega) (by omega) (by rw [b6] <;> rfl) (by decide) ?_
              refine ev_aload_n (pc := 95) 0 dX11_about_95 rfl rfl ?_
              refine ev_getR (pc := 96) fl11_28 rfl dX11_about_96 rfl kd_1 (by omega) (rf_1_3 _) ?_
              refine ev_getIc (pc := 99) fl11_290 rfl dX11_about_99 rfl (told_k told_c346) (told_nz told_c346) (told_n9 told_c346) 0 rfl ?_
              cases h
              exact ev_iret (pc := 102) dX11_about_102 rfl
            · rw [if_neg b6] at h
              by_cases b7 : p0 = 6
              · rw [if_pos b7] at h
                refine ev_tswIn (pc := 1) (tgt := 103) dX11_about_1 (by omega) (by omega) (by rw [b7] <;> rfl) (by decide) ?_
                refine ev_aload_n (pc := 103) 0 dX11_about_103 rfl rfl ?_
                refine ev_getR (pc := 104) fl11_28 rfl dX11_about_104 rfl kd_1 (by omega) (rf_1_3 _) ?_
                refine ev_getIc (pc := 107) fl11_302 rfl dX11_about_107 rfl (told_k told_c346) (told_nz told_c346) (told_n9 told_c346) 3 rfl ?_
                cases h
                exact ev_iret (pc := 110) dX11_about_110 rfl
              · rw [if_neg b7] at h
                by_cases b8 : p0 = 7
                · rw [if_pos b8] at h
                  refine ev_tswIn (pc := 1) (tgt := 111) dX11_about_1 (by omega) (by omega) (by rw [b8] <;> rfl) (by decide) ?_
                  refine ev_aload_n (pc := 111) 0 dX11_about_111 rfl rfl ?_
                  refine ev_getR (pc := 112) fl11_28 rfl dX11_about_112 rfl kd_1 (by omega) (rf_1_3 _) ?_
                  refine ev_getIc (pc := 115) fl11_318 rfl dX11_about_115 rfl (told_k told_c346) (told_nz told_c346) (told_n9 told_c346) 6 rfl ?_
                  cases h
                  exact ev_iret (pc := 118) dX11_about_118 rfl
                · rw [if_neg b8] at h
                  by_cases b9 : p0 = 8
                  · rw [if_pos b9] at h
                    refine ev_tswIn (pc := 1) (tgt := 119) dX11_about_1 (by omega) (by omega) (by rw [b9] <;> rfl) (by decide) ?_
                    refine ev_aload_n (pc := 119) 0 dX11_about_119 rfl rfl ?_
                    refine ev_getR (pc := 120) fl11_38 rfl dX11_about_120 rfl kd_1 (by omega) (rf_1_5 _) ?_
                    refine ev_getIc (pc := 123) fl11_112 rfl dX11_about_123 rfl kd_703 (by omega) (by omega) 1 rfl ?_
                    cases h
                    exact ev_iret (pc := 126) dX11_about_126 rfl
                  · rw [if_neg b9] at h
                    refine ev_tswOut (pc := 1) (tgt := 127) dX11_about_1 (by omega) (by decide) ?_
                    refine ev_bipush (pc := 127) (x := (-2)) dX11_about_127 cb_m2 ?_
                    cases h
                    exact ev_iret (pc := 129) dX11_about_129 rfl
def f_X12_copy_L2 : Nat → Int → Int → Int → Mem → Option (Mem)
  | 0, _, _, _, _ => none
  | n + 1, p0, p1, x2, M => if 10606 ≤ x2 then (some M) else (ck (0 ≤ x2 ∧ x2 < 10606) (lt (upM M p1 x2 (M p0 x2)) fun M3 => f_X12_copy_L2 n p0 p1 (wI (x2 + 1)) M3))
set_option maxRecDepth 100000 in
set_option maxHeartbeats 4000000 in
theorem e_X12_copy_L2 {g : Gm} {d : Nat} {p0 p1 : Int} {r : Vv} {σ' : Sg} {N : Mem} (hd : 0 ≤ d) (hp0 : K0 p0 = (20, 10606) ∧ p0 ≠ 0 ∧ 801 ≤ p0) (hp1 : K0 p1 = (20, 10606) ∧ p1 ≠ 0 ∧ 801 ≤ p1) : ∀ (n : Nat) {x2 : Int} {M : Mem} {q : Mem}, f_X12_copy_L2 n p0 p1 x2 M = some q → Ev g d mtX12_copy 21 [] [] (sg (mx N q)) (0, 0) r σ' → Ev g d mtX12_copy 2 [(0, vR p0), (1, vR p1), (2, vI x2)] [] (sg (mx N M)) (0, 0) r σ' := by
  intro n
  induction n with
  | zero =>
    intro x2 M q h hk0
    rw [f_X12_copy_L2.eq_1] at h
    cases h
  | succ n ih =>
    intro x2 M q h hk0
    rw [f_X12_copy_L2.eq_2] at h
    refine ev_iload_n (pc := 2) 2 dX12_copy_2 rfl rfl ?_
    refine ev_sipush (pc := 3) (x := 10606) dX12_copy_3 cs_10606 ?_
    refine ev_icmp_ge (pc := 6) (tgt := 21) dX12_copy_6 (by decide) (fun b1 => ?_) (fun b1 => ?_)
    · rw [if_pos b1] at h
      cases h
      refine ev_pick [] rfl ?_
      exact hk0
    · rw [if_neg b1] at h
      refine ev_aload_n (pc := 9) 1 dX12_copy_9 rfl rfl ?_
      refine ev_iload_n (pc := 10) 2 dX12_copy_10 rfl rfl ?_
      refine ev_aload_n (pc := 11) 0 dX12_copy_11 rfl rfl ?_
      refine ev_iload_n (pc := 12) 2 dX12_copy_12 rfl rfl ?_
      obtain ⟨c2, h⟩ := ck_some h
      refine ev_ildr (pc := 13) dX12_copy_13 hp0.1 hp0.2.1 hp0.2.2 c2.1 c2.2 ?_
      obtain ⟨M3, eM3, h⟩ := lt_some h
      refine ev_istr (pc := 14) dX12_copy_14 hp1.1 hp1.2.1 hp1.2.2 c2.1 c2.2 eM3 ?_
      refine ev_iinc (pc := 15) (il' := [(2, vI (wI (x2 + 1))), (0, vR p0), (1, vR p1)]) 2 dX12_copy_15 rfl (Nat.le_of_ble_eq_true rfl) rfl rfl ?_
      refine ev_goto (pc := 18) (tgt := 2) dX12_copy_18 (by decide) ?_
      refine ev_pick [1, 2, 0] rfl ?_
      exact ih h hk0
def f_X12_copy (n : Nat) (p0 p1 : Int) (M : Mem) : Option (Mem) := (f_X12_copy_L2 n p0 p1 0 M).bind fun q4 => some q4
set_option maxRecDepth 100000 in
set_option maxHeartbeats 4000000 in
theorem e_X12_copy {g : Gm} {d : Nat} {n : Nat} {p0 p1 : Int} {M N : Mem} {M' : Mem} (hd : 0 ≤ d) (hp0 : K0 p0 = (20, 10606) ∧ p0 ≠ 0 ∧ 801 ≤ p0) (hp1 : K0 p1 = (20, 10606) ∧ p1 ≠ 0 ∧ 801 ≤ p1) (h : f_X12_copy n p0 p1 M = some M') : EvM g d mtX12_copy [vR p0, vR p1] (sg (mx N M)) (0, 0) vN (sg (mx N M')) := by
  unfold f_X12_copy at h
  refine EvM.of mkX12_copy.2.2.2.1 (Nat.le_of_ble_eq_true rfl) ?_
  change Ev g d mtX12_copy 0 [(0, vR p0), (1, vR p1)] [] (sg (mx N M)) (0, 0) vN (sg (mx N M'))
  refine ev_iconst (pc := 0) (x := 0) dX12_copy_0 ci_0 ?_
  refine ev_istore_n (pc := 1) (il' := [(2, vI 0), (0, vR p0), (1, vR p1)]) dX12_copy_1 rfl (Nat.le_of_ble_eq_true rfl) rfl ?_
  obtain ⟨q4, hq4, h⟩ := bd h
  refine ev_pick [1, 2, 0] rfl ?_
  refine e_X12_copy_L2 hd hp0 hp1 n hq4 ?_
  cases h
  exact ev_vret (pc := 21) dX12_copy_21 rfl
def f_X12_isIn (p0 p1 p2 : Int) : Int := if p0 < p1 then 0 else (if p2 < p0 then 0 else 1)
set_option maxRecDepth 100000 in
set_option maxHeartbeats 4000000 in
theorem e_X12_isIn {g : Gm} {d : Nat} {p0 p1 p2 : Int} {M0 : Mem} {v : Int} (hd : 0 ≤ d) (h : f_X12_isIn p0 p1 p2 = v) : EvM g d mtX12_isIn [vI p0, vI p1, vI p2] (sg M0) (0, 0) (vI v) (sg M0) := by
  unfold f_X12_isIn at h
  refine EvM.of mkX12_isIn.2.2.2.1 (Nat.le_of_ble_eq_true rfl) ?_
  change Ev g d mtX12_isIn 0 [(0, vI p0), (1, vI p1), (2, vI p2)] [] (sg M0) (0, 0) (vI v) (sg M0)
  refine ev_iload_n (pc := 0) 0 dX12_isIn_0 rfl rfl ?_
  refine ev_iload_n (pc := 1) 1 dX12_isIn_1 rfl rfl ?_
  refine ev_icmp_lt (pc := 2) (tgt := 14) dX12_isIn_2 (by decide) (fun b1 => ?_) (fun b1 => ?_)
  · rw [if_pos b1] at h
    refine ev_iconst (pc := 14) (x := 0) dX12_isIn_14 ci_0 ?_
    cases h
    exact ev_zret (pc := 15) (Or.inl rfl) dX12_isIn_15 rfl
  · rw [if_neg b1] at h
    refine ev_iload_n (pc := 5) 0 dX12_isIn_5 rfl rfl ?_
    refine ev_iload_n (pc := 6) 2 dX12_isIn_6 rfl rfl ?_
    refine ev_icmp_gt (pc := 7) (tgt := 14) dX12_isIn_7 (by decide) (fun b2 => ?_) (fun b2 => ?_)
    · rw [if_pos b2] at h
      refine ev_iconst (pc := 14) (x := 0) dX12_isIn_14 ci_0 ?_
      cases h
      exact ev_zret (pc := 15) (Or.inl rfl) dX12_isIn_15 rfl
    · rw [if_neg b2] at h
      refine ev_iconst (pc := 10) (x := 1) dX12_isIn_10 ci_1 ?_
      refine ev_goto (pc := 11) (tgt := 15) dX12_isIn_11 (by decide) ?_
      cases h
      exact ev_zret (pc := 15) (Or.inr rfl) dX12_isIn_15 rfl
theorem z_X12_isIn (p0 p1 p2 : Int) : f_X12_isIn p0 p1 p2 = 0 ∨ f_X12_isIn p0 p1 p2 = 1 := by
  unfold f_X12_isIn
  repeat' split
  all_goals first | exact Or.inl rfl | exact Or.inr rfl
def f_X12_cut (p0 p1 p2 : Int) : Int := if 0 ≤ (lCmp p0 p1) then (if (lCmp p0 p2) ≤ 0 then (wI p0) else p2) else p1
set_option maxRecDepth 100000 in
set_option maxHeartbeats 4000000 in
theorem e_X12_cut {g : Gm} {d : Nat} {p0 p1 p2 : Int} {M0 : Mem} {v : Int} (hd : 0 ≤ d) (h : f_X12_cut p0 p1 p2 = v) : EvM g d mtX12_cut [vL p0, vI p1, vI p2] (sg M0) (0, 0) (vI v) (sg M0) := by
  unfold f_X12_cut at h
  refine EvM.of mkX12_cut.2.2.2.1 (Nat.le_of_ble_eq_true rfl) ?_
  change Ev g d mtX12_cut 0 [(0, vL p0), (2, vI p1), (3, vI p2)] [] (sg M0) (0, 0) (vI v) (sg M0)
  refine ev_lload_n (pc := 0) 0 dX12_cut_0 rfl rfl ?_
  refine ev_iload_n (pc := 1) 1 dX12_cut_1 rfl rfl ?_
  refine ev_i2l (pc := 2) dX12_cut_2 ?_
  refine ev_lcmp (pc := 3) dX12_cut_3 ?_
  refine ev_if_ge (pc := 4) (tgt := 11) dX12_cut_4 (by decide) (fun b1 => ?_) (fun b1 => ?_)
  · rw [if_pos b1] at h
    refine ev_lload_n (pc := 11) 0 dX12_cut_11 rfl rfl ?_
    refine ev_iload_n (pc := 12) 2 dX12_cut_12 rfl rfl ?_
    refine ev_i2l (pc := 13) dX12_cut_13 ?_
    refine ev_lcmp (pc := 14) dX12_cut_14 ?_
    refine ev_if_le (pc := 15) (tgt := 22) dX12_cut_15 (by decide) (fun b2 => ?_) (fun b2 => ?_)
    · rw [if_pos b2] at h
      refine ev_lload_n (pc := 22) 0 dX12_cut_22 rfl rfl ?_
      refine ev_l2i (pc := 23) dX12_cut_23 ?_
      cases h
      exact ev_iret (pc := 24) dX12_cut_24 rfl
    · rw [if_neg b2] at h
      refine ev_iload_n (pc := 18) 2 dX12_cut_18 rfl rfl ?_
      refine ev_goto (pc := 19) (tgt := 24) dX12_cut_19 (by decide) ?_
      cases h
      exact ev_iret (pc := 24) dX12_cut_24 rfl
  · rw [if_neg b1] at h
    refine ev_iload_n (pc := 7) 1 dX12_cut_7 rfl rfl ?_
    refine ev_goto (pc := 8) (tgt := 24) dX12_cut_8 (by decide) ?_
    cases h
    exact ev_iret (pc := 24) dX12_cut_24 rfl
def f_X12_has (p0 p1 : Int) : Int := if (bAnd (bShr p0 p1) 1) ≠ 1 then 0 else 1
set_option maxRecDepth 100000 in
set_option maxHeartbeats 4000000 in
theorem e_X12_has {g : Gm} {d : Nat} {p0 p1 : Int} {M0 : Mem} {v : Int} (hd : 0 ≤ d) (h : f_X12_has p0 p1 = v) : EvM g d mtX12_has [vI p0, vI p1] (sg M0) (0, 0) (vI v) (sg M0) := by
  unfold f_X12_has at h
  refine EvM.of mkX12_has.2.2.2.1 (Nat.le_of_ble_eq_true rfl) ?_
  change Ev g d mtX12_has 0 [(0, vI p0), (1, vI p1)] [] (sg M0) (0, 0) (vI v) (sg M0)
  refine ev_iload_n (pc := 0) 0 dX12_has_0 rfl rfl ?_
  refine ev_iload_n (pc := 1) 1 dX12_has_1 rfl rfl ?_
  refine ev_ishr (pc := 2) dX12_has_2 ?_
  refine ev_iconst (pc := 3) (x := 1) dX12_has_3 ci_1 ?_
  refine ev_iand (pc := 4) dX12_has_4 ?_
  refine ev_iconst (pc := 5) (x := 1) dX12_has_5 ci_1 ?_
  refine ev_icmp_ne (pc := 6) (tgt := 13) dX12_has_6 (by decide) (fun b1 => ?_) (fun b1 => ?_)
  · rw [if_pos b1] at h
    refine ev_iconst (pc := 13) (x := 0) dX12_has_13 ci_0 ?_
    cases h
    exact ev_zret (pc := 14) (Or.inl rfl) dX12_has_14 rfl
  · rw [if_neg b1] at h
    refine ev_iconst (pc := 9) (x := 1) dX12_has_9 ci_1 ?_
    refine ev_goto (pc := 10) (tgt := 14) dX12_has_10 (by decide) ?_
    cases h
    exact ev_zret (pc := 14) (Or.inr rfl) dX12_has_14 rfl
theorem z_X12_has (p0 p1 : Int) : f_X12_has p0 p1 = 0 ∨ f_X12_has p0 p1 = 1 := by
  unfold f_X12_has
  repeat' split
  all_goals first | exact Or.inl rfl | exact Or.inr rfl
def f_X12_bits_L4 : Nat → Int → Int → Int → Option (Int)
  | 0, _, _, _ => none
  | n + 1, x0, x1, x2 => if 10 ≤ x2 then (some x1) else (f_X12_bits_L4 n x0 (wI (x1 + (bAnd (bShr x0 x2) 1))) (wI (x2 + 1)))
set_option maxRecDepth 100000 in
set_option maxHeartbeats 4000000 in
theorem e_X12_bits_L4 {g : Gm} {d : Nat} {x0 : Int} {r : Vv} {σ' : Sg} {M0 : Mem} (hd : 0 ≤ d) : ∀ (n : Nat) {x1 x2 : Int} {q : Int}, f_X12_bits_L4 n x0 x1 x2 = some q → Ev g d mtX12_bits 24 [(1, vI q)] [] (sg M0) (0, 0) r σ' → Ev g d mtX12_bits 4 [(0, vI x0), (1, vI x1), (2, vI x2)] [] (sg M0) (0, 0) r σ' := by
  intro n
  induction n with
  | zero =>
    intro x1 x2 q h hk0
    rw [f_X12_bits_L4.eq_1] at h
    cases h
  | succ n ih =>
    intro x1 x2 q h hk0
    rw [f_X12_bits_L4.eq_2] at h
    refine ev_iload_n (pc := 4) 2 dX12_bits_4 rfl rfl ?_
    refine ev_bipush (pc := 5) (x := 10) dX12_bits_5 cb_10 ?_
    refine ev_icmp_ge (pc := 7) (tgt := 24) dX12_bits_7 (by decide) (fun b1 => ?_) (fun b1 => ?_)
    · rw [if_pos b1] at h
      cases h
      refine ev_pick [1] rfl ?_
      exact hk0
    · rw [if_neg b1] at h
      refine ev_iload_n (pc := 10) 1 dX12_bits_10 rfl rfl ?_
      refine ev_iload_n (pc := 11) 0 dX12_bits_11 rfl rfl ?_
      refine ev_iload_n (pc := 12) 2 dX12_bits_12 rfl rfl ?_
      refine ev_ishr (pc := 13) dX12_bits_13 ?_
      refine ev_iconst (pc := 14) (x := 1) dX12_bits_14 ci_1 ?_
      refine ev_iand (pc := 15) dX12_bits_15 ?_
      refine ev_iadd (pc := 16) dX12_bits_16 ?_
      refine ev_istore_n (pc := 17) (il' := [(1, vI (wI (x1 + (bAnd (bShr x0 x2) 1)))), (0, vI x0), (2, vI x2)]) dX12_bits_17 rfl (Nat.le_of_ble_eq_true rfl) rfl ?_
      refine ev_iinc (pc := 18) (il' := [(2, vI (wI (x2 + 1))), (1, vI (wI (x1 + (bAnd (bShr x0 x2) 1)))), (0, vI x0)]) 2 dX12_bits_18 rfl (Nat.le_of_ble_eq_true rfl) rfl rfl ?_
      refine ev_goto (pc := 21) (tgt := 4) dX12_bits_21 (by decide) ?_
      refine ev_pick [2, 1, 0] rfl ?_
      exact ih h hk0
def f_X12_bits (n : Nat) (p0 : Int) : Option (Int) := (f_X12_bits_L4 n p0 0 0).bind fun q2 => some q2
set_option maxRecDepth 100000 in
set_option maxHeartbeats 4000000 in
theorem e_X12_bits {g : Gm} {d : Nat} {n : Nat} {p0 : Int} {M0 : Mem} {v : Int} (hd : 0 ≤ d) (h : f_X12_bits n p0 = some v) : EvM g d mtX12_bits [vI p0] (sg M0) (0, 0) (vI v) (sg M0) := by
  unfold f_X12_bits at h
  refine EvM.of mkX12_bits.2.2.2.1 (Nat.le_of_ble_eq_true rfl) ?_
  change Ev g d mtX12_bits 0 [(0, vI p0)] [] (sg M0) (0, 0) (vI v) (sg M0)
  refine ev_iconst (pc := 0) (x := 0) dX12_bits_0 ci_0 ?_
  refine ev_istore_n (pc := 1) (il' := [(1, vI 0), (0, vI p0)]) dX12_bits_1 rfl (Nat.le_of_ble_eq_true rfl) rfl ?_
  refine ev_iconst (pc := 2) (x := 0) dX12_bits_2 ci_0 ?_
  refine ev_istore_n (pc := 3) (il' := [(2, vI 0), (1, vI 0), (0, vI p0)]) dX12_bits_3 rfl (Nat.le_of_ble_eq_true rfl) rfl ?_
  obtain ⟨q2, hq2, h⟩ := bd h
  refine ev_pick [2, 1, 0] rfl ?_
  refine e_X12_bits_L4 hd  n hq2 ?_
  refine ev_iload_n (pc := 24) 0 dX12_bits_24 rfl rfl ?_
  cases h
  exact ev_iret (pc := 25) dX12_bits_25 rfl
def f_X12_isStep (p0 : Int) (M : Mem) : Int := (f_X12_isIn p0 0 (wI ((M 802 0) - 1)))
set_option maxRecDepth 100000 in
set_option maxHeartbeats 4000000 in
theorem e_X12_isStep {g : Gm} {d : Nat} {p0 : Int} {M N : Mem} {v : Int} (hd : 1 ≤ d) (h : f_X12_isStep p0 M = v) : EvM g d mtX12_isStep [vR 801, vI p0] (sg (mx N M)) (0, 0) (vI v) (sg (mx N M)) := by
  unfold f_X12_isStep at h
  refine EvM.of mkX12_isStep.2.2.2.1 (Nat.le_of_ble_eq_true rfl) ?_
  change Ev g d mtX12_isStep 0 [(0, vR 801), (1, vI p0)] [] (sg (mx N M)) (0, 0) (vI v) (sg (mx N M))
  refine ev_iload_n (pc := 0) 1 dX12_isStep_0 rfl rfl ?_
  refine ev_iconst (pc := 1) (x := 0) dX12_isStep_1 ci_0 ?_
  refine ev_aload_n (pc := 2) 0 dX12_isStep_2 rfl rfl ?_
  refine ev_getR (pc := 3) fl12_7 rfl dX12_isStep_3 rfl kd_801 (by omega) (rf_801_0 _) ?_
  refine ev_iconst (pc := 6) (x := 0) dX12_isStep_6 ci_0 ?_
  refine ev_ildr (pc := 7) dX12_isStep_7 kd_802 (by omega) (by omega) (by omega) (by omega) ?_
  refine ev_iconst (pc := 8) (x := 1) dX12_isStep_8 ci_1 ?_
  refine ev_isub (pc := 9) dX12_isStep_9 ?_
  refine ev_cS (pc := 10) [vI p0, vI 0, vI (wI ((M 802 0) - 1))] [] rfl mkX12_isIn ml12_90 msX12_isIn dX12_isStep_10 rfl (Nat.le_of_ble_eq_true rfl) (by omega) rfl (e_X12_isIn (d := d - 1) (v := (f_X12_isIn p0 0 (wI ((M 802 0) - 1)))) (by omega)  rfl) ?_
  cases h
  exact ev_zret (pc := 13) (z_X12_isIn ..) dX12_isStep_13 rfl
theorem z_X12_isStep (p0 : Int) (M : Mem) : f_X12_isStep p0 M = 0 ∨ f_X12_isStep p0 M = 1 := by
  unfold f_X12_isStep
  all_goals first | exact Or.inl rfl | exact Or.inr rfl | exact z_X12_isIn ..
def f_X12_isShip (p0 : Int) (M : Mem) : Int := (f_X12_isIn p0 0 (wI ((M 802 1) - 1)))
set_option maxRecDepth 100000 in
set_option maxHeartbeats 4000000 in
theorem e_X12_isShip {g : Gm} {d : Nat} {p0 : Int} {M N : Mem} {v : Int} (hd : 1 ≤ d) (h : f_X12_isShip p0 M = v) : EvM g d mtX12_isShip [vR 801, vI p0] (sg (mx N M)) (0, 0) (vI v) (sg (mx N M)) := by
  unfold f_X12_isShip at h
  refine EvM.of mkX12_isShip.2.2.2.1 (Nat.le_of_ble_eq_true rfl) ?_
  change Ev g d mtX12_isShip 0 [(0, vR 801), (1, vI p0)] [] (sg (mx N M)) (0, 0) (vI v) (sg (mx N M))
  refine ev_iload_n (pc := 0) 1 dX12_isShip_0 rfl rfl ?_
  refine ev_iconst (pc := 1) (x := 0) dX12_isShip_1 ci_0 ?_
  refine ev_aload_n (pc := 2) 0 dX12_isShip_2 rfl rfl ?_
  refine ev_getR (pc := 3) fl12_7 rfl dX12_isShip_3 rfl kd_801 (by omega) (rf_801_0 _) ?_
  refine ev_iconst (pc := 6) (x := 1) dX12_isShip_6 ci_1 ?_
  refine ev_ildr (pc := 7) dX12_isShip_7 kd_802 (by omega) (by omega) (by omega) (by omega) ?_
  refine ev_iconst (pc := 8) (x := 1) dX12_isShip_8 ci_1 ?_
  refine ev_isub (pc := 9) dX12_isShip_9 ?_
  refine ev_cS (pc := 10) [vI p0, vI 0, vI (wI ((M 802 1) - 1))] [] rfl mkX12_isIn ml12_90 msX12_isIn dX12_isShip_10 rfl (Nat.le_of_ble_eq_true rfl) (by omega) rfl (e_X12_isIn (d := d - 1) (v := (f_X12_isIn p0 0 (wI ((M 802 1) - 1)))) (by omega)  rfl) ?_
  cases h
  exact ev_zret (pc := 13) (z_X12_isIn ..) dX12_isShip_13 rfl
theorem z_X12_isShip (p0 : Int) (M : Mem) : f_X12_isShip p0 M = 0 ∨ f_X12_isShip p0 M = 1 := by
  unfold f_X12_isShip
  all_goals first | exact Or.inl rfl | exact Or.inr rfl | exact z_X12_isIn ..
def f_X12_isRiser (p0 : Int) (M : Mem) : Int := (f_X12_isIn p0 0 (wI ((M 802 0) - 2)))
set_option maxRecDepth 100000 in
set_option maxHeartbeats 4000000 in
theorem e_X12_isRiser {g : Gm} {d : Nat} {p0 : Int} {M N : Mem} {v : Int} (hd : 1 ≤ d) (h : f_X12_isRiser p0 M = v) : EvM g d mtX12_isRiser [vR 801, vI p0] (sg (mx N M)) (0, 0) (vI v) (sg (mx N M)) := by
  unfold f_X12_isRiser at h
  refine EvM.of mkX12_isRiser.2.2.2.1 (Nat.le_of_ble_eq_true rfl) ?_
  change Ev g d mtX12_isRiser 0 [(0, vR 801), (1, vI p0)] [] (sg (mx N M)) (0, 0) (vI v) (sg (mx N M))
  refine ev_iload_n (pc := 0) 1 dX12_isRiser_0 rfl rfl ?_
  refine ev_iconst (pc := 1) (x := 0) dX12_isRiser_1 ci_0 ?_
  refine ev_aload_n (pc := 2) 0 dX12_isRiser_2 rfl rfl ?_
  refine ev_getR (pc := 3) fl12_7 rfl dX12_isRiser_3 rfl kd_801 (by omega) (rf_801_0 _) ?_
  refine ev_iconst (pc := 6) (x := 0) dX12_isRiser_6 ci_0 ?_
  refine ev_ildr (pc := 7) dX12_isRiser_7 kd_802 (by omega) (by omega) (by omega) (by omega) ?_
  refine ev_iconst (pc := 8) (x := 2) dX12_isRiser_8 ci_2 ?_
  refine ev_isub (pc := 9) dX12_isRiser_9 ?_
  refine ev_cS (pc := 10) [vI p0, vI 0, vI (wI ((M 802 0) - 2))] [] rfl mkX12_isIn ml12_90 msX12_isIn dX12_isRiser_10 rfl (Nat.le_of_ble_eq_true rfl) (by omega) rfl (e_X12_isIn (d := d - 1) (v := (f_X12_isIn p0 0 (wI ((M 802 0) - 2)))) (by omega)  rfl) ?_
  cases h
  exact ev_zret (pc := 13) (z_X12_isIn ..) dX12_isRiser_13 rfl
theorem z_X12_isRiser (p0 : Int) (M : Mem) : f_X12_isRiser p0 M = 0 ∨ f_X12_isRiser p0 M = 1 := by
  unfold f_X12_isRiser
  all_goals first | exact Or.inl rfl | exact Or.inr rfl | exact z_X12_isIn ..
def f_X12_at (p0 p1 : Int) (M : Mem) : Option (Int) := ck (0 ≤ (wI ((wI (16 + (wI (8 * p0)))) + p1)) ∧ (wI ((wI (16 + (wI (8 * p0)))) + p1)) < 10606) (some (M 802 (wI ((wI (16 + (wI (8 * p0)))) + p1))))
set_option maxRecDepth 100000 in
set_option maxHeartbeats 4000000 in
theorem e_X12_at {g : Gm} {d : Nat} {p0 p1 : Int} {M N : Mem} {v : Int} (hd : 0 ≤ d) (h : f_X12_at p0 p1 M = some v) : EvM g d mtX12_at [vR 801, vI p0, vI p1] (sg (mx N M)) (0, 0) (vI v) (sg (mx N M)) := by
  unfold f_X12_at at h
  refine EvM.of mkX12_at.2.2.2.1 (Nat.le_of_ble_eq_true rfl) ?_
  change Ev g d mtX12_at 0 [(0, vR 801), (1, vI p0), (2, vI p1)] [] (sg (mx N M)) (0, 0) (vI v) (sg (mx N M))
  refine ev_aload_n (pc := 0) 0 dX12_at_0 rfl rfl ?_
  refine ev_getR (pc := 1) fl12_7 rfl dX12_at_1 rfl kd_801 (by omega) (rf_801_0 _) ?_
  refine ev_bipush (pc := 4) (x := 16) dX12_at_4 cb_16 ?_
  refine ev_bipush (pc := 6) (x := 8) dX12_at_6 cb_8 ?_
  refine ev_iload_n (pc := 8) 1 dX12_at_8 rfl rfl ?_
  refine ev_imul (pc := 9) dX12_at_9 ?_
  refine ev_iadd (pc := 10) dX12_at_10 ?_
  refine ev_iload_n (pc := 11) 2 dX12_at_11 rfl rfl ?_
  refine ev_iadd (pc := 12) dX12_at_12 ?_
  obtain ⟨c1, h⟩ := ck_some h
  refine ev_ildr (pc := 13) dX12_at_13 kd_802 (by omega) (by omega) c1.1 c1.2 ?_
  cases h
  exact ev_iret (pc := 14) dX12_at_14 rfl
def f_X12_put (p0 p1 p2 : Int) (M : Mem) : Option (Mem) := ck (0 ≤ (wI ((wI (16 + (wI (8 * p0)))) + p1)) ∧ (wI ((wI (16 + (wI (8 * p0)))) + p1)) < 10606) (lt (upM M 802 (wI ((wI (16 + (wI (8 * p0)))) + p1)) p2) fun M2 => some M2)
set_option maxRecDepth 100000 in
set_option maxHeartbeats 4000000 in
theorem e_X12_put {g : Gm} {d : Nat} {p0 p1 p2 : Int} {M N : Mem} {M' : Mem} (hd : 0 ≤ d) (h : f_X12_put p0 p1 p2 M = some M') : EvM g d mtX12_put [vR 801, vI p0, vI p1, vI p2] (sg (mx N M)) (0, 0) vN (sg (mx N M')) := by
  unfold f_X12_put at h
  refine EvM.of mkX12_put.2.2.2.1 (Nat.le_of_ble_eq_true rfl) ?_
  change Ev g d mtX12_put 0 [(0, vR 801), (1, vI p0), (2, vI p1), (3, vI p2)] [] (sg (mx N M)) (0, 0) vN (sg (mx N M'))
  refine ev_aload_n (pc := 0) 0 dX12_put_0 rfl rfl ?_
  refine ev_getR (pc := 1) fl12_7 rfl dX12_put_1 rfl kd_801 (by omega) (rf_801_0 _) ?_
  refine ev_bipush (pc := 4) (x := 16) dX12_put_4 cb_16 ?_
  refine ev_bipush (pc := 6) (x := 8) dX12_put_6 cb_8 ?_
  refine ev_iload_n (pc := 8) 1 dX12_put_8 rfl rfl ?_
  refine ev_imul (pc := 9) dX12_put_9 ?_
  refine ev_iadd (pc := 10) dX12_put_10 ?_
  refine ev_iload_n (pc := 11) 2 dX12_put_11 rfl rfl ?_
  refine ev_iadd (pc := 12) dX12_put_12 ?_
  refine ev_iload_n (pc := 13) 3 dX12_put_13 rfl rfl ?_
  obtain ⟨c1, h⟩ := ck_some h
  obtain ⟨M2, eM2, h⟩ := lt_some h
  refine ev_istr (pc := 14) dX12_put_14 kd_802 (by omega) (by omega) c1.1 c1.2 eM2 ?_
  cases h
  exact ev_vret (pc := 15) dX12_put_15 rfl
def f_X12_get (p0 p1 : Int) (M : Mem) : Option (Int) := ck (0 ≤ (wI ((wI (88 + (wI (6 * p0)))) + p1)) ∧ (wI ((wI (88 + (wI (6 * p0)))) + p1)) < 10606) (some (M 802 (wI ((wI (88 + (wI (6 * p0)))) + p1))))
set_option maxRecDepth 100000 in
set_option maxHeartbeats 4000000 in
theorem e_X12_get {g : Gm} {d : Nat} {p0 p1 : Int} {M N : Mem} {v : Int} (hd : 0 ≤ d) (h : f_X12_get p0 p1 M = some v) : EvM g d mtX12_get [vR 801, vI p0, vI p1] (sg (mx N M)) (0, 0) (vI v) (sg (mx N M)) := by
  unfold f_X12_get at h
  refine EvM.of mkX12_get.2.2.2.1 (Nat.le_of_ble_eq_true rfl) ?_
  change Ev g d mtX12_get 0 [(0, vR 801), (1, vI p0), (2, vI p1)] [] (sg (mx N M)) (0, 0) (vI v) (sg (mx N M))
  refine ev_aload_n (pc := 0) 0 dX12_get_0 rfl rfl ?_
  refine ev_getR (pc := 1) fl12_7 rfl dX12_get_1 rfl kd_801 (by omega) (rf_801_0 _) ?_
  refine ev_bipush (pc := 4) (x := 88) dX12_get_4 cb_88 ?_
  refine ev_bipush (pc := 6) (x := 6) dX12_get_6 cb_6 ?_
  refine ev_iload_n (pc := 8) 1 dX12_get_8 rfl rfl ?_
  refine ev_imul (pc := 9) dX12_get_9 ?_
  refine ev_iadd (pc := 10) dX12_get_10 ?_
  refine ev_iload_n (pc := 11) 2 dX12_get_11 rfl rfl ?_
  refine ev_iadd (pc := 12) dX12_get_12 ?_
  obtain ⟨c1, h⟩ := ck_some h
  refine ev_ildr (pc := 13) dX12_get_13 kd_802 (by omega) (by omega) c1.1 c1.2 ?_
  cases h
  exact ev_iret (pc := 14) dX12_get_14 rfl
def f_X12_set (p0 p1 p2 : Int) (M : Mem) : Option (Mem) := ck (0 ≤ (wI ((wI (88 + (wI (6 * p0)))) + p1)) ∧ (wI ((wI (88 + (wI (6 * p0)))) + p1)) < 10606) (lt (upM M 802 (wI ((wI (88 + (wI (6 * p0)))) + p1)) p2) fun M2 => some M2)
set_option maxRecDepth 100000 in
set_option maxHeartbeats 4000000 in
theorem e_X12_set {g : Gm} {d : Nat} {p0 p1 p2 : Int} {M N : Mem} {M' : Mem} (hd : 0 ≤ d) (h : f_X12_set p0 p1 p2 M = some M') : EvM g d mtX12_set [vR 801, vI p0, vI p1, vI p2] (sg (mx N M)) (0, 0) vN (sg (mx N M')) := by
  unfold f_X12_set at h
  refine EvM.of mkX12_set.2.2.2.1 (Nat.le_of_ble_eq_true rfl) ?_
  change Ev g d mtX12_set 0 [(0, vR 801), (1, vI p0), (2, vI p1), (3, vI p2)] [] (sg (mx N M)) (0, 0) vN (sg (mx N M'))
  refine ev_aload_n (pc := 0) 0 dX12_set_0 rfl rfl ?_
  refine ev_getR (pc := 1) fl12_7 rfl dX12_set_1 rfl kd_801 (by omega) (rf_801_0 _) ?_
  refine ev_bipush (pc := 4) (x := 88) dX12_set_4 cb_88 ?_
  refine ev_bipush (pc := 6) (x := 6) dX12_set_6 cb_6 ?_
  refine ev_iload_n (pc := 8) 1 dX12_set_8 rfl rfl ?_
  refine ev_imul (pc := 9) dX12_set_9 ?_
  refine ev_iadd (pc := 10) dX12_set_10 ?_
  refine ev_iload_n (pc := 11) 2 dX12_set_11 rfl rfl ?_
  refine ev_iadd (pc := 12) dX12_set_12 ?_
  refine ev_iload_n (pc := 13) 3 dX12_set_13 rfl rfl ?_
  obtain ⟨c1, h⟩ := ck_some h
  obtain ⟨M2, eM2, h⟩ := lt_some h
  refine ev_istr (pc := 14) dX12_set_14 kd_802 (by omega) (by omega) c1.1 c1.2 eM2 ?_
  cases h
  exact ev_vret (pc := 15) dX12_set_15 rfl
def f_X12_step_L108 : Nat → Int → Int → Mem → Option (Mem)
  | 0, _, _, _ => none
  | n + 1, x5, x6, M => if 3 ≤ x6 then (some M) else ((f_X12_at x5 (wI (1 + x6)) M).bind fun q12 => (f_X12_put x5 (wI (5 + x6)) q12 M).bind fun q13 => f_X12_step_L108 n x5 (wI (x6 + 1)) q13)
set_option maxRecDepth 100000 in
set_option maxHeartbeats 4000000 in
theorem e_X12_step_L108 {g : Gm} {d : Nat} {x5 : Int} {r : Vv} {σ' : Sg} {N : Mem} (hd : 1 ≤ d) : ∀ (n : Nat) {x6 : Int} {M : Mem} {q : Mem}, f_X12_step_L108 n x5 x6 M = some q → Ev g d mtX12_step 140 [(0, vR 801), (5, vI x5)] [] (sg (mx N q)) (0, 0) r σ' → Ev g d mtX12_step 108 [(0, vR 801), (5, vI x5), (6, vI x6)] [] (sg (mx N M)) (0, 0) r σ' := by
  intro n
  induction n with
  | zero =>
    intro x6 M q h hk0
    rw [f_X12_step_L108.eq_1] at h
    cases h
  | succ n ih =>
    intro x6 M q h hk0
    rw [f_X12_step_L108.eq_2] at h
    refine ev_iload (pc := 108) 2 dX12_step_108 rfl ?_
    refine ev_iconst (pc := 110) (x := 3) dX12_step_110 ci_3 ?_
    refine ev_icmp_ge (pc := 111) (tgt := 140) dX12_step_111 (by decide) (fun b11 => ?_) (fun b11 => ?_)
    · rw [if_pos b11] at h
      cases h
      refine ev_pick [0, 1] rfl ?_
      exact hk0
    · rw [if_neg b11] at h
      refine ev_aload_n (pc := 114) 0 dX12_step_114 rfl rfl ?_
      refine ev_iload (pc := 115) 1 dX12_step_115 rfl ?_
      refine ev_iconst (pc := 117) (x := 5) dX12_step_117 ci_5 ?_
      refine ev_iload (pc := 118) 2 dX12_step_118 rfl ?_
      refine ev_iadd (pc := 120) dX12_step_120 ?_
      refine ev_aload_n (pc := 121) 0 dX12_step_121 rfl rfl ?_
      refine ev_iload (pc := 122) 1 dX12_step_122 rfl ?_
      refine ev_iconst (pc := 124) (x := 1) dX12_step_124 ci_1 ?_
      refine ev_iload (pc := 125) 2 dX12_step_125 rfl ?_
      refine ev_iadd (pc := 127) dX12_step_127 ?_
      obtain ⟨q12, hq12, h⟩ := bd h
      refine ev_cV (pc := 128) [vI x5, vI (wI (1 + x6))] [vI (wI (5 + x6)), vI x5, vR 801] rfl mkX12_at ml12_98 mnX12_at dX12_step_128 kd_801 (by omega) rfl (Nat.le_of_ble_eq_true rfl) (by omega) rfl (e_X12_at (d := d - 1) (v := q12) (by omega)  hq12) ?_
      obtain ⟨q13, hq13, h⟩ := bd h
      refine ev_cV0 (pc := 131) [vI x5, vI (wI (5 + x6)), vI q12] [] rfl mkX12_put ml12_94 mnX12_put dX12_step_131 kd_801 (by omega) rfl (Nat.le_of_ble_eq_true rfl) (by omega) (e_X12_put (d := d - 1) (M' := q13) (by omega)  hq13) ?_
      refine ev_iinc (pc := 134) (il' := [(6, vI (wI (x6 + 1))), (0, vR 801), (5, vI x5)]) 2 dX12_step_134 rfl (Nat.le_of_ble_eq_true rfl) rfl rfl ?_
      refine ev_goto (pc := 137) (tgt := 108) dX12_step_137 (by decide) ?_
      refine ev_pick [1, 2, 0] rfl ?_
      exact ih h hk0
def f_X12_step (n : Nat) (p0 p1 p2 p3 : Int) (M : Mem) : Option (Int × Mem) := if (f_X12_isIn p0 1 99) = 0 then (some ((-1), M)) else (if (f_X12_isIn p1 0 99) = 0 then (some ((-1), M)) else (if (f_X12_isIn p2 0 999) = 0 then (some ((-1), M)) else (if (f_X12_isIn p3 0 999) = 0 then (some ((-1), M)) else (if (M 802 0) ≠ 9 then ((f_X12_put (M 802 0) 0 p0 M).bind fun q6 => (f_X12_put (M 802 0) 1 p1 q6).bind fun q7 => (f_X12_put (M 802 0) 2 p2 q7).bind fun q8 => (f_X12_put (M 802 0) 3 p3 q8).bind fun q9 => (f_X12_put (M 802 0) 4 0 q9).bind fun q10 => (f_X12_step_L108 n (M 802 0) 0 q10).bind fun q14 => lt (upM q14 802 0 (wI ((q14 802 0) + 1))) fun M15 => some ((M 802 0), M15)) else (some ((-1), M))))))
set_option maxRecDepth 100000 in
set_option maxHeartbeats 4000000 in
theorem e_X12_step {g : Gm} {d : Nat} {n : Nat} {p0 p1 p2 p3 : Int} {M N : Mem} {v : Int} {M' : Mem} (hd : 1 ≤ d) (h : f_X12_step n p0 p1 p2 p3 M = some (v, M')) : EvM g d mtX12_step [vR 801, vI p0, vI p1, vI p2, vI p3] (sg (mx N M)) (0, 0) (vI v) (sg (mx N M')) := by
  unfold f_X12_step at h
  refine EvM.of mkX12_step.2.2.2.1 (Nat.le_of_ble_eq_true rfl) ?_
  change Ev g d mtX12_step 0 [(0, vR 801), (1, vI p0), (2, vI p1), (3, vI p2), (4, vI p3)] [] (sg (mx N M)) (0, 0) (vI v) (sg (mx N M'))
  refine ev_iload_n (pc := 0) 1 dX12_step_0 rfl rfl ?_
  refine ev_iconst (pc := 1) (x := 1) dX12_step_1 ci_1 ?_
  refine ev_bipush (pc := 2) (x := 99) dX12_step_2 cb_99 ?_
  refine ev_cS (pc := 4) [vI p0, vI 1, vI 99] [] rfl mkX12_isIn ml12_90 msX12_isIn dX12_step_4 rfl (Nat.le_of_ble_eq_true rfl) (by omega) rfl (e_X12_isIn (d := d - 1) (v := (f_X12_isIn p0 1 99)) (by omega)  rfl) ?_
  refine ev_if_eq (pc := 7) (tgt := 54) dX12_step_7 (by decide) (fun b1 => ?_) (fun b1 => ?_)
  · rw [if_pos b1] at h
    refine ev_iconst (pc := 54) (x := (-1)) dX12_step_54 ci_m1 ?_
    cases h
    exact ev_iret (pc := 55) dX12_step_55 rfl
  · rw [if_neg b1] at h
    refine ev_iload_n (pc := 10) 2 dX12_step_10 rfl rfl ?_
    refine ev_iconst (pc := 11) (x := 0) dX12_step_11 ci_0 ?_
    refine ev_bipush (pc := 12) (x := 99) dX12_step_12 cb_99 ?_
    refine ev_cS (pc := 14) [vI p1, vI 0, vI 99] [] rfl mkX12_isIn ml12_90 msX12_isIn dX12_step_14 rfl (Nat.le_of_ble_eq_true rfl) (by omega) rfl (e_X12_isIn (d := d - 1) (v := (f_X12_isIn p1 0 99)) (by omega)  rfl) ?_
    refine ev_if_eq (pc := 17) (tgt := 54) dX12_step_17 (by decide) (fun b2 => ?_) (fun b2 => ?_)
    · rw [if_pos b2] at h
      refine ev_iconst (pc := 54) (x := (-1)) dX12_step_54 ci_m1 ?_
      cases h
      exact ev_iret (pc := 55) dX12_step_55 rfl
    · rw [if_neg b2] at h
      refine ev_iload_n (pc := 20) 3 dX12_step_20 rfl rfl ?_
      refine ev_iconst (pc := 21) (x := 0) dX12_step_21 ci_0 ?_
      refine ev_sipush (pc := 22) (x := 999) dX12_step_22 cs_999 ?_
      refine ev_cS (pc := 25) [vI p2, vI 0, vI 999] [] rfl mkX12_isIn ml12_90 msX12_isIn dX12_step_25 rfl (Nat.le_of_ble_eq_true rfl) (by omega) rfl (e_X12_isIn (d := d - 1) (v := (f_X12_isIn p2 0 999)) (by omega)  rfl) ?_
      refine ev_if_eq (pc := 28) (tgt := 54) dX12_step_28 (by decide) (fun b3 => ?_) (fun b3 => ?_)
      · rw [if_pos b3] at h
        refine ev_iconst (pc := 54) (x := (-1)) dX12_step_54 ci_m1 ?_
        cases h
        exact ev_iret (pc := 55) dX12_step_55 rfl
      · rw [if_neg b3] at h
        refine ev_iload (pc := 31) 4 dX12_step_31 rfl ?_
        refine ev_iconst (pc := 33) (x := 0) dX12_step_33 ci_0 ?_
        refine ev_sipush (pc := 34) (x := 999) dX12_step_34 cs_999 ?_
        refine ev_cS (pc := 37) [vI p3, vI 0, vI 999] [] rfl mkX12_isIn ml12_90 msX12_isIn dX12_step_37 rfl (Nat.le_of_ble_eq_true rfl) (by omega) rfl (e_X12_isIn (d := d - 1) (v := (f_X12_isIn p3 0 999)) (by omega)  rfl) ?_
        refine ev_if_eq (pc := 40) (tgt := 54) dX12_step_40 (by decide) (fun b4 => ?_) (fun b4 => ?_)
        · rw [if_pos b4] at h
          refine ev_iconst (pc := 54) (x := (-1)) dX12_step_54 ci_m1 ?_
          cases h
          exact ev_iret (pc := 55) dX12_step_55 rfl
        · rw [if_neg b4] at h
          refine ev_aload_n (pc := 43) 0 dX12_step_43 rfl rfl ?_
          refine ev_getR (pc := 44) fl12_7 rfl dX12_step_44 rfl kd_801 (by omega) (rf_801_0 _) ?_
          refine ev_iconst (pc := 47) (x := 0) dX12_step_47 ci_0 ?_
          refine ev_ildr (pc := 48) dX12_step_48 kd_802 (by omega) (by omega) (by omega) (by omega) ?_
          refine ev_bipush (pc := 49) (x := 9) dX12_step_49 cb_9 ?_
          refine ev_icmp_ne (pc := 51) (tgt := 56) dX12_step_51 (by decide) (fun b5 => ?_) (fun b5 => ?_)
          · rw [if_pos b5] at h
            refine ev_aload_n (pc := 56) 0 dX12_step_56 rfl rfl ?_
            refine ev_getR (pc := 57) fl12_7 rfl dX12_step_57 rfl kd_801 (by omega) (rf_801_0 _) ?_
            refine ev_iconst (pc := 60) (x := 0) dX12_step_60 ci_0 ?_
            refine ev_ildr (pc := 61) dX12_step_61 kd_802 (by omega) (by omega) (by omega) (by omega) ?_
            refine ev_istore (pc := 62) (il' := [(5, vI (M 802 0)), (0, vR 801), (1, vI p0), (2, vI p1), (3, vI p2), (4, vI p3)]) dX12_step_62 (Nat.le_of_ble_eq_true rfl) rfl ?_
            refine ev_aload_n (pc := 64) 1 dX12_step_64 rfl rfl ?_
            refine ev_iload (pc := 65) 0 dX12_step_65 rfl ?_
            refine ev_iconst (pc := 67) (x := 0) dX12_step_67 ci_0 ?_
            refine ev_iload_n (pc := 68) 2 dX12_step_68 rfl rfl ?_
            obtain ⟨q6, hq6, h⟩ := bd h
            refine ev_cV0 (pc := 69) [vI (M 802 0), vI 0, vI p0] [] rfl mkX12_put ml12_94 mnX12_put dX12_step_69 kd_801 (by omega) rfl (Nat.le_of_ble_eq_true rfl) (by omega) (e_X12_put (d := d - 1) (M' := q6) (by omega)  hq6) ?_
            refine ev_aload_n (pc := 72) 1 dX12_step_72 rfl rfl ?_
            refine ev_iload (pc := 73) 0 dX12_step_73 rfl ?_
            refine ev_iconst (pc := 75) (x := 1) dX12_step_75 ci_1 ?_
            refine ev_iload_n (pc := 76) 3 dX12_step_76 rfl rfl ?_
            obtain ⟨q7, hq7, h⟩ := bd h
            refine ev_cV0 (pc := 77) [vI (M 802 0), vI 1, vI p1] [] rfl mkX12_put ml12_94 mnX12_put dX12_step_77 kd_801 (by omega) rfl (Nat.le_of_ble_eq_true rfl) (by omega) (e_X12_put (d := d - 1) (M' := q7) (by omega)  hq7) ?_
            refine ev_aload_n (pc := 80) 1 dX12_step_80 rfl rfl ?_
            refine ev_iload (pc := 81) 0 dX12_step_81 rfl ?_
            refine ev_iconst (pc := 83) (x := 2) dX12_step_83 ci_2 ?_
            refine ev_iload_n (pc := 84) 4 dX12_step_84 rfl rfl ?_
            obtain ⟨q8, hq8, h⟩ := bd h
            refine ev_cV0 (pc := 85) [vI (M 802 0), vI 2, vI p2] [] rfl mkX12_put ml12_94 mnX12_put dX12_step_85 kd_801 (by omega) rfl (Nat.le_of_ble_eq_true rfl) (by omega) (e_X12_put (d := d - 1) (M' := q8) (by omega)  hq8) ?_
            refine ev_aload_n (pc := 88) 1 dX12_step_88 rfl rfl ?_
            refine ev_iload (pc := 89) 0 dX12_step_89 rfl ?_
            refine ev_iconst (pc := 91) (x := 3) dX12_step_91 ci_3 ?_
            refine ev_iload (pc := 92) 5 dX12_step_92 rfl ?_
            obtain ⟨q9, hq9, h⟩ := bd h
            refine ev_cV0 (pc := 94) [vI (M 802 0), vI 3, vI p3] [] rfl mkX12_put ml12_94 mnX12_put dX12_step_94 kd_801 (by omega) rfl (Nat.le_of_ble_eq_true rfl) (by omega) (e_X12_put (d := d - 1) (M' := q9) (by omega)  hq9) ?_
            refine ev_aload_n (pc := 97) 1 dX12_step_97 rfl rfl ?_
            refine ev_iload (pc := 98) 0 dX12_step_98 rfl ?_
            refine ev_iconst (pc := 100) (x := 4) dX12_step_100 ci_4 ?_
            refine ev_iconst (pc := 101) (x := 0) dX12_step_101 ci_0 ?_
            obtain ⟨q10, hq10, h⟩ := bd h
            refine ev_cV0 (pc := 102) [vI (M 802 0), vI 4, vI 0] [] rfl mkX12_put ml12_94 mnX12_put dX12_step_102 kd_801 (by omega) rfl (Nat.le_of_ble_eq_true rfl) (by omega) (e_X12_put (d := d - 1) (M' := q10) (by omega)  hq10) ?_
            refine ev_iconst (pc := 105) (x := 0) dX12_step_105 ci_0 ?_
            refine ev_istore (pc := 106) (il' := [(6, vI 0), (5, vI (M 802 0)), (0, vR 801), (1, vI p0), (2, vI p1), (3, vI p2), (4, vI p3)]) dX12_step_106 (Nat.le_of_ble_eq_true rfl) rfl ?_
            obtain ⟨q14, hq14, h⟩ := bd h
            refine ev_pick [2, 1, 0] rfl ?_
            refine e_X12_step_L108 hd  n hq14 ?_
            refine ev_aload_n (pc := 140) 0 dX12_step_140 rfl rfl ?_
            refine ev_getR (pc := 141) fl12_7 rfl dX12_step_141 rfl kd_801 (by omega) (rf_801_0 _) ?_
            refine ev_iconst (pc := 144) (x := 0) dX12_step_144 ci_0 ?_
            refine ev_dup2 (pc := 145) rfl rfl dX12_step_145 ?_
            refine ev_ildr (pc := 146) dX12_step_146 kd_802 (by omega) (by omega) (by omega) (by omega) ?_
            refine ev_iconst (pc := 147) (x := 1) dX12_step_147 ci_1 ?_
            refine ev_iadd (pc := 148) dX12_step_148 ?_
            obtain ⟨M15, eM15, h⟩ := lt_some h
            refine ev_istr (pc := 149) dX12_step_149 kd_802 (by omega) (by omega) (by omega) (by omega) eM15 ?_
            refine ev_iload (pc := 150) 1 dX12_step_150 rfl ?_
            cases h
            exact ev_iret (pc := 152) dX12_step_152 rfl
          · rw [if_neg b5] at h
            refine ev_iconst (pc := 54) (x := (-1)) dX12_step_54 ci_m1 ?_
            cases h
            exact ev_iret (pc := 55) dX12_step_55 rfl
