/-! ===== methods: X12_layOut, X12_hauledBy, X12_bestHauling, X12_hauling, X12_thing, X12_upThere, X12_toRaise, X12_worthOf, X12_isAhead, X12_states, X12_sound, X12_isSounding, X12_high, X12_wreck, X12_isOrder, X12_isLower, X12_inOrder, X12_outOfOrder, X12_misheard, X12_apart, X12_grown, X12_chains ===== -/
def f_X12_layOut_L4 : Nat → Int → Int → Int → Int → Mem → Option (Int × Mem)
  | 0, _, _, _, _, _ => none
  | n + 1, p1, x0, x2, x3, M => if 7 ≤ x3 then (some (x2, M)) else (if (f_X12_has x0 x3) ≠ 0 then (ck (0 ≤ x2 ∧ x2 < 7) (lt (upM M p1 x2 x3) fun M4 => f_X12_layOut_L4 n p1 x0 (wI (x2 + 1)) (wI (x3 + 1)) M4)) else (f_X12_layOut_L4 n p1 x0 x2 (wI (x3 + 1)) M))
set_option maxRecDepth 100000 in
set_option maxHeartbeats 4000000 in
theorem e_X12_layOut_L4 {g : Gm} {d : Nat} {p1 : Int} {x0 : Int} {r : Vv} {σ' : Sg} {N : Mem} (hd : 1 ≤ d) (hp1 : K0 p1 = (20, 7) ∧ p1 ≠ 0 ∧ 801 ≤ p1) : ∀ (n : Nat) {x2 x3 : Int} {M : Mem} {q : Int × Mem}, f_X12_layOut_L4 n p1 x0 x2 x3 M = some q → Ev g d mtX12_layOut 34 [(2, vI q.1)] [] (sg (mx N q.2)) (0, 0) r σ' → Ev g d mtX12_layOut 4 [(0, vI x0), (1, vR p1), (2, vI x2), (3, vI x3)] [] (sg (mx N M)) (0, 0) r σ' := by
  intro n
  induction n with
  | zero =>
    intro x2 x3 M q h hk0
    rw [f_X12_layOut_L4.eq_1] at h
    cases h
  | succ n ih =>
    intro x2 x3 M q h hk0
    rw [f_X12_layOut_L4.eq_2] at h
    refine ev_iload_n (pc := 4) 3 dX12_layOut_4 rfl rfl ?_
    refine ev_bipush (pc := 5) (x := 7) dX12_layOut_5 cb_7 ?_
    refine ev_icmp_ge (pc := 7) (tgt := 34) dX12_layOut_7 (by decide) (fun b1 => ?_) (fun b1 => ?_)
    · rw [if_pos b1] at h
      cases h
      refine ev_pick [2] rfl ?_
      exact hk0
    · rw [if_neg b1] at h
      refine ev_iload_n (pc := 10) 0 dX12_layOut_10 rfl rfl ?_
      refine ev_iload_n (pc := 11) 3 dX12_layOut_11 rfl rfl ?_
      refine ev_cS (pc := 12) [vI x0, vI x3] [] rfl mkX12_has ml12_279 msX12_has dX12_layOut_12 rfl (Nat.le_of_ble_eq_true rfl) (by omega) rfl (e_X12_has (d := d - 1) (v := (f_X12_has x0 x3)) (by omega)  rfl) ?_
      refine ev_if_ne (pc := 15) (tgt := 21) dX12_layOut_15 (by decide) (fun b2 => ?_) (fun b2 => ?_)
      · rw [if_pos b2] at h
        refine ev_aload_n (pc := 21) 1 dX12_layOut_21 rfl rfl ?_
        refine ev_iload_n (pc := 22) 2 dX12_layOut_22 rfl rfl ?_
        refine ev_iload_n (pc := 23) 3 dX12_layOut_23 rfl rfl ?_
        obtain ⟨c3, h⟩ := ck_some h
        obtain ⟨M4, eM4, h⟩ := lt_some h
        refine ev_istr (pc := 24) dX12_layOut_24 hp1.1 hp1.2.1 hp1.2.2 c3.1 c3.2 eM4 ?_
        refine ev_iinc (pc := 25) (il' := [(2, vI (wI (x2 + 1))), (0, vI x0), (1, vR p1), (3, vI x3)]) 2 dX12_layOut_25 rfl (Nat.le_of_ble_eq_true rfl) rfl rfl ?_
        refine ev_iinc (pc := 28) (il' := [(3, vI (wI (x3 + 1))), (2, vI (wI (x2 + 1))), (0, vI x0), (1, vR p1)]) 3 dX12_layOut_28 rfl (Nat.le_of_ble_eq_true rfl) rfl rfl ?_
        refine ev_goto (pc := 31) (tgt := 4) dX12_layOut_31 (by decide) ?_
        refine ev_pick [2, 3, 1, 0] rfl ?_
        exact ih h hk0
      · rw [if_neg b2] at h
        refine ev_goto (pc := 18) (tgt := 28) dX12_layOut_18 (by decide) ?_
        refine ev_iinc (pc := 28) (il' := [(3, vI (wI (x3 + 1))), (0, vI x0), (1, vR p1), (2, vI x2)]) 3 dX12_layOut_28 rfl (Nat.le_of_ble_eq_true rfl) rfl rfl ?_
        refine ev_goto (pc := 31) (tgt := 4) dX12_layOut_31 (by decide) ?_
        refine ev_pick [1, 2, 3, 0] rfl ?_
        exact ih h hk0
def f_X12_layOut (n : Nat) (p0 p1 : Int) (M : Mem) : Option (Int × Mem) := (f_X12_layOut_L4 n p1 p0 0 0 M).bind fun q5 => some (q5.1, q5.2)
set_option maxRecDepth 100000 in
set_option maxHeartbeats 4000000 in
theorem e_X12_layOut {g : Gm} {d : Nat} {n : Nat} {p0 p1 : Int} {M N : Mem} {v : Int} {M' : Mem} (hd : 1 ≤ d) (hp1 : K0 p1 = (20, 7) ∧ p1 ≠ 0 ∧ 801 ≤ p1) (h : f_X12_layOut n p0 p1 M = some (v, M')) : EvM g d mtX12_layOut [vI p0, vR p1] (sg (mx N M)) (0, 0) (vI v) (sg (mx N M')) := by
  unfold f_X12_layOut at h
  refine EvM.of mkX12_layOut.2.2.2.1 (Nat.le_of_ble_eq_true rfl) ?_
  change Ev g d mtX12_layOut 0 [(0, vI p0), (1, vR p1)] [] (sg (mx N M)) (0, 0) (vI v) (sg (mx N M'))
  refine ev_iconst (pc := 0) (x := 0) dX12_layOut_0 ci_0 ?_
  refine ev_istore_n (pc := 1) (il' := [(2, vI 0), (0, vI p0), (1, vR p1)]) dX12_layOut_1 rfl (Nat.le_of_ble_eq_true rfl) rfl ?_
  refine ev_iconst (pc := 2) (x := 0) dX12_layOut_2 ci_0 ?_
  refine ev_istore_n (pc := 3) (il' := [(3, vI 0), (2, vI 0), (0, vI p0), (1, vR p1)]) dX12_layOut_3 rfl (Nat.le_of_ble_eq_true rfl) rfl ?_
  obtain ⟨q5, hq5, h⟩ := bd h
  refine ev_pick [2, 3, 1, 0] rfl ?_
  refine e_X12_layOut_L4 hd hp1 n hq5 ?_
  refine ev_iload_n (pc := 34) 0 dX12_layOut_34 rfl rfl ?_
  cases h
  exact ev_iret (pc := 35) dX12_layOut_35 rfl
def f_X12_hauledBy_L14_J120 (n : Nat) (K : Int → Int → Int → Int → Mem → Option (Int × Mem)) (x1 x4 x5 x6 x8 s0 s2 s3 s4 : Int) (M : Mem) : Option (Int × Mem) := (f_X12_haulsOf n s2 s3 s4 M).bind fun q10 => K x5 x6 (wI (s0 + q10.1)) (wI (x8 + (-1))) q10.2
set_option maxRecDepth 100000 in
set_option maxHeartbeats 4000000 in
theorem e_X12_hauledBy_L14_J120 {g : Gm} {d : Nat} {n : Nat} {K : Int → Int → Int → Int → Mem → Option (Int × Mem)} {x1 x4 x5 x6 x8 s0 s2 s3 s4 : Int} {M N : Mem} {v : Int} {M' : Mem} (hd : 6 ≤ d) (hK : ∀ {x5 x6 x7 x8 : Int} {M : Mem}, K x5 x6 x7 x8 M = some (v, M') → Ev g d mtX12_hauledBy 14 [(0, vR 801), (1, vI x1), (4, vI x4), (5, vI x5), (6, vI x6), (7, vI x7), (8, vI x8)] [] (sg (mx N M)) (0, 0) (vI v) (sg (mx N M'))) (h : f_X12_hauledBy_L14_J120 n K x1 x4 x5 x6 x8 s0 s2 s3 s4 M = some (v, M')) : Ev g d mtX12_hauledBy 120 [(0, vR 801), (1, vI x1), (4, vI x4), (5, vI x5), (6, vI x6), (8, vI x8)] [vI s4, vI s3, vI s2, vR 801, vI s0] (sg (mx N M)) (0, 0) (vI v) (sg (mx N M')) := by
  unfold f_X12_hauledBy_L14_J120 at h
  obtain ⟨q10, hq10, h⟩ := bd h
  refine ev_cV (pc := 120) [vI s2, vI s3, vI s4] [vI s0] rfl mkX12_haulsOf ml12_352 mnX12_haulsOf dX12_hauledBy_120 kd_801 (by omega) rfl (Nat.le_of_ble_eq_true rfl) (by omega) rfl (e_X12_haulsOf (d := d - 1) (v := q10.1) (M' := q10.2) (by omega)  hq10) ?_
  refine ev_iadd (pc := 123) dX12_hauledBy_123 ?_
  refine ev_istore (pc := 124) (il' := [(7, vI (wI (s0 + q10.1))), (0, vR 801), (1, vI x1), (4, vI x4), (5, vI x5), (6, vI x6), (8, vI x8)]) dX12_hauledBy_124 (Nat.le_of_ble_eq_true rfl) rfl ?_
  refine ev_iinc (pc := 126) (il' := [(8, vI (wI (x8 + (-1)))), (7, vI (wI (s0 + q10.1))), (0, vR 801), (1, vI x1), (4, vI x4), (5, vI x5), (6, vI x6)]) 6 dX12_hauledBy_126 rfl (Nat.le_of_ble_eq_true rfl) rfl rfl ?_
  refine ev_goto (pc := 129) (tgt := 14) dX12_hauledBy_129 (by decide) ?_
  refine ev_pick [2, 3, 4, 5, 6, 1, 0] rfl ?_
  exact hK h
def f_X12_hauledBy_L14_J81 (n : Nat) (K : Int → Int → Int → Int → Mem → Option (Int × Mem)) (x1 x4 x5 x6 x7 x8 x9 : Int) (M : Mem) : Option (Int × Mem) := ck (0 ≤ x8 ∧ x8 < 7) ((f_X12_get (M 816 x8) 0 M).bind fun q8 => if x4 ≤ x9 then (f_X12_hauledBy_L14_J120 n (K) x1 x4 x5 x6 x8 x7 x1 q8 0 M) else (ck (0 ≤ x9 ∧ x9 < 7) ((f_X12_get (M 817 x9) 0 M).bind fun q12 => f_X12_hauledBy_L14_J120 n (K) x1 x4 x5 x6 x8 x7 x1 q8 q12 M)))
set_option maxRecDepth 100000 in
set_option maxHeartbeats 4000000 in
theorem e_X12_hauledBy_L14_J81 {g : Gm} {d : Nat} {n : Nat} {K : Int → Int → Int → Int → Mem → Option (Int × Mem)} {x1 x4 x5 x6 x7 x8 x9 : Int} {M N : Mem} {v : Int} {M' : Mem} (hd : 6 ≤ d) (hK : ∀ {x5 x6 x7 x8 : Int} {M : Mem}, K x5 x6 x7 x8 M = some (v, M') → Ev g d mtX12_hauledBy 14 [(0, vR 801), (1, vI x1), (4, vI x4), (5, vI x5), (6, vI x6), (7, vI x7), (8, vI x8)] [] (sg (mx N M)) (0, 0) (vI v) (sg (mx N M'))) (h : f_X12_hauledBy_L14_J81 n K x1 x4 x5 x6 x7 x8 x9 M = some (v, M')) : Ev g d mtX12_hauledBy 81 [(0, vR 801), (1, vI x1), (4, vI x4), (5, vI x5), (6, vI x6), (7, vI x7), (8, vI x8), (9, vI x9)] [] (sg (mx N M)) (0, 0) (vI v) (sg (mx N M')) := by
  unfold f_X12_hauledBy_L14_J81 at h
  refine ev_iload (pc := 81) 5 dX12_hauledBy_81 rfl ?_
  refine ev_aload_n (pc := 83) 0 dX12_hauledBy_83 rfl rfl ?_
  refine ev_iload_n (pc := 84) 1 dX12_hauledBy_84 rfl rfl ?_
  refine ev_aload_n (pc := 85) 0 dX12_hauledBy_85 rfl rfl ?_
  refine ev_aload_n (pc := 86) 0 dX12_hauledBy_86 rfl rfl ?_
  refine ev_getR (pc := 87) fl12_65 rfl dX12_hauledBy_87 rfl kd_801 (by omega) (rf_801_36 _) ?_
  refine ev_iload (pc := 90) 6 dX12_hauledBy_90 rfl ?_
  obtain ⟨c7, h⟩ := ck_some h
  refine ev_ildr (pc := 92) dX12_hauledBy_92 kd_816 (by omega) (by omega) c7.1 c7.2 ?_
  refine ev_iconst (pc := 93) (x := 0) dX12_hauledBy_93 ci_0 ?_
  obtain ⟨q8, hq8, h⟩ := bd h
  refine ev_cV (pc := 94) [vI (M 816 x8), vI 0] [vI x1, vR 801, vI x7] rfl mkX12_get ml12_340 mnX12_get dX12_hauledBy_94 kd_801 (by omega) rfl (Nat.le_of_ble_eq_true rfl) (by omega) rfl (e_X12_get (d := d - 1) (v := q8) (by omega)  hq8) ?_
  refine ev_iload (pc := 97) 7 dX12_hauledBy_97 rfl ?_
  refine ev_iload (pc := 99) 2 dX12_hauledBy_99 rfl ?_
  refine ev_icmp_ge (pc := 101) (tgt := 119) dX12_hauledBy_101 (by decide) (fun b9 => ?_) (fun b9 => ?_)
  · rw [if_pos b9] at h
    refine ev_iconst (pc := 119) (x := 0) dX12_hauledBy_119 ci_0 ?_
    refine ev_pick [0, 1, 2, 3, 4, 6] rfl ?_
    exact e_X12_hauledBy_L14_J120 hd  hK h
  · rw [if_neg b9] at h
    refine ev_aload_n (pc := 104) 0 dX12_hauledBy_104 rfl rfl ?_
    refine ev_aload_n (pc := 105) 0 dX12_hauledBy_105 rfl rfl ?_
    refine ev_getR (pc := 106) fl12_68 rfl dX12_hauledBy_106 rfl kd_801 (by omega) (rf_801_37 _) ?_
    refine ev_iload (pc := 109) 7 dX12_hauledBy_109 rfl ?_
    obtain ⟨c11, h⟩ := ck_some h
    refine ev_ildr (pc := 111) dX12_hauledBy_111 kd_817 (by omega) (by omega) c11.1 c11.2 ?_
    refine ev_iconst (pc := 112) (x := 0) dX12_hauledBy_112 ci_0 ?_
    obtain ⟨q12, hq12, h⟩ := bd h
    refine ev_cV (pc := 113) [vI (M 817 x9), vI 0] [vI q8, vI x1, vR 801, vI x7] rfl mkX12_get ml12_340 mnX12_get dX12_hauledBy_113 kd_801 (by omega) rfl (Nat.le_of_ble_eq_true rfl) (by omega) rfl (e_X12_get (d := d - 1) (v := q12) (by omega)  hq12) ?_
    refine ev_goto (pc := 116) (tgt := 120) dX12_hauledBy_116 (by decide) ?_
    refine ev_pick [0, 1, 2, 3, 4, 6] rfl ?_
    exact e_X12_hauledBy_L14_J120 hd  hK h
def f_X12_hauledBy_L14_J65 (n : Nat) (K : Int → Int → Int → Int → Mem → Option (Int × Mem)) (x1 x4 x5 x6 x7 x8 x9 : Int) (M : Mem) : Option (Int × Mem) := if x4 ≤ x9 then (f_X12_hauledBy_L14_J81 n (K) x1 x4 x5 x6 x7 x8 x9 M) else (f_X12_hauledBy_L14_J81 n (K) x1 x4 x5 (bOr x6 (bShl 1 x9)) x7 x8 x9 M)
set_option maxRecDepth 100000 in
set_option maxHeartbeats 4000000 in
theorem e_X12_hauledBy_L14_J65 {g : Gm} {d : Nat} {n : Nat} {K : Int → Int → Int → Int → Mem → Option (Int × Mem)} {x1 x4 x5 x6 x7 x8 x9 : Int} {M N : Mem} {v : Int} {M' : Mem} (hd : 6 ≤ d) (hK : ∀ {x5 x6 x7 x8 : Int} {M : Mem}, K x5 x6 x7 x8 M = some (v, M') → Ev g d mtX12_hauledBy 14 [(0, vR 801), (1, vI x1), (4, vI x4), (5, vI x5), (6, vI x6), (7, vI x7), (8, vI x8)] [] (sg (mx N M)) (0, 0) (vI v) (sg (mx N M'))) (h : f_X12_hauledBy_L14_J65 n K x1 x4 x5 x6 x7 x8 x9 M = some (v, M')) : Ev g d mtX12_hauledBy 65 [(0, vR 801), (1, vI x1), (4, vI x4), (5, vI x5), (6, vI x6), (7, vI x7), (8, vI x8), (9, vI x9)] [] (sg (mx N M)) (0, 0) (vI v) (sg (mx N M')) := by
  unfold f_X12_hauledBy_L14_J65 at h
  refine ev_iload (pc := 65) 7 dX12_hauledBy_65 rfl ?_
  refine ev_iload (pc := 67) 2 dX12_hauledBy_67 rfl ?_
  refine ev_icmp_ge (pc := 69) (tgt := 81) dX12_hauledBy_69 (by decide) (fun b6 => ?_) (fun b6 => ?_)
  · rw [if_pos b6] at h
    refine ev_pick [0, 1, 2, 3, 4, 5, 6, 7] rfl ?_
    exact e_X12_hauledBy_L14_J81 hd  hK h
  · rw [if_neg b6] at h
    refine ev_iload (pc := 72) 4 dX12_hauledBy_72 rfl ?_
    refine ev_iconst (pc := 74) (x := 1) dX12_hauledBy_74 ci_1 ?_
    refine ev_iload (pc := 75) 7 dX12_hauledBy_75 rfl ?_
    refine ev_ishl (pc := 77) dX12_hauledBy_77 ?_
    refine ev_ior (pc := 78) dX12_hauledBy_78 ?_
    refine ev_istore (pc := 79) (il' := [(6, vI (bOr x6 (bShl 1 x9))), (0, vR 801), (1, vI x1), (4, vI x4), (5, vI x5), (7, vI x7), (8, vI x8), (9, vI x9)]) dX12_hauledBy_79 (Nat.le_of_ble_eq_true rfl) rfl ?_
    refine ev_pick [1, 2, 3, 4, 0, 5, 6, 7] rfl ?_
    exact e_X12_hauledBy_L14_J81 hd  hK h
def f_X12_hauledBy_L14 : Nat → Int → Int → Int → Int → Int → Int → Mem → Option (Int × Mem)
  | 0, _, _, _, _, _, _, _ => none
  | n + 1, x1, x4, x5, x6, x7, x8, M => if x8 < 0 then (some (x7, M)) else (ck ((wI (x4 + 1)) ≠ 0) (ck (0 ≤ x8 ∧ x8 < 4) (lt (upM M 818 x8 (iRem x5 (wI (x4 + 1)))) fun M4 => if x4 ≤ (iRem x5 (wI (x4 + 1))) then (f_X12_hauledBy_L14_J65 n (fun x5 x6 x7 x8 M => f_X12_hauledBy_L14 n x1 x4 x5 x6 x7 x8 M) x1 x4 (iDiv x5 (wI (x4 + 1))) x6 x7 x8 (iRem x5 (wI (x4 + 1))) M4) else (if (f_X12_has x6 (iRem x5 (wI (x4 + 1)))) = 0 then (f_X12_hauledBy_L14_J65 n (fun x5 x6 x7 x8 M => f_X12_hauledBy_L14 n x1 x4 x5 x6 x7 x8 M) x1 x4 (iDiv x5 (wI (x4 + 1))) x6 x7 x8 (iRem x5 (wI (x4 + 1))) M4) else (some ((-1), M4))))))
set_option maxRecDepth 100000 in
set_option maxHeartbeats 4000000 in
theorem e_X12_hauledBy_L14 {g : Gm} {d : Nat} {x1 x4 : Int} {N : Mem} (hd : 6 ≤ d) : ∀ (n : Nat) {x5 x6 x7 x8 : Int} {M : Mem} {v : Int} {M' : Mem}, f_X12_hauledBy_L14 n x1 x4 x5 x6 x7 x8 M = some (v, M') → Ev g d mtX12_hauledBy 14 [(0, vR 801), (1, vI x1), (4, vI x4), (5, vI x5), (6, vI x6), (7, vI x7), (8, vI x8)] [] (sg (mx N M)) (0, 0) (vI v) (sg (mx N M')) := by
  intro n
  induction n with
  | zero =>
    intro x5 x6 x7 x8 M v M' h
    rw [f_X12_hauledBy_L14.eq_1] at h
    cases h
  | succ n ih =>
    intro x5 x6 x7 x8 M v M' h
    rw [f_X12_hauledBy_L14.eq_2] at h
    refine ev_iload (pc := 14) 6 dX12_hauledBy_14 rfl ?_
    refine ev_if_lt (pc := 16) (tgt := 132) dX12_hauledBy_16 (by decide) (fun b1 => ?_) (fun b1 => ?_)
    · rw [if_pos b1] at h
      refine ev_iload (pc := 132) 5 dX12_hauledBy_132 rfl ?_
      cases h
      exact ev_iret (pc := 134) dX12_hauledBy_134 rfl
    · rw [if_neg b1] at h
      refine ev_iload (pc := 19) 3 dX12_hauledBy_19 rfl ?_
      refine ev_iload (pc := 21) 2 dX12_hauledBy_21 rfl ?_
      refine ev_iconst (pc := 23) (x := 1) dX12_hauledBy_23 ci_1 ?_
      refine ev_iadd (pc := 24) dX12_hauledBy_24 ?_
      obtain ⟨c2, h⟩ := ck_some h
      refine ev_irem (pc := 25) dX12_hauledBy_25 c2 ?_
      refine ev_istore (pc := 26) (il' := [(9, vI (iRem x5 (wI (x4 + 1)))), (0, vR 801), (1, vI x1), (4, vI x4), (5, vI x5), (6, vI x6), (7, vI x7), (8, vI x8)]) dX12_hauledBy_26 (Nat.le_of_ble_eq_true rfl) rfl ?_
      refine ev_iload (pc := 28) 4 dX12_hauledBy_28 rfl ?_
      refine ev_iload (pc := 30) 3 dX12_hauledBy_30 rfl ?_
      refine ev_iconst (pc := 32) (x := 1) dX12_hauledBy_32 ci_1 ?_
      refine ev_iadd (pc := 33) dX12_hauledBy_33 ?_
      refine ev_idiv (pc := 34) dX12_hauledBy_34 c2 ?_
      refine ev_istore (pc := 35) (il' := [(5, vI (iDiv x5 (wI (x4 + 1)))), (9, vI (iRem x5 (wI (x4 + 1)))), (0, vR 801), (1, vI x1), (4, vI x4), (6, vI x6), (7, vI x7), (8, vI x8)]) dX12_hauledBy_35 (Nat.le_of_ble_eq_true rfl) rfl ?_
      refine ev_aload_n (pc := 37) 2 dX12_hauledBy_37 rfl rfl ?_
      refine ev_getR (pc := 38) fl12_71 rfl dX12_hauledBy_38 rfl kd_801 (by omega) (rf_801_38 _) ?_
      refine ev_iload (pc := 41) 7 dX12_hauledBy_41 rfl ?_
      refine ev_iload (pc := 43) 1 dX12_hauledBy_43 rfl ?_
      obtain ⟨c3, h⟩ := ck_some h
      obtain ⟨M4, eM4, h⟩ := lt_some h
      refine ev_istr (pc := 45) dX12_hauledBy_45 kd_818 (by omega) (by omega) c3.1 c3.2 eM4 ?_
      refine ev_iload (pc := 46) 1 dX12_hauledBy_46 rfl ?_
      refine ev_iload (pc := 48) 4 dX12_hauledBy_48 rfl ?_
      refine ev_icmp_ge (pc := 50) (tgt := 65) dX12_hauledBy_50 (by decide) (fun b5 => ?_) (fun b5 => ?_)
      · rw [if_pos b5] at h
        refine ev_pick [2, 3, 4, 0, 5, 6, 7, 1] rfl ?_
        exact e_X12_hauledBy_L14_J65 hd  (fun h9 => ih h9) h
      · rw [if_neg b5] at h
        refine ev_iload (pc := 53) 5 dX12_hauledBy_53 rfl ?_
        refine ev_iload (pc := 55) 1 dX12_hauledBy_55 rfl ?_
        refine ev_cS (pc := 57) [vI x6, vI (iRem x5 (wI (x4 + 1)))] [] rfl mkX12_has ml12_279 msX12_has dX12_hauledBy_57 rfl (Nat.le_of_ble_eq_true rfl) (by omega) rfl (e_X12_has (d := d - 1) (v := (f_X12_has x6 (iRem x5 (wI (x4 + 1))))) (by omega)  rfl) ?_
        refine ev_if_eq (pc := 60) (tgt := 65) dX12_hauledBy_60 (by decide) (fun b13 => ?_) (fun b13 => ?_)
        · rw [if_pos b13] at h
          refine ev_pick [2, 3, 4, 0, 5, 6, 7, 1] rfl ?_
          exact e_X12_hauledBy_L14_J65 hd  (fun h9 => ih h9) h
        · rw [if_neg b13] at h
          refine ev_iconst (pc := 63) (x := (-1)) dX12_hauledBy_63 ci_m1 ?_
          cases h
          exact ev_iret (pc := 64) dX12_hauledBy_64 rfl
def f_X12_hauledBy (n : Nat) (p0 p1 p2 p3 : Int) (M : Mem) : Option (Int × Mem) := f_X12_hauledBy_L14 n p0 p3 p1 0 0 (wI (p2 - 1)) M
set_option maxRecDepth 100000 in
set_option maxHeartbeats 4000000 in
theorem e_X12_hauledBy {g : Gm} {d : Nat} {n : Nat} {p0 p1 p2 p3 : Int} {M N : Mem} {v : Int} {M' : Mem} (hd : 6 ≤ d) (h : f_X12_hauledBy n p0 p1 p2 p3 M = some (v, M')) : EvM g d mtX12_hauledBy [vR 801, vI p0, vI p1, vI p2, vI p3] (sg (mx N M)) (0, 0) (vI v) (sg (mx N M')) := by
  unfold f_X12_hauledBy at h
  refine EvM.of mkX12_hauledBy.2.2.2.1 (Nat.le_of_ble_eq_true rfl) ?_
  change Ev g d mtX12_hauledBy 0 [(0, vR 801), (1, vI p0), (2, vI p1), (3, vI p2), (4, vI p3)] [] (sg (mx N M)) (0, 0) (vI v) (sg (mx N M'))
  refine ev_iload_n (pc := 0) 2 dX12_hauledBy_0 rfl rfl ?_
  refine ev_istore (pc := 1) (il' := [(5, vI p1), (0, vR 801), (1, vI p0), (2, vI p1), (3, vI p2), (4, vI p3)]) dX12_hauledBy_1 (Nat.le_of_ble_eq_true rfl) rfl ?_
  refine ev_iconst (pc := 3) (x := 0) dX12_hauledBy_3 ci_0 ?_
  refine ev_istore (pc := 4) (il' := [(6, vI 0), (5, vI p1), (0, vR 801), (1, vI p0), (2, vI p1), (3, vI p2), (4, vI p3)]) dX12_hauledBy_4 (Nat.le_of_ble_eq_true rfl) rfl ?_
  refine ev_iconst (pc := 6) (x := 0) dX12_hauledBy_6 ci_0 ?_
  refine ev_istore (pc := 7) (il' := [(7, vI 0), (6, vI 0), (5, vI p1), (0, vR 801), (1, vI p0), (2, vI p1), (3, vI p2), (4, vI p3)]) dX12_hauledBy_7 (Nat.le_of_ble_eq_true rfl) rfl ?_
  refine ev_iload_n (pc := 9) 6 dX12_hauledBy_9 rfl rfl ?_
  refine ev_iconst (pc := 10) (x := 1) dX12_hauledBy_10 ci_1 ?_
  refine ev_isub (pc := 11) dX12_hauledBy_11 ?_
  refine ev_istore (pc := 12) (il' := [(8, vI (wI (p2 - 1))), (7, vI 0), (6, vI 0), (5, vI p1), (0, vR 801), (1, vI p0), (2, vI p1), (3, vI p2), (4, vI p3)]) dX12_hauledBy_12 (Nat.le_of_ble_eq_true rfl) rfl ?_
  refine ev_pick [4, 5, 8, 3, 2, 1, 0] rfl ?_
  exact e_X12_hauledBy_L14 hd  n h
def f_X12_bestHauling_L6 : Nat → Int → Int → Int → Int → Int → Mem → Option (Int)
  | 0, _, _, _, _, _, _ => none
  | n + 1, x1, x2, x3, x4, x5, M => if x2 ≤ x5 then (some x4) else (f_X12_bestHauling_L6 n x1 x2 x3 (wI (x4 * (wI (x3 + 1)))) (wI (x5 + 1)) M)
set_option maxRecDepth 100000 in
set_option maxHeartbeats 4000000 in
theorem e_X12_bestHauling_L6 {g : Gm} {d : Nat} {x1 x2 x3 : Int} {r : Vv} {σ' : Sg} {M N : Mem} (hd : 7 ≤ d) : ∀ (n : Nat) {x4 x5 : Int} {q : Int}, f_X12_bestHauling_L6 n x1 x2 x3 x4 x5 M = some q → Ev g d mtX12_bestHauling 26 [(0, vR 801), (1, vI x1), (2, vI x2), (3, vI x3), (4, vI q)] [] (sg (mx N M)) (0, 0) r σ' → Ev g d mtX12_bestHauling 6 [(0, vR 801), (1, vI x1), (2, vI x2), (3, vI x3), (4, vI x4), (5, vI x5)] [] (sg (mx N M)) (0, 0) r σ' := by
  intro n
  induction n with
  | zero =>
    intro x4 x5 q h hk0
    rw [f_X12_bestHauling_L6.eq_1] at h
    cases h
  | succ n ih =>
    intro x4 x5 q h hk0
    rw [f_X12_bestHauling_L6.eq_2] at h
    refine ev_iload (pc := 6) 5 dX12_bestHauling_6 rfl ?_
    refine ev_iload_n (pc := 8) 2 dX12_bestHauling_8 rfl rfl ?_
    refine ev_icmp_ge (pc := 9) (tgt := 26) dX12_bestHauling_9 (by decide) (fun b1 => ?_) (fun b1 => ?_)
    · rw [if_pos b1] at h
      cases h
      refine ev_pick [0, 1, 2, 3, 4] rfl ?_
      exact hk0
    · rw [if_neg b1] at h
      refine ev_iload (pc := 12) 4 dX12_bestHauling_12 rfl ?_
      refine ev_iload_n (pc := 14) 3 dX12_bestHauling_14 rfl rfl ?_
      refine ev_iconst (pc := 15) (x := 1) dX12_bestHauling_15 ci_1 ?_
      refine ev_iadd (pc := 16) dX12_bestHauling_16 ?_
      refine ev_imul (pc := 17) dX12_bestHauling_17 ?_
      refine ev_istore (pc := 18) (il' := [(4, vI (wI (x4 * (wI (x3 + 1))))), (0, vR 801), (1, vI x1), (2, vI x2), (3, vI x3), (5, vI x5)]) dX12_bestHauling_18 (Nat.le_of_ble_eq_true rfl) rfl ?_
      refine ev_iinc (pc := 20) (il' := [(5, vI (wI (x5 + 1))), (4, vI (wI (x4 * (wI (x3 + 1))))), (0, vR 801), (1, vI x1), (2, vI x2), (3, vI x3)]) 5 dX12_bestHauling_20 rfl (Nat.le_of_ble_eq_true rfl) rfl rfl ?_
      refine ev_goto (pc := 23) (tgt := 6) dX12_bestHauling_23 (by decide) ?_
      refine ev_pick [2, 3, 4, 5, 1, 0] rfl ?_
      exact ih h hk0
def f_X12_bestHauling_L74 : Nat → Int → Int → Int → Int → Int → Int → Int → Mem → Option (Mem)
  | 0, _, _, _, _, _, _, _, _ => none
  | n + 1, x1, x2, x3, x4, x5, x6, x8, M => if x2 ≤ x8 then (some M) else (ck (0 ≤ x8 ∧ x8 < 4) (lt (upM M 819 x8 (M 818 x8)) fun M9 => f_X12_bestHauling_L74 n x1 x2 x3 x4 x5 x6 (wI (x8 + 1)) M9))
set_option maxRecDepth 100000 in
set_option maxHeartbeats 4000000 in
theorem e_X12_bestHauling_L74 {g : Gm} {d : Nat} {x1 x2 x3 x4 x5 x6 : Int} {r : Vv} {σ' : Sg} {N : Mem} (hd : 7 ≤ d) : ∀ (n : Nat) {x8 : Int} {M : Mem} {q : Mem}, f_X12_bestHauling_L74 n x1 x2 x3 x4 x5 x6 x8 M = some q → Ev g d mtX12_bestHauling 100 [(0, vR 801), (1, vI x1), (2, vI x2), (3, vI x3), (4, vI x4), (5, vI x5), (6, vI x6)] [] (sg (mx N q)) (0, 0) r σ' → Ev g d mtX12_bestHauling 74 [(0, vR 801), (1, vI x1), (2, vI x2), (3, vI x3), (4, vI x4), (5, vI x5), (6, vI x6), (8, vI x8)] [] (sg (mx N M)) (0, 0) r σ' := by
  intro n
  induction n with
  | zero =>
    intro x8 M q h hk0
    rw [f_X12_bestHauling_L74.eq_1] at h
    cases h
  | succ n ih =>
    intro x8 M q h hk0
    rw [f_X12_bestHauling_L74.eq_2] at h
    refine ev_iload (pc := 74) 7 dX12_bestHauling_74 rfl ?_
    refine ev_iload_n (pc := 76) 2 dX12_bestHauling_76 rfl rfl ?_
    refine ev_icmp_ge (pc := 77) (tgt := 100) dX12_bestHauling_77 (by decide) (fun b7 => ?_) (fun b7 => ?_)
    · rw [if_pos b7] at h
      cases h
      refine ev_pick [0, 1, 2, 3, 4, 5, 6] rfl ?_
      exact hk0
    · rw [if_neg b7] at h
      refine ev_aload_n (pc := 80) 0 dX12_bestHauling_80 rfl rfl ?_
      refine ev_getR (pc := 81) fl12_74 rfl dX12_bestHauling_81 rfl kd_801 (by omega) (rf_801_39 _) ?_
      refine ev_iload (pc := 84) 7 dX12_bestHauling_84 rfl ?_
      refine ev_aload_n (pc := 86) 0 dX12_bestHauling_86 rfl rfl ?_
      refine ev_getR (pc := 87) fl12_71 rfl dX12_bestHauling_87 rfl kd_801 (by omega) (rf_801_38 _) ?_
      refine ev_iload (pc := 90) 7 dX12_bestHauling_90 rfl ?_
      obtain ⟨c8, h⟩ := ck_some h
      refine ev_ildr (pc := 92) dX12_bestHauling_92 kd_818 (by omega) (by omega) c8.1 c8.2 ?_
      obtain ⟨M9, eM9, h⟩ := lt_some h
      refine ev_istr (pc := 93) dX12_bestHauling_93 kd_819 (by omega) (by omega) c8.1 c8.2 eM9 ?_
      refine ev_iinc (pc := 94) (il' := [(8, vI (wI (x8 + 1))), (0, vR 801), (1, vI x1), (2, vI x2), (3, vI x3), (4, vI x4), (5, vI x5), (6, vI x6)]) 7 dX12_bestHauling_94 rfl (Nat.le_of_ble_eq_true rfl) rfl rfl ?_
      refine ev_goto (pc := 97) (tgt := 74) dX12_bestHauling_97 (by decide) ?_
      refine ev_pick [1, 2, 3, 4, 5, 6, 7, 0] rfl ?_
      exact ih h hk0
def f_X12_bestHauling_L34 : Nat → Int → Int → Int → Int → Int → Int → Mem → Option (Int × Mem)
  | 0, _, _, _, _, _, _, _ => none
  | n + 1, x1, x2, x3, x4, x5, x6, M => if x4 ≤ x6 then (some (x5, M)) else ((f_X12_hauledBy n x1 x6 x2 x3 M).bind fun q4 => if q4.1 < 0 then (f_X12_bestHauling_L34 n x1 x2 x3 x4 x5 (wI (x6 + 1)) q4.2) else (if q4.1 < x5 then ((f_X12_bestHauling_L74 n x1 x2 x3 x4 q4.1 x6 0 q4.2).bind fun q10 => f_X12_bestHauling_L34 n x1 x2 x3 x4 q4.1 (wI (x6 + 1)) q10) else (f_X12_bestHauling_L34 n x1 x2 x3 x4 x5 (wI (x6 + 1)) q4.2)))
set_option maxRecDepth 100000 in
set_option maxHeartbeats 4000000 in
theorem e_X12_bestHauling_L34 {g : Gm} {d : Nat} {x1 x2 x3 x4 : Int} {r : Vv} {σ' : Sg} {N : Mem} (hd : 7 ≤ d) : ∀ (n : Nat) {x5 x6 : Int} {M : Mem} {q : Int × Mem}, f_X12_bestHauling_L34 n x1 x2 x3 x4 x5 x6 M = some q → Ev g d mtX12_bestHauling 106 [(5, vI q.1)] [] (sg (mx N q.2)) (0, 0) r σ' → Ev g d mtX12_bestHauling 34 [(0, vR 801), (1, vI x1), (2, vI x2), (3, vI x3), (4, vI x4), (5, vI x5), (6, vI x6)] [] (sg (mx N M)) (0, 0) r σ' := by
  intro n
  induction n with
  | zero =>
    intro x5 x6 M q h hk0
    rw [f_X12_bestHauling_L34.eq_1] at h
    cases h
  | succ n ih =>
    intro x5 x6 M q h hk0
    rw [f_X12_bestHauling_L34.eq_2] at h
    refine ev_iload (pc := 34) 6 dX12_bestHauling_34 rfl ?_
    refine ev_iload (pc := 36) 4 dX12_bestHauling_36 rfl ?_
    refine ev_icmp_ge (pc := 38) (tgt := 106) dX12_bestHauling_38 (by decide) (fun b3 => ?_) (fun b3 => ?_)
    · rw [if_pos b3] at h
      cases h
      refine ev_pick [5] rfl ?_
      exact hk0
    · rw [if_neg b3] at h
      refine ev_aload_n (pc := 41) 0 dX12_bestHauling_41 rfl rfl ?_
      refine ev_iload_n (pc := 42) 1 dX12_bestHauling_42 rfl rfl ?_
      refine ev_iload (pc := 43) 6 dX12_bestHauling_43 rfl ?_
      refine ev_iload_n (pc := 45) 2 dX12_bestHauling_45 rfl rfl ?_
      refine ev_iload_n (pc := 46) 3 dX12_bestHauling_46 rfl rfl ?_
      obtain ⟨q4, hq4, h⟩ := bd h
      refine ev_cV (pc := 47) [vI x1, vI x6, vI x2, vI x3] [] rfl mkX12_hauledBy ml12_443 mnX12_hauledBy dX12_bestHauling_47 kd_801 (by omega) rfl (Nat.le_of_ble_eq_true rfl) (by omega) rfl (e_X12_hauledBy (d := d - 1) (v := q4.1) (M' := q4.2) (by omega)  hq4) ?_
      refine ev_istore (pc := 50) (il' := [(7, vI q4.1), (0, vR 801), (1, vI x1), (2, vI x2), (3, vI x3), (4, vI x4), (5, vI x5), (6, vI x6)]) dX12_bestHauling_50 (Nat.le_of_ble_eq_true rfl) rfl ?_
      refine ev_iload (pc := 52) 0 dX12_bestHauling_52 rfl ?_
      refine ev_if_lt (pc := 54) (tgt := 100) dX12_bestHauling_54 (by decide) (fun b5 => ?_) (fun b5 => ?_)
      · rw [if_pos b5] at h
        refine ev_iinc (pc := 100) (il' := [(6, vI (wI (x6 + 1))), (7, vI q4.1), (0, vR 801), (1, vI x1), (2, vI x2), (3, vI x3), (4, vI x4), (5, vI x5)]) 7 dX12_bestHauling_100 rfl (Nat.le_of_ble_eq_true rfl) rfl rfl ?_
        refine ev_goto (pc := 103) (tgt := 34) dX12_bestHauling_103 (by decide) ?_
        refine ev_pick [2, 3, 4, 5, 6, 7, 0] rfl ?_
        exact ih h hk0
      · rw [if_neg b5] at h
        refine ev_iload (pc := 57) 0 dX12_bestHauling_57 rfl ?_
        refine ev_iload (pc := 59) 6 dX12_bestHauling_59 rfl ?_
        refine ev_icmp_lt (pc := 61) (tgt := 67) dX12_bestHauling_61 (by decide) (fun b6 => ?_) (fun b6 => ?_)
        · rw [if_pos b6] at h
          refine ev_iload (pc := 67) 0 dX12_bestHauling_67 rfl ?_
          refine ev_istore (pc := 69) (il' := [(5, vI q4.1), (7, vI q4.1), (0, vR 801), (1, vI x1), (2, vI x2), (3, vI x3), (4, vI x4), (6, vI x6)]) dX12_bestHauling_69 (Nat.le_of_ble_eq_true rfl) rfl ?_
          refine ev_iconst (pc := 71) (x := 0) dX12_bestHauling_71 ci_0 ?_
          refine ev_istore (pc := 72) (il' := [(8, vI 0), (5, vI q4.1), (7, vI q4.1), (0, vR 801), (1, vI x1), (2, vI x2), (3, vI x3), (4, vI x4), (6, vI x6)]) dX12_bestHauling_72 (Nat.le_of_ble_eq_true rfl) rfl ?_
          obtain ⟨q10, hq10, h⟩ := bd h
          refine ev_pick [3, 4, 5, 6, 7, 1, 8, 0] rfl ?_
          refine e_X12_bestHauling_L74 hd  n hq10 ?_
          refine ev_iinc (pc := 100) (il' := [(6, vI (wI (x6 + 1))), (0, vR 801), (1, vI x1), (2, vI x2), (3, vI x3), (4, vI x4), (5, vI q4.1)]) 6 dX12_bestHauling_100 rfl (Nat.le_of_ble_eq_true rfl) rfl rfl ?_
          refine ev_goto (pc := 103) (tgt := 34) dX12_bestHauling_103 (by decide) ?_
          refine ev_pick [1, 2, 3, 4, 5, 6, 0] rfl ?_
          exact ih h hk0
        · rw [if_neg b6] at h
          refine ev_goto (pc := 64) (tgt := 100) dX12_bestHauling_64 (by decide) ?_
          refine ev_iinc (pc := 100) (il' := [(6, vI (wI (x6 + 1))), (7, vI q4.1), (0, vR 801), (1, vI x1), (2, vI x2), (3, vI x3), (4, vI x4), (5, vI x5)]) 7 dX12_bestHauling_100 rfl (Nat.le_of_ble_eq_true rfl) rfl rfl ?_
          refine ev_goto (pc := 103) (tgt := 34) dX12_bestHauling_103 (by decide) ?_
          refine ev_pick [2, 3, 4, 5, 6, 7, 0] rfl ?_
          exact ih h hk0
def f_X12_bestHauling (n : Nat) (p0 p1 p2 : Int) (M : Mem) : Option (Int × Mem) := (f_X12_bestHauling_L6 n p0 p1 p2 1 0 M).bind fun q2 => (f_X12_bestHauling_L34 n p0 p1 p2 q2 100000000 0 M).bind fun q11 => some (q11.1, q11.2)
set_option maxRecDepth 100000 in
set_option maxHeartbeats 4000000 in
theorem e_X12_bestHauling {g : Gm} {d : Nat} {n : Nat} {p0 p1 p2 : Int} {M N : Mem} {v : Int} {M' : Mem} (hd : 7 ≤ d) (h : f_X12_bestHauling n p0 p1 p2 M = some (v, M')) : EvM g d mtX12_bestHauling [vR 801, vI p0, vI p1, vI p2] (sg (mx N M)) (0, 0) (vI v) (sg (mx N M')) := by
  unfold f_X12_bestHauling at h
  refine EvM.of mkX12_bestHauling.2.2.2.1 (Nat.le_of_ble_eq_true rfl) ?_
  change Ev g d mtX12_bestHauling 0 [(0, vR 801), (1, vI p0), (2, vI p1), (3, vI p2)] [] (sg (mx N M)) (0, 0) (vI v) (sg (mx N M'))
  refine ev_iconst (pc := 0) (x := 1) dX12_bestHauling_0 ci_1 ?_
  refine ev_istore (pc := 1) (il' := [(4, vI 1), (0, vR 801), (1, vI p0), (2, vI p1), (3, vI p2)]) dX12_bestHauling_1 (Nat.le_of_ble_eq_true rfl) rfl ?_
  refine ev_iconst (pc := 3) (x := 0) dX12_bestHauling_3 ci_0 ?_
  refine ev_istore (pc := 4) (il' := [(5, vI 0), (4, vI 1), (0, vR 801), (1, vI p0), (2, vI p1), (3, vI p2)]) dX12_bestHauling_4 (Nat.le_of_ble_eq_true rfl) rfl ?_
  obtain ⟨q2, hq2, h⟩ := bd h
  refine ev_pick [2, 3, 4, 5, 1, 0] rfl ?_
  refine e_X12_bestHauling_L6 hd  n hq2 ?_
  refine ev_ldcw (pc := 26) (x := 100000000) rfl kc12_436 cc_100000000 dX12_bestHauling_26 ?_
  refine ev_istore (pc := 29) (il' := [(5, vI 100000000), (0, vR 801), (1, vI p0), (2, vI p1), (3, vI p2), (4, vI q2)]) dX12_bestHauling_29 (Nat.le_of_ble_eq_true rfl) rfl ?_
  refine ev_iconst (pc := 31) (x := 0) dX12_bestHauling_31 ci_0 ?_
  refine ev_istore (pc := 32) (il' := [(6, vI 0), (5, vI 100000000), (0, vR 801), (1, vI p0), (2, vI p1), (3, vI p2), (4, vI q2)]) dX12_bestHauling_32 (Nat.le_of_ble_eq_true rfl) rfl ?_
  obtain ⟨q11, hq11, h⟩ := bd h
  refine ev_pick [2, 3, 4, 5, 6, 1, 0] rfl ?_
  refine e_X12_bestHauling_L34 hd  n hq11 ?_
  refine ev_iload (pc := 106) 0 dX12_bestHauling_106 rfl ?_
  cases h
  exact ev_iret (pc := 108) dX12_bestHauling_108 rfl
def f_X12_hauling_L137_J172 (n : Nat) (K : Int → Option (Int × Mem)) (x4 x6 x7 x9 s0 : Int) (M : Mem) : Option (Int × Mem) := ck (0 ≤ x9 ∧ x9 < 7) (if (M 816 x9) ≠ x4 then (if s0 ≠ x4 then (K (wI (x9 + 1))) else (some ((M 816 x9), M))) else (some (s0, M)))
set_option maxRecDepth 100000 in
set_option maxHeartbeats 4000000 in
theorem e_X12_hauling_L137_J172 {g : Gm} {d : Nat} {n : Nat} {K : Int → Option (Int × Mem)} {x4 x6 x7 x9 s0 : Int} {M N : Mem} {v : Int} {M' : Mem} (hd : 8 ≤ d) (hK : ∀ {x9 : Int}, K x9 = some (v, M') → Ev g d mtX12_hauling 137 [(0, vR 801), (4, vI x4), (6, vI x6), (7, vI x7), (9, vI x9)] [] (sg (mx N M)) (0, 0) (vI v) (sg (mx N M'))) (h : f_X12_hauling_L137_J172 n K x4 x6 x7 x9 s0 M = some (v, M')) : Ev g d mtX12_hauling 172 [(0, vR 801), (4, vI x4), (6, vI x6), (7, vI x7), (9, vI x9)] [vI s0] (sg (mx N M)) (0, 0) (vI v) (sg (mx N M')) := by
  unfold f_X12_hauling_L137_J172 at h
  refine ev_istore (pc := 172) (il' := [(10, vI s0), (0, vR 801), (4, vI x4), (6, vI x6), (7, vI x7), (9, vI x9)]) dX12_hauling_172 (Nat.le_of_ble_eq_true rfl) rfl ?_
  refine ev_aload_n (pc := 174) 1 dX12_hauling_174 rfl rfl ?_
  refine ev_getR (pc := 175) fl12_65 rfl dX12_hauling_175 rfl kd_801 (by omega) (rf_801_36 _) ?_
  refine ev_iload (pc := 178) 5 dX12_hauling_178 rfl ?_
  obtain ⟨c17, h⟩ := ck_some h
  refine ev_ildr (pc := 180) dX12_hauling_180 kd_816 (by omega) (by omega) c17.1 c17.2 ?_
  refine ev_iload (pc := 181) 2 dX12_hauling_181 rfl ?_
  refine ev_icmp_ne (pc := 183) (tgt := 189) dX12_hauling_183 (by decide) (fun b18 => ?_) (fun b18 => ?_)
  · rw [if_pos b18] at h
    refine ev_iload (pc := 189) 0 dX12_hauling_189 rfl ?_
    refine ev_iload (pc := 191) 2 dX12_hauling_191 rfl ?_
    refine ev_icmp_ne (pc := 193) (tgt := 204) dX12_hauling_193 (by decide) (fun b19 => ?_) (fun b19 => ?_)
    · rw [if_pos b19] at h
      refine ev_iinc (pc := 204) (il' := [(9, vI (wI (x9 + 1))), (10, vI s0), (0, vR 801), (4, vI x4), (6, vI x6), (7, vI x7)]) 5 dX12_hauling_204 rfl (Nat.le_of_ble_eq_true rfl) rfl rfl ?_
      refine ev_goto (pc := 207) (tgt := 137) dX12_hauling_207 (by decide) ?_
      refine ev_pick [2, 3, 4, 5, 0] rfl ?_
      exact hK h
    · rw [if_neg b19] at h
      refine ev_aload_n (pc := 196) 1 dX12_hauling_196 rfl rfl ?_
      refine ev_getR (pc := 197) fl12_65 rfl dX12_hauling_197 rfl kd_801 (by omega) (rf_801_36 _) ?_
      refine ev_iload (pc := 200) 5 dX12_hauling_200 rfl ?_
      refine ev_ildr (pc := 202) dX12_hauling_202 kd_816 (by omega) (by omega) c17.1 c17.2 ?_
      cases h
      exact ev_iret (pc := 203) dX12_hauling_203 rfl
  · rw [if_neg b18] at h
    refine ev_iload (pc := 186) 0 dX12_hauling_186 rfl ?_
    cases h
    exact ev_iret (pc := 188) dX12_hauling_188 rfl
def f_X12_hauling_L137 : Nat → Int → Int → Int → Int → Mem → Option (Int × Mem)
  | 0, _, _, _, _, _ => none
  | n + 1, x4, x6, x7, x9, M => if x6 ≤ x9 then (some ((-1), M)) else (ck (0 ≤ x9 ∧ x9 < 4) (if x7 ≤ (M 819 x9) then (f_X12_hauling_L137_J172 n (fun x9 => f_X12_hauling_L137 n x4 x6 x7 x9 M) x4 x6 x7 x9 (-1) M) else (ck (0 ≤ (M 819 x9) ∧ (M 819 x9) < 7) (f_X12_hauling_L137_J172 n (fun x9 => f_X12_hauling_L137 n x4 x6 x7 x9 M) x4 x6 x7 x9 (M 817 (M 819 x9)) M))))
set_option maxRecDepth 100000 in
set_option maxHeartbeats 4000000 in
theorem e_X12_hauling_L137 {g : Gm} {d : Nat} {x4 x6 x7 : Int} {M N : Mem} (hd : 8 ≤ d) : ∀ (n : Nat) {x9 : Int} {v : Int} {M' : Mem}, f_X12_hauling_L137 n x4 x6 x7 x9 M = some (v, M') → Ev g d mtX12_hauling 137 [(0, vR 801), (4, vI x4), (6, vI x6), (7, vI x7), (9, vI x9)] [] (sg (mx N M)) (0, 0) (vI v) (sg (mx N M')) := by
  intro n
  induction n with
  | zero =>
    intro x9 v M' h
    rw [f_X12_hauling_L137.eq_1] at h
    cases h
  | succ n ih =>
    intro x9 v M' h
    rw [f_X12_hauling_L137.eq_2] at h
    refine ev_iload (pc := 137) 4 dX12_hauling_137 rfl ?_
    refine ev_iload (pc := 139) 2 dX12_hauling_139 rfl ?_
    refine ev_icmp_ge (pc := 141) (tgt := 210) dX12_hauling_141 (by decide) (fun b14 => ?_) (fun b14 => ?_)
    · rw [if_pos b14] at h
      refine ev_iconst (pc := 210) (x := (-1)) dX12_hauling_210 ci_m1 ?_
      cases h
      exact ev_iret (pc := 211) dX12_hauling_211 rfl
    · rw [if_neg b14] at h
      refine ev_aload_n (pc := 144) 0 dX12_hauling_144 rfl rfl ?_
      refine ev_getR (pc := 145) fl12_74 rfl dX12_hauling_145 rfl kd_801 (by omega) (rf_801_39 _) ?_
      refine ev_iload (pc := 148) 4 dX12_hauling_148 rfl ?_
      obtain ⟨c15, h⟩ := ck_some h
      refine ev_ildr (pc := 150) dX12_hauling_150 kd_819 (by omega) (by omega) c15.1 c15.2 ?_
      refine ev_iload (pc := 151) 3 dX12_hauling_151 rfl ?_
      refine ev_icmp_ge (pc := 153) (tgt := 171) dX12_hauling_153 (by decide) (fun b16 => ?_) (fun b16 => ?_)
      · rw [if_pos b16] at h
        refine ev_iconst (pc := 171) (x := (-1)) dX12_hauling_171 ci_m1 ?_
        refine ev_pick [0, 1, 2, 3, 4] rfl ?_
        exact e_X12_hauling_L137_J172 hd  (fun h9 => ih h9) h
      · rw [if_neg b16] at h
        refine ev_aload_n (pc := 156) 0 dX12_hauling_156 rfl rfl ?_
        refine ev_getR (pc := 157) fl12_68 rfl dX12_hauling_157 rfl kd_801 (by omega) (rf_801_37 _) ?_
        refine ev_aload_n (pc := 160) 0 dX12_hauling_160 rfl rfl ?_
        refine ev_getR (pc := 161) fl12_74 rfl dX12_hauling_161 rfl kd_801 (by omega) (rf_801_39 _) ?_
        refine ev_iload (pc := 164) 4 dX12_hauling_164 rfl ?_
        refine ev_ildr (pc := 166) dX12_hauling_166 kd_819 (by omega) (by omega) c15.1 c15.2 ?_
        obtain ⟨c20, h⟩ := ck_some h
        refine ev_ildr (pc := 167) dX12_hauling_167 kd_817 (by omega) (by omega) c20.1 c20.2 ?_
        refine ev_goto (pc := 168) (tgt := 172) dX12_hauling_168 (by decide) ?_
        refine ev_pick [0, 1, 2, 3, 4] rfl ?_
        exact e_X12_hauling_L137_J172 hd  (fun h9 => ih h9) h
def f_X12_hauling_J94 (n : Nat) (x1 x2 x3 x4 : Int) (M : Mem) : Option (Int × Mem) := (f_X12_layOut n x2 816 M).bind fun q10 => (f_X12_layOut n x3 817 q10.2).bind fun q11 => (f_X12_bestHauling n x1 q10.1 q11.1 q11.2).bind fun q12 => if x4 ≠ (-1) then (f_X12_hauling_L137 n x4 q10.1 q11.1 0 q12.2) else (some (q12.1, q12.2))
set_option maxRecDepth 100000 in
set_option maxHeartbeats 4000000 in
theorem e_X12_hauling_J94 {g : Gm} {d : Nat} {n : Nat} {x1 x2 x3 x4 : Int} {M N : Mem} {v : Int} {M' : Mem} (hd : 8 ≤ d) (h : f_X12_hauling_J94 n x1 x2 x3 x4 M = some (v, M')) : Ev g d mtX12_hauling 94 [(0, vR 801), (1, vI x1), (2, vI x2), (3, vI x3), (4, vI x4)] [] (sg (mx N M)) (0, 0) (vI v) (sg (mx N M')) := by
  unfold f_X12_hauling_J94 at h
  refine ev_iload_n (pc := 94) 2 dX12_hauling_94 rfl rfl ?_
  refine ev_aload_n (pc := 95) 0 dX12_hauling_95 rfl rfl ?_
  refine ev_getR (pc := 96) fl12_65 rfl dX12_hauling_96 rfl kd_801 (by omega) (rf_801_36 _) ?_
  obtain ⟨q10, hq10, h⟩ := bd h
  refine ev_cS (pc := 99) [vI x2, vR 816] [] rfl mkX12_layOut ml12_449 msX12_layOut dX12_hauling_99 rfl (Nat.le_of_ble_eq_true rfl) (by omega) rfl (e_X12_layOut (d := d - 1) (v := q10.1) (M' := q10.2) (by omega) ⟨kd_816, (by omega), (by omega)⟩ hq10) ?_
  refine ev_istore (pc := 102) (il' := [(6, vI q10.1), (0, vR 801), (1, vI x1), (2, vI x2), (3, vI x3), (4, vI x4)]) dX12_hauling_102 (Nat.le_of_ble_eq_true rfl) rfl ?_
  refine ev_iload_n (pc := 104) 4 dX12_hauling_104 rfl rfl ?_
  refine ev_aload_n (pc := 105) 1 dX12_hauling_105 rfl rfl ?_
  refine ev_getR (pc := 106) fl12_68 rfl dX12_hauling_106 rfl kd_801 (by omega) (rf_801_37 _) ?_
  obtain ⟨q11, hq11, h⟩ := bd h
  refine ev_cS (pc := 109) [vI x3, vR 817] [] rfl mkX12_layOut ml12_449 msX12_layOut dX12_hauling_109 rfl (Nat.le_of_ble_eq_true rfl) (by omega) rfl (e_X12_layOut (d := d - 1) (v := q11.1) (M' := q11.2) (by omega) ⟨kd_817, (by omega), (by omega)⟩ hq11) ?_
  refine ev_istore (pc := 112) (il' := [(7, vI q11.1), (6, vI q10.1), (0, vR 801), (1, vI x1), (2, vI x2), (3, vI x3), (4, vI x4)]) dX12_hauling_112 (Nat.le_of_ble_eq_true rfl) rfl ?_
  refine ev_aload_n (pc := 114) 2 dX12_hauling_114 rfl rfl ?_
  refine ev_iload_n (pc := 115) 3 dX12_hauling_115 rfl rfl ?_
  refine ev_iload (pc := 116) 1 dX12_hauling_116 rfl ?_
  refine ev_iload (pc := 118) 0 dX12_hauling_118 rfl ?_
  obtain ⟨q12, hq12, h⟩ := bd h
  refine ev_cV (pc := 120) [vI x1, vI q10.1, vI q11.1] [] rfl mkX12_bestHauling ml12_453 mnX12_bestHauling dX12_hauling_120 kd_801 (by omega) rfl (Nat.le_of_ble_eq_true rfl) (by omega) rfl (e_X12_bestHauling (d := d - 1) (v := q12.1) (M' := q12.2) (by omega)  hq12) ?_
  refine ev_istore (pc := 123) (il' := [(8, vI q12.1), (7, vI q11.1), (6, vI q10.1), (0, vR 801), (1, vI x1), (2, vI x2), (3, vI x3), (4, vI x4)]) dX12_hauling_123 (Nat.le_of_ble_eq_true rfl) rfl ?_
  refine ev_iload (pc := 125) 7 dX12_hauling_125 rfl ?_
  refine ev_iconst (pc := 127) (x := (-1)) dX12_hauling_127 ci_m1 ?_
  refine ev_icmp_ne (pc := 128) (tgt := 134) dX12_hauling_128 (by decide) (fun b13 => ?_) (fun b13 => ?_)
  · rw [if_pos b13] at h
    refine ev_iconst (pc := 134) (x := 0) dX12_hauling_134 ci_0 ?_
    refine ev_istore (pc := 135) (il' := [(9, vI 0), (8, vI q12.1), (7, vI q11.1), (6, vI q10.1), (0, vR 801), (1, vI x1), (2, vI x2), (3, vI x3), (4, vI x4)]) dX12_hauling_135 (Nat.le_of_ble_eq_true rfl) rfl ?_
    refine ev_pick [4, 8, 3, 2, 0] rfl ?_
    exact e_X12_hauling_L137 hd  n h
  · rw [if_neg b13] at h
    refine ev_iload (pc := 131) 0 dX12_hauling_131 rfl ?_
    cases h
    exact ev_iret (pc := 133) dX12_hauling_133 rfl
def f_X12_hauling (n : Nat) (p0 p1 p2 p3 : Int) (M : Mem) : Option (Int × Mem) := if (f_X12_isRiser p0 M) = 0 then (some ((-2), M)) else (if (f_X12_isIn p1 1 (wI ((bShl 1 (M 802 1)) - 1))) = 0 then (some ((-2), M)) else (if (f_X12_isIn p2 0 (wI ((bShl 1 (M 802 1)) - 1))) = 0 then (some ((-2), M)) else (if (bAnd p1 p2) ≠ 0 then (some ((-2), M)) else ((f_X12_bits n p1).bind fun q5 => if 4 < q5 then (some ((-2), M)) else ((f_X12_bits n p2).bind fun q7 => if q7 ≤ 4 then (if p3 = (-1) then (f_X12_hauling_J94 n p0 p1 p2 p3 M) else (if (f_X12_isShip p3 M) = 0 then (some ((-2), M)) else (if (f_X12_has (bOr p1 p2) p3) ≠ 0 then (f_X12_hauling_J94 n p0 p1 p2 p3 M) else (some ((-2), M))))) else (some ((-2), M)))))))
set_option maxRecDepth 100000 in
set_option maxHeartbeats 4000000 in
theorem e_X12_hauling {g : Gm} {d : Nat} {n : Nat} {p0 p1 p2 p3 : Int} {M N : Mem} {v : Int} {M' : Mem} (hd : 8 ≤ d) (h : f_X12_hauling n p0 p1 p2 p3 M = some (v, M')) : EvM g d mtX12_hauling [vR 801, vI p0, vI p1, vI p2, vI p3] (sg (mx N M)) (0, 0) (vI v) (sg (mx N M')) := by
  unfold f_X12_hauling at h
  refine EvM.of mkX12_hauling.2.2.2.1 (Nat.le_of_ble_eq_true rfl) ?_
  change Ev g d mtX12_hauling 0 [(0, vR 801), (1, vI p0), (2, vI p1), (3, vI p2), (4, vI p3)] [] (sg (mx N M)) (0, 0) (vI v) (sg (mx N M'))
  refine ev_iconst (pc := 0) (x := 1) dX12_hauling_0 ci_1 ?_
  refine ev_aload_n (pc := 1) 0 dX12_hauling_1 rfl rfl ?_
  refine ev_getR (pc := 2) fl12_7 rfl dX12_hauling_2 rfl kd_801 (by omega) (rf_801_0 _) ?_
  refine ev_iconst (pc := 5) (x := 1) dX12_hauling_5 ci_1 ?_
  refine ev_ildr (pc := 6) dX12_hauling_6 kd_802 (by omega) (by omega) (by omega) (by omega) ?_
  refine ev_ishl (pc := 7) dX12_hauling_7 ?_
  refine ev_iconst (pc := 8) (x := 1) dX12_hauling_8 ci_1 ?_
  refine ev_isub (pc := 9) dX12_hauling_9 ?_
  refine ev_istore (pc := 10) (il' := [(5, vI (wI ((bShl 1 (M 802 1)) - 1))), (0, vR 801), (1, vI p0), (2, vI p1), (3, vI p2), (4, vI p3)]) dX12_hauling_10 (Nat.le_of_ble_eq_true rfl) rfl ?_
  refine ev_aload_n (pc := 12) 1 dX12_hauling_12 rfl rfl ?_
  refine ev_iload_n (pc := 13) 2 dX12_hauling_13 rfl rfl ?_
  refine ev_cV (pc := 14) [vI p0] [] rfl mkX12_isRiser ml12_390 mnX12_isRiser dX12_hauling_14 kd_801 (by omega) rfl (Nat.le_of_ble_eq_true rfl) (by omega) rfl (e_X12_isRiser (d := d - 1) (v := (f_X12_isRiser p0 M)) (by omega)  rfl) ?_
  refine ev_if_eq (pc := 17) (tgt := 62) dX12_hauling_17 (by decide) (fun b1 => ?_) (fun b1 => ?_)
  · rw [if_pos b1] at h
    refine ev_bipush (pc := 62) (x := (-2)) dX12_hauling_62 cb_m2 ?_
    cases h
    exact ev_iret (pc := 64) dX12_hauling_64 rfl
  · rw [if_neg b1] at h
    refine ev_iload_n (pc := 20) 3 dX12_hauling_20 rfl rfl ?_
    refine ev_iconst (pc := 21) (x := 1) dX12_hauling_21 ci_1 ?_
    refine ev_iload (pc := 22) 0 dX12_hauling_22 rfl ?_
    refine ev_cS (pc := 24) [vI p1, vI 1, vI (wI ((bShl 1 (M 802 1)) - 1))] [] rfl mkX12_isIn ml12_90 msX12_isIn dX12_hauling_24 rfl (Nat.le_of_ble_eq_true rfl) (by omega) rfl (e_X12_isIn (d := d - 1) (v := (f_X12_isIn p1 1 (wI ((bShl 1 (M 802 1)) - 1)))) (by omega)  rfl) ?_
    refine ev_if_eq (pc := 27) (tgt := 62) dX12_hauling_27 (by decide) (fun b2 => ?_) (fun b2 => ?_)
    · rw [if_pos b2] at h
      refine ev_bipush (pc := 62) (x := (-2)) dX12_hauling_62 cb_m2 ?_
      cases h
      exact ev_iret (pc := 64) dX12_hauling_64 rfl
    · rw [if_neg b2] at h
      refine ev_iload_n (pc := 30) 4 dX12_hauling_30 rfl rfl ?_
      refine ev_iconst (pc := 31) (x := 0) dX12_hauling_31 ci_0 ?_
      refine ev_iload (pc := 32) 0 dX12_hauling_32 rfl ?_
      refine ev_cS (pc := 34) [vI p2, vI 0, vI (wI ((bShl 1 (M 802 1)) - 1))] [] rfl mkX12_isIn ml12_90 msX12_isIn dX12_hauling_34 rfl (Nat.le_of_ble_eq_true rfl) (by omega) rfl (e_X12_isIn (d := d - 1) (v := (f_X12_isIn p2 0 (wI ((bShl 1 (M 802 1)) - 1)))) (by omega)  rfl) ?_
      refine ev_if_eq (pc := 37) (tgt := 62) dX12_hauling_37 (by decide) (fun b3 => ?_) (fun b3 => ?_)
      · rw [if_pos b3] at h
        refine ev_bipush (pc := 62) (x := (-2)) dX12_hauling_62 cb_m2 ?_
        cases h
        exact ev_iret (pc := 64) dX12_hauling_64 rfl
      · rw [if_neg b3] at h
        refine ev_iload_n (pc := 40) 3 dX12_hauling_40 rfl rfl ?_
        refine ev_iload_n (pc := 41) 4 dX12_hauling_41 rfl rfl ?_
        refine ev_iand (pc := 42) dX12_hauling_42 ?_
        refine ev_if_ne (pc := 43) (tgt := 62) dX12_hauling_43 (by decide) (fun b4 => ?_) (fun b4 => ?_)
        · rw [if_pos b4] at h
          refine ev_bipush (pc := 62) (x := (-2)) dX12_hauling_62 cb_m2 ?_
          cases h
          exact ev_iret (pc := 64) dX12_hauling_64 rfl
        · rw [if_neg b4] at h
          refine ev_iload_n (pc := 46) 3 dX12_hauling_46 rfl rfl ?_
          obtain ⟨q5, hq5, h⟩ := bd h
          refine ev_cS (pc := 47) [vI p1] [] rfl mkX12_bits ml12_446 msX12_bits dX12_hauling_47 rfl (Nat.le_of_ble_eq_true rfl) (by omega) rfl (e_X12_bits (d := d - 1) (v := q5) (by omega)  hq5) ?_
          refine ev_iconst (pc := 50) (x := 4) dX12_hauling_50 ci_4 ?_
          refine ev_icmp_gt (pc := 51) (tgt := 62) dX12_hauling_51 (by decide) (fun b6 => ?_) (fun b6 => ?_)
          · rw [if_pos b6] at h
            refine ev_bipush (pc := 62) (x := (-2)) dX12_hauling_62 cb_m2 ?_
            cases h
            exact ev_iret (pc := 64) dX12_hauling_64 rfl
          · rw [if_neg b6] at h
            refine ev_iload_n (pc := 54) 4 dX12_hauling_54 rfl rfl ?_
            obtain ⟨q7, hq7, h⟩ := bd h
            refine ev_cS (pc := 55) [vI p2] [] rfl mkX12_bits ml12_446 msX12_bits dX12_hauling_55 rfl (Nat.le_of_ble_eq_true rfl) (by omega) rfl (e_X12_bits (d := d - 1) (v := q7) (by omega)  hq7) ?_
            refine ev_iconst (pc := 58) (x := 4) dX12_hauling_58 ci_4 ?_
            refine ev_icmp_le (pc := 59) (tgt := 65) dX12_hauling_59 (by decide) (fun b8 => ?_) (fun b8 => ?_)
            · rw [if_pos b8] at h
              refine ev_iload (pc := 65) 5 dX12_hauling_65 rfl ?_
              refine ev_iconst (pc := 67) (x := (-1)) dX12_hauling_67 ci_m1 ?_
              refine ev_icmp_eq (pc := 68) (tgt := 94) dX12_hauling_68 (by decide) (fun b9 => ?_) (fun b9 => ?_)
              · rw [if_pos b9] at h
                refine ev_pick [1, 2, 3, 4, 5] rfl ?_
                exact e_X12_hauling_J94 hd  h
              · rw [if_neg b9] at h
                refine ev_aload_n (pc := 71) 1 dX12_hauling_71 rfl rfl ?_
                refine ev_iload (pc := 72) 5 dX12_hauling_72 rfl ?_
                refine ev_cV (pc := 74) [vI p3] [] rfl mkX12_isShip ml12_393 mnX12_isShip dX12_hauling_74 kd_801 (by omega) rfl (Nat.le_of_ble_eq_true rfl) (by omega) rfl (e_X12_isShip (d := d - 1) (v := (f_X12_isShip p3 M)) (by omega)  rfl) ?_
                refine ev_if_eq (pc := 77) (tgt := 91) dX12_hauling_77 (by decide) (fun b21 => ?_) (fun b21 => ?_)
                · rw [if_pos b21] at h
                  refine ev_bipush (pc := 91) (x := (-2)) dX12_hauling_91 cb_m2 ?_
                  cases h
                  exact ev_iret (pc := 93) dX12_hauling_93 rfl
                · rw [if_neg b21] at h
                  refine ev_iload_n (pc := 80) 3 dX12_hauling_80 rfl rfl ?_
                  refine ev_iload_n (pc := 81) 4 dX12_hauling_81 rfl rfl ?_
                  refine ev_ior (pc := 82) dX12_hauling_82 ?_
                  refine ev_iload (pc := 83) 5 dX12_hauling_83 rfl ?_
                  refine ev_cS (pc := 85) [vI (bOr p1 p2), vI p3] [] rfl mkX12_has ml12_279 msX12_has dX12_hauling_85 rfl (Nat.le_of_ble_eq_true rfl) (by omega) rfl (e_X12_has (d := d - 1) (v := (f_X12_has (bOr p1 p2) p3)) (by omega)  rfl) ?_
                  refine ev_if_ne (pc := 88) (tgt := 94) dX12_hauling_88 (by decide) (fun b22 => ?_) (fun b22 => ?_)
                  · rw [if_pos b22] at h
                    refine ev_pick [1, 2, 3, 4, 5] rfl ?_
                    exact e_X12_hauling_J94 hd  h
                  · rw [if_neg b22] at h
                    refine ev_bipush (pc := 91) (x := (-2)) dX12_hauling_91 cb_m2 ?_
                    cases h
                    exact ev_iret (pc := 93) dX12_hauling_93 rfl
            · rw [if_neg b8] at h
              refine ev_bipush (pc := 62) (x := (-2)) dX12_hauling_62 cb_m2 ?_
              cases h
              exact ev_iret (pc := 64) dX12_hauling_64 rfl
def f_X12_thing_L22 : Nat → Int → Int → Mem → Option (Int × Mem)
  | 0, _, _, _ => none
  | n + 1, x1, x3, M => if (M 802 0) ≤ x3 then (some (x3, M)) else ((f_X12_isFalling n x3 x1 M).bind fun q4 => if q4.1 = 0 then (some (x3, q4.2)) else (f_X12_thing_L22 n x1 (wI (x3 + 1)) q4.2))
set_option maxRecDepth 100000 in
set_option maxHeartbeats 4000000 in
theorem e_X12_thing_L22 {g : Gm} {d : Nat} {x1 : Int} {r : Vv} {σ' : Sg} {N : Mem} (hd : 5 ≤ d) : ∀ (n : Nat) {x3 : Int} {M : Mem} {q : Int × Mem}, f_X12_thing_L22 n x1 x3 M = some q → Ev g d mtX12_thing 47 [(3, vI q.1)] [] (sg (mx N q.2)) (0, 0) r σ' → Ev g d mtX12_thing 22 [(0, vR 801), (1, vI x1), (3, vI x3)] [] (sg (mx N M)) (0, 0) r σ' := by
  intro n
  induction n with
  | zero =>
    intro x3 M q h hk0
    rw [f_X12_thing_L22.eq_1] at h
    cases h
  | succ n ih =>
    intro x3 M q h hk0
    rw [f_X12_thing_L22.eq_2] at h
    refine ev_iload_n (pc := 22) 2 dX12_thing_22 rfl rfl ?_
    refine ev_aload_n (pc := 23) 0 dX12_thing_23 rfl rfl ?_
    refine ev_getR (pc := 24) fl12_7 rfl dX12_thing_24 rfl kd_801 (by omega) (rf_801_0 _) ?_
    refine ev_iconst (pc := 27) (x := 0) dX12_thing_27 ci_0 ?_
    refine ev_ildr (pc := 28) dX12_thing_28 kd_802 (by omega) (by omega) (by omega) (by omega) ?_
    refine ev_icmp_ge (pc := 29) (tgt := 47) dX12_thing_29 (by decide) (fun b3 => ?_) (fun b3 => ?_)
    · rw [if_pos b3] at h
      cases h
      refine ev_pick [2] rfl ?_
      exact hk0
    · rw [if_neg b3] at h
      refine ev_aload_n (pc := 32) 0 dX12_thing_32 rfl rfl ?_
      refine ev_iload_n (pc := 33) 2 dX12_thing_33 rfl rfl ?_
      refine ev_iload_n (pc := 34) 1 dX12_thing_34 rfl rfl ?_
      obtain ⟨q4, hq4, h⟩ := bd h
      refine ev_cV (pc := 35) [vI x3, vI x1] [] rfl mkX12_isFalling ml12_456 mnX12_isFalling dX12_thing_35 kd_801 (by omega) rfl (Nat.le_of_ble_eq_true rfl) (by omega) rfl (e_X12_isFalling (d := d - 1) (v := q4.1) (M' := q4.2) (by omega)  hq4) ?_
      refine ev_if_eq (pc := 38) (tgt := 47) dX12_thing_38 (by decide) (fun b5 => ?_) (fun b5 => ?_)
      · rw [if_pos b5] at h
        cases h
        refine ev_pick [2] rfl ?_
        exact hk0
      · rw [if_neg b5] at h
        refine ev_iinc (pc := 41) (il' := [(3, vI (wI (x3 + 1))), (0, vR 801), (1, vI x1)]) 2 dX12_thing_41 rfl (Nat.le_of_ble_eq_true rfl) rfl rfl ?_
        refine ev_goto (pc := 44) (tgt := 22) dX12_thing_44 (by decide) ?_
        refine ev_pick [1, 2, 0] rfl ?_
        exact ih h hk0
def f_X12_thing (n : Nat) (p0 p1 : Int) (M : Mem) : Option (Int × Mem) := if (f_X12_isIn p0 1 99) = 0 then (some ((-1), M)) else (if (f_X12_isStep p1 M) ≠ 0 then ((f_X12_thing_L22 n p0 p1 M).bind fun q6 => some (q6.1, q6.2)) else (some ((-1), M)))
set_option maxRecDepth 100000 in
set_option maxHeartbeats 4000000 in
theorem e_X12_thing {g : Gm} {d : Nat} {n : Nat} {p0 p1 : Int} {M N : Mem} {v : Int} {M' : Mem} (hd : 5 ≤ d) (h : f_X12_thing n p0 p1 M = some (v, M')) : EvM g d mtX12_thing [vR 801, vI p0, vI p1] (sg (mx N M)) (0, 0) (vI v) (sg (mx N M')) := by
  unfold f_X12_thing at h
  refine EvM.of mkX12_thing.2.2.2.1 (Nat.le_of_ble_eq_true rfl) ?_
  change Ev g d mtX12_thing 0 [(0, vR 801), (1, vI p0), (2, vI p1)] [] (sg (mx N M)) (0, 0) (vI v) (sg (mx N M'))
  refine ev_iload_n (pc := 0) 1 dX12_thing_0 rfl rfl ?_
  refine ev_iconst (pc := 1) (x := 1) dX12_thing_1 ci_1 ?_
  refine ev_bipush (pc := 2) (x := 99) dX12_thing_2 cb_99 ?_
  refine ev_cS (pc := 4) [vI p0, vI 1, vI 99] [] rfl mkX12_isIn ml12_90 msX12_isIn dX12_thing_4 rfl (Nat.le_of_ble_eq_true rfl) (by omega) rfl (e_X12_isIn (d := d - 1) (v := (f_X12_isIn p0 1 99)) (by omega)  rfl) ?_
  refine ev_if_eq (pc := 7) (tgt := 18) dX12_thing_7 (by decide) (fun b1 => ?_) (fun b1 => ?_)
  · rw [if_pos b1] at h
    refine ev_iconst (pc := 18) (x := (-1)) dX12_thing_18 ci_m1 ?_
    cases h
    exact ev_iret (pc := 19) dX12_thing_19 rfl
  · rw [if_neg b1] at h
    refine ev_aload_n (pc := 10) 0 dX12_thing_10 rfl rfl ?_
    refine ev_iload_n (pc := 11) 2 dX12_thing_11 rfl rfl ?_
    refine ev_cV (pc := 12) [vI p1] [] rfl mkX12_isStep ml12_102 mnX12_isStep dX12_thing_12 kd_801 (by omega) rfl (Nat.le_of_ble_eq_true rfl) (by omega) rfl (e_X12_isStep (d := d - 1) (v := (f_X12_isStep p1 M)) (by omega)  rfl) ?_
    refine ev_if_ne (pc := 15) (tgt := 20) dX12_thing_15 (by decide) (fun b2 => ?_) (fun b2 => ?_)
    · rw [if_pos b2] at h
      refine ev_iload_n (pc := 20) 2 dX12_thing_20 rfl rfl ?_
      refine ev_istore_n (pc := 21) (il' := [(3, vI p1), (0, vR 801), (1, vI p0), (2, vI p1)]) dX12_thing_21 rfl (Nat.le_of_ble_eq_true rfl) rfl ?_
      obtain ⟨q6, hq6, h⟩ := bd h
      refine ev_pick [1, 2, 0] rfl ?_
      refine e_X12_thing_L22 hd  n hq6 ?_
      refine ev_iload_n (pc := 47) 0 dX12_thing_47 rfl rfl ?_
      cases h
      exact ev_iret (pc := 48) dX12_thing_48 rfl
    · rw [if_neg b2] at h
      refine ev_iconst (pc := 18) (x := (-1)) dX12_thing_18 ci_m1 ?_
      cases h
      exact ev_iret (pc := 19) dX12_thing_19 rfl
def f_X12_upThere_L25 : Nat → Int → Int → Int → Mem → Option (Int × Mem)
  | 0, _, _, _, _ => none
  | n + 1, x1, x3, x4, M => if x4 < 0 then (some (x3, M)) else (if (wI (x4 + (-1))) < 0 then (f_X12_upThere_L25 n x1 (bOr x3 (bShl 1 x4)) (wI (x4 + (-1))) M) else ((f_X12_isFalling n (wI (x4 + (-1))) x1 M).bind fun q5 => if q5.1 ≠ 0 then (f_X12_upThere_L25 n x1 (bOr x3 (bShl 1 x4)) (wI (x4 + (-1))) q5.2) else (f_X12_upThere_L25 n x1 (bOr x3 (bShl 1 x4)) (-1) q5.2)))
set_option maxRecDepth 100000 in
set_option maxHeartbeats 4000000 in
theorem e_X12_upThere_L25 {g : Gm} {d : Nat} {x1 : Int} {r : Vv} {σ' : Sg} {N : Mem} (hd : 5 ≤ d) : ∀ (n : Nat) {x3 x4 : Int} {M : Mem} {q : Int × Mem}, f_X12_upThere_L25 n x1 x3 x4 M = some q → Ev g d mtX12_upThere 61 [(3, vI q.1)] [] (sg (mx N q.2)) (0, 0) r σ' → Ev g d mtX12_upThere 25 [(0, vR 801), (1, vI x1), (3, vI x3), (4, vI x4)] [] (sg (mx N M)) (0, 0) r σ' := by
  intro n
  induction n with
  | zero =>
    intro x3 x4 M q h hk0
    rw [f_X12_upThere_L25.eq_1] at h
    cases h
  | succ n ih =>
    intro x3 x4 M q h hk0
    rw [f_X12_upThere_L25.eq_2] at h
    refine ev_iload (pc := 25) 3 dX12_upThere_25 rfl ?_
    refine ev_if_lt (pc := 27) (tgt := 61) dX12_upThere_27 (by decide) (fun b3 => ?_) (fun b3 => ?_)
    · rw [if_pos b3] at h
      cases h
      refine ev_pick [2] rfl ?_
      exact hk0
    · rw [if_neg b3] at h
      refine ev_iload_n (pc := 30) 2 dX12_upThere_30 rfl rfl ?_
      refine ev_iconst (pc := 31) (x := 1) dX12_upThere_31 ci_1 ?_
      refine ev_iload (pc := 32) 3 dX12_upThere_32 rfl ?_
      refine ev_ishl (pc := 34) dX12_upThere_34 ?_
      refine ev_ior (pc := 35) dX12_upThere_35 ?_
      refine ev_istore_n (pc := 36) (il' := [(3, vI (bOr x3 (bShl 1 x4))), (0, vR 801), (1, vI x1), (4, vI x4)]) dX12_upThere_36 rfl (Nat.le_of_ble_eq_true rfl) rfl ?_
      refine ev_iinc (pc := 37) (il' := [(4, vI (wI (x4 + (-1)))), (3, vI (bOr x3 (bShl 1 x4))), (0, vR 801), (1, vI x1)]) 3 dX12_upThere_37 rfl (Nat.le_of_ble_eq_true rfl) rfl rfl ?_
      refine ev_iload (pc := 40) 0 dX12_upThere_40 rfl ?_
      refine ev_if_lt (pc := 42) (tgt := 25) dX12_upThere_42 (by decide) (fun b4 => ?_) (fun b4 => ?_)
      · rw [if_pos b4] at h
        refine ev_pick [2, 3, 1, 0] rfl ?_
        exact ih h hk0
      · rw [if_neg b4] at h
        refine ev_aload_n (pc := 45) 2 dX12_upThere_45 rfl rfl ?_
        refine ev_iload (pc := 46) 0 dX12_upThere_46 rfl ?_
        refine ev_iload_n (pc := 48) 3 dX12_upThere_48 rfl rfl ?_
        obtain ⟨q5, hq5, h⟩ := bd h
        refine ev_cV (pc := 49) [vI (wI (x4 + (-1))), vI x1] [] rfl mkX12_isFalling ml12_456 mnX12_isFalling dX12_upThere_49 kd_801 (by omega) rfl (Nat.le_of_ble_eq_true rfl) (by omega) rfl (e_X12_isFalling (d := d - 1) (v := q5.1) (M' := q5.2) (by omega)  hq5) ?_
        refine ev_if_ne (pc := 52) (tgt := 25) dX12_upThere_52 (by decide) (fun b6 => ?_) (fun b6 => ?_)
        · rw [if_pos b6] at h
          refine ev_pick [2, 3, 1, 0] rfl ?_
          exact ih h hk0
        · rw [if_neg b6] at h
          refine ev_iconst (pc := 55) (x := (-1)) dX12_upThere_55 ci_m1 ?_
          refine ev_istore (pc := 56) (il' := [(4, vI (-1)), (3, vI (bOr x3 (bShl 1 x4))), (0, vR 801), (1, vI x1)]) dX12_upThere_56 (Nat.le_of_ble_eq_true rfl) rfl ?_
          refine ev_goto (pc := 58) (tgt := 25) dX12_upThere_58 (by decide) ?_
          refine ev_pick [2, 3, 1, 0] rfl ?_
          exact ih h hk0
def f_X12_upThere (n : Nat) (p0 p1 : Int) (M : Mem) : Option (Int × Mem) := if (f_X12_isIn p0 1 99) = 0 then (some ((-1), M)) else (if (f_X12_isStep p1 M) ≠ 0 then ((f_X12_upThere_L25 n p0 0 p1 M).bind fun q7 => some (q7.1, q7.2)) else (some ((-1), M)))
set_option maxRecDepth 100000 in
set_option maxHeartbeats 4000000 in
theorem e_X12_upThere {g : Gm} {d : Nat} {n : Nat} {p0 p1 : Int} {M N : Mem} {v : Int} {M' : Mem} (hd : 5 ≤ d) (h : f_X12_upThere n p0 p1 M = some (v, M')) : EvM g d mtX12_upThere [vR 801, vI p0, vI p1] (sg (mx N M)) (0, 0) (vI v) (sg (mx N M')) := by
  unfold f_X12_upThere at h
  refine EvM.of mkX12_upThere.2.2.2.1 (Nat.le_of_ble_eq_true rfl) ?_
  change Ev g d mtX12_upThere 0 [(0, vR 801), (1, vI p0), (2, vI p1)] [] (sg (mx N M)) (0, 0) (vI v) (sg (mx N M'))
  refine ev_iload_n (pc := 0) 1 dX12_upThere_0 rfl rfl ?_
  refine ev_iconst (pc := 1) (x := 1) dX12_upThere_1 ci_1 ?_
  refine ev_bipush (pc := 2) (x := 99) dX12_upThere_2 cb_99 ?_
  refine ev_cS (pc := 4) [vI p0, vI 1, vI 99] [] rfl mkX12_isIn ml12_90 msX12_isIn dX12_upThere_4 rfl (Nat.le_of_ble_eq_true rfl) (by omega) rfl (e_X12_isIn (d := d - 1) (v := (f_X12_isIn p0 1 99)) (by omega)  rfl) ?_
  refine ev_if_eq (pc := 7) (tgt := 18) dX12_upThere_7 (by decide) (fun b1 => ?_) (fun b1 => ?_)
  · rw [if_pos b1] at h
    refine ev_iconst (pc := 18) (x := (-1)) dX12_upThere_18 ci_m1 ?_
    cases h
    exact ev_iret (pc := 19) dX12_upThere_19 rfl
  · rw [if_neg b1] at h
    refine ev_aload_n (pc := 10) 0 dX12_upThere_10 rfl rfl ?_
    refine ev_iload_n (pc := 11) 2 dX12_upThere_11 rfl rfl ?_
    refine ev_cV (pc := 12) [vI p1] [] rfl mkX12_isStep ml12_102 mnX12_isStep dX12_upThere_12 kd_801 (by omega) rfl (Nat.le_of_ble_eq_true rfl) (by omega) rfl (e_X12_isStep (d := d - 1) (v := (f_X12_isStep p1 M)) (by omega)  rfl) ?_
    refine ev_if_ne (pc := 15) (tgt := 20) dX12_upThere_15 (by decide) (fun b2 => ?_) (fun b2 => ?_)
    · rw [if_pos b2] at h
      refine ev_iconst (pc := 20) (x := 0) dX12_upThere_20 ci_0 ?_
      refine ev_istore_n (pc := 21) (il' := [(3, vI 0), (0, vR 801), (1, vI p0), (2, vI p1)]) dX12_upThere_21 rfl (Nat.le_of_ble_eq_true rfl) rfl ?_
      refine ev_iload_n (pc := 22) 3 dX12_upThere_22 rfl rfl ?_
      refine ev_istore (pc := 23) (il' := [(4, vI p1), (3, vI 0), (0, vR 801), (1, vI p0), (2, vI p1)]) dX12_upThere_23 (Nat.le_of_ble_eq_true rfl) rfl ?_
      obtain ⟨q7, hq7, h⟩ := bd h
      refine ev_pick [2, 3, 1, 0] rfl ?_
      refine e_X12_upThere_L25 hd  n hq7 ?_
      refine ev_iload_n (pc := 61) 0 dX12_upThere_61 rfl rfl ?_
      cases h
      exact ev_iret (pc := 62) dX12_upThere_62 rfl
    · rw [if_neg b2] at h
      refine ev_iconst (pc := 18) (x := (-1)) dX12_upThere_18 ci_m1 ?_
      cases h
      exact ev_iret (pc := 19) dX12_upThere_19 rfl
def f_X12_toRaise_L22 : Nat → Int → Int → Int → Int → Mem → Option (Int × Mem)
  | 0, _, _, _, _, _ => none
  | n + 1, x1, x2, x3, x4, M => if 99 < x4 then (some (x3, M)) else (if x3 ≠ (-1) then (some (x3, M)) else ((f_X12_put x1 1 x4 M).bind fun q5 => (f_X12_flowsOf n x1 q5).bind fun q6 => if q6.1 ≠ 0 then (f_X12_toRaise_L22 n x1 x2 x3 (wI (x4 + 1)) q6.2) else (f_X12_toRaise_L22 n x1 x2 x4 (wI (x4 + 1)) q6.2)))
set_option maxRecDepth 100000 in
set_option maxHeartbeats 4000000 in
theorem e_X12_toRaise_L22 {g : Gm} {d : Nat} {x1 x2 : Int} {r : Vv} {σ' : Sg} {N : Mem} (hd : 6 ≤ d) : ∀ (n : Nat) {x3 x4 : Int} {M : Mem} {q : Int × Mem}, f_X12_toRaise_L22 n x1 x2 x3 x4 M = some q → Ev g d mtX12_toRaise 59 [(0, vR 801), (1, vI x1), (2, vI x2), (3, vI q.1)] [] (sg (mx N q.2)) (0, 0) r σ' → Ev g d mtX12_toRaise 22 [(0, vR 801), (1, vI x1), (2, vI x2), (3, vI x3), (4, vI x4)] [] (sg (mx N M)) (0, 0) r σ' := by
  intro n
  induction n with
  | zero =>
    intro x3 x4 M q h hk0
    rw [f_X12_toRaise_L22.eq_1] at h
    cases h
  | succ n ih =>
    intro x3 x4 M q h hk0
    rw [f_X12_toRaise_L22.eq_2] at h
    refine ev_iload (pc := 22) 4 dX12_toRaise_22 rfl ?_
    refine ev_bipush (pc := 24) (x := 99) dX12_toRaise_24 cb_99 ?_
    refine ev_icmp_gt (pc := 26) (tgt := 59) dX12_toRaise_26 (by decide) (fun b3 => ?_) (fun b3 => ?_)
    · rw [if_pos b3] at h
      cases h
      refine ev_pick [0, 1, 2, 3] rfl ?_
      exact hk0
    · rw [if_neg b3] at h
      refine ev_iload_n (pc := 29) 3 dX12_toRaise_29 rfl rfl ?_
      refine ev_iconst (pc := 30) (x := (-1)) dX12_toRaise_30 ci_m1 ?_
      refine ev_icmp_ne (pc := 31) (tgt := 59) dX12_toRaise_31 (by decide) (fun b4 => ?_) (fun b4 => ?_)
      · rw [if_pos b4] at h
        cases h
        refine ev_pick [0, 1, 2, 3] rfl ?_
        exact hk0
      · rw [if_neg b4] at h
        refine ev_aload_n (pc := 34) 0 dX12_toRaise_34 rfl rfl ?_
        refine ev_iload_n (pc := 35) 1 dX12_toRaise_35 rfl rfl ?_
        refine ev_iconst (pc := 36) (x := 1) dX12_toRaise_36 ci_1 ?_
        refine ev_iload (pc := 37) 4 dX12_toRaise_37 rfl ?_
        obtain ⟨q5, hq5, h⟩ := bd h
        refine ev_cV0 (pc := 39) [vI x1, vI 1, vI x4] [] rfl mkX12_put ml12_94 mnX12_put dX12_toRaise_39 kd_801 (by omega) rfl (Nat.le_of_ble_eq_true rfl) (by omega) (e_X12_put (d := d - 1) (M' := q5) (by omega)  hq5) ?_
        refine ev_aload_n (pc := 42) 0 dX12_toRaise_42 rfl rfl ?_
        refine ev_iload_n (pc := 43) 1 dX12_toRaise_43 rfl rfl ?_
        obtain ⟨q6, hq6, h⟩ := bd h
        refine ev_cV (pc := 44) [vI x1] [] rfl mkX12_flowsOf ml12_361 mnX12_flowsOf dX12_toRaise_44 kd_801 (by omega) rfl (Nat.le_of_ble_eq_true rfl) (by omega) rfl (e_X12_flowsOf (d := d - 1) (v := q6.1) (M' := q6.2) (by omega)  hq6) ?_
        refine ev_if_ne (pc := 47) (tgt := 53) dX12_toRaise_47 (by decide) (fun b7 => ?_) (fun b7 => ?_)
        · rw [if_pos b7] at h
          refine ev_iinc (pc := 53) (il' := [(4, vI (wI (x4 + 1))), (0, vR 801), (1, vI x1), (2, vI x2), (3, vI x3)]) 4 dX12_toRaise_53 rfl (Nat.le_of_ble_eq_true rfl) rfl rfl ?_
          refine ev_goto (pc := 56) (tgt := 22) dX12_toRaise_56 (by decide) ?_
          refine ev_pick [1, 2, 3, 4, 0] rfl ?_
          exact ih h hk0
        · rw [if_neg b7] at h
          refine ev_iload (pc := 50) 4 dX12_toRaise_50 rfl ?_
          refine ev_istore_n (pc := 52) (il' := [(3, vI x4), (0, vR 801), (1, vI x1), (2, vI x2), (4, vI x4)]) dX12_toRaise_52 rfl (Nat.le_of_ble_eq_true rfl) rfl ?_
          refine ev_iinc (pc := 53) (il' := [(4, vI (wI (x4 + 1))), (3, vI x4), (0, vR 801), (1, vI x1), (2, vI x2)]) 4 dX12_toRaise_53 rfl (Nat.le_of_ble_eq_true rfl) rfl rfl ?_
          refine ev_goto (pc := 56) (tgt := 22) dX12_toRaise_56 (by decide) ?_
          refine ev_pick [2, 3, 4, 1, 0] rfl ?_
          exact ih h hk0
def f_X12_toRaise_J59 (n : Nat) (x1 x2 x3 : Int) (M : Mem) : Option (Int × Mem) := (f_X12_put x1 1 x2 M).bind fun q9 => some (x3, q9)
set_option maxRecDepth 100000 in
set_option maxHeartbeats 4000000 in
theorem e_X12_toRaise_J59 {g : Gm} {d : Nat} {n : Nat} {x1 x2 x3 : Int} {M N : Mem} {v : Int} {M' : Mem} (hd : 6 ≤ d) (h : f_X12_toRaise_J59 n x1 x2 x3 M = some (v, M')) : Ev g d mtX12_toRaise 59 [(0, vR 801), (1, vI x1), (2, vI x2), (3, vI x3)] [] (sg (mx N M)) (0, 0) (vI v) (sg (mx N M')) := by
  unfold f_X12_toRaise_J59 at h
  refine ev_aload_n (pc := 59) 0 dX12_toRaise_59 rfl rfl ?_
  refine ev_iload_n (pc := 60) 1 dX12_toRaise_60 rfl rfl ?_
  refine ev_iconst (pc := 61) (x := 1) dX12_toRaise_61 ci_1 ?_
  refine ev_iload_n (pc := 62) 2 dX12_toRaise_62 rfl rfl ?_
  obtain ⟨q9, hq9, h⟩ := bd h
  refine ev_cV0 (pc := 63) [vI x1, vI 1, vI x2] [] rfl mkX12_put ml12_94 mnX12_put dX12_toRaise_63 kd_801 (by omega) rfl (Nat.le_of_ble_eq_true rfl) (by omega) (e_X12_put (d := d - 1) (M' := q9) (by omega)  hq9) ?_
  refine ev_iload_n (pc := 66) 3 dX12_toRaise_66 rfl rfl ?_
  cases h
  exact ev_iret (pc := 67) dX12_toRaise_67 rfl
def f_X12_toRaise (n : Nat) (p0 : Int) (M : Mem) : Option (Int × Mem) := if (f_X12_isStep p0 M) ≠ 0 then ((f_X12_at p0 1 M).bind fun q2 => (f_X12_toRaise_L22 n p0 q2 (-1) q2 M).bind fun q8 => f_X12_toRaise_J59 n p0 q2 q8.1 q8.2) else (some ((-1), M))
set_option maxRecDepth 100000 in
set_option maxHeartbeats 4000000 in
theorem e_X12_toRaise {g : Gm} {d : Nat} {n : Nat} {p0 : Int} {M N : Mem} {v : Int} {M' : Mem} (hd : 6 ≤ d) (h : f_X12_toRaise n p0 M = some (v, M')) : EvM g d mtX12_toRaise [vR 801, vI p0] (sg (mx N M)) (0, 0) (vI v) (sg (mx N M')) := by
  unfold f_X12_toRaise at h
  refine EvM.of mkX12_toRaise.2.2.2.1 (Nat.le_of_ble_eq_true rfl) ?_
  change Ev g d mtX12_toRaise 0 [(0, vR 801), (1, vI p0)] [] (sg (mx N M)) (0, 0) (vI v) (sg (mx N M'))
  refine ev_aload_n (pc := 0) 0 dX12_toRaise_0 rfl rfl ?_
  refine ev_iload_n (pc := 1) 1 dX12_toRaise_1 rfl rfl ?_
  refine ev_cV (pc := 2) [vI p0] [] rfl mkX12_isStep ml12_102 mnX12_isStep dX12_toRaise_2 kd_801 (by omega) rfl (Nat.le_of_ble_eq_true rfl) (by omega) rfl (e_X12_isStep (d := d - 1) (v := (f_X12_isStep p0 M)) (by omega)  rfl) ?_
  refine ev_if_ne (pc := 5) (tgt := 10) dX12_toRaise_5 (by decide) (fun b1 => ?_) (fun b1 => ?_)
  · rw [if_pos b1] at h
    refine ev_aload_n (pc := 10) 0 dX12_toRaise_10 rfl rfl ?_
    refine ev_iload_n (pc := 11) 1 dX12_toRaise_11 rfl rfl ?_
    refine ev_iconst (pc := 12) (x := 1) dX12_toRaise_12 ci_1 ?_
    obtain ⟨q2, hq2, h⟩ := bd h
    refine ev_cV (pc := 13) [vI p0, vI 1] [] rfl mkX12_at ml12_98 mnX12_at dX12_toRaise_13 kd_801 (by omega) rfl (Nat.le_of_ble_eq_true rfl) (by omega) rfl (e_X12_at (d := d - 1) (v := q2) (by omega)  hq2) ?_
    refine ev_istore_n (pc := 16) (il' := [(2, vI q2), (0, vR 801), (1, vI p0)]) dX12_toRaise_16 rfl (Nat.le_of_ble_eq_true rfl) rfl ?_
    refine ev_iconst (pc := 17) (x := (-1)) dX12_toRaise_17 ci_m1 ?_
    refine ev_istore_n (pc := 18) (il' := [(3, vI (-1)), (2, vI q2), (0, vR 801), (1, vI p0)]) dX12_toRaise_18 rfl (Nat.le_of_ble_eq_true rfl) rfl ?_
    refine ev_iload_n (pc := 19) 1 dX12_toRaise_19 rfl rfl ?_
    refine ev_istore (pc := 20) (il' := [(4, vI q2), (3, vI (-1)), (2, vI q2), (0, vR 801), (1, vI p0)]) dX12_toRaise_20 (Nat.le_of_ble_eq_true rfl) rfl ?_
    obtain ⟨q8, hq8, h⟩ := bd h
    refine ev_pick [3, 4, 2, 1, 0] rfl ?_
    refine e_X12_toRaise_L22 hd  n hq8 ?_
    refine ev_pick [0, 1, 2, 3] rfl ?_
    exact e_X12_toRaise_J59 hd  h
  · rw [if_neg b1] at h
    refine ev_iconst (pc := 8) (x := (-1)) dX12_toRaise_8 ci_m1 ?_
    cases h
    exact ev_iret (pc := 9) dX12_toRaise_9 rfl
def f_X12_worthOf_L11_J70 (n : Nat) (K : Int → Int → Int → Int → Mem → Option (Int × Mem)) (x1 x2 x3 x4 x5 x6 : Int) (M : Mem) : Option (Int × Mem) := lt ((wI (x3 + (wI ((wI (x4 * x5)) - (wI (x2 * (iDiv (wI (x5 * (wI (x5 - 1)))) 2)))))))) fun y4 => K y4 0 0 (wI (x6 + 1)) M
set_option maxRecDepth 100000 in
set_option maxHeartbeats 4000000 in
theorem e_X12_worthOf_L11_J70 {g : Gm} {d : Nat} {n : Nat} {K : Int → Int → Int → Int → Mem → Option (Int × Mem)} {x1 x2 x3 x4 x5 x6 : Int} {M N : Mem} {q : Int × Mem} {r : Vv} {σ' : Sg} (hd : 6 ≤ d) (hK : ∀ {x3 x4 x5 x6 : Int} {M : Mem}, K x3 x4 x5 x6 M = some q → Ev g d mtX12_worthOf 11 [(0, vR 801), (1, vI x1), (2, vI x2), (3, vI x3), (4, vI x4), (5, vI x5), (6, vI x6)] [] (sg (mx N M)) (0, 0) r σ') (hk0 : Ev g d mtX12_worthOf 102 [(3, vI q.1)] [] (sg (mx N q.2)) (0, 0) r σ') (h : f_X12_worthOf_L11_J70 n K x1 x2 x3 x4 x5 x6 M = some q) : Ev g d mtX12_worthOf 70 [(0, vR 801), (1, vI x1), (2, vI x2), (3, vI x3), (4, vI x4), (5, vI x5), (6, vI x6)] [] (sg (mx N M)) (0, 0) r σ' := by
  unfold f_X12_worthOf_L11_J70 at h
  refine ev_iload_n (pc := 70) 3 dX12_worthOf_70 rfl rfl ?_
  refine ev_iload (pc := 71) 4 dX12_worthOf_71 rfl ?_
  refine ev_iload (pc := 73) 5 dX12_worthOf_73 rfl ?_
  refine ev_imul (pc := 75) dX12_worthOf_75 ?_
  refine ev_iload_n (pc := 76) 2 dX12_worthOf_76 rfl rfl ?_
  refine ev_iload (pc := 77) 5 dX12_worthOf_77 rfl ?_
  refine ev_iload (pc := 79) 5 dX12_worthOf_79 rfl ?_
  refine ev_iconst (pc := 81) (x := 1) dX12_worthOf_81 ci_1 ?_
  refine ev_isub (pc := 82) dX12_worthOf_82 ?_
  refine ev_imul (pc := 83) dX12_worthOf_83 ?_
  refine ev_iconst (pc := 84) (x := 2) dX12_worthOf_84 ci_2 ?_
  refine ev_idiv (pc := 85) dX12_worthOf_85 (by omega) ?_
  refine ev_imul (pc := 86) dX12_worthOf_86 ?_
  refine ev_isub (pc := 87) dX12_worthOf_87 ?_
  refine ev_iadd (pc := 88) dX12_worthOf_88 ?_
  obtain ⟨y4, ey4, h⟩ := lt_some h
  refine ev_istore_n (pc := 89) (il' := [(3, vI y4), (0, vR 801), (1, vI x1), (2, vI x2), (4, vI x4), (5, vI x5), (6, vI x6)]) dX12_worthOf_89 rfl (Nat.le_of_ble_eq_true rfl) (by rw [ey4] <;> rfl) ?_
  refine ev_iconst (pc := 90) (x := 0) dX12_worthOf_90 ci_0 ?_
  refine ev_istore (pc := 91) (il' := [(4, vI 0), (3, vI y4), (0, vR 801), (1, vI x1), (2, vI x2), (5, vI x5), (6, vI x6)]) dX12_worthOf_91 (Nat.le_of_ble_eq_true rfl) rfl ?_
  refine ev_iconst (pc := 93) (x := 0) dX12_worthOf_93 ci_0 ?_
  refine ev_istore (pc := 94) (il' := [(5, vI 0), (4, vI 0), (3, vI y4), (0, vR 801), (1, vI x1), (2, vI x2), (6, vI x6)]) dX12_worthOf_94 (Nat.le_of_ble_eq_true rfl) rfl ?_
  refine ev_iinc (pc := 96) (il' := [(6, vI (wI (x6 + 1))), (5, vI 0), (4, vI 0), (3, vI y4), (0, vR 801), (1, vI x1), (2, vI x2)]) 6 dX12_worthOf_96 rfl (Nat.le_of_ble_eq_true rfl) rfl rfl ?_
  refine ev_goto (pc := 99) (tgt := 11) dX12_worthOf_99 (by decide) ?_
  refine ev_pick [4, 5, 6, 3, 2, 1, 0] rfl ?_
  exact hK h
def f_X12_worthOf_L11 : Nat → Int → Int → Int → Int → Int → Int → Mem → Option (Int × Mem)
  | 0, _, _, _, _, _, _, _ => none
  | n + 1, x1, x2, x3, x4, x5, x6, M => if (M 802 0) ≤ x6 then (some (x3, M)) else ((f_X12_takesOf n x6 (M 802 8) 10 M).bind fun q2 => if (f_X12_has x1 x6) ≠ 0 then (f_X12_worthOf_L11_J70 n (fun x3 x4 x5 x6 M => f_X12_worthOf_L11 n x1 x2 x3 x4 x5 x6 M) x1 x2 x3 (wI (x4 + q2.1)) (wI (x5 + 1)) x6 q2.2) else (if (q2.2 802 0) ≤ (wI (x6 + 1)) then (f_X12_worthOf_L11_J70 n (fun x3 x4 x5 x6 M => f_X12_worthOf_L11 n x1 x2 x3 x4 x5 x6 M) x1 x2 x3 (wI (x4 + q2.1)) (wI (x5 + 1)) x6 q2.2) else (f_X12_worthOf_L11 n x1 x2 x3 (wI (x4 + q2.1)) (wI (x5 + 1)) (wI (x6 + 1)) q2.2)))
set_option maxRecDepth 100000 in
set_option maxHeartbeats 4000000 in
theorem e_X12_worthOf_L11 {g : Gm} {d : Nat} {x1 x2 : Int} {r : Vv} {σ' : Sg} {N : Mem} (hd : 6 ≤ d) : ∀ (n : Nat) {x3 x4 x5 x6 : Int} {M : Mem} {q : Int × Mem}, f_X12_worthOf_L11 n x1 x2 x3 x4 x5 x6 M = some q → Ev g d mtX12_worthOf 102 [(3, vI q.1)] [] (sg (mx N q.2)) (0, 0) r σ' → Ev g d mtX12_worthOf 11 [(0, vR 801), (1, vI x1), (2, vI x2), (3, vI x3), (4, vI x4), (5, vI x5), (6, vI x6)] [] (sg (mx N M)) (0, 0) r σ' := by
  intro n
  induction n with
  | zero =>
    intro x3 x4 x5 x6 M q h hk0
    rw [f_X12_worthOf_L11.eq_1] at h
    cases h
  | succ n ih =>
    intro x3 x4 x5 x6 M q h hk0
    rw [f_X12_worthOf_L11.eq_2] at h
    refine ev_iload (pc := 11) 6 dX12_worthOf_11 rfl ?_
    refine ev_aload_n (pc := 13) 0 dX12_worthOf_13 rfl rfl ?_
    refine ev_getR (pc := 14) fl12_7 rfl dX12_worthOf_14 rfl kd_801 (by omega) (rf_801_0 _) ?_
    refine ev_iconst (pc := 17) (x := 0) dX12_worthOf_17 ci_0 ?_
    refine ev_ildr (pc := 18) dX12_worthOf_18 kd_802 (by omega) (by omega) (by omega) (by omega) ?_
    refine ev_icmp_ge (pc := 19) (tgt := 102) dX12_worthOf_19 (by decide) (fun b1 => ?_) (fun b1 => ?_)
    · rw [if_pos b1] at h
      cases h
      refine ev_pick [3] rfl ?_
      exact hk0
    · rw [if_neg b1] at h
      refine ev_iload (pc := 22) 4 dX12_worthOf_22 rfl ?_
      refine ev_aload_n (pc := 24) 0 dX12_worthOf_24 rfl rfl ?_
      refine ev_iload (pc := 25) 6 dX12_worthOf_25 rfl ?_
      refine ev_aload_n (pc := 27) 0 dX12_worthOf_27 rfl rfl ?_
      refine ev_getR (pc := 28) fl12_7 rfl dX12_worthOf_28 rfl kd_801 (by omega) (rf_801_0 _) ?_
      refine ev_bipush (pc := 31) (x := 8) dX12_worthOf_31 cb_8 ?_
      refine ev_ildr (pc := 33) dX12_worthOf_33 kd_802 (by omega) (by omega) (by omega) (by omega) ?_
      refine ev_bipush (pc := 34) (x := 10) dX12_worthOf_34 cb_10 ?_
      obtain ⟨q2, hq2, h⟩ := bd h
      refine ev_cV (pc := 36) [vI x6, vI (M 802 8), vI 10] [vI x4] rfl mkX12_takesOf ml12_349 mnX12_takesOf dX12_worthOf_36 kd_801 (by omega) rfl (Nat.le_of_ble_eq_true rfl) (by omega) rfl (e_X12_takesOf (d := d - 1) (v := q2.1) (M' := q2.2) (by omega)  hq2) ?_
      refine ev_iadd (pc := 39) dX12_worthOf_39 ?_
      refine ev_istore (pc := 40) (il' := [(4, vI (wI (x4 + q2.1))), (0, vR 801), (1, vI x1), (2, vI x2), (3, vI x3), (5, vI x5), (6, vI x6)]) dX12_worthOf_40 (Nat.le_of_ble_eq_true rfl) rfl ?_
      refine ev_iinc (pc := 42) (il' := [(5, vI (wI (x5 + 1))), (4, vI (wI (x4 + q2.1))), (0, vR 801), (1, vI x1), (2, vI x2), (3, vI x3), (6, vI x6)]) 5 dX12_worthOf_42 rfl (Nat.le_of_ble_eq_true rfl) rfl rfl ?_
      refine ev_iload_n (pc := 45) 3 dX12_worthOf_45 rfl rfl ?_
      refine ev_iload (pc := 46) 6 dX12_worthOf_46 rfl ?_
      refine ev_cS (pc := 48) [vI x1, vI x6] [] rfl mkX12_has ml12_279 msX12_has dX12_worthOf_48 rfl (Nat.le_of_ble_eq_true rfl) (by omega) rfl (e_X12_has (d := d - 1) (v := (f_X12_has x1 x6)) (by omega)  rfl) ?_
      refine ev_if_ne (pc := 51) (tgt := 70) dX12_worthOf_51 (by decide) (fun b3 => ?_) (fun b3 => ?_)
      · rw [if_pos b3] at h
        refine ev_pick [2, 3, 4, 5, 1, 0, 6] rfl ?_
        exact e_X12_worthOf_L11_J70 hd  (fun h9 => ih h9 hk0) hk0 h
      · rw [if_neg b3] at h
        refine ev_iload (pc := 54) 6 dX12_worthOf_54 rfl ?_
        refine ev_iconst (pc := 56) (x := 1) dX12_worthOf_56 ci_1 ?_
        refine ev_iadd (pc := 57) dX12_worthOf_57 ?_
        refine ev_aload_n (pc := 58) 2 dX12_worthOf_58 rfl rfl ?_
        refine ev_getR (pc := 59) fl12_7 rfl dX12_worthOf_59 rfl kd_801 (by omega) (rf_801_0 _) ?_
        refine ev_iconst (pc := 62) (x := 0) dX12_worthOf_62 ci_0 ?_
        refine ev_ildr (pc := 63) dX12_worthOf_63 kd_802 (by omega) (by omega) (by omega) (by omega) ?_
        refine ev_icmp_ge (pc := 64) (tgt := 70) dX12_worthOf_64 (by decide) (fun b5 => ?_) (fun b5 => ?_)
        · rw [if_pos b5] at h
          refine ev_pick [2, 3, 4, 5, 1, 0, 6] rfl ?_
          exact e_X12_worthOf_L11_J70 hd  (fun h9 => ih h9 hk0) hk0 h
        · rw [if_neg b5] at h
          refine ev_goto (pc := 67) (tgt := 96) dX12_worthOf_67 (by decide) ?_
          refine ev_iinc (pc := 96) (il' := [(6, vI (wI (x6 + 1))), (5, vI (wI (x5 + 1))), (4, vI (wI (x4 + q2.1))), (0, vR 801), (1, vI x1), (2, vI x2), (3, vI x3)]) 6 dX12_worthOf_96 rfl (Nat.le_of_ble_eq_true rfl) rfl rfl ?_
          refine ev_goto (pc := 99) (tgt := 11) dX12_worthOf_99 (by decide) ?_
          refine ev_pick [3, 4, 5, 6, 2, 1, 0] rfl ?_
          exact ih h hk0
def f_X12_worthOf (n : Nat) (p0 p1 : Int) (M : Mem) : Option (Int × Mem) := (f_X12_worthOf_L11 n p0 p1 0 0 0 0 M).bind fun q6 => some (q6.1, q6.2)
set_option maxRecDepth 100000 in
set_option maxHeartbeats 4000000 in
theorem e_X12_worthOf {g : Gm} {d : Nat} {n : Nat} {p0 p1 : Int} {M N : Mem} {v : Int} {M' : Mem} (hd : 6 ≤ d) (h : f_X12_worthOf n p0 p1 M = some (v, M')) : EvM g d mtX12_worthOf [vR 801, vI p0, vI p1] (sg (mx N M)) (0, 0) (vI v) (sg (mx N M')) := by
  unfold f_X12_worthOf at h
  refine EvM.of mkX12_worthOf.2.2.2.1 (Nat.le_of_ble_eq_true rfl) ?_
  change Ev g d mtX12_worthOf 0 [(0, vR 801), (1, vI p0), (2, vI p1)] [] (sg (mx N M)) (0, 0) (vI v) (sg (mx N M'))
  refine ev_iconst (pc := 0) (x := 0) dX12_worthOf_0 ci_0 ?_
  refine ev_istore_n (pc := 1) (il' := [(3, vI 0), (0, vR 801), (1, vI p0), (2, vI p1)]) dX12_worthOf_1 rfl (Nat.le_of_ble_eq_true rfl) rfl ?_
  refine ev_iconst (pc := 2) (x := 0) dX12_worthOf_2 ci_0 ?_
  refine ev_istore (pc := 3) (il' := [(4, vI 0), (3, vI 0), (0, vR 801), (1, vI p0), (2, vI p1)]) dX12_worthOf_3 (Nat.le_of_ble_eq_true rfl) rfl ?_
  refine ev_iconst (pc := 5) (x := 0) dX12_worthOf_5 ci_0 ?_
  refine ev_istore (pc := 6) (il' := [(5, vI 0), (4, vI 0), (3, vI 0), (0, vR 801), (1, vI p0), (2, vI p1)]) dX12_worthOf_6 (Nat.le_of_ble_eq_true rfl) rfl ?_
  refine ev_iconst (pc := 8) (x := 0) dX12_worthOf_8 ci_0 ?_
  refine ev_istore (pc := 9) (il' := [(6, vI 0), (5, vI 0), (4, vI 0), (3, vI 0), (0, vR 801), (1, vI p0), (2, vI p1)]) dX12_worthOf_9 (Nat.le_of_ble_eq_true rfl) rfl ?_
  obtain ⟨q6, hq6, h⟩ := bd h
  refine ev_pick [4, 5, 6, 3, 2, 1, 0] rfl ?_
  refine e_X12_worthOf_L11 hd  n hq6 ?_
  refine ev_iload_n (pc := 102) 0 dX12_worthOf_102 rfl rfl ?_
  cases h
  exact ev_iret (pc := 103) dX12_worthOf_103 rfl
def f_X12_isAhead_L30 : Nat → Int → Int → Int → Option (Int)
  | 0, _, _, _ => none
  | n + 1, x0, x1, x2 => if 8 ≤ x2 then (some x2) else (if (f_X12_has x0 x2) ≠ (f_X12_has x1 x2) then (some x2) else (f_X12_isAhead_L30 n x0 x1 (wI (x2 + 1))))
set_option maxRecDepth 100000 in
set_option maxHeartbeats 4000000 in
theorem e_X12_isAhead_L30 {g : Gm} {d : Nat} {x0 x1 : Int} {r : Vv} {σ' : Sg} {M0 : Mem} (hd : 1 ≤ d) : ∀ (n : Nat) {x2 : Int} {q : Int}, f_X12_isAhead_L30 n x0 x1 x2 = some q → Ev g d mtX12_isAhead 55 [(1, vI x1), (2, vI q)] [] (sg M0) (0, 0) r σ' → Ev g d mtX12_isAhead 30 [(0, vI x0), (1, vI x1), (2, vI x2)] [] (sg M0) (0, 0) r σ' := by
  intro n
  induction n with
  | zero =>
    intro x2 q h hk0
    rw [f_X12_isAhead_L30.eq_1] at h
    cases h
  | succ n ih =>
    intro x2 q h hk0
    rw [f_X12_isAhead_L30.eq_2] at h
    refine ev_iload_n (pc := 30) 2 dX12_isAhead_30 rfl rfl ?_
    refine ev_bipush (pc := 31) (x := 8) dX12_isAhead_31 cb_8 ?_
    refine ev_icmp_ge (pc := 33) (tgt := 55) dX12_isAhead_33 (by decide) (fun b4 => ?_) (fun b4 => ?_)
    · rw [if_pos b4] at h
      cases h
      refine ev_pick [1, 2] rfl ?_
      exact hk0
    · rw [if_neg b4] at h
      refine ev_iload_n (pc := 36) 0 dX12_isAhead_36 rfl rfl ?_
      refine ev_iload_n (pc := 37) 2 dX12_isAhead_37 rfl rfl ?_
      refine ev_cS (pc := 38) [vI x0, vI x2] [] rfl mkX12_has ml12_279 msX12_has dX12_isAhead_38 rfl (Nat.le_of_ble_eq_true rfl) (by omega) rfl (e_X12_has (d := d - 1) (v := (f_X12_has x0 x2)) (by omega)  rfl) ?_
      refine ev_iload_n (pc := 41) 1 dX12_isAhead_41 rfl rfl ?_
      refine ev_iload_n (pc := 42) 2 dX12_isAhead_42 rfl rfl ?_
      refine ev_cS (pc := 43) [vI x1, vI x2] [vI (f_X12_has x0 x2)] rfl mkX12_has ml12_279 msX12_has dX12_isAhead_43 rfl (Nat.le_of_ble_eq_true rfl) (by omega) rfl (e_X12_has (d := d - 1) (v := (f_X12_has x1 x2)) (by omega)  rfl) ?_
      refine ev_icmp_ne (pc := 46) (tgt := 55) dX12_isAhead_46 (by decide) (fun b5 => ?_) (fun b5 => ?_)
      · rw [if_pos b5] at h
        cases h
        refine ev_pick [1, 2] rfl ?_
        exact hk0
      · rw [if_neg b5] at h
        refine ev_iinc (pc := 49) (il' := [(2, vI (wI (x2 + 1))), (0, vI x0), (1, vI x1)]) 2 dX12_isAhead_49 rfl (Nat.le_of_ble_eq_true rfl) rfl rfl ?_
        refine ev_goto (pc := 52) (tgt := 30) dX12_isAhead_52 (by decide) ?_
        refine ev_pick [1, 2, 0] rfl ?_
        exact ih h hk0
def f_X12_isAhead_J55 (n : Nat) (x1 x2 : Int) : Option (Int) := if 8 ≤ x2 then (some 0) else (if (f_X12_has x1 x2) = 0 then (some 0) else (some 1))
set_option maxRecDepth 100000 in
set_option maxHeartbeats 4000000 in
theorem e_X12_isAhead_J55 {g : Gm} {d : Nat} {n : Nat} {x1 x2 : Int} {M0 : Mem} {v : Int} (hd : 1 ≤ d) (h : f_X12_isAhead_J55 n x1 x2 = some v) : Ev g d mtX12_isAhead 55 [(1, vI x1), (2, vI x2)] [] (sg M0) (0, 0) (vI v) (sg M0) := by
  unfold f_X12_isAhead_J55 at h
  refine ev_iload_n (pc := 55) 1 dX12_isAhead_55 rfl rfl ?_
  refine ev_bipush (pc := 56) (x := 8) dX12_isAhead_56 cb_8 ?_
  refine ev_icmp_ge (pc := 58) (tgt := 73) dX12_isAhead_58 (by decide) (fun b7 => ?_) (fun b7 => ?_)
  · rw [if_pos b7] at h
    refine ev_iconst (pc := 73) (x := 0) dX12_isAhead_73 ci_0 ?_
    cases h
    exact ev_zret (pc := 74) (Or.inl rfl) dX12_isAhead_74 rfl
  · rw [if_neg b7] at h
    refine ev_iload_n (pc := 61) 0 dX12_isAhead_61 rfl rfl ?_
    refine ev_iload_n (pc := 62) 1 dX12_isAhead_62 rfl rfl ?_
    refine ev_cS (pc := 63) [vI x1, vI x2] [] rfl mkX12_has ml12_279 msX12_has dX12_isAhead_63 rfl (Nat.le_of_ble_eq_true rfl) (by omega) rfl (e_X12_has (d := d - 1) (v := (f_X12_has x1 x2)) (by omega)  rfl) ?_
    refine ev_if_eq (pc := 66) (tgt := 73) dX12_isAhead_66 (by decide) (fun b8 => ?_) (fun b8 => ?_)
    · rw [if_pos b8] at h
      refine ev_iconst (pc := 73) (x := 0) dX12_isAhead_73 ci_0 ?_
      cases h
      exact ev_zret (pc := 74) (Or.inl rfl) dX12_isAhead_74 rfl
    · rw [if_neg b8] at h
      refine ev_iconst (pc := 69) (x := 1) dX12_isAhead_69 ci_1 ?_
      refine ev_goto (pc := 70) (tgt := 74) dX12_isAhead_70 (by decide) ?_
      cases h
      exact ev_zret (pc := 74) (Or.inr rfl) dX12_isAhead_74 rfl
def f_X12_isAhead (n : Nat) (p0 p1 : Int) : Option (Int) := (f_X12_bits n p0).bind fun q1 => (f_X12_bits n p1).bind fun q2 => if q1 = q2 then ((f_X12_isAhead_L30 n p0 p1 0).bind fun q6 => f_X12_isAhead_J55 n p1 q6) else ((f_X12_bits n p0).bind fun q9 => (f_X12_bits n p1).bind fun q10 => if q10 ≤ q9 then (some 0) else (some 1))
set_option maxRecDepth 100000 in
set_option maxHeartbeats 4000000 in
theorem e_X12_isAhead {g : Gm} {d : Nat} {n : Nat} {p0 p1 : Int} {M0 : Mem} {v : Int} (hd : 1 ≤ d) (h : f_X12_isAhead n p0 p1 = some v) : EvM g d mtX12_isAhead [vI p0, vI p1] (sg M0) (0, 0) (vI v) (sg M0) := by
  unfold f_X12_isAhead at h
  refine EvM.of mkX12_isAhead.2.2.2.1 (Nat.le_of_ble_eq_true rfl) ?_
  change Ev g d mtX12_isAhead 0 [(0, vI p0), (1, vI p1)] [] (sg M0) (0, 0) (vI v) (sg M0)
  refine ev_iload_n (pc := 0) 0 dX12_isAhead_0 rfl rfl ?_
  obtain ⟨q1, hq1, h⟩ := bd h
  refine ev_cS (pc := 1) [vI p0] [] rfl mkX12_bits ml12_446 msX12_bits dX12_isAhead_1 rfl (Nat.le_of_ble_eq_true rfl) (by omega) rfl (e_X12_bits (d := d - 1) (v := q1) (by omega)  hq1) ?_
  refine ev_iload_n (pc := 4) 1 dX12_isAhead_4 rfl rfl ?_
  obtain ⟨q2, hq2, h⟩ := bd h
  refine ev_cS (pc := 5) [vI p1] [vI q1] rfl mkX12_bits ml12_446 msX12_bits dX12_isAhead_5 rfl (Nat.le_of_ble_eq_true rfl) (by omega) rfl (e_X12_bits (d := d - 1) (v := q2) (by omega)  hq2) ?_
  refine ev_icmp_eq (pc := 8) (tgt := 28) dX12_isAhead_8 (by decide) (fun b3 => ?_) (fun b3 => ?_)
  · rw [if_pos b3] at h
    refine ev_iconst (pc := 28) (x := 0) dX12_isAhead_28 ci_0 ?_
    refine ev_istore_n (pc := 29) (il' := [(2, vI 0), (0, vI p0), (1, vI p1)]) dX12_isAhead_29 rfl (Nat.le_of_ble_eq_true rfl) rfl ?_
    obtain ⟨q6, hq6, h⟩ := bd h
    refine ev_pick [1, 2, 0] rfl ?_
    refine e_X12_isAhead_L30 hd  n hq6 ?_
    refine ev_pick [0, 1] rfl ?_
    exact e_X12_isAhead_J55 hd  h
  · rw [if_neg b3] at h
    refine ev_iload_n (pc := 11) 0 dX12_isAhead_11 rfl rfl ?_
    obtain ⟨q9, hq9, h⟩ := bd h
    refine ev_cS (pc := 12) [vI p0] [] rfl mkX12_bits ml12_446 msX12_bits dX12_isAhead_12 rfl (Nat.le_of_ble_eq_true rfl) (by omega) rfl (e_X12_bits (d := d - 1) (v := q9) (by omega)  hq9) ?_
    refine ev_iload_n (pc := 15) 1 dX12_isAhead_15 rfl rfl ?_
    obtain ⟨q10, hq10, h⟩ := bd h
    refine ev_cS (pc := 16) [vI p1] [vI q9] rfl mkX12_bits ml12_446 msX12_bits dX12_isAhead_16 rfl (Nat.le_of_ble_eq_true rfl) (by omega) rfl (e_X12_bits (d := d - 1) (v := q10) (by omega)  hq10) ?_
    refine ev_icmp_ge (pc := 19) (tgt := 26) dX12_isAhead_19 (by decide) (fun b11 => ?_) (fun b11 => ?_)
    · rw [if_pos b11] at h
      refine ev_iconst (pc := 26) (x := 0) dX12_isAhead_26 ci_0 ?_
      cases h
      exact ev_zret (pc := 27) (Or.inl rfl) dX12_isAhead_27 rfl
    · rw [if_neg b11] at h
      refine ev_iconst (pc := 22) (x := 1) dX12_isAhead_22 ci_1 ?_
      refine ev_goto (pc := 23) (tgt := 27) dX12_isAhead_23 (by decide) ?_
      cases h
      exact ev_zret (pc := 27) (Or.inr rfl) dX12_isAhead_27 rfl
def f_X12_states_L50 : Nat → Int → Int → Int → Int → Int → Mem → Option (Int × Int × Mem)
  | 0, _, _, _, _, _, _ => none
  | n + 1, x1, x2, x3, x4, x5, M => if (bShl 1 (wI ((M 802 0) - 1))) ≤ x5 then (some (x3, x4, M)) else ((f_X12_worthOf n x5 x1 M).bind fun q6 => if q6.1 < x4 then (f_X12_states_L50 n x1 x2 x3 x4 (wI (x5 + 1)) q6.2) else (if q6.1 ≠ x4 then (f_X12_states_L50 n x1 x2 x5 q6.1 (wI (x5 + 1)) q6.2) else ((f_X12_isAhead n x5 x3).bind fun q9 => if q9 ≠ 0 then (f_X12_states_L50 n x1 x2 x5 q6.1 (wI (x5 + 1)) q6.2) else (f_X12_states_L50 n x1 x2 x3 x4 (wI (x5 + 1)) q6.2))))
set_option maxRecDepth 100000 in
set_option maxHeartbeats 4000000 in
theorem e_X12_states_L50 {g : Gm} {d : Nat} {x1 x2 : Int} {r : Vv} {σ' : Sg} {N : Mem} (hd : 7 ≤ d) : ∀ (n : Nat) {x3 x4 x5 : Int} {M : Mem} {q : Int × Int × Mem}, f_X12_states_L50 n x1 x2 x3 x4 x5 M = some q → Ev g d mtX12_states 113 [(2, vI x2), (3, vI q.1), (4, vI q.2.1)] [] (sg (mx N q.2.2)) (0, 0) r σ' → Ev g d mtX12_states 50 [(0, vR 801), (1, vI x1), (2, vI x2), (3, vI x3), (4, vI x4), (5, vI x5)] [] (sg (mx N M)) (0, 0) r σ' := by
  intro n
  induction n with
  | zero =>
    intro x3 x4 x5 M q h hk0
    rw [f_X12_states_L50.eq_1] at h
    cases h
  | succ n ih =>
    intro x3 x4 x5 M q h hk0
    rw [f_X12_states_L50.eq_2] at h
    refine ev_iload (pc := 50) 5 dX12_states_50 rfl ?_
    refine ev_iconst (pc := 52) (x := 1) dX12_states_52 ci_1 ?_
    refine ev_aload_n (pc := 53) 0 dX12_states_53 rfl rfl ?_
    refine ev_getR (pc := 54) fl12_7 rfl dX12_states_54 rfl kd_801 (by omega) (rf_801_0 _) ?_
    refine ev_iconst (pc := 57) (x := 0) dX12_states_57 ci_0 ?_
    refine ev_ildr (pc := 58) dX12_states_58 kd_802 (by omega) (by omega) (by omega) (by omega) ?_
    refine ev_iconst (pc := 59) (x := 1) dX12_states_59 ci_1 ?_
    refine ev_isub (pc := 60) dX12_states_60 ?_
    refine ev_ishl (pc := 61) dX12_states_61 ?_
    refine ev_icmp_ge (pc := 62) (tgt := 113) dX12_states_62 (by decide) (fun b5 => ?_) (fun b5 => ?_)
    · rw [if_pos b5] at h
      cases h
      refine ev_pick [2, 3, 4] rfl ?_
      exact hk0
    · rw [if_neg b5] at h
      refine ev_aload_n (pc := 65) 0 dX12_states_65 rfl rfl ?_
      refine ev_iload (pc := 66) 5 dX12_states_66 rfl ?_
      refine ev_iload_n (pc := 68) 1 dX12_states_68 rfl rfl ?_
      obtain ⟨q6, hq6, h⟩ := bd h
      refine ev_cV (pc := 69) [vI x5, vI x1] [] rfl mkX12_worthOf ml12_460 mnX12_worthOf dX12_states_69 kd_801 (by omega) rfl (Nat.le_of_ble_eq_true rfl) (by omega) rfl (e_X12_worthOf (d := d - 1) (v := q6.1) (M' := q6.2) (by omega)  hq6) ?_
      refine ev_istore (pc := 72) (il' := [(6, vI q6.1), (0, vR 801), (1, vI x1), (2, vI x2), (3, vI x3), (4, vI x4), (5, vI x5)]) dX12_states_72 (Nat.le_of_ble_eq_true rfl) rfl ?_
      refine ev_iload (pc := 74) 0 dX12_states_74 rfl ?_
      refine ev_iload (pc := 76) 5 dX12_states_76 rfl ?_
      refine ev_icmp_lt (pc := 78) (tgt := 107) dX12_states_78 (by decide) (fun b7 => ?_) (fun b7 => ?_)
      · rw [if_pos b7] at h
        refine ev_iinc (pc := 107) (il' := [(5, vI (wI (x5 + 1))), (6, vI q6.1), (0, vR 801), (1, vI x1), (2, vI x2), (3, vI x3), (4, vI x4)]) 6 dX12_states_107 rfl (Nat.le_of_ble_eq_true rfl) rfl rfl ?_
        refine ev_goto (pc := 110) (tgt := 50) dX12_states_110 (by decide) ?_
        refine ev_pick [2, 3, 4, 5, 6, 0] rfl ?_
        exact ih h hk0
      · rw [if_neg b7] at h
        refine ev_iload (pc := 81) 0 dX12_states_81 rfl ?_
        refine ev_iload (pc := 83) 5 dX12_states_83 rfl ?_
        refine ev_icmp_ne (pc := 85) (tgt := 100) dX12_states_85 (by decide) (fun b8 => ?_) (fun b8 => ?_)
        · rw [if_pos b8] at h
          refine ev_iload (pc := 100) 0 dX12_states_100 rfl ?_
          refine ev_istore (pc := 102) (il' := [(4, vI q6.1), (6, vI q6.1), (0, vR 801), (1, vI x1), (2, vI x2), (3, vI x3), (5, vI x5)]) dX12_states_102 (Nat.le_of_ble_eq_true rfl) rfl ?_
          refine ev_iload (pc := 104) 6 dX12_states_104 rfl ?_
          refine ev_istore_n (pc := 106) (il' := [(3, vI x5), (4, vI q6.1), (6, vI q6.1), (0, vR 801), (1, vI x1), (2, vI x2), (5, vI x5)]) dX12_states_106 rfl (Nat.le_of_ble_eq_true rfl) rfl ?_
          refine ev_iinc (pc := 107) (il' := [(5, vI (wI (x5 + 1))), (3, vI x5), (4, vI q6.1), (6, vI q6.1), (0, vR 801), (1, vI x1), (2, vI x2)]) 6 dX12_states_107 rfl (Nat.le_of_ble_eq_true rfl) rfl rfl ?_
          refine ev_goto (pc := 110) (tgt := 50) dX12_states_110 (by decide) ?_
          refine ev_pick [4, 5, 6, 1, 2, 0] rfl ?_
          exact ih h hk0
        · rw [if_neg b8] at h
          refine ev_iload (pc := 88) 6 dX12_states_88 rfl ?_
          refine ev_iload_n (pc := 90) 4 dX12_states_90 rfl rfl ?_
          obtain ⟨q9, hq9, h⟩ := bd h
          refine ev_cS (pc := 91) [vI x5, vI x3] [] rfl mkX12_isAhead ml12_463 msX12_isAhead dX12_states_91 rfl (Nat.le_of_ble_eq_true rfl) (by omega) rfl (e_X12_isAhead (d := d - 1) (v := q9) (by omega)  hq9) ?_
          refine ev_if_ne (pc := 94) (tgt := 100) dX12_states_94 (by decide) (fun b10 => ?_) (fun b10 => ?_)
          · rw [if_pos b10] at h
            refine ev_iload (pc := 100) 0 dX12_states_100 rfl ?_
            refine ev_istore (pc := 102) (il' := [(4, vI q6.1), (6, vI q6.1), (0, vR 801), (1, vI x1), (2, vI x2), (3, vI x3), (5, vI x5)]) dX12_states_102 (Nat.le_of_ble_eq_true rfl) rfl ?_
            refine ev_iload (pc := 104) 6 dX12_states_104 rfl ?_
            refine ev_istore_n (pc := 106) (il' := [(3, vI x5), (4, vI q6.1), (6, vI q6.1), (0, vR 801), (1, vI x1), (2, vI x2), (5, vI x5)]) dX12_states_106 rfl (Nat.le_of_ble_eq_true rfl) rfl ?_
            refine ev_iinc (pc := 107) (il' := [(5, vI (wI (x5 + 1))), (3, vI x5), (4, vI q6.1), (6, vI q6.1), (0, vR 801), (1, vI x1), (2, vI x2)]) 6 dX12_states_107 rfl (Nat.le_of_ble_eq_true rfl) rfl rfl ?_
            refine ev_goto (pc := 110) (tgt := 50) dX12_states_110 (by decide) ?_
            refine ev_pick [4, 5, 6, 1, 2, 0] rfl ?_
            exact ih h hk0
          · rw [if_neg b10] at h
            refine ev_goto (pc := 97) (tgt := 107) dX12_states_97 (by decide) ?_
            refine ev_iinc (pc := 107) (il' := [(5, vI (wI (x5 + 1))), (6, vI q6.1), (0, vR 801), (1, vI x1), (2, vI x2), (3, vI x3), (4, vI x4)]) 6 dX12_states_107 rfl (Nat.le_of_ble_eq_true rfl) rfl rfl ?_
            refine ev_goto (pc := 110) (tgt := 50) dX12_states_110 (by decide) ?_
            refine ev_pick [2, 3, 4, 5, 6, 0] rfl ?_
            exact ih h hk0
def f_X12_states_J37 (n : Nat) (x1 x2 : Int) (M : Mem) : Option (Int × Mem) := (f_X12_worthOf n 0 x1 M).bind fun q4 => (f_X12_states_L50 n x1 x2 0 q4.1 1 q4.2).bind fun q11 => if x2 ≠ (-1) then ((f_X12_bits n (bAnd q11.1 (wI ((bShl 1 x2) - 1)))).bind fun q13 => some (q13, q11.2.2)) else (some (q11.2.1, q11.2.2))
set_option maxRecDepth 100000 in
set_option maxHeartbeats 4000000 in
theorem e_X12_states_J37 {g : Gm} {d : Nat} {n : Nat} {x1 x2 : Int} {M N : Mem} {v : Int} {M' : Mem} (hd : 7 ≤ d) (h : f_X12_states_J37 n x1 x2 M = some (v, M')) : Ev g d mtX12_states 37 [(0, vR 801), (1, vI x1), (2, vI x2)] [] (sg (mx N M)) (0, 0) (vI v) (sg (mx N M')) := by
  unfold f_X12_states_J37 at h
  refine ev_iconst (pc := 37) (x := 0) dX12_states_37 ci_0 ?_
  refine ev_istore_n (pc := 38) (il' := [(3, vI 0), (0, vR 801), (1, vI x1), (2, vI x2)]) dX12_states_38 rfl (Nat.le_of_ble_eq_true rfl) rfl ?_
  refine ev_aload_n (pc := 39) 1 dX12_states_39 rfl rfl ?_
  refine ev_iconst (pc := 40) (x := 0) dX12_states_40 ci_0 ?_
  refine ev_iload_n (pc := 41) 2 dX12_states_41 rfl rfl ?_
  obtain ⟨q4, hq4, h⟩ := bd h
  refine ev_cV (pc := 42) [vI 0, vI x1] [] rfl mkX12_worthOf ml12_460 mnX12_worthOf dX12_states_42 kd_801 (by omega) rfl (Nat.le_of_ble_eq_true rfl) (by omega) rfl (e_X12_worthOf (d := d - 1) (v := q4.1) (M' := q4.2) (by omega)  hq4) ?_
  refine ev_istore (pc := 45) (il' := [(4, vI q4.1), (3, vI 0), (0, vR 801), (1, vI x1), (2, vI x2)]) dX12_states_45 (Nat.le_of_ble_eq_true rfl) rfl ?_
  refine ev_iconst (pc := 47) (x := 1) dX12_states_47 ci_1 ?_
  refine ev_istore (pc := 48) (il' := [(5, vI 1), (4, vI q4.1), (3, vI 0), (0, vR 801), (1, vI x1), (2, vI x2)]) dX12_states_48 (Nat.le_of_ble_eq_true rfl) rfl ?_
  obtain ⟨q11, hq11, h⟩ := bd h
  refine ev_pick [3, 4, 5, 2, 1, 0] rfl ?_
  refine e_X12_states_L50 hd  n hq11 ?_
  refine ev_iload_n (pc := 113) 0 dX12_states_113 rfl rfl ?_
  refine ev_iconst (pc := 114) (x := (-1)) dX12_states_114 ci_m1 ?_
  refine ev_icmp_ne (pc := 115) (tgt := 123) dX12_states_115 (by decide) (fun b12 => ?_) (fun b12 => ?_)
  · rw [if_pos b12] at h
    refine ev_iload_n (pc := 123) 1 dX12_states_123 rfl rfl ?_
    refine ev_iconst (pc := 124) (x := 1) dX12_states_124 ci_1 ?_
    refine ev_iload_n (pc := 125) 0 dX12_states_125 rfl rfl ?_
    refine ev_ishl (pc := 126) dX12_states_126 ?_
    refine ev_iconst (pc := 127) (x := 1) dX12_states_127 ci_1 ?_
    refine ev_isub (pc := 128) dX12_states_128 ?_
    refine ev_iand (pc := 129) dX12_states_129 ?_
    obtain ⟨q13, hq13, h⟩ := bd h
    refine ev_cS (pc := 130) [vI (bAnd q11.1 (wI ((bShl 1 x2) - 1)))] [] rfl mkX12_bits ml12_446 msX12_bits dX12_states_130 rfl (Nat.le_of_ble_eq_true rfl) (by omega) rfl (e_X12_bits (d := d - 1) (v := q13) (by omega)  hq13) ?_
    cases h
    exact ev_iret (pc := 133) dX12_states_133 rfl
  · rw [if_neg b12] at h
    refine ev_iload (pc := 118) 2 dX12_states_118 rfl ?_
    refine ev_goto (pc := 120) (tgt := 133) dX12_states_120 (by decide) ?_
    cases h
    exact ev_iret (pc := 133) dX12_states_133 rfl
def f_X12_states (n : Nat) (p0 p1 : Int) (M : Mem) : Option (Int × Mem) := if (f_X12_isIn p0 0 999) = 0 then (some ((-1000000000), M)) else (if (M 802 0) = 0 then (some ((-1000000000), M)) else (if p1 = (-1) then (f_X12_states_J37 n p0 p1 M) else (if (f_X12_isStep p1 M) ≠ 0 then (f_X12_states_J37 n p0 p1 M) else (some ((-1000000000), M)))))
set_option maxRecDepth 100000 in
set_option maxHeartbeats 4000000 in
theorem e_X12_states {g : Gm} {d : Nat} {n : Nat} {p0 p1 : Int} {M N : Mem} {v : Int} {M' : Mem} (hd : 7 ≤ d) (h : f_X12_states n p0 p1 M = some (v, M')) : EvM g d mtX12_states [vR 801, vI p0, vI p1] (sg (mx N M)) (0, 0) (vI v) (sg (mx N M')) := by
  unfold f_X12_states at h
  refine EvM.of mkX12_states.2.2.2.1 (Nat.le_of_ble_eq_true rfl) ?_
  change Ev g d mtX12_states 0 [(0, vR 801), (1, vI p0), (2, vI p1)] [] (sg (mx N M)) (0, 0) (vI v) (sg (mx N M'))
  refine ev_iload_n (pc := 0) 1 dX12_states_0 rfl rfl ?_
  refine ev_iconst (pc := 1) (x := 0) dX12_states_1 ci_0 ?_
  refine ev_sipush (pc := 2) (x := 999) dX12_states_2 cs_999 ?_
  refine ev_cS (pc := 5) [vI p0, vI 0, vI 999] [] rfl mkX12_isIn ml12_90 msX12_isIn dX12_states_5 rfl (Nat.le_of_ble_eq_true rfl) (by omega) rfl (e_X12_isIn (d := d - 1) (v := (f_X12_isIn p0 0 999)) (by omega)  rfl) ?_
  refine ev_if_eq (pc := 8) (tgt := 33) dX12_states_8 (by decide) (fun b1 => ?_) (fun b1 => ?_)
  · rw [if_pos b1] at h
    refine ev_ldcw (pc := 33) (x := (-1000000000)) rfl kc12_459 cc_m1000000000 dX12_states_33 ?_
    cases h
    exact ev_iret (pc := 36) dX12_states_36 rfl
  · rw [if_neg b1] at h
    refine ev_aload_n (pc := 11) 0 dX12_states_11 rfl rfl ?_
    refine ev_getR (pc := 12) fl12_7 rfl dX12_states_12 rfl kd_801 (by omega) (rf_801_0 _) ?_
    refine ev_iconst (pc := 15) (x := 0) dX12_states_15 ci_0 ?_
    refine ev_ildr (pc := 16) dX12_states_16 kd_802 (by omega) (by omega) (by omega) (by omega) ?_
    refine ev_if_eq (pc := 17) (tgt := 33) dX12_states_17 (by decide) (fun b2 => ?_) (fun b2 => ?_)
    · rw [if_pos b2] at h
      refine ev_ldcw (pc := 33) (x := (-1000000000)) rfl kc12_459 cc_m1000000000 dX12_states_33 ?_
      cases h
      exact ev_iret (pc := 36) dX12_states_36 rfl
    · rw [if_neg b2] at h
      refine ev_iload_n (pc := 20) 2 dX12_states_20 rfl rfl ?_
      refine ev_iconst (pc := 21) (x := (-1)) dX12_states_21 ci_m1 ?_
      refine ev_icmp_eq (pc := 22) (tgt := 37) dX12_states_22 (by decide) (fun b3 => ?_) (fun b3 => ?_)
      · rw [if_pos b3] at h
        refine ev_pick [0, 1, 2] rfl ?_
        exact e_X12_states_J37 hd  h
      · rw [if_neg b3] at h
        refine ev_aload_n (pc := 25) 0 dX12_states_25 rfl rfl ?_
        refine ev_iload_n (pc := 26) 2 dX12_states_26 rfl rfl ?_
        refine ev_cV (pc := 27) [vI p1] [] rfl mkX12_isStep ml12_102 mnX12_isStep dX12_states_27 kd_801 (by omega) rfl (Nat.le_of_ble_eq_true rfl) (by omega) rfl (e_X12_isStep (d := d - 1) (v := (f_X12_isStep p1 M)) (by omega)  rfl) ?_
        refine ev_if_ne (pc := 30) (tgt := 37) dX12_states_30 (by decide) (fun b14 => ?_) (fun b14 => ?_)
        · rw [if_pos b14] at h
          refine ev_pick [0, 1, 2] rfl ?_
          exact e_X12_states_J37 hd  h
        · rw [if_neg b14] at h
          refine ev_ldcw (pc := 33) (x := (-1000000000)) rfl kc12_459 cc_m1000000000 dX12_states_33 ?_
          cases h
          exact ev_iret (pc := 36) dX12_states_36 rfl
def f_X12_sound (p0 p1 : Int) (M : Mem) : Option (Int × Mem) := if p0 ≠ (-1) then (if (f_X12_isIn p0 0 8) = 0 then (some ((-2), M)) else (if (f_X12_isIn p1 0 99) = 0 then (some ((-2), M)) else (if (M 802 5) ≠ 8 then (ck (0 ≤ (wI (130 + (wI (2 * (M 802 5))))) ∧ (wI (130 + (wI (2 * (M 802 5))))) < 10606) (lt (upM M 802 (wI (130 + (wI (2 * (M 802 5))))) p0) fun M6 => ck (0 ≤ (wI ((wI (130 + (wI (2 * (M6 802 5))))) + 1)) ∧ (wI ((wI (130 + (wI (2 * (M6 802 5))))) + 1)) < 10606) (lt (upM M6 802 (wI ((wI (130 + (wI (2 * (M6 802 5))))) + 1)) p1) fun M8 => lt (upM M8 802 5 (wI ((M8 802 5) + 1))) fun M9 => some ((M9 802 5), M9)))) else (some ((-2), M))))) else (lt (upM M 802 5 0) fun M10 => some (0, M10))
set_option maxRecDepth 100000 in
set_option maxHeartbeats 4000000 in
theorem e_X12_sound {g : Gm} {d : Nat} {p0 p1 : Int} {M N : Mem} {v : Int} {M' : Mem} (hd : 1 ≤ d) (h : f_X12_sound p0 p1 M = some (v, M')) : EvM g d mtX12_sound [vR 801, vI p0, vI p1] (sg (mx N M)) (0, 0) (vI v) (sg (mx N M')) := by
  unfold f_X12_sound at h
  refine EvM.of mkX12_sound.2.2.2.1 (Nat.le_of_ble_eq_true rfl) ?_
  change Ev g d mtX12_sound 0 [(0, vR 801), (1, vI p0), (2, vI p1)] [] (sg (mx N M)) (0, 0) (vI v) (sg (mx N M'))
  refine ev_iload_n (pc := 0) 1 dX12_sound_0 rfl rfl ?_
  refine ev_iconst (pc := 1) (x := (-1)) dX12_sound_1 ci_m1 ?_
  refine ev_icmp_ne (pc := 2) (tgt := 14) dX12_sound_2 (by decide) (fun b1 => ?_) (fun b1 => ?_)
  · rw [if_pos b1] at h
    refine ev_iload_n (pc := 14) 1 dX12_sound_14 rfl rfl ?_
    refine ev_iconst (pc := 15) (x := 0) dX12_sound_15 ci_0 ?_
    refine ev_bipush (pc := 16) (x := 8) dX12_sound_16 cb_8 ?_
    refine ev_cS (pc := 18) [vI p0, vI 0, vI 8] [] rfl mkX12_isIn ml12_90 msX12_isIn dX12_sound_18 rfl (Nat.le_of_ble_eq_true rfl) (by omega) rfl (e_X12_isIn (d := d - 1) (v := (f_X12_isIn p0 0 8)) (by omega)  rfl) ?_
    refine ev_if_eq (pc := 21) (tgt := 45) dX12_sound_21 (by decide) (fun b2 => ?_) (fun b2 => ?_)
    · rw [if_pos b2] at h
      refine ev_bipush (pc := 45) (x := (-2)) dX12_sound_45 cb_m2 ?_
      cases h
      exact ev_iret (pc := 47) dX12_sound_47 rfl
    · rw [if_neg b2] at h
      refine ev_iload_n (pc := 24) 2 dX12_sound_24 rfl rfl ?_
      refine ev_iconst (pc := 25) (x := 0) dX12_sound_25 ci_0 ?_
      refine ev_bipush (pc := 26) (x := 99) dX12_sound_26 cb_99 ?_
      refine ev_cS (pc := 28) [vI p1, vI 0, vI 99] [] rfl mkX12_isIn ml12_90 msX12_isIn dX12_sound_28 rfl (Nat.le_of_ble_eq_true rfl) (by omega) rfl (e_X12_isIn (d := d - 1) (v := (f_X12_isIn p1 0 99)) (by omega)  rfl) ?_
      refine ev_if_eq (pc := 31) (tgt := 45) dX12_sound_31 (by decide) (fun b3 => ?_) (fun b3 => ?_)
      · rw [if_pos b3] at h
        refine ev_bipush (pc := 45) (x := (-2)) dX12_sound_45 cb_m2 ?_
        cases h
        exact ev_iret (pc := 47) dX12_sound_47 rfl
      · rw [if_neg b3] at h
        refine ev_aload_n (pc := 34) 0 dX12_sound_34 rfl rfl ?_
        refine ev_getR (pc := 35) fl12_7 rfl dX12_sound_35 rfl kd_801 (by omega) (rf_801_0 _) ?_
        refine ev_iconst (pc := 38) (x := 5) dX12_sound_38 ci_5 ?_
        refine ev_ildr (pc := 39) dX12_sound_39 kd_802 (by omega) (by omega) (by omega) (by omega) ?_
        refine ev_bipush (pc := 40) (x := 8) dX12_sound_40 cb_8 ?_
        refine ev_icmp_ne (pc := 42) (tgt := 48) dX12_sound_42 (by decide) (fun b4 => ?_) (fun b4 => ?_)
        · rw [if_pos b4] at h
          refine ev_aload_n (pc := 48) 0 dX12_sound_48 rfl rfl ?_
          refine ev_getR (pc := 49) fl12_7 rfl dX12_sound_49 rfl kd_801 (by omega) (rf_801_0 _) ?_
          refine ev_sipush (pc := 52) (x := 130) dX12_sound_52 cs_130 ?_
          refine ev_iconst (pc := 55) (x := 2) dX12_sound_55 ci_2 ?_
          refine ev_aload_n (pc := 56) 0 dX12_sound_56 rfl rfl ?_
          refine ev_getR (pc := 57) fl12_7 rfl dX12_sound_57 rfl kd_801 (by omega) (rf_801_0 _) ?_
          refine ev_iconst (pc := 60) (x := 5) dX12_sound_60 ci_5 ?_
          refine ev_ildr (pc := 61) dX12_sound_61 kd_802 (by omega) (by omega) (by omega) (by omega) ?_
          refine ev_imul (pc := 62) dX12_sound_62 ?_
          refine ev_iadd (pc := 63) dX12_sound_63 ?_
          refine ev_iload_n (pc := 64) 1 dX12_sound_64 rfl rfl ?_
          obtain ⟨c5, h⟩ := ck_some h
          obtain ⟨M6, eM6, h⟩ := lt_some h
          refine ev_istr (pc := 65) dX12_sound_65 kd_802 (by omega) (by omega) c5.1 c5.2 eM6 ?_
          refine ev_aload_n (pc := 66) 0 dX12_sound_66 rfl rfl ?_
          refine ev_getR (pc := 67) fl12_7 rfl dX12_sound_67 rfl kd_801 (by omega) (rf_801_0 _) ?_
          refine ev_sipush (pc := 70) (x := 130) dX12_sound_70 cs_130 ?_
          refine ev_iconst (pc := 73) (x := 2) dX12_sound_73 ci_2 ?_
          refine ev_aload_n (pc := 74) 0 dX12_sound_74 rfl rfl ?_
          refine ev_getR (pc := 75) fl12_7 rfl dX12_sound_75 rfl kd_801 (by omega) (rf_801_0 _) ?_
          refine ev_iconst (pc := 78) (x := 5) dX12_sound_78 ci_5 ?_
          refine ev_ildr (pc := 79) dX12_sound_79 kd_802 (by omega) (by omega) (by omega) (by omega) ?_
          refine ev_imul (pc := 80) dX12_sound_80 ?_
          refine ev_iadd (pc := 81) dX12_sound_81 ?_
          refine ev_iconst (pc := 82) (x := 1) dX12_sound_82 ci_1 ?_
          refine ev_iadd (pc := 83) dX12_sound_83 ?_
          refine ev_iload_n (pc := 84) 2 dX12_sound_84 rfl rfl ?_
          obtain ⟨c7, h⟩ := ck_some h
          obtain ⟨M8, eM8, h⟩ := lt_some h
          refine ev_istr (pc := 85) dX12_sound_85 kd_802 (by omega) (by omega) c7.1 c7.2 eM8 ?_
          refine ev_aload_n (pc := 86) 0 dX12_sound_86 rfl rfl ?_
          refine ev_getR (pc := 87) fl12_7 rfl dX12_sound_87 rfl kd_801 (by omega) (rf_801_0 _) ?_
          refine ev_iconst (pc := 90) (x := 5) dX12_sound_90 ci_5 ?_
          refine ev_dup2 (pc := 91) rfl rfl dX12_sound_91 ?_
          refine ev_ildr (pc := 92) dX12_sound_92 kd_802 (by omega) (by omega) (by omega) (by omega) ?_
          refine ev_iconst (pc := 93) (x := 1) dX12_sound_93 ci_1 ?_
          refine ev_iadd (pc := 94) dX12_sound_94 ?_
          obtain ⟨M9, eM9, h⟩ := lt_some h
          refine ev_istr (pc := 95) dX12_sound_95 kd_802 (by omega) (by omega) (by omega) (by omega) eM9 ?_
          refine ev_aload_n (pc := 96) 0 dX12_sound_96 rfl rfl ?_
          refine ev_getR (pc := 97) fl12_7 rfl dX12_sound_97 rfl kd_801 (by omega) (rf_801_0 _) ?_
          refine ev_iconst (pc := 100) (x := 5) dX12_sound_100 ci_5 ?_
          refine ev_ildr (pc := 101) dX12_sound_101 kd_802 (by omega) (by omega) (by omega) (by omega) ?_
          cases h
          exact ev_iret (pc := 102) dX12_sound_102 rfl
        · rw [if_neg b4] at h
          refine ev_bipush (pc := 45) (x := (-2)) dX12_sound_45 cb_m2 ?_
          cases h
          exact ev_iret (pc := 47) dX12_sound_47 rfl
  · rw [if_neg b1] at h
    refine ev_aload_n (pc := 5) 0 dX12_sound_5 rfl rfl ?_
    refine ev_getR (pc := 6) fl12_7 rfl dX12_sound_6 rfl kd_801 (by omega) (rf_801_0 _) ?_
    refine ev_iconst (pc := 9) (x := 5) dX12_sound_9 ci_5 ?_
    refine ev_iconst (pc := 10) (x := 0) dX12_sound_10 ci_0 ?_
    obtain ⟨M10, eM10, h⟩ := lt_some h
    refine ev_istr (pc := 11) dX12_sound_11 kd_802 (by omega) (by omega) (by omega) (by omega) eM10 ?_
    refine ev_iconst (pc := 12) (x := 0) dX12_sound_12 ci_0 ?_
    cases h
    exact ev_iret (pc := 13) dX12_sound_13 rfl
def f_X12_isSounding_L2 : Nat → Int → Int → Int → Mem → Option (Int)
  | 0, _, _, _, _ => none
  | n + 1, x1, x2, x3, M => if (wI (10 * x2)) < (wI ((wI (x3 + 1)) * (wI (x3 + 1)))) then (some x3) else (f_X12_isSounding_L2 n x1 x2 (wI (x3 + 1)) M)
set_option maxRecDepth 100000 in
set_option maxHeartbeats 4000000 in
theorem e_X12_isSounding_L2 {g : Gm} {d : Nat} {x1 x2 : Int} {r : Vv} {σ' : Sg} {M N : Mem} (hd : 0 ≤ d) : ∀ (n : Nat) {x3 : Int} {q : Int}, f_X12_isSounding_L2 n x1 x2 x3 M = some q → Ev g d mtX12_isSounding 22 [(0, vR 801), (1, vI x1), (3, vI q)] [] (sg (mx N M)) (0, 0) r σ' → Ev g d mtX12_isSounding 2 [(0, vR 801), (1, vI x1), (2, vI x2), (3, vI x3)] [] (sg (mx N M)) (0, 0) r σ' := by
  intro n
  induction n with
  | zero =>
    intro x3 q h hk0
    rw [f_X12_isSounding_L2.eq_1] at h
    cases h
  | succ n ih =>
    intro x3 q h hk0
    rw [f_X12_isSounding_L2.eq_2] at h
    refine ev_iload_n (pc := 2) 3 dX12_isSounding_2 rfl rfl ?_
    refine ev_iconst (pc := 3) (x := 1) dX12_isSounding_3 ci_1 ?_
    refine ev_iadd (pc := 4) dX12_isSounding_4 ?_
    refine ev_iload_n (pc := 5) 3 dX12_isSounding_5 rfl rfl ?_
    refine ev_iconst (pc := 6) (x := 1) dX12_isSounding_6 ci_1 ?_
    refine ev_iadd (pc := 7) dX12_isSounding_7 ?_
    refine ev_imul (pc := 8) dX12_isSounding_8 ?_
    refine ev_bipush (pc := 9) (x := 10) dX12_isSounding_9 cb_10 ?_
    refine ev_iload_n (pc := 11) 2 dX12_isSounding_11 rfl rfl ?_
    refine ev_imul (pc := 12) dX12_isSounding_12 ?_
    refine ev_icmp_gt (pc := 13) (tgt := 22) dX12_isSounding_13 (by decide) (fun b1 => ?_) (fun b1 => ?_)
    · rw [if_pos b1] at h
      cases h
      refine ev_pick [0, 1, 3] rfl ?_
      exact hk0
    · rw [if_neg b1] at h
      refine ev_iinc (pc := 16) (il' := [(3, vI (wI (x3 + 1))), (0, vR 801), (1, vI x1), (2, vI x2)]) 3 dX12_isSounding_16 rfl (Nat.le_of_ble_eq_true rfl) rfl rfl ?_
      refine ev_goto (pc := 19) (tgt := 2) dX12_isSounding_19 (by decide) ?_
      refine ev_pick [1, 2, 3, 0] rfl ?_
      exact ih h hk0
def f_X12_isSounding_L25 : Nat → Int → Int → Int → Mem → Option (Int)
  | 0, _, _, _, _ => none
  | n + 1, x1, x3, x4, M => if (M 802 5) ≤ x4 then (some 1) else (ck (0 ≤ (wI (130 + (wI (2 * x4)))) ∧ (wI (130 + (wI (2 * x4)))) < 10606) (if (M 802 (wI (130 + (wI (2 * x4))))) ≠ x1 then (f_X12_isSounding_L25 n x1 x3 (wI (x4 + 1)) M) else (ck (0 ≤ (wI ((wI (130 + (wI (2 * x4)))) + 1)) ∧ (wI ((wI (130 + (wI (2 * x4)))) + 1)) < 10606) (if (M 802 (wI ((wI (130 + (wI (2 * x4)))) + 1))) = x3 then (f_X12_isSounding_L25 n x1 x3 (wI (x4 + 1)) M) else (some 0)))))
set_option maxRecDepth 100000 in
set_option maxHeartbeats 4000000 in
theorem e_X12_isSounding_L25 {g : Gm} {d : Nat} {x1 x3 : Int} {M N : Mem} (hd : 0 ≤ d) : ∀ (n : Nat) {x4 : Int} {v : Int}, f_X12_isSounding_L25 n x1 x3 x4 M = some v → Ev g d mtX12_isSounding 25 [(0, vR 801), (1, vI x1), (3, vI x3), (4, vI x4)] [] (sg (mx N M)) (0, 0) (vI v) (sg (mx N M)) := by
  intro n
  induction n with
  | zero =>
    intro x4 v h
    rw [f_X12_isSounding_L25.eq_1] at h
    cases h
  | succ n ih =>
    intro x4 v h
    rw [f_X12_isSounding_L25.eq_2] at h
    refine ev_iload (pc := 25) 3 dX12_isSounding_25 rfl ?_
    refine ev_aload_n (pc := 27) 0 dX12_isSounding_27 rfl rfl ?_
    refine ev_getR (pc := 28) fl12_7 rfl dX12_isSounding_28 rfl kd_801 (by omega) (rf_801_0 _) ?_
    refine ev_iconst (pc := 31) (x := 5) dX12_isSounding_31 ci_5 ?_
    refine ev_ildr (pc := 32) dX12_isSounding_32 kd_802 (by omega) (by omega) (by omega) (by omega) ?_
    refine ev_icmp_ge (pc := 33) (tgt := 80) dX12_isSounding_33 (by decide) (fun b3 => ?_) (fun b3 => ?_)
    · rw [if_pos b3] at h
      refine ev_iconst (pc := 80) (x := 1) dX12_isSounding_80 ci_1 ?_
      cases h
      exact ev_zret (pc := 81) (Or.inr rfl) dX12_isSounding_81 rfl
    · rw [if_neg b3] at h
      refine ev_aload_n (pc := 36) 0 dX12_isSounding_36 rfl rfl ?_
      refine ev_getR (pc := 37) fl12_7 rfl dX12_isSounding_37 rfl kd_801 (by omega) (rf_801_0 _) ?_
      refine ev_sipush (pc := 40) (x := 130) dX12_isSounding_40 cs_130 ?_
      refine ev_iconst (pc := 43) (x := 2) dX12_isSounding_43 ci_2 ?_
      refine ev_iload (pc := 44) 3 dX12_isSounding_44 rfl ?_
      refine ev_imul (pc := 46) dX12_isSounding_46 ?_
      refine ev_iadd (pc := 47) dX12_isSounding_47 ?_
      obtain ⟨c4, h⟩ := ck_some h
      refine ev_ildr (pc := 48) dX12_isSounding_48 kd_802 (by omega) (by omega) c4.1 c4.2 ?_
      refine ev_iload_n (pc := 49) 1 dX12_isSounding_49 rfl rfl ?_
      refine ev_icmp_ne (pc := 50) (tgt := 74) dX12_isSounding_50 (by decide) (fun b5 => ?_) (fun b5 => ?_)
      · rw [if_pos b5] at h
        refine ev_iinc (pc := 74) (il' := [(4, vI (wI (x4 + 1))), (0, vR 801), (1, vI x1), (3, vI x3)]) 3 dX12_isSounding_74 rfl (Nat.le_of_ble_eq_true rfl) rfl rfl ?_
        refine ev_goto (pc := 77) (tgt := 25) dX12_isSounding_77 (by decide) ?_
        refine ev_pick [1, 2, 3, 0] rfl ?_
        exact ih h
      · rw [if_neg b5] at h
        refine ev_aload_n (pc := 53) 0 dX12_isSounding_53 rfl rfl ?_
        refine ev_getR (pc := 54) fl12_7 rfl dX12_isSounding_54 rfl kd_801 (by omega) (rf_801_0 _) ?_
        refine ev_sipush (pc := 57) (x := 130) dX12_isSounding_57 cs_130 ?_
        refine ev_iconst (pc := 60) (x := 2) dX12_isSounding_60 ci_2 ?_
        refine ev_iload (pc := 61) 3 dX12_isSounding_61 rfl ?_
        refine ev_imul (pc := 63) dX12_isSounding_63 ?_
        refine ev_iadd (pc := 64) dX12_isSounding_64 ?_
        refine ev_iconst (pc := 65) (x := 1) dX12_isSounding_65 ci_1 ?_
        refine ev_iadd (pc := 66) dX12_isSounding_66 ?_
        obtain ⟨c6, h⟩ := ck_some h
        refine ev_ildr (pc := 67) dX12_isSounding_67 kd_802 (by omega) (by omega) c6.1 c6.2 ?_
        refine ev_iload_n (pc := 68) 2 dX12_isSounding_68 rfl rfl ?_
        refine ev_icmp_eq (pc := 69) (tgt := 74) dX12_isSounding_69 (by decide) (fun b7 => ?_) (fun b7 => ?_)
        · rw [if_pos b7] at h
          refine ev_iinc (pc := 74) (il' := [(4, vI (wI (x4 + 1))), (0, vR 801), (1, vI x1), (3, vI x3)]) 3 dX12_isSounding_74 rfl (Nat.le_of_ble_eq_true rfl) rfl rfl ?_
          refine ev_goto (pc := 77) (tgt := 25) dX12_isSounding_77 (by decide) ?_
          refine ev_pick [1, 2, 3, 0] rfl ?_
          exact ih h
        · rw [if_neg b7] at h
          refine ev_iconst (pc := 72) (x := 0) dX12_isSounding_72 ci_0 ?_
          cases h
          exact ev_zret (pc := 73) (Or.inl rfl) dX12_isSounding_73 rfl
def f_X12_isSounding (n : Nat) (p0 p1 : Int) (M : Mem) : Option (Int) := (f_X12_isSounding_L2 n p0 p1 0 M).bind fun q2 => f_X12_isSounding_L25 n p0 q2 0 M
set_option maxRecDepth 100000 in
set_option maxHeartbeats 4000000 in
theorem e_X12_isSounding {g : Gm} {d : Nat} {n : Nat} {p0 p1 : Int} {M N : Mem} {v : Int} (hd : 0 ≤ d) (h : f_X12_isSounding n p0 p1 M = some v) : EvM g d mtX12_isSounding [vR 801, vI p0, vI p1] (sg (mx N M)) (0, 0) (vI v) (sg (mx N M)) := by
  unfold f_X12_isSounding at h
  refine EvM.of mkX12_isSounding.2.2.2.1 (Nat.le_of_ble_eq_true rfl) ?_
  change Ev g d mtX12_isSounding 0 [(0, vR 801), (1, vI p0), (2, vI p1)] [] (sg (mx N M)) (0, 0) (vI v) (sg (mx N M))
  refine ev_iconst (pc := 0) (x := 0) dX12_isSounding_0 ci_0 ?_
  refine ev_istore_n (pc := 1) (il' := [(3, vI 0), (0, vR 801), (1, vI p0), (2, vI p1)]) dX12_isSounding_1 rfl (Nat.le_of_ble_eq_true rfl) rfl ?_
  obtain ⟨q2, hq2, h⟩ := bd h
  refine ev_pick [1, 2, 3, 0] rfl ?_
  refine e_X12_isSounding_L2 hd  n hq2 ?_
  refine ev_iconst (pc := 22) (x := 0) dX12_isSounding_22 ci_0 ?_
  refine ev_istore (pc := 23) (il' := [(4, vI 0), (0, vR 801), (1, vI p0), (3, vI q2)]) dX12_isSounding_23 (Nat.le_of_ble_eq_true rfl) rfl ?_
  refine ev_pick [1, 2, 3, 0] rfl ?_
  exact e_X12_isSounding_L25 hd  n h
def f_X12_high_L17 : Nat → Int → Int → Int → Int → Mem → Option (Int)
  | 0, _, _, _, _, _ => none
  | n + 1, x1, x2, x3, x4, M => if 100 ≤ x4 then (some x3) else ((f_X12_isSounding n x1 x4 M).bind fun q3 => if q3 = 0 then (f_X12_high_L17 n x1 x2 x3 (wI (x4 + 1)) M) else (if x2 ≠ 0 then (f_X12_high_L17 n x1 x2 x4 (wI (x4 + 1)) M) else (if x3 ≠ (-1) then (f_X12_high_L17 n x1 x2 x3 (wI (x4 + 1)) M) else (f_X12_high_L17 n x1 x2 x4 (wI (x4 + 1)) M))))
set_option maxRecDepth 100000 in
set_option maxHeartbeats 4000000 in
theorem e_X12_high_L17 {g : Gm} {d : Nat} {x1 x2 : Int} {r : Vv} {σ' : Sg} {M N : Mem} (hd : 1 ≤ d) : ∀ (n : Nat) {x3 x4 : Int} {q : Int}, f_X12_high_L17 n x1 x2 x3 x4 M = some q → Ev g d mtX12_high 52 [(3, vI q)] [] (sg (mx N M)) (0, 0) r σ' → Ev g d mtX12_high 17 [(0, vR 801), (1, vI x1), (2, vI x2), (3, vI x3), (4, vI x4)] [] (sg (mx N M)) (0, 0) r σ' := by
  intro n
  induction n with
  | zero =>
    intro x3 x4 q h hk0
    rw [f_X12_high_L17.eq_1] at h
    cases h
  | succ n ih =>
    intro x3 x4 q h hk0
    rw [f_X12_high_L17.eq_2] at h
    refine ev_iload (pc := 17) 4 dX12_high_17 rfl ?_
    refine ev_bipush (pc := 19) (x := 100) dX12_high_19 cb_100 ?_
    refine ev_icmp_ge (pc := 21) (tgt := 52) dX12_high_21 (by decide) (fun b2 => ?_) (fun b2 => ?_)
    · rw [if_pos b2] at h
      cases h
      refine ev_pick [3] rfl ?_
      exact hk0
    · rw [if_neg b2] at h
      refine ev_aload_n (pc := 24) 0 dX12_high_24 rfl rfl ?_
      refine ev_iload_n (pc := 25) 1 dX12_high_25 rfl rfl ?_
      refine ev_iload (pc := 26) 4 dX12_high_26 rfl ?_
      obtain ⟨q3, hq3, h⟩ := bd h
      refine ev_cV (pc := 28) [vI x1, vI x4] [] rfl mkX12_isSounding ml12_466 mnX12_isSounding dX12_high_28 kd_801 (by omega) rfl (Nat.le_of_ble_eq_true rfl) (by omega) rfl (e_X12_isSounding (d := d - 1) (v := q3) (by omega)  hq3) ?_
      refine ev_if_eq (pc := 31) (tgt := 46) dX12_high_31 (by decide) (fun b4 => ?_) (fun b4 => ?_)
      · rw [if_pos b4] at h
        refine ev_iinc (pc := 46) (il' := [(4, vI (wI (x4 + 1))), (0, vR 801), (1, vI x1), (2, vI x2), (3, vI x3)]) 4 dX12_high_46 rfl (Nat.le_of_ble_eq_true rfl) rfl rfl ?_
        refine ev_goto (pc := 49) (tgt := 17) dX12_high_49 (by decide) ?_
        refine ev_pick [1, 2, 3, 4, 0] rfl ?_
        exact ih h hk0
      · rw [if_neg b4] at h
        refine ev_iload_n (pc := 34) 2 dX12_high_34 rfl rfl ?_
        refine ev_if_ne (pc := 35) (tgt := 43) dX12_high_35 (by decide) (fun b5 => ?_) (fun b5 => ?_)
        · rw [if_pos b5] at h
          refine ev_iload (pc := 43) 4 dX12_high_43 rfl ?_
          refine ev_istore_n (pc := 45) (il' := [(3, vI x4), (0, vR 801), (1, vI x1), (2, vI x2), (4, vI x4)]) dX12_high_45 rfl (Nat.le_of_ble_eq_true rfl) rfl ?_
          refine ev_iinc (pc := 46) (il' := [(4, vI (wI (x4 + 1))), (3, vI x4), (0, vR 801), (1, vI x1), (2, vI x2)]) 4 dX12_high_46 rfl (Nat.le_of_ble_eq_true rfl) rfl rfl ?_
          refine ev_goto (pc := 49) (tgt := 17) dX12_high_49 (by decide) ?_
          refine ev_pick [2, 3, 4, 1, 0] rfl ?_
          exact ih h hk0
        · rw [if_neg b5] at h
          refine ev_iload_n (pc := 38) 3 dX12_high_38 rfl rfl ?_
          refine ev_iconst (pc := 39) (x := (-1)) dX12_high_39 ci_m1 ?_
          refine ev_icmp_ne (pc := 40) (tgt := 46) dX12_high_40 (by decide) (fun b6 => ?_) (fun b6 => ?_)
          · rw [if_pos b6] at h
            refine ev_iinc (pc := 46) (il' := [(4, vI (wI (x4 + 1))), (0, vR 801), (1, vI x1), (2, vI x2), (3, vI x3)]) 4 dX12_high_46 rfl (Nat.le_of_ble_eq_true rfl) rfl rfl ?_
            refine ev_goto (pc := 49) (tgt := 17) dX12_high_49 (by decide) ?_
            refine ev_pick [1, 2, 3, 4, 0] rfl ?_
            exact ih h hk0
          · rw [if_neg b6] at h
            refine ev_iload (pc := 43) 4 dX12_high_43 rfl ?_
            refine ev_istore_n (pc := 45) (il' := [(3, vI x4), (0, vR 801), (1, vI x1), (2, vI x2), (4, vI x4)]) dX12_high_45 rfl (Nat.le_of_ble_eq_true rfl) rfl ?_
            refine ev_iinc (pc := 46) (il' := [(4, vI (wI (x4 + 1))), (3, vI x4), (0, vR 801), (1, vI x1), (2, vI x2)]) 4 dX12_high_46 rfl (Nat.le_of_ble_eq_true rfl) rfl rfl ?_
            refine ev_goto (pc := 49) (tgt := 17) dX12_high_49 (by decide) ?_
            refine ev_pick [2, 3, 4, 1, 0] rfl ?_
            exact ih h hk0
def f_X12_high (n : Nat) (p0 p1 : Int) (M : Mem) : Option (Int) := if (f_X12_isIn p0 0 8) ≠ 0 then ((f_X12_high_L17 n p0 p1 (-1) 1 M).bind fun q7 => some q7) else (some (-1))
set_option maxRecDepth 100000 in
set_option maxHeartbeats 4000000 in
theorem e_X12_high {g : Gm} {d : Nat} {n : Nat} {p0 p1 : Int} {M N : Mem} {v : Int} (hd : 1 ≤ d) (h : f_X12_high n p0 p1 M = some v) : EvM g d mtX12_high [vR 801, vI p0, vI p1] (sg (mx N M)) (0, 0) (vI v) (sg (mx N M)) := by
  unfold f_X12_high at h
  refine EvM.of mkX12_high.2.2.2.1 (Nat.le_of_ble_eq_true rfl) ?_
  change Ev g d mtX12_high 0 [(0, vR 801), (1, vI p0), (2, vI p1)] [] (sg (mx N M)) (0, 0) (vI v) (sg (mx N M))
  refine ev_iload_n (pc := 0) 1 dX12_high_0 rfl rfl ?_
  refine ev_iconst (pc := 1) (x := 0) dX12_high_1 ci_0 ?_
  refine ev_bipush (pc := 2) (x := 8) dX12_high_2 cb_8 ?_
  refine ev_cS (pc := 4) [vI p0, vI 0, vI 8] [] rfl mkX12_isIn ml12_90 msX12_isIn dX12_high_4 rfl (Nat.le_of_ble_eq_true rfl) (by omega) rfl (e_X12_isIn (d := d - 1) (v := (f_X12_isIn p0 0 8)) (by omega)  rfl) ?_
  refine ev_if_ne (pc := 7) (tgt := 12) dX12_high_7 (by decide) (fun b1 => ?_) (fun b1 => ?_)
  · rw [if_pos b1] at h
    refine ev_iconst (pc := 12) (x := (-1)) dX12_high_12 ci_m1 ?_
    refine ev_istore_n (pc := 13) (il' := [(3, vI (-1)), (0, vR 801), (1, vI p0), (2, vI p1)]) dX12_high_13 rfl (Nat.le_of_ble_eq_true rfl) rfl ?_
    refine ev_iconst (pc := 14) (x := 1) dX12_high_14 ci_1 ?_
    refine ev_istore (pc := 15) (il' := [(4, vI 1), (3, vI (-1)), (0, vR 801), (1, vI p0), (2, vI p1)]) dX12_high_15 (Nat.le_of_ble_eq_true rfl) rfl ?_
    obtain ⟨q7, hq7, h⟩ := bd h
    refine ev_pick [2, 3, 4, 1, 0] rfl ?_
    refine e_X12_high_L17 hd  n hq7 ?_
    refine ev_iload_n (pc := 52) 0 dX12_high_52 rfl rfl ?_
    cases h
    exact ev_iret (pc := 53) dX12_high_53 rfl
  · rw [if_neg b1] at h
    refine ev_iconst (pc := 10) (x := (-1)) dX12_high_10 ci_m1 ?_
    cases h
    exact ev_iret (pc := 11) dX12_high_11 rfl
def f_X12_wreck (p0 : Int) (M : Mem) : Option (Int × Mem) := if p0 ≠ (-1) then (if (f_X12_isIn p0 0 99) = 0 then (some ((-2), M)) else (if (M 802 6) ≠ 10 then (ck (0 ≤ (wI (146 + (M 802 6))) ∧ (wI (146 + (M 802 6))) < 10606) (lt (upM M 802 (wI (146 + (M 802 6))) p0) fun M5 => lt (upM M5 802 6 (wI ((M5 802 6) + 1))) fun M6 => some ((M6 802 6), M6))) else (some ((-2), M)))) else (lt (upM M 802 6 0) fun M7 => some (0, M7))
set_option maxRecDepth 100000 in
set_option maxHeartbeats 4000000 in
theorem e_X12_wreck {g : Gm} {d : Nat} {p0 : Int} {M N : Mem} {v : Int} {M' : Mem} (hd : 1 ≤ d) (h : f_X12_wreck p0 M = some (v, M')) : EvM g d mtX12_wreck [vR 801, vI p0] (sg (mx N M)) (0, 0) (vI v) (sg (mx N M')) := by
  unfold f_X12_wreck at h
  refine EvM.of mkX12_wreck.2.2.2.1 (Nat.le_of_ble_eq_true rfl) ?_
  change Ev g d mtX12_wreck 0 [(0, vR 801), (1, vI p0)] [] (sg (mx N M)) (0, 0) (vI v) (sg (mx N M'))
  refine ev_iload_n (pc := 0) 1 dX12_wreck_0 rfl rfl ?_
  refine ev_iconst (pc := 1) (x := (-1)) dX12_wreck_1 ci_m1 ?_
  refine ev_icmp_ne (pc := 2) (tgt := 15) dX12_wreck_2 (by decide) (fun b1 => ?_) (fun b1 => ?_)
  · rw [if_pos b1] at h
    refine ev_iload_n (pc := 15) 1 dX12_wreck_15 rfl rfl ?_
    refine ev_iconst (pc := 16) (x := 0) dX12_wreck_16 ci_0 ?_
    refine ev_bipush (pc := 17) (x := 99) dX12_wreck_17 cb_99 ?_
    refine ev_cS (pc := 19) [vI p0, vI 0, vI 99] [] rfl mkX12_isIn ml12_90 msX12_isIn dX12_wreck_19 rfl (Nat.le_of_ble_eq_true rfl) (by omega) rfl (e_X12_isIn (d := d - 1) (v := (f_X12_isIn p0 0 99)) (by omega)  rfl) ?_
    refine ev_if_eq (pc := 22) (tgt := 37) dX12_wreck_22 (by decide) (fun b2 => ?_) (fun b2 => ?_)
    · rw [if_pos b2] at h
      refine ev_bipush (pc := 37) (x := (-2)) dX12_wreck_37 cb_m2 ?_
      cases h
      exact ev_iret (pc := 39) dX12_wreck_39 rfl
    · rw [if_neg b2] at h
      refine ev_aload_n (pc := 25) 0 dX12_wreck_25 rfl rfl ?_
      refine ev_getR (pc := 26) fl12_7 rfl dX12_wreck_26 rfl kd_801 (by omega) (rf_801_0 _) ?_
      refine ev_bipush (pc := 29) (x := 6) dX12_wreck_29 cb_6 ?_
      refine ev_ildr (pc := 31) dX12_wreck_31 kd_802 (by omega) (by omega) (by omega) (by omega) ?_
      refine ev_bipush (pc := 32) (x := 10) dX12_wreck_32 cb_10 ?_
      refine ev_icmp_ne (pc := 34) (tgt := 40) dX12_wreck_34 (by decide) (fun b3 => ?_) (fun b3 => ?_)
      · rw [if_pos b3] at h
        refine ev_aload_n (pc := 40) 0 dX12_wreck_40 rfl rfl ?_
        refine ev_getR (pc := 41) fl12_7 rfl dX12_wreck_41 rfl kd_801 (by omega) (rf_801_0 _) ?_
        refine ev_sipush (pc := 44) (x := 146) dX12_wreck_44 cs_146 ?_
        refine ev_aload_n (pc := 47) 0 dX12_wreck_47 rfl rfl ?_
        refine ev_getR (pc := 48) fl12_7 rfl dX12_wreck_48 rfl kd_801 (by omega) (rf_801_0 _) ?_
        refine ev_bipush (pc := 51) (x := 6) dX12_wreck_51 cb_6 ?_
        refine ev_ildr (pc := 53) dX12_wreck_53 kd_802 (by omega) (by omega) (by omega) (by omega) ?_
        refine ev_iadd (pc := 54) dX12_wreck_54 ?_
        refine ev_iload_n (pc := 55) 1 dX12_wreck_55 rfl rfl ?_
        obtain ⟨c4, h⟩ := ck_some h
        obtain ⟨M5, eM5, h⟩ := lt_some h
        refine ev_istr (pc := 56) dX12_wreck_56 kd_802 (by omega) (by omega) c4.1 c4.2 eM5 ?_
        refine ev_aload_n (pc := 57) 0 dX12_wreck_57 rfl rfl ?_
        refine ev_getR (pc := 58) fl12_7 rfl dX12_wreck_58 rfl kd_801 (by omega) (rf_801_0 _) ?_
        refine ev_bipush (pc := 61) (x := 6) dX12_wreck_61 cb_6 ?_
        refine ev_dup2 (pc := 63) rfl rfl dX12_wreck_63 ?_
        refine ev_ildr (pc := 64) dX12_wreck_64 kd_802 (by omega) (by omega) (by omega) (by omega) ?_
        refine ev_iconst (pc := 65) (x := 1) dX12_wreck_65 ci_1 ?_
        refine ev_iadd (pc := 66) dX12_wreck_66 ?_
        obtain ⟨M6, eM6, h⟩ := lt_some h
        refine ev_istr (pc := 67) dX12_wreck_67 kd_802 (by omega) (by omega) (by omega) (by omega) eM6 ?_
        refine ev_aload_n (pc := 68) 0 dX12_wreck_68 rfl rfl ?_
        refine ev_getR (pc := 69) fl12_7 rfl dX12_wreck_69 rfl kd_801 (by omega) (rf_801_0 _) ?_
        refine ev_bipush (pc := 72) (x := 6) dX12_wreck_72 cb_6 ?_
        refine ev_ildr (pc := 74) dX12_wreck_74 kd_802 (by omega) (by omega) (by omega) (by omega) ?_
        cases h
        exact ev_iret (pc := 75) dX12_wreck_75 rfl
      · rw [if_neg b3] at h
        refine ev_bipush (pc := 37) (x := (-2)) dX12_wreck_37 cb_m2 ?_
        cases h
        exact ev_iret (pc := 39) dX12_wreck_39 rfl
  · rw [if_neg b1] at h
    refine ev_aload_n (pc := 5) 0 dX12_wreck_5 rfl rfl ?_
    refine ev_getR (pc := 6) fl12_7 rfl dX12_wreck_6 rfl kd_801 (by omega) (rf_801_0 _) ?_
    refine ev_bipush (pc := 9) (x := 6) dX12_wreck_9 cb_6 ?_
    refine ev_iconst (pc := 11) (x := 0) dX12_wreck_11 ci_0 ?_
    obtain ⟨M7, eM7, h⟩ := lt_some h
    refine ev_istr (pc := 12) dX12_wreck_12 kd_802 (by omega) (by omega) (by omega) (by omega) eM7 ?_
    refine ev_iconst (pc := 13) (x := 0) dX12_wreck_13 ci_0 ?_
    cases h
    exact ev_iret (pc := 14) dX12_wreck_14 rfl
def f_X12_isOrder_L4 : Nat → Int → Int → Int → Mem → Option (Int × Mem)
  | 0, _, _, _, _ => none
  | n + 1, x1, x2, x3, M => if (M 802 6) ≤ x3 then (some (1, M)) else (if (f_X12_has x1 x3) ≠ 0 then (ck (0 ≤ (wI (146 + x3)) ∧ (wI (146 + x3)) < 10606) (ck (0 ≤ x2 ∧ x2 < 10) (lt (upM M 820 x2 (M 802 (wI (146 + x3)))) fun M5 => if x2 ≤ 0 then (f_X12_isOrder_L4 n x1 (wI (x2 + 1)) (wI (x3 + 1)) M5) else (ck (0 ≤ (wI (x2 - 1)) ∧ (wI (x2 - 1)) < 10) (if (M5 820 (wI (x2 - 1))) < (M5 820 x2) then (f_X12_isOrder_L4 n x1 (wI (x2 + 1)) (wI (x3 + 1)) M5) else (some (0, M5))))))) else (f_X12_isOrder_L4 n x1 x2 (wI (x3 + 1)) M))
set_option maxRecDepth 100000 in
set_option maxHeartbeats 4000000 in
theorem e_X12_isOrder_L4 {g : Gm} {d : Nat} {x1 : Int} {N : Mem} (hd : 1 ≤ d) : ∀ (n : Nat) {x2 x3 : Int} {M : Mem} {v : Int} {M' : Mem}, f_X12_isOrder_L4 n x1 x2 x3 M = some (v, M') → Ev g d mtX12_isOrder 4 [(0, vR 801), (1, vI x1), (2, vI x2), (3, vI x3)] [] (sg (mx N M)) (0, 0) (vI v) (sg (mx N M')) := by
  intro n
  induction n with
  | zero =>
    intro x2 x3 M v M' h
    rw [f_X12_isOrder_L4.eq_1] at h
    cases h
  | succ n ih =>
    intro x2 x3 M v M' h
    rw [f_X12_isOrder_L4.eq_2] at h
    refine ev_iload_n (pc := 4) 3 dX12_isOrder_4 rfl rfl ?_
    refine ev_aload_n (pc := 5) 0 dX12_isOrder_5 rfl rfl ?_
    refine ev_getR (pc := 6) fl12_7 rfl dX12_isOrder_6 rfl kd_801 (by omega) (rf_801_0 _) ?_
    refine ev_bipush (pc := 9) (x := 6) dX12_isOrder_9 cb_6 ?_
    refine ev_ildr (pc := 11) dX12_isOrder_11 kd_802 (by omega) (by omega) (by omega) (by omega) ?_
    refine ev_icmp_ge (pc := 12) (tgt := 74) dX12_isOrder_12 (by decide) (fun b1 => ?_) (fun b1 => ?_)
    · rw [if_pos b1] at h
      refine ev_iconst (pc := 74) (x := 1) dX12_isOrder_74 ci_1 ?_
      cases h
      exact ev_zret (pc := 75) (Or.inr rfl) dX12_isOrder_75 rfl
    · rw [if_neg b1] at h
      refine ev_iload_n (pc := 15) 1 dX12_isOrder_15 rfl rfl ?_
      refine ev_iload_n (pc := 16) 3 dX12_isOrder_16 rfl rfl ?_
      refine ev_cS (pc := 17) [vI x1, vI x3] [] rfl mkX12_has ml12_279 msX12_has dX12_isOrder_17 rfl (Nat.le_of_ble_eq_true rfl) (by omega) rfl (e_X12_has (d := d - 1) (v := (f_X12_has x1 x3)) (by omega)  rfl) ?_
      refine ev_if_ne (pc := 20) (tgt := 26) dX12_isOrder_20 (by decide) (fun b2 => ?_) (fun b2 => ?_)
      · rw [if_pos b2] at h
        refine ev_aload_n (pc := 26) 0 dX12_isOrder_26 rfl rfl ?_
        refine ev_getR (pc := 27) fl12_77 rfl dX12_isOrder_27 rfl kd_801 (by omega) (rf_801_40 _) ?_
        refine ev_iload_n (pc := 30) 2 dX12_isOrder_30 rfl rfl ?_
        refine ev_aload_n (pc := 31) 0 dX12_isOrder_31 rfl rfl ?_
        refine ev_getR (pc := 32) fl12_7 rfl dX12_isOrder_32 rfl kd_801 (by omega) (rf_801_0 _) ?_
        refine ev_sipush (pc := 35) (x := 146) dX12_isOrder_35 cs_146 ?_
        refine ev_iload_n (pc := 38) 3 dX12_isOrder_38 rfl rfl ?_
        refine ev_iadd (pc := 39) dX12_isOrder_39 ?_
        obtain ⟨c3, h⟩ := ck_some h
        refine ev_ildr (pc := 40) dX12_isOrder_40 kd_802 (by omega) (by omega) c3.1 c3.2 ?_
        obtain ⟨c4, h⟩ := ck_some h
        obtain ⟨M5, eM5, h⟩ := lt_some h
        refine ev_istr (pc := 41) dX12_isOrder_41 kd_820 (by omega) (by omega) c4.1 c4.2 eM5 ?_
        refine ev_iload_n (pc := 42) 2 dX12_isOrder_42 rfl rfl ?_
        refine ev_if_le (pc := 43) (tgt := 65) dX12_isOrder_43 (by decide) (fun b6 => ?_) (fun b6 => ?_)
        · rw [if_pos b6] at h
          refine ev_iinc (pc := 65) (il' := [(2, vI (wI (x2 + 1))), (0, vR 801), (1, vI x1), (3, vI x3)]) 2 dX12_isOrder_65 rfl (Nat.le_of_ble_eq_true rfl) rfl rfl ?_
          refine ev_iinc (pc := 68) (il' := [(3, vI (wI (x3 + 1))), (2, vI (wI (x2 + 1))), (0, vR 801), (1, vI x1)]) 3 dX12_isOrder_68 rfl (Nat.le_of_ble_eq_true rfl) rfl rfl ?_
          refine ev_goto (pc := 71) (tgt := 4) dX12_isOrder_71 (by decide) ?_
          refine ev_pick [2, 3, 1, 0] rfl ?_
          exact ih h
        · rw [if_neg b6] at h
          refine ev_aload_n (pc := 46) 0 dX12_isOrder_46 rfl rfl ?_
          refine ev_getR (pc := 47) fl12_77 rfl dX12_isOrder_47 rfl kd_801 (by omega) (rf_801_40 _) ?_
          refine ev_iload_n (pc := 50) 2 dX12_isOrder_50 rfl rfl ?_
          refine ev_ildr (pc := 51) dX12_isOrder_51 kd_820 (by omega) (by omega) c4.1 c4.2 ?_
          refine ev_aload_n (pc := 52) 0 dX12_isOrder_52 rfl rfl ?_
          refine ev_getR (pc := 53) fl12_77 rfl dX12_isOrder_53 rfl kd_801 (by omega) (rf_801_40 _) ?_
          refine ev_iload_n (pc := 56) 2 dX12_isOrder_56 rfl rfl ?_
          refine ev_iconst (pc := 57) (x := 1) dX12_isOrder_57 ci_1 ?_
          refine ev_isub (pc := 58) dX12_isOrder_58 ?_
          obtain ⟨c7, h⟩ := ck_some h
          refine ev_ildr (pc := 59) dX12_isOrder_59 kd_820 (by omega) (by omega) c7.1 c7.2 ?_
          refine ev_icmp_gt (pc := 60) (tgt := 65) dX12_isOrder_60 (by decide) (fun b8 => ?_) (fun b8 => ?_)
          · rw [if_pos b8] at h
            refine ev_iinc (pc := 65) (il' := [(2, vI (wI (x2 + 1))), (0, vR 801), (1, vI x1), (3, vI x3)]) 2 dX12_isOrder_65 rfl (Nat.le_of_ble_eq_true rfl) rfl rfl ?_
            refine ev_iinc (pc := 68) (il' := [(3, vI (wI (x3 + 1))), (2, vI (wI (x2 + 1))), (0, vR 801), (1, vI x1)]) 3 dX12_isOrder_68 rfl (Nat.le_of_ble_eq_true rfl) rfl rfl ?_
            refine ev_goto (pc := 71) (tgt := 4) dX12_isOrder_71 (by decide) ?_
            refine ev_pick [2, 3, 1, 0] rfl ?_
            exact ih h
          · rw [if_neg b8] at h
            refine ev_iconst (pc := 63) (x := 0) dX12_isOrder_63 ci_0 ?_
            cases h
            exact ev_zret (pc := 64) (Or.inl rfl) dX12_isOrder_64 rfl
      · rw [if_neg b2] at h
        refine ev_goto (pc := 23) (tgt := 68) dX12_isOrder_23 (by decide) ?_
        refine ev_iinc (pc := 68) (il' := [(3, vI (wI (x3 + 1))), (0, vR 801), (1, vI x1), (2, vI x2)]) 3 dX12_isOrder_68 rfl (Nat.le_of_ble_eq_true rfl) rfl rfl ?_
        refine ev_goto (pc := 71) (tgt := 4) dX12_isOrder_71 (by decide) ?_
        refine ev_pick [1, 2, 3, 0] rfl ?_
        exact ih h
def f_X12_isOrder (n : Nat) (p0 : Int) (M : Mem) : Option (Int × Mem) := f_X12_isOrder_L4 n p0 0 0 M
set_option maxRecDepth 100000 in
set_option maxHeartbeats 4000000 in
theorem e_X12_isOrder {g : Gm} {d : Nat} {n : Nat} {p0 : Int} {M N : Mem} {v : Int} {M' : Mem} (hd : 1 ≤ d) (h : f_X12_isOrder n p0 M = some (v, M')) : EvM g d mtX12_isOrder [vR 801, vI p0] (sg (mx N M)) (0, 0) (vI v) (sg (mx N M')) := by
  unfold f_X12_isOrder at h
  refine EvM.of mkX12_isOrder.2.2.2.1 (Nat.le_of_ble_eq_true rfl) ?_
  change Ev g d mtX12_isOrder 0 [(0, vR 801), (1, vI p0)] [] (sg (mx N M)) (0, 0) (vI v) (sg (mx N M'))
  refine ev_iconst (pc := 0) (x := 0) dX12_isOrder_0 ci_0 ?_
  refine ev_istore_n (pc := 1) (il' := [(2, vI 0), (0, vR 801), (1, vI p0)]) dX12_isOrder_1 rfl (Nat.le_of_ble_eq_true rfl) rfl ?_
  refine ev_iconst (pc := 2) (x := 0) dX12_isOrder_2 ci_0 ?_
  refine ev_istore_n (pc := 3) (il' := [(3, vI 0), (2, vI 0), (0, vR 801), (1, vI p0)]) dX12_isOrder_3 rfl (Nat.le_of_ble_eq_true rfl) rfl ?_
  refine ev_pick [2, 3, 1, 0] rfl ?_
  exact e_X12_isOrder_L4 hd  n h
def f_X12_isLower_L2 : Nat → Int → Int → Mem → Option (Int)
  | 0, _, _, _ => none
  | n + 1, x1, x2, M => if x1 ≤ x2 then (some x2) else (ck (0 ≤ x2 ∧ x2 < 10) (if (M 820 x2) ≠ (M 821 x2) then (some x2) else (f_X12_isLower_L2 n x1 (wI (x2 + 1)) M)))
set_option maxRecDepth 100000 in
set_option maxHeartbeats 4000000 in
theorem e_X12_isLower_L2 {g : Gm} {d : Nat} {x1 : Int} {r : Vv} {σ' : Sg} {M N : Mem} (hd : 0 ≤ d) : ∀ (n : Nat) {x2 : Int} {q : Int}, f_X12_isLower_L2 n x1 x2 M = some q → Ev g d mtX12_isLower 28 [(0, vR 801), (1, vI x1), (2, vI q)] [] (sg (mx N M)) (0, 0) r σ' → Ev g d mtX12_isLower 2 [(0, vR 801), (1, vI x1), (2, vI x2)] [] (sg (mx N M)) (0, 0) r σ' := by
  intro n
  induction n with
  | zero =>
    intro x2 q h hk0
    rw [f_X12_isLower_L2.eq_1] at h
    cases h
  | succ n ih =>
    intro x2 q h hk0
    rw [f_X12_isLower_L2.eq_2] at h
    refine ev_iload_n (pc := 2) 2 dX12_isLower_2 rfl rfl ?_
    refine ev_iload_n (pc := 3) 1 dX12_isLower_3 rfl rfl ?_
    refine ev_icmp_ge (pc := 4) (tgt := 28) dX12_isLower_4 (by decide) (fun b1 => ?_) (fun b1 => ?_)
    · rw [if_pos b1] at h
      cases h
      refine ev_pick [0, 1, 2] rfl ?_
      exact hk0
    · rw [if_neg b1] at h
      refine ev_aload_n (pc := 7) 0 dX12_isLower_7 rfl rfl ?_
      refine ev_getR (pc := 8) fl12_77 rfl dX12_isLower_8 rfl kd_801 (by omega) (rf_801_40 _) ?_
      refine ev_iload_n (pc := 11) 2 dX12_isLower_11 rfl rfl ?_
      obtain ⟨c2, h⟩ := ck_some h
      refine ev_ildr (pc := 12) dX12_isLower_12 kd_820 (by omega) (by omega) c2.1 c2.2 ?_
      refine ev_aload_n (pc := 13) 0 dX12_isLower_13 rfl rfl ?_
      refine ev_getR (pc := 14) fl12_80 rfl dX12_isLower_14 rfl kd_801 (by omega) (rf_801_41 _) ?_
      refine ev_iload_n (pc := 17) 2 dX12_isLower_17 rfl rfl ?_
      refine ev_ildr (pc := 18) dX12_isLower_18 kd_821 (by omega) (by omega) c2.1 c2.2 ?_
      refine ev_icmp_ne (pc := 19) (tgt := 28) dX12_isLower_19 (by decide) (fun b3 => ?_) (fun b3 => ?_)
      · rw [if_pos b3] at h
        cases h
        refine ev_pick [0, 1, 2] rfl ?_
        exact hk0
      · rw [if_neg b3] at h
        refine ev_iinc (pc := 22) (il' := [(2, vI (wI (x2 + 1))), (0, vR 801), (1, vI x1)]) 2 dX12_isLower_22 rfl (Nat.le_of_ble_eq_true rfl) rfl rfl ?_
        refine ev_goto (pc := 25) (tgt := 2) dX12_isLower_25 (by decide) ?_
        refine ev_pick [1, 2, 0] rfl ?_
        exact ih h hk0
def f_X12_isLower_J28 (n : Nat) (x1 x2 : Int) (M : Mem) : Option (Int) := if x1 ≤ x2 then (some 0) else (ck (0 ≤ x2 ∧ x2 < 10) (if (M 821 x2) ≤ (M 820 x2) then (some 0) else (some 1)))
set_option maxRecDepth 100000 in
set_option maxHeartbeats 4000000 in
theorem e_X12_isLower_J28 {g : Gm} {d : Nat} {n : Nat} {x1 x2 : Int} {M N : Mem} {v : Int} (hd : 0 ≤ d) (h : f_X12_isLower_J28 n x1 x2 M = some v) : Ev g d mtX12_isLower 28 [(0, vR 801), (1, vI x1), (2, vI x2)] [] (sg (mx N M)) (0, 0) (vI v) (sg (mx N M)) := by
  unfold f_X12_isLower_J28 at h
  refine ev_iload_n (pc := 28) 2 dX12_isLower_28 rfl rfl ?_
  refine ev_iload_n (pc := 29) 1 dX12_isLower_29 rfl rfl ?_
  refine ev_icmp_ge (pc := 30) (tgt := 52) dX12_isLower_30 (by decide) (fun b5 => ?_) (fun b5 => ?_)
  · rw [if_pos b5] at h
    refine ev_iconst (pc := 52) (x := 0) dX12_isLower_52 ci_0 ?_
    cases h
    exact ev_zret (pc := 53) (Or.inl rfl) dX12_isLower_53 rfl
  · rw [if_neg b5] at h
    refine ev_aload_n (pc := 33) 0 dX12_isLower_33 rfl rfl ?_
    refine ev_getR (pc := 34) fl12_77 rfl dX12_isLower_34 rfl kd_801 (by omega) (rf_801_40 _) ?_
    refine ev_iload_n (pc := 37) 2 dX12_isLower_37 rfl rfl ?_
    obtain ⟨c6, h⟩ := ck_some h
    refine ev_ildr (pc := 38) dX12_isLower_38 kd_820 (by omega) (by omega) c6.1 c6.2 ?_
    refine ev_aload_n (pc := 39) 0 dX12_isLower_39 rfl rfl ?_
    refine ev_getR (pc := 40) fl12_80 rfl dX12_isLower_40 rfl kd_801 (by omega) (rf_801_41 _) ?_
    refine ev_iload_n (pc := 43) 2 dX12_isLower_43 rfl rfl ?_
    refine ev_ildr (pc := 44) dX12_isLower_44 kd_821 (by omega) (by omega) c6.1 c6.2 ?_
    refine ev_icmp_ge (pc := 45) (tgt := 52) dX12_isLower_45 (by decide) (fun b7 => ?_) (fun b7 => ?_)
    · rw [if_pos b7] at h
      refine ev_iconst (pc := 52) (x := 0) dX12_isLower_52 ci_0 ?_
      cases h
      exact ev_zret (pc := 53) (Or.inl rfl) dX12_isLower_53 rfl
    · rw [if_neg b7] at h
      refine ev_iconst (pc := 48) (x := 1) dX12_isLower_48 ci_1 ?_
      refine ev_goto (pc := 49) (tgt := 53) dX12_isLower_49 (by decide) ?_
      cases h
      exact ev_zret (pc := 53) (Or.inr rfl) dX12_isLower_53 rfl
def f_X12_isLower (n : Nat) (p0 : Int) (M : Mem) : Option (Int) := (f_X12_isLower_L2 n p0 0 M).bind fun q4 => f_X12_isLower_J28 n p0 q4 M
set_option maxRecDepth 100000 in
set_option maxHeartbeats 4000000 in
theorem e_X12_isLower {g : Gm} {d : Nat} {n : Nat} {p0 : Int} {M N : Mem} {v : Int} (hd : 0 ≤ d) (h : f_X12_isLower n p0 M = some v) : EvM g d mtX12_isLower [vR 801, vI p0] (sg (mx N M)) (0, 0) (vI v) (sg (mx N M)) := by
  unfold f_X12_isLower at h
  refine EvM.of mkX12_isLower.2.2.2.1 (Nat.le_of_ble_eq_true rfl) ?_
  change Ev g d mtX12_isLower 0 [(0, vR 801), (1, vI p0)] [] (sg (mx N M)) (0, 0) (vI v) (sg (mx N M))
  refine ev_iconst (pc := 0) (x := 0) dX12_isLower_0 ci_0 ?_
  refine ev_istore_n (pc := 1) (il' := [(2, vI 0), (0, vR 801), (1, vI p0)]) dX12_isLower_1 rfl (Nat.le_of_ble_eq_true rfl) rfl ?_
  obtain ⟨q4, hq4, h⟩ := bd h
  refine ev_pick [1, 2, 0] rfl ?_
  refine e_X12_isLower_L2 hd  n hq4 ?_
  refine ev_pick [0, 1, 2] rfl ?_
  exact e_X12_isLower_J28 hd  h
def f_X12_inOrder_L61 : Nat → Int → Int → Int → Int → Int → Mem → Option (Mem)
  | 0, _, _, _, _, _, _ => none
  | n + 1, x1, x2, x3, x4, x5, M => if x4 ≤ x5 then (some M) else (ck (0 ≤ x5 ∧ x5 < 10) (lt (upM M 821 x5 (M 820 x5)) fun M9 => f_X12_inOrder_L61 n x1 x2 x3 x4 (wI (x5 + 1)) M9))
set_option maxRecDepth 100000 in
set_option maxHeartbeats 4000000 in
theorem e_X12_inOrder_L61 {g : Gm} {d : Nat} {x1 x2 x3 x4 : Int} {r : Vv} {σ' : Sg} {N : Mem} (hd : 2 ≤ d) : ∀ (n : Nat) {x5 : Int} {M : Mem} {q : Mem}, f_X12_inOrder_L61 n x1 x2 x3 x4 x5 M = some q → Ev g d mtX12_inOrder 88 [(0, vR 801), (1, vI x1), (2, vI x2), (3, vI x3)] [] (sg (mx N q)) (0, 0) r σ' → Ev g d mtX12_inOrder 61 [(0, vR 801), (1, vI x1), (2, vI x2), (3, vI x3), (4, vI x4), (5, vI x5)] [] (sg (mx N M)) (0, 0) r σ' := by
  intro n
  induction n with
  | zero =>
    intro x5 M q h hk0
    rw [f_X12_inOrder_L61.eq_1] at h
    cases h
  | succ n ih =>
    intro x5 M q h hk0
    rw [f_X12_inOrder_L61.eq_2] at h
    refine ev_iload (pc := 61) 5 dX12_inOrder_61 rfl ?_
    refine ev_iload (pc := 63) 4 dX12_inOrder_63 rfl ?_
    refine ev_icmp_ge (pc := 65) (tgt := 88) dX12_inOrder_65 (by decide) (fun b7 => ?_) (fun b7 => ?_)
    · rw [if_pos b7] at h
      cases h
      refine ev_pick [0, 1, 2, 3] rfl ?_
      exact hk0
    · rw [if_neg b7] at h
      refine ev_aload_n (pc := 68) 0 dX12_inOrder_68 rfl rfl ?_
      refine ev_getR (pc := 69) fl12_80 rfl dX12_inOrder_69 rfl kd_801 (by omega) (rf_801_41 _) ?_
      refine ev_iload (pc := 72) 5 dX12_inOrder_72 rfl ?_
      refine ev_aload_n (pc := 74) 0 dX12_inOrder_74 rfl rfl ?_
      refine ev_getR (pc := 75) fl12_77 rfl dX12_inOrder_75 rfl kd_801 (by omega) (rf_801_40 _) ?_
      refine ev_iload (pc := 78) 5 dX12_inOrder_78 rfl ?_
      obtain ⟨c8, h⟩ := ck_some h
      refine ev_ildr (pc := 80) dX12_inOrder_80 kd_820 (by omega) (by omega) c8.1 c8.2 ?_
      obtain ⟨M9, eM9, h⟩ := lt_some h
      refine ev_istr (pc := 81) dX12_inOrder_81 kd_821 (by omega) (by omega) c8.1 c8.2 eM9 ?_
      refine ev_iinc (pc := 82) (il' := [(5, vI (wI (x5 + 1))), (0, vR 801), (1, vI x1), (2, vI x2), (3, vI x3), (4, vI x4)]) 5 dX12_inOrder_82 rfl (Nat.le_of_ble_eq_true rfl) rfl rfl ?_
      refine ev_goto (pc := 85) (tgt := 61) dX12_inOrder_85 (by decide) ?_
      refine ev_pick [1, 2, 3, 4, 5, 0] rfl ?_
      exact ih h hk0
def f_X12_inOrder_L4 : Nat → Int → Int → Int → Mem → Option (Int × Mem)
  | 0, _, _, _, _ => none
  | n + 1, x1, x2, x3, M => if (bShl 1 (M 802 6)) ≤ x3 then (some (x2, M)) else ((f_X12_bits n x3).bind fun q2 => if q2 < x2 then (f_X12_inOrder_L4 n x1 x2 (wI (x3 + 1)) M) else ((f_X12_isOrder n x3 M).bind fun q4 => if q4.1 = 0 then (f_X12_inOrder_L4 n x1 x2 (wI (x3 + 1)) q4.2) else (if q2 ≠ x2 then ((f_X12_inOrder_L61 n x1 q2 x3 q2 0 q4.2).bind fun q10 => f_X12_inOrder_L4 n x1 q2 (wI (x3 + 1)) q10) else ((f_X12_isLower n q2 q4.2).bind fun q11 => if q11 ≠ 0 then ((f_X12_inOrder_L61 n x1 q2 x3 q2 0 q4.2).bind fun q13 => f_X12_inOrder_L4 n x1 q2 (wI (x3 + 1)) q13) else (f_X12_inOrder_L4 n x1 x2 (wI (x3 + 1)) q4.2)))))
set_option maxRecDepth 100000 in
set_option maxHeartbeats 4000000 in
theorem e_X12_inOrder_L4 {g : Gm} {d : Nat} {x1 : Int} {r : Vv} {σ' : Sg} {N : Mem} (hd : 2 ≤ d) : ∀ (n : Nat) {x2 x3 : Int} {M : Mem} {q : Int × Mem}, f_X12_inOrder_L4 n x1 x2 x3 M = some q → Ev g d mtX12_inOrder 94 [(0, vR 801), (1, vI x1), (2, vI q.1)] [] (sg (mx N q.2)) (0, 0) r σ' → Ev g d mtX12_inOrder 4 [(0, vR 801), (1, vI x1), (2, vI x2), (3, vI x3)] [] (sg (mx N M)) (0, 0) r σ' := by
  intro n
  induction n with
  | zero =>
    intro x2 x3 M q h hk0
    rw [f_X12_inOrder_L4.eq_1] at h
    cases h
  | succ n ih =>
    intro x2 x3 M q h hk0
    rw [f_X12_inOrder_L4.eq_2] at h
    refine ev_iload_n (pc := 4) 3 dX12_inOrder_4 rfl rfl ?_
    refine ev_iconst (pc := 5) (x := 1) dX12_inOrder_5 ci_1 ?_
    refine ev_aload_n (pc := 6) 0 dX12_inOrder_6 rfl rfl ?_
    refine ev_getR (pc := 7) fl12_7 rfl dX12_inOrder_7 rfl kd_801 (by omega) (rf_801_0 _) ?_
    refine ev_bipush (pc := 10) (x := 6) dX12_inOrder_10 cb_6 ?_
    refine ev_ildr (pc := 12) dX12_inOrder_12 kd_802 (by omega) (by omega) (by omega) (by omega) ?_
    refine ev_ishl (pc := 13) dX12_inOrder_13 ?_
    refine ev_icmp_ge (pc := 14) (tgt := 94) dX12_inOrder_14 (by decide) (fun b1 => ?_) (fun b1 => ?_)
    · rw [if_pos b1] at h
      cases h
      refine ev_pick [0, 1, 2] rfl ?_
      exact hk0
    · rw [if_neg b1] at h
      refine ev_iload_n (pc := 17) 3 dX12_inOrder_17 rfl rfl ?_
      obtain ⟨q2, hq2, h⟩ := bd h
      refine ev_cS (pc := 18) [vI x3] [] rfl mkX12_bits ml12_446 msX12_bits dX12_inOrder_18 rfl (Nat.le_of_ble_eq_true rfl) (by omega) rfl (e_X12_bits (d := d - 1) (v := q2) (by omega)  hq2) ?_
      refine ev_istore (pc := 21) (il' := [(4, vI q2), (0, vR 801), (1, vI x1), (2, vI x2), (3, vI x3)]) dX12_inOrder_21 (Nat.le_of_ble_eq_true rfl) rfl ?_
      refine ev_iload (pc := 23) 0 dX12_inOrder_23 rfl ?_
      refine ev_iload_n (pc := 25) 3 dX12_inOrder_25 rfl rfl ?_
      refine ev_icmp_lt (pc := 26) (tgt := 88) dX12_inOrder_26 (by decide) (fun b3 => ?_) (fun b3 => ?_)
      · rw [if_pos b3] at h
        refine ev_iinc (pc := 88) (il' := [(3, vI (wI (x3 + 1))), (4, vI q2), (0, vR 801), (1, vI x1), (2, vI x2)]) 4 dX12_inOrder_88 rfl (Nat.le_of_ble_eq_true rfl) rfl rfl ?_
        refine ev_goto (pc := 91) (tgt := 4) dX12_inOrder_91 (by decide) ?_
        refine ev_pick [2, 3, 4, 0] rfl ?_
        exact ih h hk0
      · rw [if_neg b3] at h
        refine ev_aload_n (pc := 29) 1 dX12_inOrder_29 rfl rfl ?_
        refine ev_iload_n (pc := 30) 4 dX12_inOrder_30 rfl rfl ?_
        obtain ⟨q4, hq4, h⟩ := bd h
        refine ev_cV (pc := 31) [vI x3] [] rfl mkX12_isOrder ml12_469 mnX12_isOrder dX12_inOrder_31 kd_801 (by omega) rfl (Nat.le_of_ble_eq_true rfl) (by omega) rfl (e_X12_isOrder (d := d - 1) (v := q4.1) (M' := q4.2) (by omega)  hq4) ?_
        refine ev_if_eq (pc := 34) (tgt := 88) dX12_inOrder_34 (by decide) (fun b5 => ?_) (fun b5 => ?_)
        · rw [if_pos b5] at h
          refine ev_iinc (pc := 88) (il' := [(3, vI (wI (x3 + 1))), (4, vI q2), (0, vR 801), (1, vI x1), (2, vI x2)]) 4 dX12_inOrder_88 rfl (Nat.le_of_ble_eq_true rfl) rfl rfl ?_
          refine ev_goto (pc := 91) (tgt := 4) dX12_inOrder_91 (by decide) ?_
          refine ev_pick [2, 3, 4, 0] rfl ?_
          exact ih h hk0
        · rw [if_neg b5] at h
          refine ev_iload (pc := 37) 0 dX12_inOrder_37 rfl ?_
          refine ev_iload_n (pc := 39) 3 dX12_inOrder_39 rfl rfl ?_
          refine ev_icmp_ne (pc := 40) (tgt := 55) dX12_inOrder_40 (by decide) (fun b6 => ?_) (fun b6 => ?_)
          · rw [if_pos b6] at h
            refine ev_iload (pc := 55) 0 dX12_inOrder_55 rfl ?_
            refine ev_istore_n (pc := 57) (il' := [(2, vI q2), (4, vI q2), (0, vR 801), (1, vI x1), (3, vI x3)]) dX12_inOrder_57 rfl (Nat.le_of_ble_eq_true rfl) rfl ?_
            refine ev_iconst (pc := 58) (x := 0) dX12_inOrder_58 ci_0 ?_
            refine ev_istore (pc := 59) (il' := [(5, vI 0), (2, vI q2), (4, vI q2), (0, vR 801), (1, vI x1), (3, vI x3)]) dX12_inOrder_59 (Nat.le_of_ble_eq_true rfl) rfl ?_
            obtain ⟨q10, hq10, h⟩ := bd h
            refine ev_pick [3, 4, 1, 5, 2, 0] rfl ?_
            refine e_X12_inOrder_L61 hd  n hq10 ?_
            refine ev_iinc (pc := 88) (il' := [(3, vI (wI (x3 + 1))), (0, vR 801), (1, vI x1), (2, vI q2)]) 3 dX12_inOrder_88 rfl (Nat.le_of_ble_eq_true rfl) rfl rfl ?_
            refine ev_goto (pc := 91) (tgt := 4) dX12_inOrder_91 (by decide) ?_
            refine ev_pick [1, 2, 3, 0] rfl ?_
            exact ih h hk0
          · rw [if_neg b6] at h
            refine ev_aload_n (pc := 43) 1 dX12_inOrder_43 rfl rfl ?_
            refine ev_iload (pc := 44) 0 dX12_inOrder_44 rfl ?_
            obtain ⟨q11, hq11, h⟩ := bd h
            refine ev_cV (pc := 46) [vI q2] [] rfl mkX12_isLower ml12_472 mnX12_isLower dX12_inOrder_46 kd_801 (by omega) rfl (Nat.le_of_ble_eq_true rfl) (by omega) rfl (e_X12_isLower (d := d - 1) (v := q11) (by omega)  hq11) ?_
            refine ev_if_ne (pc := 49) (tgt := 55) dX12_inOrder_49 (by decide) (fun b12 => ?_) (fun b12 => ?_)
            · rw [if_pos b12] at h
              refine ev_iload (pc := 55) 0 dX12_inOrder_55 rfl ?_
              refine ev_istore_n (pc := 57) (il' := [(2, vI q2), (4, vI q2), (0, vR 801), (1, vI x1), (3, vI x3)]) dX12_inOrder_57 rfl (Nat.le_of_ble_eq_true rfl) rfl ?_
              refine ev_iconst (pc := 58) (x := 0) dX12_inOrder_58 ci_0 ?_
              refine ev_istore (pc := 59) (il' := [(5, vI 0), (2, vI q2), (4, vI q2), (0, vR 801), (1, vI x1), (3, vI x3)]) dX12_inOrder_59 (Nat.le_of_ble_eq_true rfl) rfl ?_
              obtain ⟨q13, hq13, h⟩ := bd h
              refine ev_pick [3, 4, 1, 5, 2, 0] rfl ?_
              refine e_X12_inOrder_L61 hd  n hq13 ?_
              refine ev_iinc (pc := 88) (il' := [(3, vI (wI (x3 + 1))), (0, vR 801), (1, vI x1), (2, vI q2)]) 3 dX12_inOrder_88 rfl (Nat.le_of_ble_eq_true rfl) rfl rfl ?_
              refine ev_goto (pc := 91) (tgt := 4) dX12_inOrder_91 (by decide) ?_
              refine ev_pick [1, 2, 3, 0] rfl ?_
              exact ih h hk0
            · rw [if_neg b12] at h
              refine ev_goto (pc := 52) (tgt := 88) dX12_inOrder_52 (by decide) ?_
              refine ev_iinc (pc := 88) (il' := [(3, vI (wI (x3 + 1))), (4, vI q2), (0, vR 801), (1, vI x1), (2, vI x2)]) 4 dX12_inOrder_88 rfl (Nat.le_of_ble_eq_true rfl) rfl rfl ?_
              refine ev_goto (pc := 91) (tgt := 4) dX12_inOrder_91 (by decide) ?_
              refine ev_pick [2, 3, 4, 0] rfl ?_
              exact ih h hk0
def f_X12_inOrder (n : Nat) (p0 : Int) (M : Mem) : Option (Int × Mem) := (f_X12_inOrder_L4 n p0 0 1 M).bind fun q14 => if p0 ≠ (-1) then (if (f_X12_isIn p0 0 (wI (q14.1 - 1))) = 0 then (some ((-2), q14.2)) else (ck (0 ≤ p0 ∧ p0 < 10) (some ((q14.2 821 p0), q14.2)))) else (some (q14.1, q14.2))
set_option maxRecDepth 100000 in
set_option maxHeartbeats 4000000 in
theorem e_X12_inOrder {g : Gm} {d : Nat} {n : Nat} {p0 : Int} {M N : Mem} {v : Int} {M' : Mem} (hd : 2 ≤ d) (h : f_X12_inOrder n p0 M = some (v, M')) : EvM g d mtX12_inOrder [vR 801, vI p0] (sg (mx N M)) (0, 0) (vI v) (sg (mx N M')) := by
  unfold f_X12_inOrder at h
  refine EvM.of mkX12_inOrder.2.2.2.1 (Nat.le_of_ble_eq_true rfl) ?_
  change Ev g d mtX12_inOrder 0 [(0, vR 801), (1, vI p0)] [] (sg (mx N M)) (0, 0) (vI v) (sg (mx N M'))
  refine ev_iconst (pc := 0) (x := 0) dX12_inOrder_0 ci_0 ?_
  refine ev_istore_n (pc := 1) (il' := [(2, vI 0), (0, vR 801), (1, vI p0)]) dX12_inOrder_1 rfl (Nat.le_of_ble_eq_true rfl) rfl ?_
  refine ev_iconst (pc := 2) (x := 1) dX12_inOrder_2 ci_1 ?_
  refine ev_istore_n (pc := 3) (il' := [(3, vI 1), (2, vI 0), (0, vR 801), (1, vI p0)]) dX12_inOrder_3 rfl (Nat.le_of_ble_eq_true rfl) rfl ?_
  obtain ⟨q14, hq14, h⟩ := bd h
  refine ev_pick [2, 3, 1, 0] rfl ?_
  refine e_X12_inOrder_L4 hd  n hq14 ?_
  refine ev_iload_n (pc := 94) 1 dX12_inOrder_94 rfl rfl ?_
  refine ev_iconst (pc := 95) (x := (-1)) dX12_inOrder_95 ci_m1 ?_
  refine ev_icmp_ne (pc := 96) (tgt := 103) dX12_inOrder_96 (by decide) (fun b15 => ?_) (fun b15 => ?_)
  · rw [if_pos b15] at h
    refine ev_iload_n (pc := 103) 1 dX12_inOrder_103 rfl rfl ?_
    refine ev_iconst (pc := 104) (x := 0) dX12_inOrder_104 ci_0 ?_
    refine ev_iload_n (pc := 105) 2 dX12_inOrder_105 rfl rfl ?_
    refine ev_iconst (pc := 106) (x := 1) dX12_inOrder_106 ci_1 ?_
    refine ev_isub (pc := 107) dX12_inOrder_107 ?_
    refine ev_cS (pc := 108) [vI p0, vI 0, vI (wI (q14.1 - 1))] [] rfl mkX12_isIn ml12_90 msX12_isIn dX12_inOrder_108 rfl (Nat.le_of_ble_eq_true rfl) (by omega) rfl (e_X12_isIn (d := d - 1) (v := (f_X12_isIn p0 0 (wI (q14.1 - 1)))) (by omega)  rfl) ?_
    refine ev_if_eq (pc := 111) (tgt := 123) dX12_inOrder_111 (by decide) (fun b16 => ?_) (fun b16 => ?_)
    · rw [if_pos b16] at h
      refine ev_bipush (pc := 123) (x := (-2)) dX12_inOrder_123 cb_m2 ?_
      cases h
      exact ev_iret (pc := 125) dX12_inOrder_125 rfl
    · rw [if_neg b16] at h
      refine ev_aload_n (pc := 114) 0 dX12_inOrder_114 rfl rfl ?_
      refine ev_getR (pc := 115) fl12_80 rfl dX12_inOrder_115 rfl kd_801 (by omega) (rf_801_41 _) ?_
      refine ev_iload_n (pc := 118) 1 dX12_inOrder_118 rfl rfl ?_
      obtain ⟨c17, h⟩ := ck_some h
      refine ev_ildr (pc := 119) dX12_inOrder_119 kd_821 (by omega) (by omega) c17.1 c17.2 ?_
      refine ev_goto (pc := 120) (tgt := 125) dX12_inOrder_120 (by decide) ?_
      cases h
      exact ev_iret (pc := 125) dX12_inOrder_125 rfl
  · rw [if_neg b15] at h
    refine ev_iload_n (pc := 99) 2 dX12_inOrder_99 rfl rfl ?_
    refine ev_goto (pc := 100) (tgt := 125) dX12_inOrder_100 (by decide) ?_
    cases h
    exact ev_iret (pc := 125) dX12_inOrder_125 rfl
def f_X12_outOfOrder_L17 : Nat → Int → Int → Int → Mem → Option (Int)
  | 0, _, _, _, _ => none
  | n + 1, x1, x2, x3, M => if x2 ≤ x3 then (some x1) else (ck (0 ≤ (wI (146 + x2)) ∧ (wI (146 + x2)) < 10606) (ck (0 ≤ (wI (146 + x3)) ∧ (wI (146 + x3)) < 10606) (if (M 802 (wI (146 + x3))) ≤ (M 802 (wI (146 + x2))) then (f_X12_outOfOrder_L17 n (wI (x1 + 0)) x2 (wI (x3 + 1)) M) else (f_X12_outOfOrder_L17 n (wI (x1 + 1)) x2 (wI (x3 + 1)) M))))
set_option maxRecDepth 100000 in
set_option maxHeartbeats 4000000 in
theorem e_X12_outOfOrder_L17 {g : Gm} {d : Nat} {x2 : Int} {r : Vv} {σ' : Sg} {M N : Mem} (hd : 0 ≤ d) : ∀ (n : Nat) {x1 x3 : Int} {q : Int}, f_X12_outOfOrder_L17 n x1 x2 x3 M = some q → Ev g d mtX12_outOfOrder 59 [(0, vR 801), (1, vI q), (2, vI x2)] [] (sg (mx N M)) (0, 0) r σ' → Ev g d mtX12_outOfOrder 17 [(0, vR 801), (1, vI x1), (2, vI x2), (3, vI x3)] [] (sg (mx N M)) (0, 0) r σ' := by
  intro n
  induction n with
  | zero =>
    intro x1 x3 q h hk0
    rw [f_X12_outOfOrder_L17.eq_1] at h
    cases h
  | succ n ih =>
    intro x1 x3 q h hk0
    rw [f_X12_outOfOrder_L17.eq_2] at h
    refine ev_iload_n (pc := 17) 3 dX12_outOfOrder_17 rfl rfl ?_
    refine ev_iload_n (pc := 18) 2 dX12_outOfOrder_18 rfl rfl ?_
    refine ev_icmp_ge (pc := 19) (tgt := 59) dX12_outOfOrder_19 (by decide) (fun b2 => ?_) (fun b2 => ?_)
    · rw [if_pos b2] at h
      cases h
      refine ev_pick [0, 1, 2] rfl ?_
      exact hk0
    · rw [if_neg b2] at h
      refine ev_iload_n (pc := 22) 1 dX12_outOfOrder_22 rfl rfl ?_
      refine ev_aload_n (pc := 23) 0 dX12_outOfOrder_23 rfl rfl ?_
      refine ev_getR (pc := 24) fl12_7 rfl dX12_outOfOrder_24 rfl kd_801 (by omega) (rf_801_0 _) ?_
      refine ev_sipush (pc := 27) (x := 146) dX12_outOfOrder_27 cs_146 ?_
      refine ev_iload_n (pc := 30) 2 dX12_outOfOrder_30 rfl rfl ?_
      refine ev_iadd (pc := 31) dX12_outOfOrder_31 ?_
      obtain ⟨c3, h⟩ := ck_some h
      refine ev_ildr (pc := 32) dX12_outOfOrder_32 kd_802 (by omega) (by omega) c3.1 c3.2 ?_
      refine ev_aload_n (pc := 33) 0 dX12_outOfOrder_33 rfl rfl ?_
      refine ev_getR (pc := 34) fl12_7 rfl dX12_outOfOrder_34 rfl kd_801 (by omega) (rf_801_0 _) ?_
      refine ev_sipush (pc := 37) (x := 146) dX12_outOfOrder_37 cs_146 ?_
      refine ev_iload_n (pc := 40) 3 dX12_outOfOrder_40 rfl rfl ?_
      refine ev_iadd (pc := 41) dX12_outOfOrder_41 ?_
      obtain ⟨c4, h⟩ := ck_some h
      refine ev_ildr (pc := 42) dX12_outOfOrder_42 kd_802 (by omega) (by omega) c4.1 c4.2 ?_
      refine ev_icmp_ge (pc := 43) (tgt := 50) dX12_outOfOrder_43 (by decide) (fun b5 => ?_) (fun b5 => ?_)
      · rw [if_pos b5] at h
        refine ev_iconst (pc := 50) (x := 0) dX12_outOfOrder_50 ci_0 ?_
        refine ev_iadd (pc := 51) dX12_outOfOrder_51 ?_
        refine ev_istore_n (pc := 52) (il' := [(1, vI (wI (x1 + 0))), (0, vR 801), (2, vI x2), (3, vI x3)]) dX12_outOfOrder_52 rfl (Nat.le_of_ble_eq_true rfl) rfl ?_
        refine ev_iinc (pc := 53) (il' := [(3, vI (wI (x3 + 1))), (1, vI (wI (x1 + 0))), (0, vR 801), (2, vI x2)]) 3 dX12_outOfOrder_53 rfl (Nat.le_of_ble_eq_true rfl) rfl rfl ?_
        refine ev_goto (pc := 56) (tgt := 17) dX12_outOfOrder_56 (by decide) ?_
        refine ev_pick [2, 1, 3, 0] rfl ?_
        exact ih h hk0
      · rw [if_neg b5] at h
        refine ev_iconst (pc := 46) (x := 1) dX12_outOfOrder_46 ci_1 ?_
        refine ev_goto (pc := 47) (tgt := 51) dX12_outOfOrder_47 (by decide) ?_
        refine ev_iadd (pc := 51) dX12_outOfOrder_51 ?_
        refine ev_istore_n (pc := 52) (il' := [(1, vI (wI (x1 + 1))), (0, vR 801), (2, vI x2), (3, vI x3)]) dX12_outOfOrder_52 rfl (Nat.le_of_ble_eq_true rfl) rfl ?_
        refine ev_iinc (pc := 53) (il' := [(3, vI (wI (x3 + 1))), (1, vI (wI (x1 + 1))), (0, vR 801), (2, vI x2)]) 3 dX12_outOfOrder_53 rfl (Nat.le_of_ble_eq_true rfl) rfl rfl ?_
        refine ev_goto (pc := 56) (tgt := 17) dX12_outOfOrder_56 (by decide) ?_
        refine ev_pick [2, 1, 3, 0] rfl ?_
        exact ih h hk0
def f_X12_outOfOrder_L4 : Nat → Int → Int → Mem → Option (Int)
  | 0, _, _, _ => none
  | n + 1, x1, x2, M => if (M 802 6) ≤ x2 then (some x1) else ((f_X12_outOfOrder_L17 n x1 x2 0 M).bind fun q6 => f_X12_outOfOrder_L4 n q6 (wI (x2 + 1)) M)
set_option maxRecDepth 100000 in
set_option maxHeartbeats 4000000 in
theorem e_X12_outOfOrder_L4 {g : Gm} {d : Nat} {r : Vv} {σ' : Sg} {M N : Mem} (hd : 0 ≤ d) : ∀ (n : Nat) {x1 x2 : Int} {q : Int}, f_X12_outOfOrder_L4 n x1 x2 M = some q → Ev g d mtX12_outOfOrder 65 [(1, vI q)] [] (sg (mx N M)) (0, 0) r σ' → Ev g d mtX12_outOfOrder 4 [(0, vR 801), (1, vI x1), (2, vI x2)] [] (sg (mx N M)) (0, 0) r σ' := by
  intro n
  induction n with
  | zero =>
    intro x1 x2 q h hk0
    rw [f_X12_outOfOrder_L4.eq_1] at h
    cases h
  | succ n ih =>
    intro x1 x2 q h hk0
    rw [f_X12_outOfOrder_L4.eq_2] at h
    refine ev_iload_n (pc := 4) 2 dX12_outOfOrder_4 rfl rfl ?_
    refine ev_aload_n (pc := 5) 0 dX12_outOfOrder_5 rfl rfl ?_
    refine ev_getR (pc := 6) fl12_7 rfl dX12_outOfOrder_6 rfl kd_801 (by omega) (rf_801_0 _) ?_
    refine ev_bipush (pc := 9) (x := 6) dX12_outOfOrder_9 cb_6 ?_
    refine ev_ildr (pc := 11) dX12_outOfOrder_11 kd_802 (by omega) (by omega) (by omega) (by omega) ?_
    refine ev_icmp_ge (pc := 12) (tgt := 65) dX12_outOfOrder_12 (by decide) (fun b1 => ?_) (fun b1 => ?_)
    · rw [if_pos b1] at h
      cases h
      refine ev_pick [1] rfl ?_
      exact hk0
    · rw [if_neg b1] at h
      refine ev_iconst (pc := 15) (x := 0) dX12_outOfOrder_15 ci_0 ?_
      refine ev_istore_n (pc := 16) (il' := [(3, vI 0), (0, vR 801), (1, vI x1), (2, vI x2)]) dX12_outOfOrder_16 rfl (Nat.le_of_ble_eq_true rfl) rfl ?_
      obtain ⟨q6, hq6, h⟩ := bd h
      refine ev_pick [1, 2, 3, 0] rfl ?_
      refine e_X12_outOfOrder_L17 hd  n hq6 ?_
      refine ev_iinc (pc := 59) (il' := [(2, vI (wI (x2 + 1))), (0, vR 801), (1, vI q6)]) 2 dX12_outOfOrder_59 rfl (Nat.le_of_ble_eq_true rfl) rfl rfl ?_
      refine ev_goto (pc := 62) (tgt := 4) dX12_outOfOrder_62 (by decide) ?_
      refine ev_pick [1, 2, 0] rfl ?_
      exact ih h hk0
def f_X12_outOfOrder (n : Nat) (M : Mem) : Option (Int) := (f_X12_outOfOrder_L4 n 0 0 M).bind fun q7 => some q7
set_option maxRecDepth 100000 in
set_option maxHeartbeats 4000000 in
theorem e_X12_outOfOrder {g : Gm} {d : Nat} {n : Nat} {M N : Mem} {v : Int} (hd : 0 ≤ d) (h : f_X12_outOfOrder n M = some v) : EvM g d mtX12_outOfOrder [vR 801] (sg (mx N M)) (0, 0) (vI v) (sg (mx N M)) := by
  unfold f_X12_outOfOrder at h
  refine EvM.of mkX12_outOfOrder.2.2.2.1 (Nat.le_of_ble_eq_true rfl) ?_
  change Ev g d mtX12_outOfOrder 0 [(0, vR 801)] [] (sg (mx N M)) (0, 0) (vI v) (sg (mx N M))
  refine ev_iconst (pc := 0) (x := 0) dX12_outOfOrder_0 ci_0 ?_
  refine ev_istore_n (pc := 1) (il' := [(1, vI 0), (0, vR 801)]) dX12_outOfOrder_1 rfl (Nat.le_of_ble_eq_true rfl) rfl ?_
  refine ev_iconst (pc := 2) (x := 0) dX12_outOfOrder_2 ci_0 ?_
  refine ev_istore_n (pc := 3) (il' := [(2, vI 0), (1, vI 0), (0, vR 801)]) dX12_outOfOrder_3 rfl (Nat.le_of_ble_eq_true rfl) rfl ?_
  obtain ⟨q7, hq7, h⟩ := bd h
  refine ev_pick [2, 1, 0] rfl ?_
  refine e_X12_outOfOrder_L4 hd  n hq7 ?_
  refine ev_iload_n (pc := 65) 0 dX12_outOfOrder_65 rfl rfl ?_
  cases h
  exact ev_iret (pc := 66) dX12_outOfOrder_66 rfl
def f_X12_misheard (p0 p1 : Int) (M : Mem) : Option (Int × Mem) := if p0 ≠ (-1) then (if (f_X12_isIn p0 0 9) = 0 then (some ((-2), M)) else (if (f_X12_isIn p1 0 9) = 0 then (some ((-2), M)) else (if p0 = p1 then (some ((-2), M)) else (if (M 802 7) ≠ 15 then (ck (0 ≤ (wI (156 + (wI (2 * (M 802 7))))) ∧ (wI (156 + (wI (2 * (M 802 7))))) < 10606) (lt (upM M 802 (wI (156 + (wI (2 * (M 802 7))))) p0) fun M7 => ck (0 ≤ (wI ((wI (156 + (wI (2 * (M7 802 7))))) + 1)) ∧ (wI ((wI (156 + (wI (2 * (M7 802 7))))) + 1)) < 10606) (lt (upM M7 802 (wI ((wI (156 + (wI (2 * (M7 802 7))))) + 1)) p1) fun M9 => lt (upM M9 802 7 (wI ((M9 802 7) + 1))) fun M10 => some ((M10 802 7), M10)))) else (some ((-2), M)))))) else (lt (upM M 802 7 0) fun M11 => some (0, M11))
set_option maxRecDepth 100000 in
set_option maxHeartbeats 4000000 in
theorem e_X12_misheard {g : Gm} {d : Nat} {p0 p1 : Int} {M N : Mem} {v : Int} {M' : Mem} (hd : 1 ≤ d) (h : f_X12_misheard p0 p1 M = some (v, M')) : EvM g d mtX12_misheard [vR 801, vI p0, vI p1] (sg (mx N M)) (0, 0) (vI v) (sg (mx N M')) := by
  unfold f_X12_misheard at h
  refine EvM.of mkX12_misheard.2.2.2.1 (Nat.le_of_ble_eq_true rfl) ?_
  change Ev g d mtX12_misheard 0 [(0, vR 801), (1, vI p0), (2, vI p1)] [] (sg (mx N M)) (0, 0) (vI v) (sg (mx N M'))
  refine ev_iload_n (pc := 0) 1 dX12_misheard_0 rfl rfl ?_
  refine ev_iconst (pc := 1) (x := (-1)) dX12_misheard_1 ci_m1 ?_
  refine ev_icmp_ne (pc := 2) (tgt := 15) dX12_misheard_2 (by decide) (fun b1 => ?_) (fun b1 => ?_)
  · rw [if_pos b1] at h
    refine ev_iload_n (pc := 15) 1 dX12_misheard_15 rfl rfl ?_
    refine ev_iconst (pc := 16) (x := 0) dX12_misheard_16 ci_0 ?_
    refine ev_bipush (pc := 17) (x := 9) dX12_misheard_17 cb_9 ?_
    refine ev_cS (pc := 19) [vI p0, vI 0, vI 9] [] rfl mkX12_isIn ml12_90 msX12_isIn dX12_misheard_19 rfl (Nat.le_of_ble_eq_true rfl) (by omega) rfl (e_X12_isIn (d := d - 1) (v := (f_X12_isIn p0 0 9)) (by omega)  rfl) ?_
    refine ev_if_eq (pc := 22) (tgt := 52) dX12_misheard_22 (by decide) (fun b2 => ?_) (fun b2 => ?_)
    · rw [if_pos b2] at h
      refine ev_bipush (pc := 52) (x := (-2)) dX12_misheard_52 cb_m2 ?_
      cases h
      exact ev_iret (pc := 54) dX12_misheard_54 rfl
    · rw [if_neg b2] at h
      refine ev_iload_n (pc := 25) 2 dX12_misheard_25 rfl rfl ?_
      refine ev_iconst (pc := 26) (x := 0) dX12_misheard_26 ci_0 ?_
      refine ev_bipush (pc := 27) (x := 9) dX12_misheard_27 cb_9 ?_
      refine ev_cS (pc := 29) [vI p1, vI 0, vI 9] [] rfl mkX12_isIn ml12_90 msX12_isIn dX12_misheard_29 rfl (Nat.le_of_ble_eq_true rfl) (by omega) rfl (e_X12_isIn (d := d - 1) (v := (f_X12_isIn p1 0 9)) (by omega)  rfl) ?_
      refine ev_if_eq (pc := 32) (tgt := 52) dX12_misheard_32 (by decide) (fun b3 => ?_) (fun b3 => ?_)
      · rw [if_pos b3] at h
        refine ev_bipush (pc := 52) (x := (-2)) dX12_misheard_52 cb_m2 ?_
        cases h
        exact ev_iret (pc := 54) dX12_misheard_54 rfl
      · rw [if_neg b3] at h
        refine ev_iload_n (pc := 35) 1 dX12_misheard_35 rfl rfl ?_
        refine ev_iload_n (pc := 36) 2 dX12_misheard_36 rfl rfl ?_
        refine ev_icmp_eq (pc := 37) (tgt := 52) dX12_misheard_37 (by decide) (fun b4 => ?_) (fun b4 => ?_)
        · rw [if_pos b4] at h
          refine ev_bipush (pc := 52) (x := (-2)) dX12_misheard_52 cb_m2 ?_
          cases h
          exact ev_iret (pc := 54) dX12_misheard_54 rfl
        · rw [if_neg b4] at h
          refine ev_aload_n (pc := 40) 0 dX12_misheard_40 rfl rfl ?_
          refine ev_getR (pc := 41) fl12_7 rfl dX12_misheard_41 rfl kd_801 (by omega) (rf_801_0 _) ?_
          refine ev_bipush (pc := 44) (x := 7) dX12_misheard_44 cb_7 ?_
          refine ev_ildr (pc := 46) dX12_misheard_46 kd_802 (by omega) (by omega) (by omega) (by omega) ?_
          refine ev_bipush (pc := 47) (x := 15) dX12_misheard_47 cb_15 ?_
          refine ev_icmp_ne (pc := 49) (tgt := 55) dX12_misheard_49 (by decide) (fun b5 => ?_) (fun b5 => ?_)
          · rw [if_pos b5] at h
            refine ev_aload_n (pc := 55) 0 dX12_misheard_55 rfl rfl ?_
            refine ev_getR (pc := 56) fl12_7 rfl dX12_misheard_56 rfl kd_801 (by omega) (rf_801_0 _) ?_
            refine ev_sipush (pc := 59) (x := 156) dX12_misheard_59 cs_156 ?_
            refine ev_iconst (pc := 62) (x := 2) dX12_misheard_62 ci_2 ?_
            refine ev_aload_n (pc := 63) 0 dX12_misheard_63 rfl rfl ?_
            refine ev_getR (pc := 64) fl12_7 rfl dX12_misheard_64 rfl kd_801 (by omega) (rf_801_0 _) ?_
            refine ev_bipush (pc := 67) (x := 7) dX12_misheard_67 cb_7 ?_
            refine ev_ildr (pc := 69) dX12_misheard_69 kd_802 (by omega) (by omega) (by omega) (by omega) ?_
            refine ev_imul (pc := 70) dX12_misheard_70 ?_
            refine ev_iadd (pc := 71) dX12_misheard_71 ?_
            refine ev_iload_n (pc := 72) 1 dX12_misheard_72 rfl rfl ?_
            obtain ⟨c6, h⟩ := ck_some h
            obtain ⟨M7, eM7, h⟩ := lt_some h
            refine ev_istr (pc := 73) dX12_misheard_73 kd_802 (by omega) (by omega) c6.1 c6.2 eM7 ?_
            refine ev_aload_n (pc := 74) 0 dX12_misheard_74 rfl rfl ?_
            refine ev_getR (pc := 75) fl12_7 rfl dX12_misheard_75 rfl kd_801 (by omega) (rf_801_0 _) ?_
            refine ev_sipush (pc := 78) (x := 156) dX12_misheard_78 cs_156 ?_
            refine ev_iconst (pc := 81) (x := 2) dX12_misheard_81 ci_2 ?_
            refine ev_aload_n (pc := 82) 0 dX12_misheard_82 rfl rfl ?_
            refine ev_getR (pc := 83) fl12_7 rfl dX12_misheard_83 rfl kd_801 (by omega) (rf_801_0 _) ?_
            refine ev_bipush (pc := 86) (x := 7) dX12_misheard_86 cb_7 ?_
            refine ev_ildr (pc := 88) dX12_misheard_88 kd_802 (by omega) (by omega) (by omega) (by omega) ?_
            refine ev_imul (pc := 89) dX12_misheard_89 ?_
            refine ev_iadd (pc := 90) dX12_misheard_90 ?_
            refine ev_iconst (pc := 91) (x := 1) dX12_misheard_91 ci_1 ?_
            refine ev_iadd (pc := 92) dX12_misheard_92 ?_
            refine ev_iload_n (pc := 93) 2 dX12_misheard_93 rfl rfl ?_
            obtain ⟨c8, h⟩ := ck_some h
            obtain ⟨M9, eM9, h⟩ := lt_some h
            refine ev_istr (pc := 94) dX12_misheard_94 kd_802 (by omega) (by omega) c8.1 c8.2 eM9 ?_
            refine ev_aload_n (pc := 95) 0 dX12_misheard_95 rfl rfl ?_
            refine ev_getR (pc := 96) fl12_7 rfl dX12_misheard_96 rfl kd_801 (by omega) (rf_801_0 _) ?_
            refine ev_bipush (pc := 99) (x := 7) dX12_misheard_99 cb_7 ?_
            refine ev_dup2 (pc := 101) rfl rfl dX12_misheard_101 ?_
            refine ev_ildr (pc := 102) dX12_misheard_102 kd_802 (by omega) (by omega) (by omega) (by omega) ?_
            refine ev_iconst (pc := 103) (x := 1) dX12_misheard_103 ci_1 ?_
            refine ev_iadd (pc := 104) dX12_misheard_104 ?_
            obtain ⟨M10, eM10, h⟩ := lt_some h
            refine ev_istr (pc := 105) dX12_misheard_105 kd_802 (by omega) (by omega) (by omega) (by omega) eM10 ?_
            refine ev_aload_n (pc := 106) 0 dX12_misheard_106 rfl rfl ?_
            refine ev_getR (pc := 107) fl12_7 rfl dX12_misheard_107 rfl kd_801 (by omega) (rf_801_0 _) ?_
            refine ev_bipush (pc := 110) (x := 7) dX12_misheard_110 cb_7 ?_
            refine ev_ildr (pc := 112) dX12_misheard_112 kd_802 (by omega) (by omega) (by omega) (by omega) ?_
            cases h
            exact ev_iret (pc := 113) dX12_misheard_113 rfl
          · rw [if_neg b5] at h
            refine ev_bipush (pc := 52) (x := (-2)) dX12_misheard_52 cb_m2 ?_
            cases h
            exact ev_iret (pc := 54) dX12_misheard_54 rfl
  · rw [if_neg b1] at h
    refine ev_aload_n (pc := 5) 0 dX12_misheard_5 rfl rfl ?_
    refine ev_getR (pc := 6) fl12_7 rfl dX12_misheard_6 rfl kd_801 (by omega) (rf_801_0 _) ?_
    refine ev_bipush (pc := 9) (x := 7) dX12_misheard_9 cb_7 ?_
    refine ev_iconst (pc := 11) (x := 0) dX12_misheard_11 ci_0 ?_
    obtain ⟨M11, eM11, h⟩ := lt_some h
    refine ev_istr (pc := 12) dX12_misheard_12 kd_802 (by omega) (by omega) (by omega) (by omega) eM11 ?_
    refine ev_iconst (pc := 13) (x := 0) dX12_misheard_13 ci_0 ?_
    cases h
    exact ev_iret (pc := 14) dX12_misheard_14 rfl
def f_X12_apart_L44 : Nat → Int → Int → Int → Int → Int → Mem → Option (Int)
  | 0, _, _, _, _, _, _ => none
  | n + 1, x1, x2, x3, x4, x5, M => if (M 802 7) ≤ x5 then (some x4) else (if x4 = 0 then (some x4) else (ck (0 ≤ (wI (156 + (wI (2 * x5)))) ∧ (wI (156 + (wI (2 * x5)))) < 10606) (if (f_X12_has x3 (M 802 (wI (156 + (wI (2 * x5)))))) = 0 then (f_X12_apart_L44 n x1 x2 x3 1 (wI (x5 + 1)) M) else (ck (0 ≤ (wI ((wI (156 + (wI (2 * x5)))) + 1)) ∧ (wI ((wI (156 + (wI (2 * x5)))) + 1)) < 10606) (if (f_X12_has x3 (M 802 (wI ((wI (156 + (wI (2 * x5)))) + 1)))) ≠ 0 then (f_X12_apart_L44 n x1 x2 x3 0 (wI (x5 + 1)) M) else (f_X12_apart_L44 n x1 x2 x3 1 (wI (x5 + 1)) M))))))
set_option maxRecDepth 100000 in
set_option maxHeartbeats 4000000 in
theorem e_X12_apart_L44 {g : Gm} {d : Nat} {x1 x2 x3 : Int} {r : Vv} {σ' : Sg} {M N : Mem} (hd : 1 ≤ d) : ∀ (n : Nat) {x4 x5 : Int} {q : Int}, f_X12_apart_L44 n x1 x2 x3 x4 x5 M = some q → Ev g d mtX12_apart 116 [(0, vR 801), (1, vI x1), (2, vI x2), (3, vI x3), (4, vI q)] [] (sg (mx N M)) (0, 0) r σ' → Ev g d mtX12_apart 44 [(0, vR 801), (1, vI x1), (2, vI x2), (3, vI x3), (4, vI x4), (5, vI x5)] [] (sg (mx N M)) (0, 0) r σ' := by
  intro n
  induction n with
  | zero =>
    intro x4 x5 q h hk0
    rw [f_X12_apart_L44.eq_1] at h
    cases h
  | succ n ih =>
    intro x4 x5 q h hk0
    rw [f_X12_apart_L44.eq_2] at h
    refine ev_iload (pc := 44) 5 dX12_apart_44 rfl ?_
    refine ev_aload_n (pc := 46) 0 dX12_apart_46 rfl rfl ?_
    refine ev_getR (pc := 47) fl12_7 rfl dX12_apart_47 rfl kd_801 (by omega) (rf_801_0 _) ?_
    refine ev_bipush (pc := 50) (x := 7) dX12_apart_50 cb_7 ?_
    refine ev_ildr (pc := 52) dX12_apart_52 kd_802 (by omega) (by omega) (by omega) (by omega) ?_
    refine ev_icmp_ge (pc := 53) (tgt := 116) dX12_apart_53 (by decide) (fun b6 => ?_) (fun b6 => ?_)
    · rw [if_pos b6] at h
      cases h
      refine ev_pick [0, 1, 2, 3, 4] rfl ?_
      exact hk0
    · rw [if_neg b6] at h
      refine ev_iload (pc := 56) 4 dX12_apart_56 rfl ?_
      refine ev_if_eq (pc := 58) (tgt := 116) dX12_apart_58 (by decide) (fun b7 => ?_) (fun b7 => ?_)
      · rw [if_pos b7] at h
        cases h
        refine ev_pick [0, 1, 2, 3, 4] rfl ?_
        exact hk0
      · rw [if_neg b7] at h
        refine ev_iload_n (pc := 61) 3 dX12_apart_61 rfl rfl ?_
        refine ev_aload_n (pc := 62) 0 dX12_apart_62 rfl rfl ?_
        refine ev_getR (pc := 63) fl12_7 rfl dX12_apart_63 rfl kd_801 (by omega) (rf_801_0 _) ?_
        refine ev_sipush (pc := 66) (x := 156) dX12_apart_66 cs_156 ?_
        refine ev_iconst (pc := 69) (x := 2) dX12_apart_69 ci_2 ?_
        refine ev_iload (pc := 70) 5 dX12_apart_70 rfl ?_
        refine ev_imul (pc := 72) dX12_apart_72 ?_
        refine ev_iadd (pc := 73) dX12_apart_73 ?_
        obtain ⟨c8, h⟩ := ck_some h
        refine ev_ildr (pc := 74) dX12_apart_74 kd_802 (by omega) (by omega) c8.1 c8.2 ?_
        refine ev_cS (pc := 75) [vI x3, vI (M 802 (wI (156 + (wI (2 * x5)))))] [] rfl mkX12_has ml12_279 msX12_has dX12_apart_75 rfl (Nat.le_of_ble_eq_true rfl) (by omega) rfl (e_X12_has (d := d - 1) (v := (f_X12_has x3 (M 802 (wI (156 + (wI (2 * x5))))))) (by omega)  rfl) ?_
        refine ev_if_eq (pc := 78) (tgt := 103) dX12_apart_78 (by decide) (fun b9 => ?_) (fun b9 => ?_)
        · rw [if_pos b9] at h
          refine ev_iconst (pc := 103) (x := 1) dX12_apart_103 ci_1 ?_
          refine ev_goto (pc := 104) (tgt := 108) dX12_apart_104 (by decide) ?_
          refine ev_istore (pc := 108) (il' := [(4, vI 1), (0, vR 801), (1, vI x1), (2, vI x2), (3, vI x3), (5, vI x5)]) dX12_apart_108 (Nat.le_of_ble_eq_true rfl) rfl ?_
          refine ev_iinc (pc := 110) (il' := [(5, vI (wI (x5 + 1))), (4, vI 1), (0, vR 801), (1, vI x1), (2, vI x2), (3, vI x3)]) 5 dX12_apart_110 rfl (Nat.le_of_ble_eq_true rfl) rfl rfl ?_
          refine ev_goto (pc := 113) (tgt := 44) dX12_apart_113 (by decide) ?_
          refine ev_pick [2, 3, 4, 5, 1, 0] rfl ?_
          exact ih h hk0
        · rw [if_neg b9] at h
          refine ev_iload_n (pc := 81) 3 dX12_apart_81 rfl rfl ?_
          refine ev_aload_n (pc := 82) 0 dX12_apart_82 rfl rfl ?_
          refine ev_getR (pc := 83) fl12_7 rfl dX12_apart_83 rfl kd_801 (by omega) (rf_801_0 _) ?_
          refine ev_sipush (pc := 86) (x := 156) dX12_apart_86 cs_156 ?_
          refine ev_iconst (pc := 89) (x := 2) dX12_apart_89 ci_2 ?_
          refine ev_iload (pc := 90) 5 dX12_apart_90 rfl ?_
          refine ev_imul (pc := 92) dX12_apart_92 ?_
          refine ev_iadd (pc := 93) dX12_apart_93 ?_
          refine ev_iconst (pc := 94) (x := 1) dX12_apart_94 ci_1 ?_
          refine ev_iadd (pc := 95) dX12_apart_95 ?_
          obtain ⟨c10, h⟩ := ck_some h
          refine ev_ildr (pc := 96) dX12_apart_96 kd_802 (by omega) (by omega) c10.1 c10.2 ?_
          refine ev_cS (pc := 97) [vI x3, vI (M 802 (wI ((wI (156 + (wI (2 * x5)))) + 1)))] [] rfl mkX12_has ml12_279 msX12_has dX12_apart_97 rfl (Nat.le_of_ble_eq_true rfl) (by omega) rfl (e_X12_has (d := d - 1) (v := (f_X12_has x3 (M 802 (wI ((wI (156 + (wI (2 * x5)))) + 1))))) (by omega)  rfl) ?_
          refine ev_if_ne (pc := 100) (tgt := 107) dX12_apart_100 (by decide) (fun b11 => ?_) (fun b11 => ?_)
          · rw [if_pos b11] at h
            refine ev_iconst (pc := 107) (x := 0) dX12_apart_107 ci_0 ?_
            refine ev_istore (pc := 108) (il' := [(4, vI 0), (0, vR 801), (1, vI x1), (2, vI x2), (3, vI x3), (5, vI x5)]) dX12_apart_108 (Nat.le_of_ble_eq_true rfl) rfl ?_
            refine ev_iinc (pc := 110) (il' := [(5, vI (wI (x5 + 1))), (4, vI 0), (0, vR 801), (1, vI x1), (2, vI x2), (3, vI x3)]) 5 dX12_apart_110 rfl (Nat.le_of_ble_eq_true rfl) rfl rfl ?_
            refine ev_goto (pc := 113) (tgt := 44) dX12_apart_113 (by decide) ?_
            refine ev_pick [2, 3, 4, 5, 1, 0] rfl ?_
            exact ih h hk0
          · rw [if_neg b11] at h
            refine ev_iconst (pc := 103) (x := 1) dX12_apart_103 ci_1 ?_
            refine ev_goto (pc := 104) (tgt := 108) dX12_apart_104 (by decide) ?_
            refine ev_istore (pc := 108) (il' := [(4, vI 1), (0, vR 801), (1, vI x1), (2, vI x2), (3, vI x3), (5, vI x5)]) dX12_apart_108 (Nat.le_of_ble_eq_true rfl) rfl ?_
            refine ev_iinc (pc := 110) (il' := [(5, vI (wI (x5 + 1))), (4, vI 1), (0, vR 801), (1, vI x1), (2, vI x2), (3, vI x3)]) 5 dX12_apart_110 rfl (Nat.le_of_ble_eq_true rfl) rfl rfl ?_
            refine ev_goto (pc := 113) (tgt := 44) dX12_apart_113 (by decide) ?_
            refine ev_pick [2, 3, 4, 5, 1, 0] rfl ?_
            exact ih h hk0
def f_X12_apart_L16_J116 (n : Nat) (K : Int → Int → Option (Int)) (x1 x2 x3 x4 : Int) (M : Mem) : Option (Int) := if x4 = 0 then (K x2 (wI (x3 + 1))) else (K x3 (wI (x3 + 1)))
set_option maxRecDepth 100000 in
set_option maxHeartbeats 4000000 in
theorem e_X12_apart_L16_J116 {g : Gm} {d : Nat} {n : Nat} {K : Int → Int → Option (Int)} {x1 x2 x3 x4 : Int} {M N : Mem} {q : Int} {r : Vv} {σ' : Sg} (hd : 1 ≤ d) (hK : ∀ {x2 x3 : Int}, K x2 x3 = some q → Ev g d mtX12_apart 16 [(0, vR 801), (1, vI x1), (2, vI x2), (3, vI x3)] [] (sg (mx N M)) (0, 0) r σ') (hk0 : Ev g d mtX12_apart 129 [(2, vI q)] [] (sg (mx N M)) (0, 0) r σ') (h : f_X12_apart_L16_J116 n K x1 x2 x3 x4 M = some q) : Ev g d mtX12_apart 116 [(0, vR 801), (1, vI x1), (2, vI x2), (3, vI x3), (4, vI x4)] [] (sg (mx N M)) (0, 0) r σ' := by
  unfold f_X12_apart_L16_J116 at h
  refine ev_iload (pc := 116) 4 dX12_apart_116 rfl ?_
  refine ev_if_eq (pc := 118) (tgt := 123) dX12_apart_118 (by decide) (fun b13 => ?_) (fun b13 => ?_)
  · rw [if_pos b13] at h
    refine ev_iinc (pc := 123) (il' := [(3, vI (wI (x3 + 1))), (0, vR 801), (1, vI x1), (2, vI x2), (4, vI x4)]) 3 dX12_apart_123 rfl (Nat.le_of_ble_eq_true rfl) rfl rfl ?_
    refine ev_goto (pc := 126) (tgt := 16) dX12_apart_126 (by decide) ?_
    refine ev_pick [1, 2, 3, 0] rfl ?_
    exact hK h
  · rw [if_neg b13] at h
    refine ev_iload_n (pc := 121) 3 dX12_apart_121 rfl rfl ?_
    refine ev_istore_n (pc := 122) (il' := [(2, vI x3), (0, vR 801), (1, vI x1), (3, vI x3), (4, vI x4)]) dX12_apart_122 rfl (Nat.le_of_ble_eq_true rfl) rfl ?_
    refine ev_iinc (pc := 123) (il' := [(3, vI (wI (x3 + 1))), (2, vI x3), (0, vR 801), (1, vI x1), (4, vI x4)]) 3 dX12_apart_123 rfl (Nat.le_of_ble_eq_true rfl) rfl rfl ?_
    refine ev_goto (pc := 126) (tgt := 16) dX12_apart_126 (by decide) ?_
    refine ev_pick [2, 3, 1, 0] rfl ?_
    exact hK h
def f_X12_apart_L16 : Nat → Int → Int → Int → Mem → Option (Int)
  | 0, _, _, _, _ => none
  | n + 1, x1, x2, x3, M => if (bShl 1 x1) ≤ x3 then (some x2) else ((f_X12_bits n x3).bind fun q3 => (f_X12_bits n x2).bind fun q4 => if q3 ≤ q4 then ((f_X12_apart_L44 n x1 x2 x3 0 0 M).bind fun q12 => f_X12_apart_L16_J116 n (fun x2 x3 => f_X12_apart_L16 n x1 x2 x3 M) x1 x2 x3 q12 M) else ((f_X12_apart_L44 n x1 x2 x3 1 0 M).bind fun q14 => f_X12_apart_L16_J116 n (fun x2 x3 => f_X12_apart_L16 n x1 x2 x3 M) x1 x2 x3 q14 M))
set_option maxRecDepth 100000 in
set_option maxHeartbeats 4000000 in
theorem e_X12_apart_L16 {g : Gm} {d : Nat} {x1 : Int} {r : Vv} {σ' : Sg} {M N : Mem} (hd : 1 ≤ d) : ∀ (n : Nat) {x2 x3 : Int} {q : Int}, f_X12_apart_L16 n x1 x2 x3 M = some q → Ev g d mtX12_apart 129 [(2, vI q)] [] (sg (mx N M)) (0, 0) r σ' → Ev g d mtX12_apart 16 [(0, vR 801), (1, vI x1), (2, vI x2), (3, vI x3)] [] (sg (mx N M)) (0, 0) r σ' := by
  intro n
  induction n with
  | zero =>
    intro x2 x3 q h hk0
    rw [f_X12_apart_L16.eq_1] at h
    cases h
  | succ n ih =>
    intro x2 x3 q h hk0
    rw [f_X12_apart_L16.eq_2] at h
    refine ev_iload_n (pc := 16) 3 dX12_apart_16 rfl rfl ?_
    refine ev_iconst (pc := 17) (x := 1) dX12_apart_17 ci_1 ?_
    refine ev_iload_n (pc := 18) 1 dX12_apart_18 rfl rfl ?_
    refine ev_ishl (pc := 19) dX12_apart_19 ?_
    refine ev_icmp_ge (pc := 20) (tgt := 129) dX12_apart_20 (by decide) (fun b2 => ?_) (fun b2 => ?_)
    · rw [if_pos b2] at h
      cases h
      refine ev_pick [2] rfl ?_
      exact hk0
    · rw [if_neg b2] at h
      refine ev_iload_n (pc := 23) 3 dX12_apart_23 rfl rfl ?_
      obtain ⟨q3, hq3, h⟩ := bd h
      refine ev_cS (pc := 24) [vI x3] [] rfl mkX12_bits ml12_446 msX12_bits dX12_apart_24 rfl (Nat.le_of_ble_eq_true rfl) (by omega) rfl (e_X12_bits (d := d - 1) (v := q3) (by omega)  hq3) ?_
      refine ev_iload_n (pc := 27) 2 dX12_apart_27 rfl rfl ?_
      obtain ⟨q4, hq4, h⟩ := bd h
      refine ev_cS (pc := 28) [vI x2] [vI q3] rfl mkX12_bits ml12_446 msX12_bits dX12_apart_28 rfl (Nat.le_of_ble_eq_true rfl) (by omega) rfl (e_X12_bits (d := d - 1) (v := q4) (by omega)  hq4) ?_
      refine ev_icmp_le (pc := 31) (tgt := 38) dX12_apart_31 (by decide) (fun b5 => ?_) (fun b5 => ?_)
      · rw [if_pos b5] at h
        refine ev_iconst (pc := 38) (x := 0) dX12_apart_38 ci_0 ?_
        refine ev_istore (pc := 39) (il' := [(4, vI 0), (0, vR 801), (1, vI x1), (2, vI x2), (3, vI x3)]) dX12_apart_39 (Nat.le_of_ble_eq_true rfl) rfl ?_
        refine ev_iconst (pc := 41) (x := 0) dX12_apart_41 ci_0 ?_
        refine ev_istore (pc := 42) (il' := [(5, vI 0), (4, vI 0), (0, vR 801), (1, vI x1), (2, vI x2), (3, vI x3)]) dX12_apart_42 (Nat.le_of_ble_eq_true rfl) rfl ?_
        obtain ⟨q12, hq12, h⟩ := bd h
        refine ev_pick [2, 3, 4, 5, 1, 0] rfl ?_
        refine e_X12_apart_L44 hd  n hq12 ?_
        refine ev_pick [0, 1, 2, 3, 4] rfl ?_
        exact e_X12_apart_L16_J116 hd  (fun h9 => ih h9 hk0) hk0 h
      · rw [if_neg b5] at h
        refine ev_iconst (pc := 34) (x := 1) dX12_apart_34 ci_1 ?_
        refine ev_goto (pc := 35) (tgt := 39) dX12_apart_35 (by decide) ?_
        refine ev_istore (pc := 39) (il' := [(4, vI 1), (0, vR 801), (1, vI x1), (2, vI x2), (3, vI x3)]) dX12_apart_39 (Nat.le_of_ble_eq_true rfl) rfl ?_
        refine ev_iconst (pc := 41) (x := 0) dX12_apart_41 ci_0 ?_
        refine ev_istore (pc := 42) (il' := [(5, vI 0), (4, vI 1), (0, vR 801), (1, vI x1), (2, vI x2), (3, vI x3)]) dX12_apart_42 (Nat.le_of_ble_eq_true rfl) rfl ?_
        obtain ⟨q14, hq14, h⟩ := bd h
        refine ev_pick [2, 3, 4, 5, 1, 0] rfl ?_
        refine e_X12_apart_L44 hd  n hq14 ?_
        refine ev_pick [0, 1, 2, 3, 4] rfl ?_
        exact e_X12_apart_L16_J116 hd  (fun h9 => ih h9 hk0) hk0 h
def f_X12_apart (n : Nat) (p0 : Int) (M : Mem) : Option (Int) := if (f_X12_isIn p0 1 10) ≠ 0 then ((f_X12_apart_L16 n p0 0 0 M).bind fun q15 => some q15) else (some (-1))
set_option maxRecDepth 100000 in
set_option maxHeartbeats 4000000 in
theorem e_X12_apart {g : Gm} {d : Nat} {n : Nat} {p0 : Int} {M N : Mem} {v : Int} (hd : 1 ≤ d) (h : f_X12_apart n p0 M = some v) : EvM g d mtX12_apart [vR 801, vI p0] (sg (mx N M)) (0, 0) (vI v) (sg (mx N M)) := by
  unfold f_X12_apart at h
  refine EvM.of mkX12_apart.2.2.2.1 (Nat.le_of_ble_eq_true rfl) ?_
  change Ev g d mtX12_apart 0 [(0, vR 801), (1, vI p0)] [] (sg (mx N M)) (0, 0) (vI v) (sg (mx N M))
  refine ev_iload_n (pc := 0) 1 dX12_apart_0 rfl rfl ?_
  refine ev_iconst (pc := 1) (x := 1) dX12_apart_1 ci_1 ?_
  refine ev_bipush (pc := 2) (x := 10) dX12_apart_2 cb_10 ?_
  refine ev_cS (pc := 4) [vI p0, vI 1, vI 10] [] rfl mkX12_isIn ml12_90 msX12_isIn dX12_apart_4 rfl (Nat.le_of_ble_eq_true rfl) (by omega) rfl (e_X12_isIn (d := d - 1) (v := (f_X12_isIn p0 1 10)) (by omega)  rfl) ?_
  refine ev_if_ne (pc := 7) (tgt := 12) dX12_apart_7 (by decide) (fun b1 => ?_) (fun b1 => ?_)
  · rw [if_pos b1] at h
    refine ev_iconst (pc := 12) (x := 0) dX12_apart_12 ci_0 ?_
    refine ev_istore_n (pc := 13) (il' := [(2, vI 0), (0, vR 801), (1, vI p0)]) dX12_apart_13 rfl (Nat.le_of_ble_eq_true rfl) rfl ?_
    refine ev_iconst (pc := 14) (x := 0) dX12_apart_14 ci_0 ?_
    refine ev_istore_n (pc := 15) (il' := [(3, vI 0), (2, vI 0), (0, vR 801), (1, vI p0)]) dX12_apart_15 rfl (Nat.le_of_ble_eq_true rfl) rfl ?_
    obtain ⟨q15, hq15, h⟩ := bd h
    refine ev_pick [2, 3, 1, 0] rfl ?_
    refine e_X12_apart_L16 hd  n hq15 ?_
    refine ev_iload_n (pc := 129) 0 dX12_apart_129 rfl rfl ?_
    cases h
    exact ev_iret (pc := 130) dX12_apart_130 rfl
  · rw [if_neg b1] at h
    refine ev_iconst (pc := 10) (x := (-1)) dX12_apart_10 ci_m1 ?_
    cases h
    exact ev_iret (pc := 11) dX12_apart_11 rfl
def f_X12_grown_L14_J88 (n : Nat) (K : Int → Int → Option (Int)) (x2 x3 x4 x5 x6 x7 : Int) (M : Mem) : Option (Int) := K (bOr x3 (bOr (bShl 1 x6) (bShl 1 x7))) (wI (x5 + 1))
set_option maxRecDepth 100000 in
set_option maxHeartbeats 4000000 in
theorem e_X12_grown_L14_J88 {g : Gm} {d : Nat} {n : Nat} {K : Int → Int → Option (Int)} {x2 x3 x4 x5 x6 x7 : Int} {M N : Mem} {q : Int} {r : Vv} {σ' : Sg} (hd : 1 ≤ d) (hK : ∀ {x3 x5 : Int}, K x3 x5 = some q → Ev g d mtX12_grown 14 [(0, vR 801), (2, vI x2), (3, vI x3), (4, vI x4), (5, vI x5)] [] (sg (mx N M)) (0, 0) r σ') (hk0 : Ev g d mtX12_grown 106 [(0, vR 801), (2, vI x2), (3, vI q), (4, vI x4)] [] (sg (mx N M)) (0, 0) r σ') (h : f_X12_grown_L14_J88 n K x2 x3 x4 x5 x6 x7 M = some q) : Ev g d mtX12_grown 88 [(0, vR 801), (2, vI x2), (3, vI x3), (4, vI x4), (5, vI x5), (6, vI x6), (7, vI x7)] [] (sg (mx N M)) (0, 0) r σ' := by
  unfold f_X12_grown_L14_J88 at h
  refine ev_iload_n (pc := 88) 2 dX12_grown_88 rfl rfl ?_
  refine ev_iconst (pc := 89) (x := 1) dX12_grown_89 ci_1 ?_
  refine ev_iload (pc := 90) 5 dX12_grown_90 rfl ?_
  refine ev_ishl (pc := 92) dX12_grown_92 ?_
  refine ev_iconst (pc := 93) (x := 1) dX12_grown_93 ci_1 ?_
  refine ev_iload (pc := 94) 6 dX12_grown_94 rfl ?_
  refine ev_ishl (pc := 96) dX12_grown_96 ?_
  refine ev_ior (pc := 97) dX12_grown_97 ?_
  refine ev_ior (pc := 98) dX12_grown_98 ?_
  refine ev_istore_n (pc := 99) (il' := [(3, vI (bOr x3 (bOr (bShl 1 x6) (bShl 1 x7)))), (0, vR 801), (2, vI x2), (4, vI x4), (5, vI x5), (6, vI x6), (7, vI x7)]) dX12_grown_99 rfl (Nat.le_of_ble_eq_true rfl) rfl ?_
  refine ev_iinc (pc := 100) (il' := [(5, vI (wI (x5 + 1))), (3, vI (bOr x3 (bOr (bShl 1 x6) (bShl 1 x7)))), (0, vR 801), (2, vI x2), (4, vI x4), (6, vI x6), (7, vI x7)]) 4 dX12_grown_100 rfl (Nat.le_of_ble_eq_true rfl) rfl rfl ?_
  refine ev_goto (pc := 103) (tgt := 14) dX12_grown_103 (by decide) ?_
  refine ev_pick [2, 3, 1, 4, 0] rfl ?_
  exact hK h
def f_X12_grown_L14 : Nat → Int → Int → Int → Int → Mem → Option (Int)
  | 0, _, _, _, _, _ => none
  | n + 1, x2, x3, x4, x5, M => if (M 802 7) ≤ x5 then (some x3) else (ck (0 ≤ (wI (156 + (wI (2 * x5)))) ∧ (wI (156 + (wI (2 * x5)))) < 10606) (ck (0 ≤ (wI ((wI (156 + (wI (2 * x5)))) + 1)) ∧ (wI ((wI (156 + (wI (2 * x5)))) + 1)) < 10606) (if x2 ≤ (M 802 (wI (156 + (wI (2 * x5))))) then (f_X12_grown_L14 n x2 x3 x4 (wI (x5 + 1)) M) else (if x2 ≤ (M 802 (wI ((wI (156 + (wI (2 * x5)))) + 1))) then (f_X12_grown_L14 n x2 x3 x4 (wI (x5 + 1)) M) else (if (f_X12_has x3 (M 802 (wI (156 + (wI (2 * x5)))))) ≠ 0 then (f_X12_grown_L14_J88 n (fun x3 x5 => f_X12_grown_L14 n x2 x3 x4 x5 M) x2 x3 x4 x5 (M 802 (wI (156 + (wI (2 * x5))))) (M 802 (wI ((wI (156 + (wI (2 * x5)))) + 1))) M) else (if (f_X12_has x3 (M 802 (wI ((wI (156 + (wI (2 * x5)))) + 1)))) = 0 then (f_X12_grown_L14 n x2 x3 x4 (wI (x5 + 1)) M) else (f_X12_grown_L14_J88 n (fun x3 x5 => f_X12_grown_L14 n x2 x3 x4 x5 M) x2 x3 x4 x5 (M 802 (wI (156 + (wI (2 * x5))))) (M 802 (wI ((wI (156 + (wI (2 * x5)))) + 1))) M)))))))
set_option maxRecDepth 100000 in
set_option maxHeartbeats 4000000 in
theorem e_X12_grown_L14 {g : Gm} {d : Nat} {x2 x4 : Int} {r : Vv} {σ' : Sg} {M N : Mem} (hd : 1 ≤ d) : ∀ (n : Nat) {x3 x5 : Int} {q : Int}, f_X12_grown_L14 n x2 x3 x4 x5 M = some q → Ev g d mtX12_grown 106 [(0, vR 801), (2, vI x2), (3, vI q), (4, vI x4)] [] (sg (mx N M)) (0, 0) r σ' → Ev g d mtX12_grown 14 [(0, vR 801), (2, vI x2), (3, vI x3), (4, vI x4), (5, vI x5)] [] (sg (mx N M)) (0, 0) r σ' := by
  intro n
  induction n with
  | zero =>
    intro x3 x5 q h hk0
    rw [f_X12_grown_L14.eq_1] at h
    cases h
  | succ n ih =>
    intro x3 x5 q h hk0
    rw [f_X12_grown_L14.eq_2] at h
    refine ev_iload (pc := 14) 4 dX12_grown_14 rfl ?_
    refine ev_aload_n (pc := 16) 0 dX12_grown_16 rfl rfl ?_
    refine ev_getR (pc := 17) fl12_7 rfl dX12_grown_17 rfl kd_801 (by omega) (rf_801_0 _) ?_
    refine ev_bipush (pc := 20) (x := 7) dX12_grown_20 cb_7 ?_
    refine ev_ildr (pc := 22) dX12_grown_22 kd_802 (by omega) (by omega) (by omega) (by omega) ?_
    refine ev_icmp_ge (pc := 23) (tgt := 106) dX12_grown_23 (by decide) (fun b2 => ?_) (fun b2 => ?_)
    · rw [if_pos b2] at h
      cases h
      refine ev_pick [0, 1, 2, 3] rfl ?_
      exact hk0
    · rw [if_neg b2] at h
      refine ev_aload_n (pc := 26) 0 dX12_grown_26 rfl rfl ?_
      refine ev_getR (pc := 27) fl12_7 rfl dX12_grown_27 rfl kd_801 (by omega) (rf_801_0 _) ?_
      refine ev_sipush (pc := 30) (x := 156) dX12_grown_30 cs_156 ?_
      refine ev_iconst (pc := 33) (x := 2) dX12_grown_33 ci_2 ?_
      refine ev_iload (pc := 34) 4 dX12_grown_34 rfl ?_
      refine ev_imul (pc := 36) dX12_grown_36 ?_
      refine ev_iadd (pc := 37) dX12_grown_37 ?_
      obtain ⟨c3, h⟩ := ck_some h
      refine ev_ildr (pc := 38) dX12_grown_38 kd_802 (by omega) (by omega) c3.1 c3.2 ?_
      refine ev_istore (pc := 39) (il' := [(6, vI (M 802 (wI (156 + (wI (2 * x5)))))), (0, vR 801), (2, vI x2), (3, vI x3), (4, vI x4), (5, vI x5)]) dX12_grown_39 (Nat.le_of_ble_eq_true rfl) rfl ?_
      refine ev_aload_n (pc := 41) 1 dX12_grown_41 rfl rfl ?_
      refine ev_getR (pc := 42) fl12_7 rfl dX12_grown_42 rfl kd_801 (by omega) (rf_801_0 _) ?_
      refine ev_sipush (pc := 45) (x := 156) dX12_grown_45 cs_156 ?_
      refine ev_iconst (pc := 48) (x := 2) dX12_grown_48 ci_2 ?_
      refine ev_iload (pc := 49) 5 dX12_grown_49 rfl ?_
      refine ev_imul (pc := 51) dX12_grown_51 ?_
      refine ev_iadd (pc := 52) dX12_grown_52 ?_
      refine ev_iconst (pc := 53) (x := 1) dX12_grown_53 ci_1 ?_
      refine ev_iadd (pc := 54) dX12_grown_54 ?_
      obtain ⟨c4, h⟩ := ck_some h
      refine ev_ildr (pc := 55) dX12_grown_55 kd_802 (by omega) (by omega) c4.1 c4.2 ?_
      refine ev_istore (pc := 56) (il' := [(7, vI (M 802 (wI ((wI (156 + (wI (2 * x5)))) + 1)))), (6, vI (M 802 (wI (156 + (wI (2 * x5)))))), (0, vR 801), (2, vI x2), (3, vI x3), (4, vI x4), (5, vI x5)]) dX12_grown_56 (Nat.le_of_ble_eq_true rfl) rfl ?_
      refine ev_iload (pc := 58) 1 dX12_grown_58 rfl ?_
      refine ev_iload_n (pc := 60) 3 dX12_grown_60 rfl rfl ?_
      refine ev_icmp_ge (pc := 61) (tgt := 100) dX12_grown_61 (by decide) (fun b5 => ?_) (fun b5 => ?_)
      · rw [if_pos b5] at h
        refine ev_iinc (pc := 100) (il' := [(5, vI (wI (x5 + 1))), (7, vI (M 802 (wI ((wI (156 + (wI (2 * x5)))) + 1)))), (6, vI (M 802 (wI (156 + (wI (2 * x5)))))), (0, vR 801), (2, vI x2), (3, vI x3), (4, vI x4)]) 6 dX12_grown_100 rfl (Nat.le_of_ble_eq_true rfl) rfl rfl ?_
        refine ev_goto (pc := 103) (tgt := 14) dX12_grown_103 (by decide) ?_
        refine ev_pick [3, 4, 5, 6, 0] rfl ?_
        exact ih h hk0
      · rw [if_neg b5] at h
        refine ev_iload (pc := 64) 0 dX12_grown_64 rfl ?_
        refine ev_iload_n (pc := 66) 3 dX12_grown_66 rfl rfl ?_
        refine ev_icmp_ge (pc := 67) (tgt := 100) dX12_grown_67 (by decide) (fun b6 => ?_) (fun b6 => ?_)
        · rw [if_pos b6] at h
          refine ev_iinc (pc := 100) (il' := [(5, vI (wI (x5 + 1))), (7, vI (M 802 (wI ((wI (156 + (wI (2 * x5)))) + 1)))), (6, vI (M 802 (wI (156 + (wI (2 * x5)))))), (0, vR 801), (2, vI x2), (3, vI x3), (4, vI x4)]) 6 dX12_grown_100 rfl (Nat.le_of_ble_eq_true rfl) rfl rfl ?_
          refine ev_goto (pc := 103) (tgt := 14) dX12_grown_103 (by decide) ?_
          refine ev_pick [3, 4, 5, 6, 0] rfl ?_
          exact ih h hk0
        · rw [if_neg b6] at h
          refine ev_iload_n (pc := 70) 4 dX12_grown_70 rfl rfl ?_
          refine ev_iload (pc := 71) 1 dX12_grown_71 rfl ?_
          refine ev_cS (pc := 73) [vI x3, vI (M 802 (wI (156 + (wI (2 * x5)))))] [] rfl mkX12_has ml12_279 msX12_has dX12_grown_73 rfl (Nat.le_of_ble_eq_true rfl) (by omega) rfl (e_X12_has (d := d - 1) (v := (f_X12_has x3 (M 802 (wI (156 + (wI (2 * x5))))))) (by omega)  rfl) ?_
          refine ev_if_ne (pc := 76) (tgt := 88) dX12_grown_76 (by decide) (fun b7 => ?_) (fun b7 => ?_)
          · rw [if_pos b7] at h
            refine ev_pick [2, 3, 4, 5, 6, 1, 0] rfl ?_
            exact e_X12_grown_L14_J88 hd  (fun h9 => ih h9 hk0) hk0 h
          · rw [if_neg b7] at h
            refine ev_iload_n (pc := 79) 4 dX12_grown_79 rfl rfl ?_
            refine ev_iload (pc := 80) 0 dX12_grown_80 rfl ?_
            refine ev_cS (pc := 82) [vI x3, vI (M 802 (wI ((wI (156 + (wI (2 * x5)))) + 1)))] [] rfl mkX12_has ml12_279 msX12_has dX12_grown_82 rfl (Nat.le_of_ble_eq_true rfl) (by omega) rfl (e_X12_has (d := d - 1) (v := (f_X12_has x3 (M 802 (wI ((wI (156 + (wI (2 * x5)))) + 1))))) (by omega)  rfl) ?_
            refine ev_if_eq (pc := 85) (tgt := 100) dX12_grown_85 (by decide) (fun b8 => ?_) (fun b8 => ?_)
            · rw [if_pos b8] at h
              refine ev_iinc (pc := 100) (il' := [(5, vI (wI (x5 + 1))), (7, vI (M 802 (wI ((wI (156 + (wI (2 * x5)))) + 1)))), (6, vI (M 802 (wI (156 + (wI (2 * x5)))))), (0, vR 801), (2, vI x2), (3, vI x3), (4, vI x4)]) 6 dX12_grown_100 rfl (Nat.le_of_ble_eq_true rfl) rfl rfl ?_
              refine ev_goto (pc := 103) (tgt := 14) dX12_grown_103 (by decide) ?_
              refine ev_pick [3, 4, 5, 6, 0] rfl ?_
              exact ih h hk0
            · rw [if_neg b8] at h
              refine ev_pick [2, 3, 4, 5, 6, 1, 0] rfl ?_
              exact e_X12_grown_L14_J88 hd  (fun h9 => ih h9 hk0) hk0 h
def f_X12_grown_L5 : Nat → Int → Int → Int → Mem → Option (Int)
  | 0, _, _, _, _ => none
  | n + 1, x2, x3, x4, M => if x2 ≤ x4 then (some x3) else ((f_X12_grown_L14 n x2 x3 x4 0 M).bind fun q9 => f_X12_grown_L5 n x2 q9 (wI (x4 + 1)) M)
set_option maxRecDepth 100000 in
set_option maxHeartbeats 4000000 in
theorem e_X12_grown_L5 {g : Gm} {d : Nat} {x2 : Int} {r : Vv} {σ' : Sg} {M N : Mem} (hd : 1 ≤ d) : ∀ (n : Nat) {x3 x4 : Int} {q : Int}, f_X12_grown_L5 n x2 x3 x4 M = some q → Ev g d mtX12_grown 112 [(3, vI q)] [] (sg (mx N M)) (0, 0) r σ' → Ev g d mtX12_grown 5 [(0, vR 801), (2, vI x2), (3, vI x3), (4, vI x4)] [] (sg (mx N M)) (0, 0) r σ' := by
  intro n
  induction n with
  | zero =>
    intro x3 x4 q h hk0
    rw [f_X12_grown_L5.eq_1] at h
    cases h
  | succ n ih =>
    intro x3 x4 q h hk0
    rw [f_X12_grown_L5.eq_2] at h
    refine ev_iload (pc := 5) 3 dX12_grown_5 rfl ?_
    refine ev_iload_n (pc := 7) 1 dX12_grown_7 rfl rfl ?_
    refine ev_icmp_ge (pc := 8) (tgt := 112) dX12_grown_8 (by decide) (fun b1 => ?_) (fun b1 => ?_)
    · rw [if_pos b1] at h
      cases h
      refine ev_pick [2] rfl ?_
      exact hk0
    · rw [if_neg b1] at h
      refine ev_iconst (pc := 11) (x := 0) dX12_grown_11 ci_0 ?_
      refine ev_istore (pc := 12) (il' := [(5, vI 0), (0, vR 801), (2, vI x2), (3, vI x3), (4, vI x4)]) dX12_grown_12 (Nat.le_of_ble_eq_true rfl) rfl ?_
      obtain ⟨q9, hq9, h⟩ := bd h
      refine ev_pick [1, 2, 3, 4, 0] rfl ?_
      refine e_X12_grown_L14 hd  n hq9 ?_
      refine ev_iinc (pc := 106) (il' := [(4, vI (wI (x4 + 1))), (0, vR 801), (2, vI x2), (3, vI q9)]) 3 dX12_grown_106 rfl (Nat.le_of_ble_eq_true rfl) rfl rfl ?_
      refine ev_goto (pc := 109) (tgt := 5) dX12_grown_109 (by decide) ?_
      refine ev_pick [1, 2, 3, 0] rfl ?_
      exact ih h hk0
def f_X12_grown (n : Nat) (p0 p1 : Int) (M : Mem) : Option (Int) := (f_X12_grown_L5 n p1 p0 0 M).bind fun q10 => some q10
set_option maxRecDepth 100000 in
set_option maxHeartbeats 4000000 in
theorem e_X12_grown {g : Gm} {d : Nat} {n : Nat} {p0 p1 : Int} {M N : Mem} {v : Int} (hd : 1 ≤ d) (h : f_X12_grown n p0 p1 M = some v) : EvM g d mtX12_grown [vR 801, vI p0, vI p1] (sg (mx N M)) (0, 0) (vI v) (sg (mx N M)) := by
  unfold f_X12_grown at h
  refine EvM.of mkX12_grown.2.2.2.1 (Nat.le_of_ble_eq_true rfl) ?_
  change Ev g d mtX12_grown 0 [(0, vR 801), (1, vI p0), (2, vI p1)] [] (sg (mx N M)) (0, 0) (vI v) (sg (mx N M))
  refine ev_iload_n (pc := 0) 1 dX12_grown_0 rfl rfl ?_
  refine ev_istore_n (pc := 1) (il' := [(3, vI p0), (0, vR 801), (1, vI p0), (2, vI p1)]) dX12_grown_1 rfl (Nat.le_of_ble_eq_true rfl) rfl ?_
  refine ev_iconst (pc := 2) (x := 0) dX12_grown_2 ci_0 ?_
  refine ev_istore (pc := 3) (il' := [(4, vI 0), (3, vI p0), (0, vR 801), (1, vI p0), (2, vI p1)]) dX12_grown_3 (Nat.le_of_ble_eq_true rfl) rfl ?_
  obtain ⟨q10, hq10, h⟩ := bd h
  refine ev_pick [2, 4, 1, 0] rfl ?_
  refine e_X12_grown_L5 hd  n hq10 ?_
  refine ev_iload_n (pc := 112) 0 dX12_grown_112 rfl rfl ?_
  cases h
  exact ev_iret (pc := 113) dX12_grown_113 rfl
def f_X12_chains_L19 : Nat → Int → Int → Int → Int → Mem → Option (Int)
  | 0, _, _, _, _, _ => none
  | n + 1, x1, x2, x3, x4, M => if x1 ≤ x4 then (some x3) else (if (f_X12_has x2 x4) = 0 then ((f_X12_grown n (bShl 1 x4) x1 M).bind fun q4 => f_X12_chains_L19 n x1 (bOr x2 q4) (wI (x3 + 1)) (wI (x4 + 1)) M) else (f_X12_chains_L19 n x1 x2 x3 (wI (x4 + 1)) M))
set_option maxRecDepth 100000 in
set_option maxHeartbeats 4000000 in
theorem e_X12_chains_L19 {g : Gm} {d : Nat} {x1 : Int} {r : Vv} {σ' : Sg} {M N : Mem} (hd : 2 ≤ d) : ∀ (n : Nat) {x2 x3 x4 : Int} {q : Int}, f_X12_chains_L19 n x1 x2 x3 x4 M = some q → Ev g d mtX12_chains 58 [(3, vI q)] [] (sg (mx N M)) (0, 0) r σ' → Ev g d mtX12_chains 19 [(0, vR 801), (1, vI x1), (2, vI x2), (3, vI x3), (4, vI x4)] [] (sg (mx N M)) (0, 0) r σ' := by
  intro n
  induction n with
  | zero =>
    intro x2 x3 x4 q h hk0
    rw [f_X12_chains_L19.eq_1] at h
    cases h
  | succ n ih =>
    intro x2 x3 x4 q h hk0
    rw [f_X12_chains_L19.eq_2] at h
    refine ev_iload (pc := 19) 4 dX12_chains_19 rfl ?_
    refine ev_iload_n (pc := 21) 1 dX12_chains_21 rfl rfl ?_
    refine ev_icmp_ge (pc := 22) (tgt := 58) dX12_chains_22 (by decide) (fun b2 => ?_) (fun b2 => ?_)
    · rw [if_pos b2] at h
      cases h
      refine ev_pick [3] rfl ?_
      exact hk0
    · rw [if_neg b2] at h
      refine ev_iload_n (pc := 25) 2 dX12_chains_25 rfl rfl ?_
      refine ev_iload (pc := 26) 4 dX12_chains_26 rfl ?_
      refine ev_cS (pc := 28) [vI x2, vI x4] [] rfl mkX12_has ml12_279 msX12_has dX12_chains_28 rfl (Nat.le_of_ble_eq_true rfl) (by omega) rfl (e_X12_has (d := d - 1) (v := (f_X12_has x2 x4)) (by omega)  rfl) ?_
      refine ev_if_eq (pc := 31) (tgt := 37) dX12_chains_31 (by decide) (fun b3 => ?_) (fun b3 => ?_)
      · rw [if_pos b3] at h
        refine ev_iload_n (pc := 37) 2 dX12_chains_37 rfl rfl ?_
        refine ev_aload_n (pc := 38) 0 dX12_chains_38 rfl rfl ?_
        refine ev_iconst (pc := 39) (x := 1) dX12_chains_39 ci_1 ?_
        refine ev_iload (pc := 40) 4 dX12_chains_40 rfl ?_
        refine ev_ishl (pc := 42) dX12_chains_42 ?_
        refine ev_iload_n (pc := 43) 1 dX12_chains_43 rfl rfl ?_
        obtain ⟨q4, hq4, h⟩ := bd h
        refine ev_cV (pc := 44) [vI (bShl 1 x4), vI x1] [vI x2] rfl mkX12_grown ml12_475 mnX12_grown dX12_chains_44 kd_801 (by omega) rfl (Nat.le_of_ble_eq_true rfl) (by omega) rfl (e_X12_grown (d := d - 1) (v := q4) (by omega)  hq4) ?_
        refine ev_ior (pc := 47) dX12_chains_47 ?_
        refine ev_istore_n (pc := 48) (il' := [(2, vI (bOr x2 q4)), (0, vR 801), (1, vI x1), (3, vI x3), (4, vI x4)]) dX12_chains_48 rfl (Nat.le_of_ble_eq_true rfl) rfl ?_
        refine ev_iinc (pc := 49) (il' := [(3, vI (wI (x3 + 1))), (2, vI (bOr x2 q4)), (0, vR 801), (1, vI x1), (4, vI x4)]) 3 dX12_chains_49 rfl (Nat.le_of_ble_eq_true rfl) rfl rfl ?_
        refine ev_iinc (pc := 52) (il' := [(4, vI (wI (x4 + 1))), (3, vI (wI (x3 + 1))), (2, vI (bOr x2 q4)), (0, vR 801), (1, vI x1)]) 4 dX12_chains_52 rfl (Nat.le_of_ble_eq_true rfl) rfl rfl ?_
        refine ev_goto (pc := 55) (tgt := 19) dX12_chains_55 (by decide) ?_
        refine ev_pick [3, 4, 2, 1, 0] rfl ?_
        exact ih h hk0
      · rw [if_neg b3] at h
        refine ev_goto (pc := 34) (tgt := 52) dX12_chains_34 (by decide) ?_
        refine ev_iinc (pc := 52) (il' := [(4, vI (wI (x4 + 1))), (0, vR 801), (1, vI x1), (2, vI x2), (3, vI x3)]) 4 dX12_chains_52 rfl (Nat.le_of_ble_eq_true rfl) rfl rfl ?_
        refine ev_goto (pc := 55) (tgt := 19) dX12_chains_55 (by decide) ?_
        refine ev_pick [1, 2, 3, 4, 0] rfl ?_
        exact ih h hk0
def f_X12_chains (n : Nat) (p0 : Int) (M : Mem) : Option (Int) := if (f_X12_isIn p0 1 10) ≠ 0 then ((f_X12_chains_L19 n p0 0 0 0 M).bind fun q5 => some q5) else (some (-1))
set_option maxRecDepth 100000 in
set_option maxHeartbeats 4000000 in
theorem e_X12_chains {g : Gm} {d : Nat} {n : Nat} {p0 : Int} {M N : Mem} {v : Int} (hd : 2 ≤ d) (h : f_X12_chains n p0 M = some v) : EvM g d mtX12_chains [vR 801, vI p0] (sg (mx N M)) (0, 0) (vI v) (sg (mx N M)) := by
  unfold f_X12_chains at h
  refine EvM.of mkX12_chains.2.2.2.1 (Nat.le_of_ble_eq_true rfl) ?_
  change Ev g d mtX12_chains 0 [(0, vR 801), (1, vI p0)] [] (sg (mx N M)) (0, 0) (vI v) (sg (mx N M))
  refine ev_iload_n (pc := 0) 1 dX12_chains_0 rfl rfl ?_
  refine ev_iconst (pc := 1) (x := 1) dX12_chains_1 ci_1 ?_
  refine ev_bipush (pc := 2) (x := 10) dX12_chains_2 cb_10 ?_
  refine ev_cS (pc := 4) [vI p0, vI 1, vI 10] [] rfl mkX12_isIn ml12_90 msX12_isIn dX12_chains_4 rfl (Nat.le_of_ble_eq_true rfl) (by omega) rfl (e_X12_isIn (d := d - 1) (v := (f_X12_isIn p0 1 10)) (by omega)  rfl) ?_
  refine ev_if_ne (pc := 7) (tgt := 12) dX12_chains_7 (by decide) (fun b1 => ?_) (fun b1 => ?_)
  · rw [if_pos b1] at h
    refine ev_iconst (pc := 12) (x := 0) dX12_chains_12 ci_0 ?_
    refine ev_istore_n (pc := 13) (il' := [(2, vI 0), (0, vR 801), (1, vI p0)]) dX12_chains_13 rfl (Nat.le_of_ble_eq_true rfl) rfl ?_
    refine ev_iconst (pc := 14) (x := 0) dX12_chains_14 ci_0 ?_
    refine ev_istore_n (pc := 15) (il' := [(3, vI 0), (2, vI 0), (0, vR 801), (1, vI p0)]) dX12_chains_15 rfl (Nat.le_of_ble_eq_true rfl) rfl ?_
    refine ev_iconst (pc := 16) (x := 0) dX12_chains_16 ci_0 ?_
    refine ev_istore (pc := 17) (il' := [(4, vI 0), (3, vI 0), (2, vI 0), (0, vR 801), (1, vI p0)]) dX12_chains_17 (Nat.le_of_ble_eq_true rfl) rfl ?_
    obtain ⟨q5, hq5, h⟩ := bd h
    refine ev_pick [3, 4, 2, 1, 0] rfl ?_
    refine e_X12_chains_L19 hd  n hq5 ?_
    refine ev_iload_n (pc := 58) 0 dX12_chains_58 rfl rfl ?_
    cases h
    exact ev_iret (pc := 59) dX12_chains_59 rfl
  · rw [if_neg b1] at h
    refine ev_iconst (pc := 10) (x := (-1)) dX12_chains_10 ci_m1 ?_
    cases h
    exact ev_iret (pc := 11) dX12_chains_11 rfl
