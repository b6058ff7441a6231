/-! ===== methods: X12_ship, X12_four, X12_feed, X12_end, X12_byteAt, X12_isLetterByte, X12_isFigure, X12_isSign, X12_nextToken, X12_w2, X12_w3, X12_w4, X12_w5, X12_w6, X12_isWord, X12_emit, X12_nameOf, X12_isOf, X12_rank, X12_settle, X12_isOpen, X12_isCompared, X12_isAskHere, X12_isAskAhead, X12_opened, X12_one, X12_beside, X12_beginOne, X12_compareOf, X12_betweenOf, X12_behindOne, X12_parsed, X12_figure, X12_worded, X12_lawClause, X12_stepClause, X12_shipClause, X12_pair, X12_body ===== -/
def f_X12_ship (p0 p1 p2 : Int) (M : Mem) : Option (Int × Mem) := if (f_X12_isIn p0 1 99) = 0 then (some ((-1), M)) else (if (f_X12_isStep p1 M) = 0 then (some ((-1), M)) else (if (f_X12_isStep p2 M) = 0 then (some ((-1), M)) else (if (M 802 1) ≠ 7 then ((f_X12_set (M 802 1) 0 p0 M).bind fun q5 => (f_X12_set (M 802 1) 1 p1 q5).bind fun q6 => (f_X12_set (M 802 1) 2 p2 q6).bind fun q7 => (f_X12_set (M 802 1) 3 0 q7).bind fun q8 => (f_X12_set (M 802 1) 4 p1 q8).bind fun q9 => (f_X12_set (M 802 1) 5 p2 q9).bind fun q10 => lt (upM q10 802 1 (wI ((q10 802 1) + 1))) fun M11 => some ((M 802 1), M11)) else (some ((-1), M)))))
set_option maxRecDepth 100000 in
set_option maxHeartbeats 4000000 in
theorem e_X12_ship {g : Gm} {d : Nat} {p0 p1 p2 : Int} {M N : Mem} {v : Int} {M' : Mem} (hd : 2 ≤ d) (h : f_X12_ship p0 p1 p2 M = some (v, M')) : EvM g d mtX12_ship [vR 801, vI p0, vI p1, vI p2] (sg (mx N M)) (0, 0) (vI v) (sg (mx N M')) := by
  unfold f_X12_ship at h
  refine EvM.of mkX12_ship.2.2.2.1 (Nat.le_of_ble_eq_true rfl) ?_
  change Ev g d mtX12_ship 0 [(0, vR 801), (1, vI p0), (2, vI p1), (3, vI p2)] [] (sg (mx N M)) (0, 0) (vI v) (sg (mx N M'))
  refine ev_iload_n (pc := 0) 1 dX12_ship_0 rfl rfl ?_
  refine ev_iconst (pc := 1) (x := 1) dX12_ship_1 ci_1 ?_
  refine ev_bipush (pc := 2) (x := 99) dX12_ship_2 cb_99 ?_
  refine ev_cS (pc := 4) [vI p0, vI 1, vI 99] [] rfl mkX12_isIn ml12_90 msX12_isIn dX12_ship_4 rfl (Nat.le_of_ble_eq_true rfl) (by omega) rfl (e_X12_isIn (d := d - 1) (v := (f_X12_isIn p0 1 99)) (by omega)  rfl) ?_
  refine ev_if_eq (pc := 7) (tgt := 37) dX12_ship_7 (by decide) (fun b1 => ?_) (fun b1 => ?_)
  · rw [if_pos b1] at h
    refine ev_iconst (pc := 37) (x := (-1)) dX12_ship_37 ci_m1 ?_
    cases h
    exact ev_iret (pc := 38) dX12_ship_38 rfl
  · rw [if_neg b1] at h
    refine ev_aload_n (pc := 10) 0 dX12_ship_10 rfl rfl ?_
    refine ev_iload_n (pc := 11) 2 dX12_ship_11 rfl rfl ?_
    refine ev_cV (pc := 12) [vI p1] [] rfl mkX12_isStep ml12_102 mnX12_isStep dX12_ship_12 kd_801 (by omega) rfl (Nat.le_of_ble_eq_true rfl) (by omega) rfl (e_X12_isStep (d := d - 1) (v := (f_X12_isStep p1 M)) (by omega)  rfl) ?_
    refine ev_if_eq (pc := 15) (tgt := 37) dX12_ship_15 (by decide) (fun b2 => ?_) (fun b2 => ?_)
    · rw [if_pos b2] at h
      refine ev_iconst (pc := 37) (x := (-1)) dX12_ship_37 ci_m1 ?_
      cases h
      exact ev_iret (pc := 38) dX12_ship_38 rfl
    · rw [if_neg b2] at h
      refine ev_aload_n (pc := 18) 0 dX12_ship_18 rfl rfl ?_
      refine ev_iload_n (pc := 19) 3 dX12_ship_19 rfl rfl ?_
      refine ev_cV (pc := 20) [vI p2] [] rfl mkX12_isStep ml12_102 mnX12_isStep dX12_ship_20 kd_801 (by omega) rfl (Nat.le_of_ble_eq_true rfl) (by omega) rfl (e_X12_isStep (d := d - 1) (v := (f_X12_isStep p2 M)) (by omega)  rfl) ?_
      refine ev_if_eq (pc := 23) (tgt := 37) dX12_ship_23 (by decide) (fun b3 => ?_) (fun b3 => ?_)
      · rw [if_pos b3] at h
        refine ev_iconst (pc := 37) (x := (-1)) dX12_ship_37 ci_m1 ?_
        cases h
        exact ev_iret (pc := 38) dX12_ship_38 rfl
      · rw [if_neg b3] at h
        refine ev_aload_n (pc := 26) 0 dX12_ship_26 rfl rfl ?_
        refine ev_getR (pc := 27) fl12_7 rfl dX12_ship_27 rfl kd_801 (by omega) (rf_801_0 _) ?_
        refine ev_iconst (pc := 30) (x := 1) dX12_ship_30 ci_1 ?_
        refine ev_ildr (pc := 31) dX12_ship_31 kd_802 (by omega) (by omega) (by omega) (by omega) ?_
        refine ev_bipush (pc := 32) (x := 7) dX12_ship_32 cb_7 ?_
        refine ev_icmp_ne (pc := 34) (tgt := 39) dX12_ship_34 (by decide) (fun b4 => ?_) (fun b4 => ?_)
        · rw [if_pos b4] at h
          refine ev_aload_n (pc := 39) 0 dX12_ship_39 rfl rfl ?_
          refine ev_getR (pc := 40) fl12_7 rfl dX12_ship_40 rfl kd_801 (by omega) (rf_801_0 _) ?_
          refine ev_iconst (pc := 43) (x := 1) dX12_ship_43 ci_1 ?_
          refine ev_ildr (pc := 44) dX12_ship_44 kd_802 (by omega) (by omega) (by omega) (by omega) ?_
          refine ev_istore (pc := 45) (il' := [(4, vI (M 802 1)), (0, vR 801), (1, vI p0), (2, vI p1), (3, vI p2)]) dX12_ship_45 (Nat.le_of_ble_eq_true rfl) rfl ?_
          refine ev_aload_n (pc := 47) 1 dX12_ship_47 rfl rfl ?_
          refine ev_iload (pc := 48) 0 dX12_ship_48 rfl ?_
          refine ev_iconst (pc := 50) (x := 0) dX12_ship_50 ci_0 ?_
          refine ev_iload_n (pc := 51) 2 dX12_ship_51 rfl rfl ?_
          obtain ⟨q5, hq5, h⟩ := bd h
          refine ev_cV0 (pc := 52) [vI (M 802 1), vI 0, vI p0] [] rfl mkX12_set ml12_106 mnX12_set dX12_ship_52 kd_801 (by omega) rfl (Nat.le_of_ble_eq_true rfl) (by omega) (e_X12_set (d := d - 1) (M' := q5) (by omega)  hq5) ?_
          refine ev_aload_n (pc := 55) 1 dX12_ship_55 rfl rfl ?_
          refine ev_iload (pc := 56) 0 dX12_ship_56 rfl ?_
          refine ev_iconst (pc := 58) (x := 1) dX12_ship_58 ci_1 ?_
          refine ev_iload_n (pc := 59) 3 dX12_ship_59 rfl rfl ?_
          obtain ⟨q6, hq6, h⟩ := bd h
          refine ev_cV0 (pc := 60) [vI (M 802 1), vI 1, vI p1] [] rfl mkX12_set ml12_106 mnX12_set dX12_ship_60 kd_801 (by omega) rfl (Nat.le_of_ble_eq_true rfl) (by omega) (e_X12_set (d := d - 1) (M' := q6) (by omega)  hq6) ?_
          refine ev_aload_n (pc := 63) 1 dX12_ship_63 rfl rfl ?_
          refine ev_iload (pc := 64) 0 dX12_ship_64 rfl ?_
          refine ev_iconst (pc := 66) (x := 2) dX12_ship_66 ci_2 ?_
          refine ev_iload_n (pc := 67) 4 dX12_ship_67 rfl rfl ?_
          obtain ⟨q7, hq7, h⟩ := bd h
          refine ev_cV0 (pc := 68) [vI (M 802 1), vI 2, vI p2] [] rfl mkX12_set ml12_106 mnX12_set dX12_ship_68 kd_801 (by omega) rfl (Nat.le_of_ble_eq_true rfl) (by omega) (e_X12_set (d := d - 1) (M' := q7) (by omega)  hq7) ?_
          refine ev_aload_n (pc := 71) 1 dX12_ship_71 rfl rfl ?_
          refine ev_iload (pc := 72) 0 dX12_ship_72 rfl ?_
          refine ev_iconst (pc := 74) (x := 3) dX12_ship_74 ci_3 ?_
          refine ev_iconst (pc := 75) (x := 0) dX12_ship_75 ci_0 ?_
          obtain ⟨q8, hq8, h⟩ := bd h
          refine ev_cV0 (pc := 76) [vI (M 802 1), vI 3, vI 0] [] rfl mkX12_set ml12_106 mnX12_set dX12_ship_76 kd_801 (by omega) rfl (Nat.le_of_ble_eq_true rfl) (by omega) (e_X12_set (d := d - 1) (M' := q8) (by omega)  hq8) ?_
          refine ev_aload_n (pc := 79) 1 dX12_ship_79 rfl rfl ?_
          refine ev_iload (pc := 80) 0 dX12_ship_80 rfl ?_
          refine ev_iconst (pc := 82) (x := 4) dX12_ship_82 ci_4 ?_
          refine ev_iload_n (pc := 83) 3 dX12_ship_83 rfl rfl ?_
          obtain ⟨q9, hq9, h⟩ := bd h
          refine ev_cV0 (pc := 84) [vI (M 802 1), vI 4, vI p1] [] rfl mkX12_set ml12_106 mnX12_set dX12_ship_84 kd_801 (by omega) rfl (Nat.le_of_ble_eq_true rfl) (by omega) (e_X12_set (d := d - 1) (M' := q9) (by omega)  hq9) ?_
          refine ev_aload_n (pc := 87) 1 dX12_ship_87 rfl rfl ?_
          refine ev_iload (pc := 88) 0 dX12_ship_88 rfl ?_
          refine ev_iconst (pc := 90) (x := 5) dX12_ship_90 ci_5 ?_
          refine ev_iload_n (pc := 91) 4 dX12_ship_91 rfl rfl ?_
          obtain ⟨q10, hq10, h⟩ := bd h
          refine ev_cV0 (pc := 92) [vI (M 802 1), vI 5, vI p2] [] rfl mkX12_set ml12_106 mnX12_set dX12_ship_92 kd_801 (by omega) rfl (Nat.le_of_ble_eq_true rfl) (by omega) (e_X12_set (d := d - 1) (M' := q10) (by omega)  hq10) ?_
          refine ev_aload_n (pc := 95) 1 dX12_ship_95 rfl rfl ?_
          refine ev_getR (pc := 96) fl12_7 rfl dX12_ship_96 rfl kd_801 (by omega) (rf_801_0 _) ?_
          refine ev_iconst (pc := 99) (x := 1) dX12_ship_99 ci_1 ?_
          refine ev_dup2 (pc := 100) rfl rfl dX12_ship_100 ?_
          refine ev_ildr (pc := 101) dX12_ship_101 kd_802 (by omega) (by omega) (by omega) (by omega) ?_
          refine ev_iconst (pc := 102) (x := 1) dX12_ship_102 ci_1 ?_
          refine ev_iadd (pc := 103) dX12_ship_103 ?_
          obtain ⟨M11, eM11, h⟩ := lt_some h
          refine ev_istr (pc := 104) dX12_ship_104 kd_802 (by omega) (by omega) (by omega) (by omega) eM11 ?_
          refine ev_iload (pc := 105) 0 dX12_ship_105 rfl ?_
          cases h
          exact ev_iret (pc := 107) dX12_ship_107 rfl
        · rw [if_neg b4] at h
          refine ev_iconst (pc := 37) (x := (-1)) dX12_ship_37 ci_m1 ?_
          cases h
          exact ev_iret (pc := 38) dX12_ship_38 rfl
def f_X12_four_L3 : Nat → Int → Int → Mem → Option (Mem)
  | 0, _, _, _ => none
  | n + 1, x1, x2, M => if x2 < 0 then (some M) else (ck (0 ≤ (M 801 4) ∧ (M 801 4) < 300) (lt (upM M 805 (M 801 4) (bAnd (bShr x1 x2) 255)) fun M3 => lt (upM M3 801 4 (wI ((M3 801 4) + 1))) fun M4 => f_X12_four_L3 n x1 (wI (x2 + (-8))) M4))
set_option maxRecDepth 100000 in
set_option maxHeartbeats 4000000 in
theorem e_X12_four_L3 {g : Gm} {d : Nat} {x1 : Int} {r : Vv} {σ' : Sg} {N : Mem} (hd : 0 ≤ d) : ∀ (n : Nat) {x2 : Int} {M : Mem} {q : Mem}, f_X12_four_L3 n x1 x2 M = some q → Ev g d mtX12_four 39 [] [] (sg (mx N q)) (0, 0) r σ' → Ev g d mtX12_four 3 [(0, vR 801), (1, vI x1), (2, vI x2)] [] (sg (mx N M)) (0, 0) r σ' := by
  intro n
  induction n with
  | zero =>
    intro x2 M q h hk0
    rw [f_X12_four_L3.eq_1] at h
    cases h
  | succ n ih =>
    intro x2 M q h hk0
    rw [f_X12_four_L3.eq_2] at h
    refine ev_iload_n (pc := 3) 2 dX12_four_3 rfl rfl ?_
    refine ev_if_lt (pc := 4) (tgt := 39) dX12_four_4 (by decide) (fun b1 => ?_) (fun b1 => ?_)
    · rw [if_pos b1] at h
      cases h
      refine ev_pick [] rfl ?_
      exact hk0
    · rw [if_neg b1] at h
      refine ev_aload_n (pc := 7) 0 dX12_four_7 rfl rfl ?_
      refine ev_getR (pc := 8) fl12_19 rfl dX12_four_8 rfl kd_801 (by omega) (rf_801_3 _) ?_
      refine ev_aload_n (pc := 11) 0 dX12_four_11 rfl rfl ?_
      refine ev_getIr (pc := 12) fl12_109 rfl dX12_four_12 rfl kd_801 (by omega) (by omega) 4 rfl ?_
      refine ev_iload_n (pc := 15) 1 dX12_four_15 rfl rfl ?_
      refine ev_iload_n (pc := 16) 2 dX12_four_16 rfl rfl ?_
      refine ev_ishr (pc := 17) dX12_four_17 ?_
      refine ev_sipush (pc := 18) (x := 255) dX12_four_18 cs_255 ?_
      refine ev_iand (pc := 21) dX12_four_21 ?_
      obtain ⟨c2, h⟩ := ck_some h
      obtain ⟨M3, eM3, h⟩ := lt_some h
      refine ev_istr (pc := 22) dX12_four_22 kd_805 (by omega) (by omega) c2.1 c2.2 eM3 ?_
      refine ev_aload_n (pc := 23) 0 dX12_four_23 rfl rfl ?_
      refine ev_dup (pc := 24) rfl dX12_four_24 ?_
      refine ev_getIr (pc := 25) fl12_109 rfl dX12_four_25 rfl kd_801 (by omega) (by omega) 4 rfl ?_
      refine ev_iconst (pc := 28) (x := 1) dX12_four_28 ci_1 ?_
      refine ev_iadd (pc := 29) dX12_four_29 ?_
      obtain ⟨M4, eM4, h⟩ := lt_some h
      refine ev_putIr (pc := 30) fl12_109 rfl dX12_four_30 kd_801 (by omega) (by omega) eM4 ?_
      refine ev_iinc (pc := 33) (il' := [(2, vI (wI (x2 + (-8)))), (0, vR 801), (1, vI x1)]) 2 dX12_four_33 rfl (Nat.le_of_ble_eq_true rfl) rfl rfl ?_
      refine ev_goto (pc := 36) (tgt := 3) dX12_four_36 (by decide) ?_
      refine ev_pick [1, 2, 0] rfl ?_
      exact ih h hk0
def f_X12_four (n : Nat) (p0 : Int) (M : Mem) : Option (Mem) := (f_X12_four_L3 n p0 24 M).bind fun q5 => some q5
set_option maxRecDepth 100000 in
set_option maxHeartbeats 4000000 in
theorem e_X12_four {g : Gm} {d : Nat} {n : Nat} {p0 : Int} {M N : Mem} {M' : Mem} (hd : 0 ≤ d) (h : f_X12_four n p0 M = some M') : EvM g d mtX12_four [vR 801, vI p0] (sg (mx N M)) (0, 0) vN (sg (mx N M')) := by
  unfold f_X12_four at h
  refine EvM.of mkX12_four.2.2.2.1 (Nat.le_of_ble_eq_true rfl) ?_
  change Ev g d mtX12_four 0 [(0, vR 801), (1, vI p0)] [] (sg (mx N M)) (0, 0) vN (sg (mx N M'))
  refine ev_bipush (pc := 0) (x := 24) dX12_four_0 cb_24 ?_
  refine ev_istore_n (pc := 2) (il' := [(2, vI 24), (0, vR 801), (1, vI p0)]) dX12_four_2 rfl (Nat.le_of_ble_eq_true rfl) rfl ?_
  obtain ⟨q5, hq5, h⟩ := bd h
  refine ev_pick [1, 2, 0] rfl ?_
  refine e_X12_four_L3 hd  n hq5 ?_
  cases h
  exact ev_vret (pc := 39) dX12_four_39 rfl
def f_X12_feed (n : Nat) (p0 p1 p2 p3 p4 : Int) (M : Mem) : Option (Int × Mem) := if (wI ((M 801 4) + 20)) ≤ 300 then ((f_X12_four n p0 M).bind fun q2 => (f_X12_four n p1 q2).bind fun q3 => (f_X12_four n p2 q3).bind fun q4 => (f_X12_four n p3 q4).bind fun q5 => (f_X12_four n p4 q5).bind fun q6 => some ((q6 801 4), q6)) else (some ((-1), M))
set_option maxRecDepth 100000 in
set_option maxHeartbeats 4000000 in
theorem e_X12_feed {g : Gm} {d : Nat} {n : Nat} {p0 p1 p2 p3 p4 : Int} {M N : Mem} {v : Int} {M' : Mem} (hd : 1 ≤ d) (h : f_X12_feed n p0 p1 p2 p3 p4 M = some (v, M')) : EvM g d mtX12_feed [vR 801, vI p0, vI p1, vI p2, vI p3, vI p4] (sg (mx N M)) (0, 0) (vI v) (sg (mx N M')) := by
  unfold f_X12_feed at h
  refine EvM.of mkX12_feed.2.2.2.1 (Nat.le_of_ble_eq_true rfl) ?_
  change Ev g d mtX12_feed 0 [(0, vR 801), (1, vI p0), (2, vI p1), (3, vI p2), (4, vI p3), (5, vI p4)] [] (sg (mx N M)) (0, 0) (vI v) (sg (mx N M'))
  refine ev_aload_n (pc := 0) 0 dX12_feed_0 rfl rfl ?_
  refine ev_getIr (pc := 1) fl12_109 rfl dX12_feed_1 rfl kd_801 (by omega) (by omega) 4 rfl ?_
  refine ev_bipush (pc := 4) (x := 20) dX12_feed_4 cb_20 ?_
  refine ev_iadd (pc := 6) dX12_feed_6 ?_
  refine ev_sipush (pc := 7) (x := 300) dX12_feed_7 cs_300 ?_
  refine ev_icmp_le (pc := 10) (tgt := 15) dX12_feed_10 (by decide) (fun b1 => ?_) (fun b1 => ?_)
  · rw [if_pos b1] at h
    refine ev_aload_n (pc := 15) 0 dX12_feed_15 rfl rfl ?_
    refine ev_iload_n (pc := 16) 1 dX12_feed_16 rfl rfl ?_
    obtain ⟨q2, hq2, h⟩ := bd h
    refine ev_cV0 (pc := 17) [vI p0] [] rfl mkX12_four ml12_112 mnX12_four dX12_feed_17 kd_801 (by omega) rfl (Nat.le_of_ble_eq_true rfl) (by omega) (e_X12_four (d := d - 1) (M' := q2) (by omega)  hq2) ?_
    refine ev_aload_n (pc := 20) 0 dX12_feed_20 rfl rfl ?_
    refine ev_iload_n (pc := 21) 2 dX12_feed_21 rfl rfl ?_
    obtain ⟨q3, hq3, h⟩ := bd h
    refine ev_cV0 (pc := 22) [vI p1] [] rfl mkX12_four ml12_112 mnX12_four dX12_feed_22 kd_801 (by omega) rfl (Nat.le_of_ble_eq_true rfl) (by omega) (e_X12_four (d := d - 1) (M' := q3) (by omega)  hq3) ?_
    refine ev_aload_n (pc := 25) 0 dX12_feed_25 rfl rfl ?_
    refine ev_iload_n (pc := 26) 3 dX12_feed_26 rfl rfl ?_
    obtain ⟨q4, hq4, h⟩ := bd h
    refine ev_cV0 (pc := 27) [vI p2] [] rfl mkX12_four ml12_112 mnX12_four dX12_feed_27 kd_801 (by omega) rfl (Nat.le_of_ble_eq_true rfl) (by omega) (e_X12_four (d := d - 1) (M' := q4) (by omega)  hq4) ?_
    refine ev_aload_n (pc := 30) 0 dX12_feed_30 rfl rfl ?_
    refine ev_iload (pc := 31) 4 dX12_feed_31 rfl ?_
    obtain ⟨q5, hq5, h⟩ := bd h
    refine ev_cV0 (pc := 33) [vI p3] [] rfl mkX12_four ml12_112 mnX12_four dX12_feed_33 kd_801 (by omega) rfl (Nat.le_of_ble_eq_true rfl) (by omega) (e_X12_four (d := d - 1) (M' := q5) (by omega)  hq5) ?_
    refine ev_aload_n (pc := 36) 0 dX12_feed_36 rfl rfl ?_
    refine ev_iload (pc := 37) 5 dX12_feed_37 rfl ?_
    obtain ⟨q6, hq6, h⟩ := bd h
    refine ev_cV0 (pc := 39) [vI p4] [] rfl mkX12_four ml12_112 mnX12_four dX12_feed_39 kd_801 (by omega) rfl (Nat.le_of_ble_eq_true rfl) (by omega) (e_X12_four (d := d - 1) (M' := q6) (by omega)  hq6) ?_
    refine ev_aload_n (pc := 42) 0 dX12_feed_42 rfl rfl ?_
    refine ev_getIr (pc := 43) fl12_109 rfl dX12_feed_43 rfl kd_801 (by omega) (by omega) 4 rfl ?_
    cases h
    exact ev_iret (pc := 46) dX12_feed_46 rfl
  · rw [if_neg b1] at h
    refine ev_iconst (pc := 13) (x := (-1)) dX12_feed_13 ci_m1 ?_
    cases h
    exact ev_iret (pc := 14) dX12_feed_14 rfl
def f_X12_end (p0 : Int) (M : Mem) : Int × Mem := if (f_X12_isIn p0 0 (M 801 4)) ≠ 0 then (lt (upM M 801 4 p0) fun M2 => (p0, M2)) else ((-1), M)
set_option maxRecDepth 100000 in
set_option maxHeartbeats 4000000 in
theorem e_X12_end {g : Gm} {d : Nat} {p0 : Int} {M N : Mem} {v : Int} {M' : Mem} (hd : 1 ≤ d) (h : f_X12_end p0 M = (v, M')) : EvM g d mtX12_end [vR 801, vI p0] (sg (mx N M)) (0, 0) (vI v) (sg (mx N M')) := by
  unfold f_X12_end at h
  refine EvM.of mkX12_end.2.2.2.1 (Nat.le_of_ble_eq_true rfl) ?_
  change Ev g d mtX12_end 0 [(0, vR 801), (1, vI p0)] [] (sg (mx N M)) (0, 0) (vI v) (sg (mx N M'))
  refine ev_iload_n (pc := 0) 1 dX12_end_0 rfl rfl ?_
  refine ev_iconst (pc := 1) (x := 0) dX12_end_1 ci_0 ?_
  refine ev_aload_n (pc := 2) 0 dX12_end_2 rfl rfl ?_
  refine ev_getIr (pc := 3) fl12_109 rfl dX12_end_3 rfl kd_801 (by omega) (by omega) 4 rfl ?_
  refine ev_cS (pc := 6) [vI p0, vI 0, vI (M 801 4)] [] rfl mkX12_isIn ml12_90 msX12_isIn dX12_end_6 rfl (Nat.le_of_ble_eq_true rfl) (by omega) rfl (e_X12_isIn (d := d - 1) (v := (f_X12_isIn p0 0 (M 801 4))) (by omega)  rfl) ?_
  refine ev_if_ne (pc := 9) (tgt := 14) dX12_end_9 (by decide) (fun b1 => ?_) (fun b1 => ?_)
  · rw [if_pos b1] at h
    refine ev_aload_n (pc := 14) 0 dX12_end_14 rfl rfl ?_
    refine ev_iload_n (pc := 15) 1 dX12_end_15 rfl rfl ?_
    obtain ⟨M2, eM2, h⟩ := lt_some h
    refine ev_putIr (pc := 16) fl12_109 rfl dX12_end_16 kd_801 (by omega) (by omega) eM2 ?_
    refine ev_iload_n (pc := 19) 1 dX12_end_19 rfl rfl ?_
    cases h
    exact ev_iret (pc := 20) dX12_end_20 rfl
  · rw [if_neg b1] at h
    refine ev_iconst (pc := 12) (x := (-1)) dX12_end_12 ci_m1 ?_
    cases h
    exact ev_iret (pc := 13) dX12_end_13 rfl
def f_X12_byteAt (p0 : Int) (M : Mem) : Option (Int) := if (M 801 4) ≤ p0 then (some (-1)) else (ck (0 ≤ p0 ∧ p0 < 300) (some (M 805 p0)))
set_option maxRecDepth 100000 in
set_option maxHeartbeats 4000000 in
theorem e_X12_byteAt {g : Gm} {d : Nat} {p0 : Int} {M N : Mem} {v : Int} (hd : 0 ≤ d) (h : f_X12_byteAt p0 M = some v) : EvM g d mtX12_byteAt [vR 801, vI p0] (sg (mx N M)) (0, 0) (vI v) (sg (mx N M)) := by
  unfold f_X12_byteAt at h
  refine EvM.of mkX12_byteAt.2.2.2.1 (Nat.le_of_ble_eq_true rfl) ?_
  change Ev g d mtX12_byteAt 0 [(0, vR 801), (1, vI p0)] [] (sg (mx N M)) (0, 0) (vI v) (sg (mx N M))
  refine ev_iload_n (pc := 0) 1 dX12_byteAt_0 rfl rfl ?_
  refine ev_aload_n (pc := 1) 0 dX12_byteAt_1 rfl rfl ?_
  refine ev_getIr (pc := 2) fl12_109 rfl dX12_byteAt_2 rfl kd_801 (by omega) (by omega) 4 rfl ?_
  refine ev_icmp_ge (pc := 5) (tgt := 17) dX12_byteAt_5 (by decide) (fun b1 => ?_) (fun b1 => ?_)
  · rw [if_pos b1] at h
    refine ev_iconst (pc := 17) (x := (-1)) dX12_byteAt_17 ci_m1 ?_
    cases h
    exact ev_iret (pc := 18) dX12_byteAt_18 rfl
  · rw [if_neg b1] at h
    refine ev_aload_n (pc := 8) 0 dX12_byteAt_8 rfl rfl ?_
    refine ev_getR (pc := 9) fl12_19 rfl dX12_byteAt_9 rfl kd_801 (by omega) (rf_801_3 _) ?_
    refine ev_iload_n (pc := 12) 1 dX12_byteAt_12 rfl rfl ?_
    obtain ⟨c2, h⟩ := ck_some h
    refine ev_ildr (pc := 13) dX12_byteAt_13 kd_805 (by omega) (by omega) c2.1 c2.2 ?_
    refine ev_goto (pc := 14) (tgt := 18) dX12_byteAt_14 (by decide) ?_
    cases h
    exact ev_iret (pc := 18) dX12_byteAt_18 rfl
def f_X12_isLetterByte_J12 (x0 : Int) : Int := if x0 < 65 then 0 else (if 90 < x0 then 0 else 1)
set_option maxRecDepth 100000 in
set_option maxHeartbeats 4000000 in
theorem e_X12_isLetterByte_J12 {g : Gm} {d : Nat} {x0 : Int} {M0 : Mem} {v : Int} (hd : 0 ≤ d) (h : f_X12_isLetterByte_J12 x0 = v) : Ev g d mtX12_isLetterByte 12 [(0, vI x0)] [] (sg M0) (0, 0) (vI v) (sg M0) := by
  unfold f_X12_isLetterByte_J12 at h
  refine ev_iload_n (pc := 12) 0 dX12_isLetterByte_12 rfl rfl ?_
  refine ev_bipush (pc := 13) (x := 65) dX12_isLetterByte_13 cb_65 ?_
  refine ev_icmp_lt (pc := 15) (tgt := 28) dX12_isLetterByte_15 (by decide) (fun b2 => ?_) (fun b2 => ?_)
  · rw [if_pos b2] at h
    refine ev_iconst (pc := 28) (x := 0) dX12_isLetterByte_28 ci_0 ?_
    cases h
    exact ev_zret (pc := 29) (Or.inl rfl) dX12_isLetterByte_29 rfl
  · rw [if_neg b2] at h
    refine ev_iload_n (pc := 18) 0 dX12_isLetterByte_18 rfl rfl ?_
    refine ev_bipush (pc := 19) (x := 90) dX12_isLetterByte_19 cb_90 ?_
    refine ev_icmp_gt (pc := 21) (tgt := 28) dX12_isLetterByte_21 (by decide) (fun b3 => ?_) (fun b3 => ?_)
    · rw [if_pos b3] at h
      refine ev_iconst (pc := 28) (x := 0) dX12_isLetterByte_28 ci_0 ?_
      cases h
      exact ev_zret (pc := 29) (Or.inl rfl) dX12_isLetterByte_29 rfl
    · rw [if_neg b3] at h
      refine ev_iconst (pc := 24) (x := 1) dX12_isLetterByte_24 ci_1 ?_
      refine ev_goto (pc := 25) (tgt := 29) dX12_isLetterByte_25 (by decide) ?_
      cases h
      exact ev_zret (pc := 29) (Or.inr rfl) dX12_isLetterByte_29 rfl
def f_X12_isLetterByte (p0 : Int) : Int := if p0 < 97 then (f_X12_isLetterByte_J12 p0) else (if p0 ≤ 122 then 1 else (f_X12_isLetterByte_J12 p0))
set_option maxRecDepth 100000 in
set_option maxHeartbeats 4000000 in
theorem e_X12_isLetterByte {g : Gm} {d : Nat} {p0 : Int} {M0 : Mem} {v : Int} (hd : 0 ≤ d) (h : f_X12_isLetterByte p0 = v) : EvM g d mtX12_isLetterByte [vI p0] (sg M0) (0, 0) (vI v) (sg M0) := by
  unfold f_X12_isLetterByte at h
  refine EvM.of mkX12_isLetterByte.2.2.2.1 (Nat.le_of_ble_eq_true rfl) ?_
  change Ev g d mtX12_isLetterByte 0 [(0, vI p0)] [] (sg M0) (0, 0) (vI v) (sg M0)
  refine ev_iload_n (pc := 0) 0 dX12_isLetterByte_0 rfl rfl ?_
  refine ev_bipush (pc := 1) (x := 97) dX12_isLetterByte_1 cb_97 ?_
  refine ev_icmp_lt (pc := 3) (tgt := 12) dX12_isLetterByte_3 (by decide) (fun b1 => ?_) (fun b1 => ?_)
  · rw [if_pos b1] at h
    refine ev_pick [0] rfl ?_
    exact e_X12_isLetterByte_J12 hd  h
  · rw [if_neg b1] at h
    refine ev_iload_n (pc := 6) 0 dX12_isLetterByte_6 rfl rfl ?_
    refine ev_bipush (pc := 7) (x := 122) dX12_isLetterByte_7 cb_122 ?_
    refine ev_icmp_le (pc := 9) (tgt := 24) dX12_isLetterByte_9 (by decide) (fun b4 => ?_) (fun b4 => ?_)
    · rw [if_pos b4] at h
      refine ev_iconst (pc := 24) (x := 1) dX12_isLetterByte_24 ci_1 ?_
      refine ev_goto (pc := 25) (tgt := 29) dX12_isLetterByte_25 (by decide) ?_
      cases h
      exact ev_zret (pc := 29) (Or.inr rfl) dX12_isLetterByte_29 rfl
    · rw [if_neg b4] at h
      refine ev_pick [0] rfl ?_
      exact e_X12_isLetterByte_J12 hd  h
theorem z_X12_isLetterByte (p0 : Int) : f_X12_isLetterByte p0 = 0 ∨ f_X12_isLetterByte p0 = 1 := by
  unfold f_X12_isLetterByte
  unfold f_X12_isLetterByte_J12
  repeat' split
  all_goals first | exact Or.inl rfl | exact Or.inr rfl
def f_X12_isFigure (p0 : Int) : Int := if p0 < 48 then 0 else (if 57 < p0 then 0 else 1)
set_option maxRecDepth 100000 in
set_option maxHeartbeats 4000000 in
theorem e_X12_isFigure {g : Gm} {d : Nat} {p0 : Int} {M0 : Mem} {v : Int} (hd : 0 ≤ d) (h : f_X12_isFigure p0 = v) : EvM g d mtX12_isFigure [vI p0] (sg M0) (0, 0) (vI v) (sg M0) := by
  unfold f_X12_isFigure at h
  refine EvM.of mkX12_isFigure.2.2.2.1 (Nat.le_of_ble_eq_true rfl) ?_
  change Ev g d mtX12_isFigure 0 [(0, vI p0)] [] (sg M0) (0, 0) (vI v) (sg M0)
  refine ev_iload_n (pc := 0) 0 dX12_isFigure_0 rfl rfl ?_
  refine ev_bipush (pc := 1) (x := 48) dX12_isFigure_1 cb_48 ?_
  refine ev_icmp_lt (pc := 3) (tgt := 16) dX12_isFigure_3 (by decide) (fun b1 => ?_) (fun b1 => ?_)
  · rw [if_pos b1] at h
    refine ev_iconst (pc := 16) (x := 0) dX12_isFigure_16 ci_0 ?_
    cases h
    exact ev_zret (pc := 17) (Or.inl rfl) dX12_isFigure_17 rfl
  · rw [if_neg b1] at h
    refine ev_iload_n (pc := 6) 0 dX12_isFigure_6 rfl rfl ?_
    refine ev_bipush (pc := 7) (x := 57) dX12_isFigure_7 cb_57 ?_
    refine ev_icmp_gt (pc := 9) (tgt := 16) dX12_isFigure_9 (by decide) (fun b2 => ?_) (fun b2 => ?_)
    · rw [if_pos b2] at h
      refine ev_iconst (pc := 16) (x := 0) dX12_isFigure_16 ci_0 ?_
      cases h
      exact ev_zret (pc := 17) (Or.inl rfl) dX12_isFigure_17 rfl
    · rw [if_neg b2] at h
      refine ev_iconst (pc := 12) (x := 1) dX12_isFigure_12 ci_1 ?_
      refine ev_goto (pc := 13) (tgt := 17) dX12_isFigure_13 (by decide) ?_
      cases h
      exact ev_zret (pc := 17) (Or.inr rfl) dX12_isFigure_17 rfl
theorem z_X12_isFigure (p0 : Int) : f_X12_isFigure p0 = 0 ∨ f_X12_isFigure p0 = 1 := by
  unfold f_X12_isFigure
  repeat' split
  all_goals first | exact Or.inl rfl | exact Or.inr rfl
def f_X12_isSign (p0 : Int) : Int := (if p0 = 35 then 1 else (if p0 = 40 then 1 else (if p0 = 41 then 1 else (if p0 = 42 then 1 else (if p0 = 43 then 1 else (if p0 = 44 then 1 else (if p0 = 45 then 1 else (if p0 = 47 then 1 else (if p0 = 59 then 1 else (if p0 = 60 then 1 else (if p0 = 61 then 1 else (if p0 = 62 then 1 else 0))))))))))))
set_option maxRecDepth 100000 in
set_option maxHeartbeats 4000000 in
theorem e_X12_isSign {g : Gm} {d : Nat} {p0 : Int} {M0 : Mem} {v : Int} (hd : 0 ≤ d) (h : f_X12_isSign p0 = v) : EvM g d mtX12_isSign [vI p0] (sg M0) (0, 0) (vI v) (sg M0) := by
  unfold f_X12_isSign at h
  refine EvM.of mkX12_isSign.2.2.2.1 (Nat.le_of_ble_eq_true rfl) ?_
  change Ev g d mtX12_isSign 0 [(0, vI p0)] [] (sg M0) (0, 0) (vI v) (sg M0)
  refine ev_iload_n (pc := 0) 0 dX12_isSign_0 rfl rfl ?_
  by_cases b1 : p0 = 35
  · rw [if_pos b1] at h
    refine ev_tswIn (pc := 1) (tgt := 128) dX12_isSign_1 (by omega) (by omega) (by rw [b1] <;> rfl) (by decide) ?_
    refine ev_iconst (pc := 128) (x := 1) dX12_isSign_128 ci_1 ?_
    cases h
    exact ev_zret (pc := 129) (Or.inr rfl) dX12_isSign_129 rfl
  · rw [if_neg b1] at h
    by_cases b2 : p0 = 40
    · rw [if_pos b2] at h
      refine ev_tswIn (pc := 1) (tgt := 128) dX12_isSign_1 (by omega) (by omega) (by rw [b2] <;> rfl) (by decide) ?_
      refine ev_iconst (pc := 128) (x := 1) dX12_isSign_128 ci_1 ?_
      cases h
      exact ev_zret (pc := 129) (Or.inr rfl) dX12_isSign_129 rfl
    · rw [if_neg b2] at h
      by_cases b3 : p0 = 41
      · rw [if_pos b3] at h
        refine ev_tswIn (pc := 1) (tgt := 128) dX12_isSign_1 (by omega) (by omega) (by rw [b3] <;> rfl) (by decide) ?_
        refine ev_iconst (pc := 128) (x := 1) dX12_isSign_128 ci_1 ?_
        cases h
        exact ev_zret (pc := 129) (Or.inr rfl) dX12_isSign_129 rfl
      · rw [if_neg b3] at h
        by_cases b4 : p0 = 42
        · rw [if_pos b4] at h
          refine ev_tswIn (pc := 1) (tgt := 128) dX12_isSign_1 (by omega) (by omega) (by rw [b4] <;> rfl) (by decide) ?_
          refine ev_iconst (pc := 128) (x := 1) dX12_isSign_128 ci_1 ?_
          cases h
          exact ev_zret (pc := 129) (Or.inr rfl) dX12_isSign_129 rfl
        · rw [if_neg b4] at h
          by_cases b5 : p0 = 43
          · rw [if_pos b5] at h
            refine ev_tswIn (pc := 1) (tgt := 128) dX12_isSign_1 (by omega) (by omega) (by rw [b5] <;> rfl) (by decide) ?_
            refine ev_iconst (pc := 128) (x := 1) dX12_isSign_128 ci_1 ?_
            cases h
            exact ev_zret (pc := 129) (Or.inr rfl) dX12_isSign_129 rfl
          · rw [if_neg b5] at h
            by_cases b6 : p0 = 44
            · rw [if_pos b6] at h
              refine ev_tswIn (pc := 1) (tgt := 128) dX12_isSign_1 (by omega) (by omega) (by rw [b6] <;> rfl) (by decide) ?_
              refine ev_iconst (pc := 128) (x := 1) dX12_isSign_128 ci_1 ?_
              cases h
              exact ev_zret (pc := 129) (Or.inr rfl) dX12_isSign_129 rfl
            · rw [if_neg b6] at h
              by_cases b7 : p0 = 45
              · rw [if_pos b7] at h
                refine ev_tswIn (pc := 1) (tgt := 128) dX12_isSign_1 (by omega) (by omega) (by rw [b7] <;> rfl) (by decide) ?_
                refine ev_iconst (pc := 128) (x := 1) dX12_isSign_128 ci_1 ?_
                cases h
                exact ev_zret (pc := 129) (Or.inr rfl) dX12_isSign_129 rfl
              · rw [if_neg b7] at h
                by_cases b8 : p0 = 47
                · rw [if_pos b8] at h
                  refine ev_tswIn (pc := 1) (tgt := 128) dX12_isSign_1 (by omega) (by omega) (by rw [b8] <;> rfl) (by decide) ?_
                  refine ev_iconst (pc := 128) (x := 1) dX12_isSign_128 ci_1 ?_
                  cases h
                  exact ev_zret (pc := 129) (Or.inr rfl) dX12_isSign_129 rfl
                · rw [if_neg b8] at h
                  by_cases b9 : p0 = 59
                  · rw [if_pos b9] at h
                    refine ev_tswIn (pc := 1) (tgt := 128) dX12_isSign_1 (by omega) (by omega) (by rw [b9] <;> rfl) (by decide) ?_
                    refine ev_iconst (pc := 128) (x := 1) dX12_isSign_128 ci_1 ?_
                    cases h
                    exact ev_zret (pc := 129) (Or.inr rfl) dX12_isSign_129 rfl
                  · rw [if_neg b9] at h
                    by_cases b10 : p0 = 60
                    · rw [if_pos b10] at h
                      refine ev_tswIn (pc := 1) (tgt := 128) dX12_isSign_1 (by omega) (by omega) (by rw [b10] <;> rfl) (by decide) ?_
                      refine ev_iconst (pc := 128) (x := 1) dX12_isSign_128 ci_1 ?_
                      cases h
                      exact ev_zret (pc := 129) (Or.inr rfl) dX12_isSign_129 rfl
                    · rw [if_neg b10] at h
                      by_cases b11 : p0 = 61
                      · rw [if_pos b11] at h
                        refine ev_tswIn (pc := 1) (tgt := 128) dX12_isSign_1 (by omega) (by omega) (by rw [b11] <;> rfl) (by decide) ?_
                        refine ev_iconst (pc := 128) (x := 1) dX12_isSign_128 ci_1 ?_
                        cases h
                        exact ev_zret (pc := 129) (Or.inr rfl) dX12_isSign_129 rfl
                      · rw [if_neg b11] at h
                        by_cases b12 : p0 = 62
                        · rw [if_pos b12] at h
                          refine ev_tswIn (pc := 1) (tgt := 128) dX12_isSign_1 (by omega) (by omega) (by rw [b12] <;> rfl) (by decide) ?_
                          refine ev_iconst (pc := 128) (x := 1) dX12_isSign_128 ci_1 ?_
                          cases h
                          exact ev_zret (pc := 129) (Or.inr rfl) dX12_isSign_129 rfl
                        · rw [if_neg b12] at h
                          have hD : Ev g d mtX12_isSign 130 [(0, vI p0)] [] (sg M0) (0, 0) (vI v) (sg M0) := by
                            refine ev_iconst (pc := 130) (x := 0) dX12_isSign_130 ci_0 ?_
                            cases h
                            exact ev_zret (pc := 131) (Or.inl rfl) dX12_isSign_131 rfl
                          by_cases b13 : p0 = 36
                          · exact ev_tswIn (pc := 1) (tgt := 130) dX12_isSign_1 (by omega) (by omega) (by rw [b13] <;> rfl) (by decide) hD
                          by_cases b14 : p0 = 37
                          · exact ev_tswIn (pc := 1) (tgt := 130) dX12_isSign_1 (by omega) (by omega) (by rw [b14] <;> rfl) (by decide) hD
                          by_cases b15 : p0 = 38
                          · exact ev_tswIn (pc := 1) (tgt := 130) dX12_isSign_1 (by omega) (by omega) (by rw [b15] <;> rfl) (by decide) hD
                          by_cases b16 : p0 = 39
                          · exact ev_tswIn (pc := 1) (tgt := 130) dX12_isSign_1 (by omega) (by omega) (by rw [b16] <;> rfl) (by decide) hD
                          by_cases b17 : p0 = 46
                          · exact ev_tswIn (pc := 1) (tgt := 130) dX12_isSign_1 (by omega) (by omega) (by rw [b17] <;> rfl) (by decide) hD
                          by_cases b18 : p0 = 48
                          · exact ev_tswIn (pc := 1) (tgt := 130) dX12_isSign_1 (by omega) (by omega) (by rw [b18] <;> rfl) (by decide) hD
                          by_cases b19 : p0 = 49
                          · exact ev_tswIn (pc := 1) (tgt := 130) dX12_isSign_1 (by omega) (by omega) (by rw [b19] <;> rfl) (by decide) hD
                          by_cases b20 : p0 = 50
                          · exact ev_tswIn (pc := 1) (tgt := 130) dX12_isSign_1 (by omega) (by omega) (by rw [b20] <;> rfl) (by decide) hD
                          by_cases b21 : p0 = 51
                          · exact ev_tswIn (pc := 1) (tgt := 130) dX12_isSign_1 (by omega) (by omega) (by rw [b21] <;> rfl) (by decide) hD
                          by_cases b22 : p0 = 52
                          · exact ev_tswIn (pc := 1) (tgt := 130) dX12_isSign_1 (by omega) (by omega) (by rw [b22] <;> rfl) (by decide) hD
                          by_cases b23 : p0 = 53
                          · exact ev_tswIn (pc := 1) (tgt := 130) dX12_isSign_1 (by omega) (by omega) (by rw [b23] <;> rfl) (by decide) hD
                          by_cases b24 : p0 = 54
                          · exact ev_tswIn (pc := 1) (tgt := 130) dX12_isSign_1 (by omega) (by omega) (by rw [b24] <;> rfl) (by decide) hD
                          by_cases b25 : p0 = 55
                          · exact ev_tswIn (pc := 1) (tgt := 130) dX12_isSign_1 (by omega) (by omega) (by rw [b25] <;> rfl) (by decide) hD
                          by_cases b26 : p0 = 56
                          · exact ev_tswIn (pc := 1) (tgt := 130) dX12_isSign_1 (by omega) (by omega) (by rw [b26] <;> rfl) (by decide) hD
                          by_cases b27 : p0 = 57
                          · exact ev_tswIn (pc := 1) (tgt := 130) dX12_isSign_1 (by omega) (by omega) (by rw [b27] <;> rfl) (by decide) hD
                          by_cases b28 : p0 = 58
                          · exact ev_tswIn (pc := 1) (tgt := 130) dX12_isSign_1 (by omega) (by omega) (by rw [b28] <;> rfl) (by decide) hD
                          exact ev_tswOut (pc := 1) (tgt := 130) dX12_isSign_1 (by omega) (by decide) hD
theorem z_X12_isSign (p0 : Int) : f_X12_isSign p0 = 0 ∨ f_X12_isSign p0 = 1 := by
  unfold f_X12_isSign
  repeat' split
  all_goals first | exact Or.inl rfl | exact Or.inr rfl
def f_X12_nextToken_L0 : Nat → Mem → Option (Mem)
  | 0, _ => none
  | n + 1, M => (f_X12_byteAt (M 801 7) M).bind fun q1 => if q1 = 32 then (lt (upM M 801 7 (wI ((M 801 7) + 1))) fun M3 => f_X12_nextToken_L0 n M3) else ((f_X12_byteAt (M 801 7) M).bind fun q4 => if q4 ≠ 10 then (some M) else (lt (upM M 801 7 (wI ((M 801 7) + 1))) fun M6 => f_X12_nextToken_L0 n M6))
set_option maxRecDepth 100000 in
set_option maxHeartbeats 4000000 in
theorem e_X12_nextToken_L0 {g : Gm} {d : Nat} {r : Vv} {σ' : Sg} {N : Mem} (hd : 1 ≤ d) : ∀ (n : Nat) {M : Mem} {q : Mem}, f_X12_nextToken_L0 n M = some q → Ev g d mtX12_nextToken 39 [(0, vR 801)] [] (sg (mx N q)) (0, 0) r σ' → Ev g d mtX12_nextToken 0 [(0, vR 801)] [] (sg (mx N M)) (0, 0) r σ' := by
  intro n
  induction n with
  | zero =>
    intro M q h hk0
    rw [f_X12_nextToken_L0.eq_1] at h
    cases h
  | succ n ih =>
    intro M q h hk0
    rw [f_X12_nextToken_L0.eq_2] at h
    refine ev_aload_n (pc := 0) 0 dX12_nextToken_0 rfl rfl ?_
    refine ev_aload_n (pc := 1) 0 dX12_nextToken_1 rfl rfl ?_
    refine ev_getIr (pc := 2) fl12_116 rfl dX12_nextToken_2 rfl kd_801 (by omega) (by omega) 7 rfl ?_
    obtain ⟨q1, hq1, h⟩ := bd h
    refine ev_cV (pc := 5) [vI (M 801 7)] [] rfl mkX12_byteAt ml12_119 mnX12_byteAt dX12_nextToken_5 kd_801 (by omega) rfl (Nat.le_of_ble_eq_true rfl) (by omega) rfl (e_X12_byteAt (d := d - 1) (v := q1) (by omega)  hq1) ?_
    refine ev_bipush (pc := 8) (x := 32) dX12_nextToken_8 cb_32 ?_
    refine ev_icmp_eq (pc := 10) (tgt := 26) dX12_nextToken_10 (by decide) (fun b2 => ?_) (fun b2 => ?_)
    · rw [if_pos b2] at h
      refine ev_aload_n (pc := 26) 0 dX12_nextToken_26 rfl rfl ?_
      refine ev_dup (pc := 27) rfl dX12_nextToken_27 ?_
      refine ev_getIr (pc := 28) fl12_116 rfl dX12_nextToken_28 rfl kd_801 (by omega) (by omega) 7 rfl ?_
      refine ev_iconst (pc := 31) (x := 1) dX12_nextToken_31 ci_1 ?_
      refine ev_iadd (pc := 32) dX12_nextToken_32 ?_
      obtain ⟨M3, eM3, h⟩ := lt_some h
      refine ev_putIr (pc := 33) fl12_116 rfl dX12_nextToken_33 kd_801 (by omega) (by omega) eM3 ?_
      refine ev_goto (pc := 36) (tgt := 0) dX12_nextToken_36 (by decide) ?_
      refine ev_pick [0] rfl ?_
      exact ih h hk0
    · rw [if_neg b2] at h
      refine ev_aload_n (pc := 13) 0 dX12_nextToken_13 rfl rfl ?_
      refine ev_aload_n (pc := 14) 0 dX12_nextToken_14 rfl rfl ?_
      refine ev_getIr (pc := 15) fl12_116 rfl dX12_nextToken_15 rfl kd_801 (by omega) (by omega) 7 rfl ?_
      obtain ⟨q4, hq4, h⟩ := bd h
      refine ev_cV (pc := 18) [vI (M 801 7)] [] rfl mkX12_byteAt ml12_119 mnX12_byteAt dX12_nextToken_18 kd_801 (by omega) rfl (Nat.le_of_ble_eq_true rfl) (by omega) rfl (e_X12_byteAt (d := d - 1) (v := q4) (by omega)  hq4) ?_
      refine ev_bipush (pc := 21) (x := 10) dX12_nextToken_21 cb_10 ?_
      refine ev_icmp_ne (pc := 23) (tgt := 39) dX12_nextToken_23 (by decide) (fun b5 => ?_) (fun b5 => ?_)
      · rw [if_pos b5] at h
        cases h
        refine ev_pick [0] rfl ?_
        exact hk0
      · rw [if_neg b5] at h
        refine ev_aload_n (pc := 26) 0 dX12_nextToken_26 rfl rfl ?_
        refine ev_dup (pc := 27) rfl dX12_nextToken_27 ?_
        refine ev_getIr (pc := 28) fl12_116 rfl dX12_nextToken_28 rfl kd_801 (by omega) (by omega) 7 rfl ?_
        refine ev_iconst (pc := 31) (x := 1) dX12_nextToken_31 ci_1 ?_
        refine ev_iadd (pc := 32) dX12_nextToken_32 ?_
        obtain ⟨M6, eM6, h⟩ := lt_some h
        refine ev_putIr (pc := 33) fl12_116 rfl dX12_nextToken_33 kd_801 (by omega) (by omega) eM6 ?_
        refine ev_goto (pc := 36) (tgt := 0) dX12_nextToken_36 (by decide) ?_
        refine ev_pick [0] rfl ?_
        exact ih h hk0
def f_X12_nextToken_J272 (n : Nat) (x1 : Int) (M : Mem) : Option (Mem) := (f_X12_byteAt (M 801 7) M).bind fun q17 => if q17 ≠ 61 then (some M) else (if x1 ≠ 60 then (lt (upM M 801 9 5) fun M20 => lt (upM M20 801 7 (wI ((M20 801 7) + 1))) fun M21 => some M21) else (lt (upM M 801 9 4) fun M22 => lt (upM M22 801 7 (wI ((M22 801 7) + 1))) fun M23 => some M23))
set_option maxRecDepth 100000 in
set_option maxHeartbeats 4000000 in
theorem e_X12_nextToken_J272 {g : Gm} {d : Nat} {n : Nat} {x1 : Int} {M N : Mem} {M' : Mem} (hd : 1 ≤ d) (h : f_X12_nextToken_J272 n x1 M = some M') : Ev g d mtX12_nextToken 272 [(0, vR 801), (1, vI x1)] [] (sg (mx N M)) (0, 0) vN (sg (mx N M')) := by
  unfold f_X12_nextToken_J272 at h
  refine ev_aload_n (pc := 272) 0 dX12_nextToken_272 rfl rfl ?_
  refine ev_aload_n (pc := 273) 0 dX12_nextToken_273 rfl rfl ?_
  refine ev_getIr (pc := 274) fl12_116 rfl dX12_nextToken_274 rfl kd_801 (by omega) (by omega) 7 rfl ?_
  obtain ⟨q17, hq17, h⟩ := bd h
  refine ev_cV (pc := 277) [vI (M 801 7)] [] rfl mkX12_byteAt ml12_119 mnX12_byteAt dX12_nextToken_277 kd_801 (by omega) rfl (Nat.le_of_ble_eq_true rfl) (by omega) rfl (e_X12_byteAt (d := d - 1) (v := q17) (by omega)  hq17) ?_
  refine ev_bipush (pc := 280) (x := 61) dX12_nextToken_280 cb_61 ?_
  refine ev_icmp_ne (pc := 282) (tgt := 310) dX12_nextToken_282 (by decide) (fun b18 => ?_) (fun b18 => ?_)
  · rw [if_pos b18] at h
    cases h
    exact ev_vret (pc := 310) dX12_nextToken_310 rfl
  · rw [if_neg b18] at h
    refine ev_aload_n (pc := 285) 0 dX12_nextToken_285 rfl rfl ?_
    refine ev_iload_n (pc := 286) 1 dX12_nextToken_286 rfl rfl ?_
    refine ev_bipush (pc := 287) (x := 60) dX12_nextToken_287 cb_60 ?_
    refine ev_icmp_ne (pc := 289) (tgt := 296) dX12_nextToken_289 (by decide) (fun b19 => ?_) (fun b19 => ?_)
    · rw [if_pos b19] at h
      refine ev_iconst (pc := 296) (x := 5) dX12_nextToken_296 ci_5 ?_
      obtain ⟨M20, eM20, h⟩ := lt_some h
      refine ev_putIr (pc := 297) fl12_126 rfl dX12_nextToken_297 kd_801 (by omega) (by omega) eM20 ?_
      refine ev_aload_n (pc := 300) 0 dX12_nextToken_300 rfl rfl ?_
      refine ev_dup (pc := 301) rfl dX12_nextToken_301 ?_
      refine ev_getIr (pc := 302) fl12_116 rfl dX12_nextToken_302 rfl kd_801 (by omega) (by omega) 7 rfl ?_
      refine ev_iconst (pc := 305) (x := 1) dX12_nextToken_305 ci_1 ?_
      refine ev_iadd (pc := 306) dX12_nextToken_306 ?_
      obtain ⟨M21, eM21, h⟩ := lt_some h
      refine ev_putIr (pc := 307) fl12_116 rfl dX12_nextToken_307 kd_801 (by omega) (by omega) eM21 ?_
      cases h
      exact ev_vret (pc := 310) dX12_nextToken_310 rfl
    · rw [if_neg b19] at h
      refine ev_iconst (pc := 292) (x := 4) dX12_nextToken_292 ci_4 ?_
      refine ev_goto (pc := 293) (tgt := 297) dX12_nextToken_293 (by decide) ?_
      obtain ⟨M22, eM22, h⟩ := lt_some h
      refine ev_putIr (pc := 297) fl12_126 rfl dX12_nextToken_297 kd_801 (by omega) (by omega) eM22 ?_
      refine ev_aload_n (pc := 300) 0 dX12_nextToken_300 rfl rfl ?_
      refine ev_dup (pc := 301) rfl dX12_nextToken_301 ?_
      refine ev_getIr (pc := 302) fl12_116 rfl dX12_nextToken_302 rfl kd_801 (by omega) (by omega) 7 rfl ?_
      refine ev_iconst (pc := 305) (x := 1) dX12_nextToken_305 ci_1 ?_
      refine ev_iadd (pc := 306) dX12_nextToken_306 ?_
      obtain ⟨M23, eM23, h⟩ := lt_some h
      refine ev_putIr (pc := 307) fl12_116 rfl dX12_nextToken_307 kd_801 (by omega) (by omega) eM23 ?_
      cases h
      exact ev_vret (pc := 310) dX12_nextToken_310 rfl
def f_X12_nextToken_J247 (n : Nat) (x1 s1 : Int) (M : Mem) : Option (Mem) := lt (upM M 801 9 s1) fun M14 => lt (upM M14 801 7 (wI ((M14 801 7) + 1))) fun M15 => if x1 = 60 then (f_X12_nextToken_J272 n x1 M15) else (if x1 ≠ 62 then (some M15) else (f_X12_nextToken_J272 n x1 M15))
set_option maxRecDepth 100000 in
set_option maxHeartbeats 4000000 in
theorem e_X12_nextToken_J247 {g : Gm} {d : Nat} {n : Nat} {x1 s1 : Int} {M N : Mem} {M' : Mem} (hd : 1 ≤ d) (h : f_X12_nextToken_J247 n x1 s1 M = some M') : Ev g d mtX12_nextToken 247 [(0, vR 801), (1, vI x1)] [vI s1, vR 801] (sg (mx N M)) (0, 0) vN (sg (mx N M')) := by
  unfold f_X12_nextToken_J247 at h
  obtain ⟨M14, eM14, h⟩ := lt_some h
  refine ev_putIr (pc := 247) fl12_126 rfl dX12_nextToken_247 kd_801 (by omega) (by omega) eM14 ?_
  refine ev_aload_n (pc := 250) 0 dX12_nextToken_250 rfl rfl ?_
  refine ev_dup (pc := 251) rfl dX12_nextToken_251 ?_
  refine ev_getIr (pc := 252) fl12_116 rfl dX12_nextToken_252 rfl kd_801 (by omega) (by omega) 7 rfl ?_
  refine ev_iconst (pc := 255) (x := 1) dX12_nextToken_255 ci_1 ?_
  refine ev_iadd (pc := 256) dX12_nextToken_256 ?_
  obtain ⟨M15, eM15, h⟩ := lt_some h
  refine ev_putIr (pc := 257) fl12_116 rfl dX12_nextToken_257 kd_801 (by omega) (by omega) eM15 ?_
  refine ev_iload_n (pc := 260) 1 dX12_nextToken_260 rfl rfl ?_
  refine ev_bipush (pc := 261) (x := 60) dX12_nextToken_261 cb_60 ?_
  refine ev_icmp_eq (pc := 263) (tgt := 272) dX12_nextToken_263 (by decide) (fun b16 => ?_) (fun b16 => ?_)
  · rw [if_pos b16] at h
    refine ev_pick [0, 1] rfl ?_
    exact e_X12_nextToken_J272 hd  h
  · rw [if_neg b16] at h
    refine ev_iload_n (pc := 266) 1 dX12_nextToken_266 rfl rfl ?_
    refine ev_bipush (pc := 267) (x := 62) dX12_nextToken_267 cb_62 ?_
    refine ev_icmp_ne (pc := 269) (tgt := 310) dX12_nextToken_269 (by decide) (fun b24 => ?_) (fun b24 => ?_)
    · rw [if_pos b24] at h
      cases h
      exact ev_vret (pc := 310) dX12_nextToken_310 rfl
    · rw [if_neg b24] at h
      refine ev_pick [0, 1] rfl ?_
      exact e_X12_nextToken_J272 hd  h
def f_X12_nextToken_L168_J218 (n : Nat) (K : Mem → Option (Mem)) (s1 : Int) (M : Mem) : Option (Mem) := lt (upM M 801 11 s1) fun M31 => lt (upM M31 801 7 (wI ((M31 801 7) + 1))) fun M32 => K M32
set_option maxRecDepth 100000 in
set_option maxHeartbeats 4000000 in
theorem e_X12_nextToken_L168_J218 {g : Gm} {d : Nat} {n : Nat} {K : Mem → Option (Mem)} {s1 : Int} {M N : Mem} {q : Mem} {r : Vv} {σ' : Sg} (hd : 1 ≤ d) (hK : ∀ {M : Mem}, K M = some q → Ev g d mtX12_nextToken 168 [(0, vR 801)] [] (sg (mx N M)) (0, 0) r σ') (hk0 : Ev g d mtX12_nextToken 310 [] [] (sg (mx N q)) (0, 0) r σ') (h : f_X12_nextToken_L168_J218 n K s1 M = some q) : Ev g d mtX12_nextToken 218 [(0, vR 801)] [vL s1, vR 801] (sg (mx N M)) (0, 0) r σ' := by
  unfold f_X12_nextToken_L168_J218 at h
  obtain ⟨M31, eM31, h⟩ := lt_some h
  refine ev_putJr (pc := 218) fl12_139 rfl dX12_nextToken_218 kd_801 (by omega) (by omega) eM31 ?_
  refine ev_aload_n (pc := 221) 0 dX12_nextToken_221 rfl rfl ?_
  refine ev_dup (pc := 222) rfl dX12_nextToken_222 ?_
  refine ev_getIr (pc := 223) fl12_116 rfl dX12_nextToken_223 rfl kd_801 (by omega) (by omega) 7 rfl ?_
  refine ev_iconst (pc := 226) (x := 1) dX12_nextToken_226 ci_1 ?_
  refine ev_iadd (pc := 227) dX12_nextToken_227 ?_
  obtain ⟨M32, eM32, h⟩ := lt_some h
  refine ev_putIr (pc := 228) fl12_116 rfl dX12_nextToken_228 kd_801 (by omega) (by omega) eM32 ?_
  refine ev_goto (pc := 231) (tgt := 168) dX12_nextToken_231 (by decide) ?_
  refine ev_pick [0] rfl ?_
  exact hK h
def f_X12_nextToken_L168 : Nat → Mem → Option (Mem)
  | 0, _ => none
  | n + 1, M => (f_X12_byteAt (M 801 7) M).bind fun q27 => if (f_X12_isLetterByte q27) = 0 then (some M) else (if (lCmp (lShr (M 801 11) 48) 0) = 0 then ((f_X12_byteAt (M 801 7) M).bind fun q30 => f_X12_nextToken_L168_J218 n (fun M => f_X12_nextToken_L168 n M) (lOr (lShl (M 801 11) 8) q30) M) else (f_X12_nextToken_L168_J218 n (fun M => f_X12_nextToken_L168 n M) 1152921504606846976 M))
set_option maxRecDepth 100000 in
set_option maxHeartbeats 4000000 in
theorem e_X12_nextToken_L168 {g : Gm} {d : Nat} {r : Vv} {σ' : Sg} {N : Mem} (hd : 1 ≤ d) : ∀ (n : Nat) {M : Mem} {q : Mem}, f_X12_nextToken_L168 n M = some q → Ev g d mtX12_nextToken 310 [] [] (sg (mx N q)) (0, 0) r σ' → Ev g d mtX12_nextToken 168 [(0, vR 801)] [] (sg (mx N M)) (0, 0) r σ' := by
  intro n
  induction n with
  | zero =>
    intro M q h hk0
    rw [f_X12_nextToken_L168.eq_1] at h
    cases h
  | succ n ih =>
    intro M q h hk0
    rw [f_X12_nextToken_L168.eq_2] at h
    refine ev_aload_n (pc := 168) 0 dX12_nextToken_168 rfl rfl ?_
    refine ev_aload_n (pc := 169) 0 dX12_nextToken_169 rfl rfl ?_
    refine ev_getIr (pc := 170) fl12_116 rfl dX12_nextToken_170 rfl kd_801 (by omega) (by omega) 7 rfl ?_
    obtain ⟨q27, hq27, h⟩ := bd h
    refine ev_cV (pc := 173) [vI (M 801 7)] [] rfl mkX12_byteAt ml12_119 mnX12_byteAt dX12_nextToken_173 kd_801 (by omega) rfl (Nat.le_of_ble_eq_true rfl) (by omega) rfl (e_X12_byteAt (d := d - 1) (v := q27) (by omega)  hq27) ?_
    refine ev_cS (pc := 176) [vI q27] [] rfl mkX12_isLetterByte ml12_136 msX12_isLetterByte dX12_nextToken_176 rfl (Nat.le_of_ble_eq_true rfl) (by omega) rfl (e_X12_isLetterByte (d := d - 1) (v := (f_X12_isLetterByte q27)) (by omega)  rfl) ?_
    refine ev_if_eq (pc := 179) (tgt := 310) dX12_nextToken_179 (by decide) (fun b28 => ?_) (fun b28 => ?_)
    · rw [if_pos b28] at h
      cases h
      refine ev_pick [] rfl ?_
      exact hk0
    · rw [if_neg b28] at h
      refine ev_aload_n (pc := 182) 0 dX12_nextToken_182 rfl rfl ?_
      refine ev_aload_n (pc := 183) 0 dX12_nextToken_183 rfl rfl ?_
      refine ev_getJr (pc := 184) fl12_139 rfl dX12_nextToken_184 rfl kd_801 (by omega) (by omega) 11 rfl ?_
      refine ev_bipush (pc := 187) (x := 48) dX12_nextToken_187 cb_48 ?_
      refine ev_lshr (pc := 189) dX12_nextToken_189 ?_
      refine ev_lconst (pc := 190) (x := 0) dX12_nextToken_190 cl_0 ?_
      refine ev_lcmp (pc := 191) dX12_nextToken_191 ?_
      refine ev_if_eq (pc := 192) (tgt := 201) dX12_nextToken_192 (by decide) (fun b29 => ?_) (fun b29 => ?_)
      · rw [if_pos b29] at h
        refine ev_aload_n (pc := 201) 0 dX12_nextToken_201 rfl rfl ?_
        refine ev_getJr (pc := 202) fl12_139 rfl dX12_nextToken_202 rfl kd_801 (by omega) (by omega) 11 rfl ?_
        refine ev_bipush (pc := 205) (x := 8) dX12_nextToken_205 cb_8 ?_
        refine ev_lshl (pc := 207) dX12_nextToken_207 ?_
        refine ev_aload_n (pc := 208) 0 dX12_nextToken_208 rfl rfl ?_
        refine ev_aload_n (pc := 209) 0 dX12_nextToken_209 rfl rfl ?_
        refine ev_getIr (pc := 210) fl12_116 rfl dX12_nextToken_210 rfl kd_801 (by omega) (by omega) 7 rfl ?_
        obtain ⟨q30, hq30, h⟩ := bd h
        refine ev_cV (pc := 213) [vI (M 801 7)] [vL (lShl (M 801 11) 8), vR 801] rfl mkX12_byteAt ml12_119 mnX12_byteAt dX12_nextToken_213 kd_801 (by omega) rfl (Nat.le_of_ble_eq_true rfl) (by omega) rfl (e_X12_byteAt (d := d - 1) (v := q30) (by omega)  hq30) ?_
        refine ev_i2l (pc := 216) dX12_nextToken_216 ?_
        refine ev_lor (pc := 217) dX12_nextToken_217 ?_
        refine ev_pick [0] rfl ?_
        exact e_X12_nextToken_L168_J218 hd  (fun h9 => ih h9 hk0) hk0 h
      · rw [if_neg b29] at h
        refine ev_ldc2 (pc := 195) (x := 1152921504606846976) rfl kc12_143 cj_1152921504606846976 dX12_nextToken_195 ?_
        refine ev_goto (pc := 198) (tgt := 218) dX12_nextToken_198 (by decide) ?_
        refine ev_pick [0] rfl ?_
        exact e_X12_nextToken_L168_J218 hd  (fun h9 => ih h9 hk0) hk0 h
def f_X12_nextToken_L85_J135 (n : Nat) (K : Mem → Option (Mem)) (s1 : Int) (M : Mem) : Option (Mem) := lt (upM M 801 10 s1) fun M40 => lt (upM M40 801 7 (wI ((M40 801 7) + 1))) fun M41 => K M41
set_option maxRecDepth 100000 in
set_option maxHeartbeats 4000000 in
theorem e_X12_nextToken_L85_J135 {g : Gm} {d : Nat} {n : Nat} {K : Mem → Option (Mem)} {s1 : Int} {M N : Mem} {q : Mem} {r : Vv} {σ' : Sg} (hd : 1 ≤ d) (hK : ∀ {M : Mem}, K M = some q → Ev g d mtX12_nextToken 85 [(0, vR 801)] [] (sg (mx N M)) (0, 0) r σ') (hk0 : Ev g d mtX12_nextToken 310 [] [] (sg (mx N q)) (0, 0) r σ') (h : f_X12_nextToken_L85_J135 n K s1 M = some q) : Ev g d mtX12_nextToken 135 [(0, vR 801)] [vI s1, vR 801] (sg (mx N M)) (0, 0) r σ' := by
  unfold f_X12_nextToken_L85_J135 at h
  obtain ⟨M40, eM40, h⟩ := lt_some h
  refine ev_putIr (pc := 135) fl12_132 rfl dX12_nextToken_135 kd_801 (by omega) (by omega) eM40 ?_
  refine ev_aload_n (pc := 138) 0 dX12_nextToken_138 rfl rfl ?_
  refine ev_dup (pc := 139) rfl dX12_nextToken_139 ?_
  refine ev_getIr (pc := 140) fl12_116 rfl dX12_nextToken_140 rfl kd_801 (by omega) (by omega) 7 rfl ?_
  refine ev_iconst (pc := 143) (x := 1) dX12_nextToken_143 ci_1 ?_
  refine ev_iadd (pc := 144) dX12_nextToken_144 ?_
  obtain ⟨M41, eM41, h⟩ := lt_some h
  refine ev_putIr (pc := 145) fl12_116 rfl dX12_nextToken_145 kd_801 (by omega) (by omega) eM41 ?_
  refine ev_goto (pc := 148) (tgt := 85) dX12_nextToken_148 (by decide) ?_
  refine ev_pick [0] rfl ?_
  exact hK h
def f_X12_nextToken_L85 : Nat → Mem → Option (Mem)
  | 0, _ => none
  | n + 1, M => (f_X12_byteAt (M 801 7) M).bind fun q36 => if (f_X12_isFigure q36) = 0 then (some M) else (if (M 801 10) ≤ 99999 then ((f_X12_byteAt (M 801 7) M).bind fun q39 => f_X12_nextToken_L85_J135 n (fun M => f_X12_nextToken_L85 n M) (wI ((wI ((wI (10 * (M 801 10))) + q39)) - 48)) M) else (f_X12_nextToken_L85_J135 n (fun M => f_X12_nextToken_L85 n M) (M 801 10) M))
set_option maxRecDepth 100000 in
set_option maxHeartbeats 4000000 in
theorem e_X12_nextToken_L85 {g : Gm} {d : Nat} {r : Vv} {σ' : Sg} {N : Mem} (hd : 1 ≤ d) : ∀ (n : Nat) {M : Mem} {q : Mem}, f_X12_nextToken_L85 n M = some q → Ev g d mtX12_nextToken 310 [] [] (sg (mx N q)) (0, 0) r σ' → Ev g d mtX12_nextToken 85 [(0, vR 801)] [] (sg (mx N M)) (0, 0) r σ' := by
  intro n
  induction n with
  | zero =>
    intro M q h hk0
    rw [f_X12_nextToken_L85.eq_1] at h
    cases h
  | succ n ih =>
    intro M q h hk0
    rw [f_X12_nextToken_L85.eq_2] at h
    refine ev_aload_n (pc := 85) 0 dX12_nextToken_85 rfl rfl ?_
    refine ev_aload_n (pc := 86) 0 dX12_nextToken_86 rfl rfl ?_
    refine ev_getIr (pc := 87) fl12_116 rfl dX12_nextToken_87 rfl kd_801 (by omega) (by omega) 7 rfl ?_
    obtain ⟨q36, hq36, h⟩ := bd h
    refine ev_cV (pc := 90) [vI (M 801 7)] [] rfl mkX12_byteAt ml12_119 mnX12_byteAt dX12_nextToken_90 kd_801 (by omega) rfl (Nat.le_of_ble_eq_true rfl) (by omega) rfl (e_X12_byteAt (d := d - 1) (v := q36) (by omega)  hq36) ?_
    refine ev_cS (pc := 93) [vI q36] [] rfl mkX12_isFigure ml12_129 msX12_isFigure dX12_nextToken_93 rfl (Nat.le_of_ble_eq_true rfl) (by omega) rfl (e_X12_isFigure (d := d - 1) (v := (f_X12_isFigure q36)) (by omega)  rfl) ?_
    refine ev_if_eq (pc := 96) (tgt := 310) dX12_nextToken_96 (by decide) (fun b37 => ?_) (fun b37 => ?_)
    · rw [if_pos b37] at h
      cases h
      refine ev_pick [] rfl ?_
      exact hk0
    · rw [if_neg b37] at h
      refine ev_aload_n (pc := 99) 0 dX12_nextToken_99 rfl rfl ?_
      refine ev_aload_n (pc := 100) 0 dX12_nextToken_100 rfl rfl ?_
      refine ev_getIr (pc := 101) fl12_132 rfl dX12_nextToken_101 rfl kd_801 (by omega) (by omega) 10 rfl ?_
      refine ev_ldc (pc := 104) (x := 99999) rfl kc12_135 cc_99999 dX12_nextToken_104 ?_
      refine ev_icmp_le (pc := 106) (tgt := 116) dX12_nextToken_106 (by decide) (fun b38 => ?_) (fun b38 => ?_)
      · rw [if_pos b38] at h
        refine ev_bipush (pc := 116) (x := 10) dX12_nextToken_116 cb_10 ?_
        refine ev_aload_n (pc := 118) 0 dX12_nextToken_118 rfl rfl ?_
        refine ev_getIr (pc := 119) fl12_132 rfl dX12_nextToken_119 rfl kd_801 (by omega) (by omega) 10 rfl ?_
        refine ev_imul (pc := 122) dX12_nextToken_122 ?_
        refine ev_aload_n (pc := 123) 0 dX12_nextToken_123 rfl rfl ?_
        refine ev_aload_n (pc := 124) 0 dX12_nextToken_124 rfl rfl ?_
        refine ev_getIr (pc := 125) fl12_116 rfl dX12_nextToken_125 rfl kd_801 (by omega) (by omega) 7 rfl ?_
        obtain ⟨q39, hq39, h⟩ := bd h
        refine ev_cV (pc := 128) [vI (M 801 7)] [vI (wI (10 * (M 801 10))), vR 801] rfl mkX12_byteAt ml12_119 mnX12_byteAt dX12_nextToken_128 kd_801 (by omega) rfl (Nat.le_of_ble_eq_true rfl) (by omega) rfl (e_X12_byteAt (d := d - 1) (v := q39) (by omega)  hq39) ?_
        refine ev_iadd (pc := 131) dX12_nextToken_131 ?_
        refine ev_bipush (pc := 132) (x := 48) dX12_nextToken_132 cb_48 ?_
        refine ev_isub (pc := 134) dX12_nextToken_134 ?_
        refine ev_pick [0] rfl ?_
        exact e_X12_nextToken_L85_J135 hd  (fun h9 => ih h9 hk0) hk0 h
      · rw [if_neg b38] at h
        refine ev_aload_n (pc := 109) 0 dX12_nextToken_109 rfl rfl ?_
        refine ev_getIr (pc := 110) fl12_132 rfl dX12_nextToken_110 rfl kd_801 (by omega) (by omega) 10 rfl ?_
        refine ev_goto (pc := 113) (tgt := 135) dX12_nextToken_113 (by decide) ?_
        refine ev_pick [0] rfl ?_
        exact e_X12_nextToken_L85_J135 hd  (fun h9 => ih h9 hk0) hk0 h
def f_X12_nextToken (n : Nat) (M : Mem) : Option (Mem) := (f_X12_nextToken_L0 n M).bind fun q7 => lt (upM q7 801 8 (q7 801 7)) fun M8 => (f_X12_byteAt (M8 801 7) M8).bind fun q9 => if 0 ≤ q9 then (if (f_X12_isFigure q9) = 0 then (if (f_X12_isLetterByte q9) = 0 then (if (f_X12_isSign q9) = 0 then (f_X12_nextToken_J247 n q9 3 M8) else (f_X12_nextToken_J247 n q9 q9 M8)) else (lt (upM M8 801 9 2) fun M25 => lt (upM M25 801 11 0) fun M26 => (f_X12_nextToken_L168 n M26).bind fun q33 => some q33)) else (lt (upM M8 801 9 1) fun M34 => lt (upM M34 801 10 0) fun M35 => (f_X12_nextToken_L85 n M35).bind fun q42 => some q42)) else (lt (upM M8 801 9 0) fun M43 => some M43)
set_option maxRecDepth 100000 in
set_option maxHeartbeats 4000000 in
theorem e_X12_nextToken {g : Gm} {d : Nat} {n : Nat} {M N : Mem} {M' : Mem} (hd : 1 ≤ d) (h : f_X12_nextToken n M = some M') : EvM g d mtX12_nextToken [vR 801] (sg (mx N M)) (0, 0) vN (sg (mx N M')) := by
  unfold f_X12_nextToken at h
  refine EvM.of mkX12_nextToken.2.2.2.1 (Nat.le_of_ble_eq_true rfl) ?_
  change Ev g d mtX12_nextToken 0 [(0, vR 801)] [] (sg (mx N M)) (0, 0) vN (sg (mx N M'))
  obtain ⟨q7, hq7, h⟩ := bd h
  refine ev_pick [0] rfl ?_
  refine e_X12_nextToken_L0 hd  n hq7 ?_
  refine ev_aload_n (pc := 39) 0 dX12_nextToken_39 rfl rfl ?_
  refine ev_aload_n (pc := 40) 0 dX12_nextToken_40 rfl rfl ?_
  refine ev_getIr (pc := 41) fl12_116 rfl dX12_nextToken_41 rfl kd_801 (by omega) (by omega) 7 rfl ?_
  obtain ⟨M8, eM8, h⟩ := lt_some h
  refine ev_putIr (pc := 44) fl12_123 rfl dX12_nextToken_44 kd_801 (by omega) (by omega) eM8 ?_
  refine ev_aload_n (pc := 47) 0 dX12_nextToken_47 rfl rfl ?_
  refine ev_aload_n (pc := 48) 0 dX12_nextToken_48 rfl rfl ?_
  refine ev_getIr (pc := 49) fl12_116 rfl dX12_nextToken_49 rfl kd_801 (by omega) (by omega) 7 rfl ?_
  obtain ⟨q9, hq9, h⟩ := bd h
  refine ev_cV (pc := 52) [vI (M8 801 7)] [] rfl mkX12_byteAt ml12_119 mnX12_byteAt dX12_nextToken_52 kd_801 (by omega) rfl (Nat.le_of_ble_eq_true rfl) (by omega) rfl (e_X12_byteAt (d := d - 1) (v := q9) (by omega)  hq9) ?_
  refine ev_istore_n (pc := 55) (il' := [(1, vI q9), (0, vR 801)]) dX12_nextToken_55 rfl (Nat.le_of_ble_eq_true rfl) rfl ?_
  refine ev_iload_n (pc := 56) 0 dX12_nextToken_56 rfl rfl ?_
  refine ev_if_ge (pc := 57) (tgt := 68) dX12_nextToken_57 (by decide) (fun b10 => ?_) (fun b10 => ?_)
  · rw [if_pos b10] at h
    refine ev_iload_n (pc := 68) 0 dX12_nextToken_68 rfl rfl ?_
    refine ev_cS (pc := 69) [vI q9] [] rfl mkX12_isFigure ml12_129 msX12_isFigure dX12_nextToken_69 rfl (Nat.le_of_ble_eq_true rfl) (by omega) rfl (e_X12_isFigure (d := d - 1) (v := (f_X12_isFigure q9)) (by omega)  rfl) ?_
    refine ev_if_eq (pc := 72) (tgt := 151) dX12_nextToken_72 (by decide) (fun b11 => ?_) (fun b11 => ?_)
    · rw [if_pos b11] at h
      refine ev_iload_n (pc := 151) 0 dX12_nextToken_151 rfl rfl ?_
      refine ev_cS (pc := 152) [vI q9] [] rfl mkX12_isLetterByte ml12_136 msX12_isLetterByte dX12_nextToken_152 rfl (Nat.le_of_ble_eq_true rfl) (by omega) rfl (e_X12_isLetterByte (d := d - 1) (v := (f_X12_isLetterByte q9)) (by omega)  rfl) ?_
      refine ev_if_eq (pc := 155) (tgt := 234) dX12_nextToken_155 (by decide) (fun b12 => ?_) (fun b12 => ?_)
      · rw [if_pos b12] at h
        refine ev_aload_n (pc := 234) 1 dX12_nextToken_234 rfl rfl ?_
        refine ev_iload_n (pc := 235) 0 dX12_nextToken_235 rfl rfl ?_
        refine ev_cS (pc := 236) [vI q9] [vR 801] rfl mkX12_isSign ml12_145 msX12_isSign dX12_nextToken_236 rfl (Nat.le_of_ble_eq_true rfl) (by omega) rfl (e_X12_isSign (d := d - 1) (v := (f_X12_isSign q9)) (by omega)  rfl) ?_
        refine ev_if_eq (pc := 239) (tgt := 246) dX12_nextToken_239 (by decide) (fun b13 => ?_) (fun b13 => ?_)
        · rw [if_pos b13] at h
          refine ev_iconst (pc := 246) (x := 3) dX12_nextToken_246 ci_3 ?_
          refine ev_pick [1, 0] rfl ?_
          exact e_X12_nextToken_J247 hd  h
        · rw [if_neg b13] at h
          refine ev_iload_n (pc := 242) 0 dX12_nextToken_242 rfl rfl ?_
          refine ev_goto (pc := 243) (tgt := 247) dX12_nextToken_243 (by decide) ?_
          refine ev_pick [1, 0] rfl ?_
          exact e_X12_nextToken_J247 hd  h
      · rw [if_neg b12] at h
        refine ev_aload_n (pc := 158) 1 dX12_nextToken_158 rfl rfl ?_
        refine ev_iconst (pc := 159) (x := 2) dX12_nextToken_159 ci_2 ?_
        obtain ⟨M25, eM25, h⟩ := lt_some h
        refine ev_putIr (pc := 160) fl12_126 rfl dX12_nextToken_160 kd_801 (by omega) (by omega) eM25 ?_
        refine ev_aload_n (pc := 163) 1 dX12_nextToken_163 rfl rfl ?_
        refine ev_lconst (pc := 164) (x := 0) dX12_nextToken_164 cl_0 ?_
        obtain ⟨M26, eM26, h⟩ := lt_some h
        refine ev_putJr (pc := 165) fl12_139 rfl dX12_nextToken_165 kd_801 (by omega) (by omega) eM26 ?_
        obtain ⟨q33, hq33, h⟩ := bd h
        refine ev_pick [1] rfl ?_
        refine e_X12_nextToken_L168 hd  n hq33 ?_
        cases h
        exact ev_vret (pc := 310) dX12_nextToken_310 rfl
    · rw [if_neg b11] at h
      refine ev_aload_n (pc := 75) 1 dX12_nextToken_75 rfl rfl ?_
      refine ev_iconst (pc := 76) (x := 1) dX12_nextToken_76 ci_1 ?_
      obtain ⟨M34, eM34, h⟩ := lt_some h
      refine ev_putIr (pc := 77) fl12_126 rfl dX12_nextToken_77 kd_801 (by omega) (by omega) eM34 ?_
      refine ev_aload_n (pc := 80) 1 dX12_nextToken_80 rfl rfl ?_
      refine ev_iconst (pc := 81) (x := 0) dX12_nextToken_81 ci_0 ?_
      obtain ⟨M35, eM35, h⟩ := lt_some h
      refine ev_putIr (pc := 82) fl12_132 rfl dX12_nextToken_82 kd_801 (by omega) (by omega) eM35 ?_
      obtain ⟨q42, hq42, h⟩ := bd h
      refine ev_pick [1] rfl ?_
      refine e_X12_nextToken_L85 hd  n hq42 ?_
      cases h
      exact ev_vret (pc := 310) dX12_nextToken_310 rfl
  · rw [if_neg b10] at h
    refine ev_aload_n (pc := 60) 1 dX12_nextToken_60 rfl rfl ?_
    refine ev_iconst (pc := 61) (x := 0) dX12_nextToken_61 ci_0 ?_
    obtain ⟨M43, eM43, h⟩ := lt_some h
    refine ev_putIr (pc := 62) fl12_126 rfl dX12_nextToken_62 kd_801 (by omega) (by omega) eM43 ?_
    refine ev_goto (pc := 65) (tgt := 310) dX12_nextToken_65 (by decide) ?_
    cases h
    exact ev_vret (pc := 310) dX12_nextToken_310 rfl
def f_X12_w2 (p0 p1 : Int) : Int := (lOr (lShl p0 8) p1)
set_option maxRecDepth 100000 in
set_option maxHeartbeats 4000000 in
theorem e_X12_w2 {g : Gm} {d : Nat} {p0 p1 : Int} {M0 : Mem} {v : Int} (hd : 0 ≤ d) (h : f_X12_w2 p0 p1 = v) : EvM g d mtX12_w2 [vI p0, vI p1] (sg M0) (0, 0) (vL v) (sg M0) := by
  unfold f_X12_w2 at h
  refine EvM.of mkX12_w2.2.2.2.1 (Nat.le_of_ble_eq_true rfl) ?_
  change Ev g d mtX12_w2 0 [(0, vI p0), (1, vI p1)] [] (sg M0) (0, 0) (vL v) (sg M0)
  refine ev_iload_n (pc := 0) 0 dX12_w2_0 rfl rfl ?_
  refine ev_i2l (pc := 1) dX12_w2_1 ?_
  refine ev_bipush (pc := 2) (x := 8) dX12_w2_2 cb_8 ?_
  refine ev_lshl (pc := 4) dX12_w2_4 ?_
  refine ev_iload_n (pc := 5) 1 dX12_w2_5 rfl rfl ?_
  refine ev_i2l (pc := 6) dX12_w2_6 ?_
  refine ev_lor (pc := 7) dX12_w2_7 ?_
  cases h
  exact ev_lret (pc := 8) dX12_w2_8 rfl
def f_X12_w3 (p0 p1 p2 : Int) : Int := (lOr (lShl (f_X12_w2 p0 p1) 8) p2)
set_option maxRecDepth 100000 in
set_option maxHeartbeats 4000000 in
theorem e_X12_w3 {g : Gm} {d : Nat} {p0 p1 p2 : Int} {M0 : Mem} {v : Int} (hd : 1 ≤ d) (h : f_X12_w3 p0 p1 p2 = v) : EvM g d mtX12_w3 [vI p0, vI p1, vI p2] (sg M0) (0, 0) (vL v) (sg M0) := by
  unfold f_X12_w3 at h
  refine EvM.of mkX12_w3.2.2.2.1 (Nat.le_of_ble_eq_true rfl) ?_
  change Ev g d mtX12_w3 0 [(0, vI p0), (1, vI p1), (2, vI p2)] [] (sg M0) (0, 0) (vL v) (sg M0)
  refine ev_iload_n (pc := 0) 0 dX12_w3_0 rfl rfl ?_
  refine ev_iload_n (pc := 1) 1 dX12_w3_1 rfl rfl ?_
  refine ev_cS (pc := 2) [vI p0, vI p1] [] rfl mkX12_w2 ml12_148 msX12_w2 dX12_w3_2 rfl (Nat.le_of_ble_eq_true rfl) (by omega) rfl (e_X12_w2 (d := d - 1) (v := (f_X12_w2 p0 p1)) (by omega)  rfl) ?_
  refine ev_bipush (pc := 5) (x := 8) dX12_w3_5 cb_8 ?_
  refine ev_lshl (pc := 7) dX12_w3_7 ?_
  refine ev_iload_n (pc := 8) 2 dX12_w3_8 rfl rfl ?_
  refine ev_i2l (pc := 9) dX12_w3_9 ?_
  refine ev_lor (pc := 10) dX12_w3_10 ?_
  cases h
  exact ev_lret (pc := 11) dX12_w3_11 rfl
def f_X12_w4 (p0 p1 p2 p3 : Int) : Int := (lOr (lShl (f_X12_w3 p0 p1 p2) 8) p3)
set_option maxRecDepth 100000 in
set_option maxHeartbeats 4000000 in
theorem e_X12_w4 {g : Gm} {d : Nat} {p0 p1 p2 p3 : Int} {M0 : Mem} {v : Int} (hd : 2 ≤ d) (h : f_X12_w4 p0 p1 p2 p3 = v) : EvM g d mtX12_w4 [vI p0, vI p1, vI p2, vI p3] (sg M0) (0, 0) (vL v) (sg M0) := by
  unfold f_X12_w4 at h
  refine EvM.of mkX12_w4.2.2.2.1 (Nat.le_of_ble_eq_true rfl) ?_
  change Ev g d mtX12_w4 0 [(0, vI p0), (1, vI p1), (2, vI p2), (3, vI p3)] [] (sg M0) (0, 0) (vL v) (sg M0)
  refine ev_iload_n (pc := 0) 0 dX12_w4_0 rfl rfl ?_
  refine ev_iload_n (pc := 1) 1 dX12_w4_1 rfl rfl ?_
  refine ev_iload_n (pc := 2) 2 dX12_w4_2 rfl rfl ?_
  refine ev_cS (pc := 3) [vI p0, vI p1, vI p2] [] rfl mkX12_w3 ml12_152 msX12_w3 dX12_w4_3 rfl (Nat.le_of_ble_eq_true rfl) (by omega) rfl (e_X12_w3 (d := d - 1) (v := (f_X12_w3 p0 p1 p2)) (by omega)  rfl) ?_
  refine ev_bipush (pc := 6) (x := 8) dX12_w4_6 cb_8 ?_
  refine ev_lshl (pc := 8) dX12_w4_8 ?_
  refine ev_iload_n (pc := 9) 3 dX12_w4_9 rfl rfl ?_
  refine ev_i2l (pc := 10) dX12_w4_10 ?_
  refine ev_lor (pc := 11) dX12_w4_11 ?_
  cases h
  exact ev_lret (pc := 12) dX12_w4_12 rfl
def f_X12_w5 (p0 p1 p2 p3 p4 : Int) : Int := (lOr (lShl (f_X12_w4 p0 p1 p2 p3) 8) p4)
set_option maxRecDepth 100000 in
set_option maxHeartbeats 4000000 in
theorem e_X12_w5 {g : Gm} {d : Nat} {p0 p1 p2 p3 p4 : Int} {M0 : Mem} {v : Int} (hd : 3 ≤ d) (h : f_X12_w5 p0 p1 p2 p3 p4 = v) : EvM g d mtX12_w5 [vI p0, vI p1, vI p2, vI p3, vI p4] (sg M0) (0, 0) (vL v) (sg M0) := by
  unfold f_X12_w5 at h
  refine EvM.of mkX12_w5.2.2.2.1 (Nat.le_of_ble_eq_true rfl) ?_
  change Ev g d mtX12_w5 0 [(0, vI p0), (1, vI p1), (2, vI p2), (3, vI p3), (4, vI p4)] [] (sg M0) (0, 0) (vL v) (sg M0)
  refine ev_iload_n (pc := 0) 0 dX12_w5_0 rfl rfl ?_
  refine ev_iload_n (pc := 1) 1 dX12_w5_1 rfl rfl ?_
  refine ev_iload_n (pc := 2) 2 dX12_w5_2 rfl rfl ?_
  refine ev_iload_n (pc := 3) 3 dX12_w5_3 rfl rfl ?_
  refine ev_cS (pc := 4) [vI p0, vI p1, vI p2, vI p3] [] rfl mkX12_w4 ml12_156 msX12_w4 dX12_w5_4 rfl (Nat.le_of_ble_eq_true rfl) (by omega) rfl (e_X12_w4 (d := d - 1) (v := (f_X12_w4 p0 p1 p2 p3)) (by omega)  rfl) ?_
  refine ev_bipush (pc := 7) (x := 8) dX12_w5_7 cb_8 ?_
  refine ev_lshl (pc := 9) dX12_w5_9 ?_
  refine ev_iload (pc := 10) 4 dX12_w5_10 rfl ?_
  refine ev_i2l (pc := 12) dX12_w5_12 ?_
  refine ev_lor (pc := 13) dX12_w5_13 ?_
  cases h
  exact ev_lret (pc := 14) dX12_w5_14 rfl
def f_X12_w6 (p0 p1 p2 p3 p4 p5 : Int) : Int := (lOr (lShl (f_X12_w5 p0 p1 p2 p3 p4) 8) p5)
set_option maxRecDepth 100000 in
set_option maxHeartbeats 4000000 in
theorem e_X12_w6 {g : Gm} {d : Nat} {p0 p1 p2 p3 p4 p5 : Int} {M0 : Mem} {v : Int} (hd : 4 ≤ d) (h : f_X12_w6 p0 p1 p2 p3 p4 p5 = v) : EvM g d mtX12_w6 [vI p0, vI p1, vI p2, vI p3, vI p4, vI p5] (sg M0) (0, 0) (vL v) (sg M0) := by
  unfold f_X12_w6 at h
  refine EvM.of mkX12_w6.2.2.2.1 (Nat.le_of_ble_eq_true rfl) ?_
  change Ev g d mtX12_w6 0 [(0, vI p0), (1, vI p1), (2, vI p2), (3, vI p3), (4, vI p4), (5, vI p5)] [] (sg M0) (0, 0) (vL v) (sg M0)
  refine ev_iload_n (pc := 0) 0 dX12_w6_0 rfl rfl ?_
  refine ev_iload_n (pc := 1) 1 dX12_w6_1 rfl rfl ?_
  refine ev_iload_n (pc := 2) 2 dX12_w6_2 rfl rfl ?_
  refine ev_iload_n (pc := 3) 3 dX12_w6_3 rfl rfl ?_
  refine ev_iload (pc := 4) 4 dX12_w6_4 rfl ?_
  refine ev_cS (pc := 6) [vI p0, vI p1, vI p2, vI p3, vI p4] [] rfl mkX12_w5 ml12_160 msX12_w5 dX12_w6_6 rfl (Nat.le_of_ble_eq_true rfl) (by omega) rfl (e_X12_w5 (d := d - 1) (v := (f_X12_w5 p0 p1 p2 p3 p4)) (by omega)  rfl) ?_
  refine ev_bipush (pc := 9) (x := 8) dX12_w6_9 cb_8 ?_
  refine ev_lshl (pc := 11) dX12_w6_11 ?_
  refine ev_iload (pc := 12) 5 dX12_w6_12 rfl ?_
  refine ev_i2l (pc := 14) dX12_w6_14 ?_
  refine ev_lor (pc := 15) dX12_w6_15 ?_
  cases h
  exact ev_lret (pc := 16) dX12_w6_16 rfl
def f_X12_isWord (p0 : Int) (M : Mem) : Int := if (M 801 9) ≠ 2 then 0 else (if (lCmp (M 801 11) p0) ≠ 0 then 0 else 1)
set_option maxRecDepth 100000 in
set_option maxHeartbeats 4000000 in
theorem e_X12_isWord {g : Gm} {d : Nat} {p0 : Int} {M N : Mem} {v : Int} (hd : 0 ≤ d) (h : f_X12_isWord p0 M = v) : EvM g d mtX12_isWord [vR 801, vL p0] (sg (mx N M)) (0, 0) (vI v) (sg (mx N M)) := by
  unfold f_X12_isWord at h
  refine EvM.of mkX12_isWord.2.2.2.1 (Nat.le_of_ble_eq_true rfl) ?_
  change Ev g d mtX12_isWord 0 [(0, vR 801), (1, vL p0)] [] (sg (mx N M)) (0, 0) (vI v) (sg (mx N M))
  refine ev_aload_n (pc := 0) 0 dX12_isWord_0 rfl rfl ?_
  refine ev_getIr (pc := 1) fl12_126 rfl dX12_isWord_1 rfl kd_801 (by omega) (by omega) 9 rfl ?_
  refine ev_iconst (pc := 4) (x := 2) dX12_isWord_4 ci_2 ?_
  refine ev_icmp_ne (pc := 5) (tgt := 21) dX12_isWord_5 (by decide) (fun b1 => ?_) (fun b1 => ?_)
  · rw [if_pos b1] at h
    refine ev_iconst (pc := 21) (x := 0) dX12_isWord_21 ci_0 ?_
    cases h
    exact ev_zret (pc := 22) (Or.inl rfl) dX12_isWord_22 rfl
  · rw [if_neg b1] at h
    refine ev_aload_n (pc := 8) 0 dX12_isWord_8 rfl rfl ?_
    refine ev_getJr (pc := 9) fl12_139 rfl dX12_isWord_9 rfl kd_801 (by omega) (by omega) 11 rfl ?_
    refine ev_lload_n (pc := 12) 1 dX12_isWord_12 rfl rfl ?_
    refine ev_lcmp (pc := 13) dX12_isWord_13 ?_
    refine ev_if_ne (pc := 14) (tgt := 21) dX12_isWord_14 (by decide) (fun b2 => ?_) (fun b2 => ?_)
    · rw [if_pos b2] at h
      refine ev_iconst (pc := 21) (x := 0) dX12_isWord_21 ci_0 ?_
      cases h
      exact ev_zret (pc := 22) (Or.inl rfl) dX12_isWord_22 rfl
    · rw [if_neg b2] at h
      refine ev_iconst (pc := 17) (x := 1) dX12_isWord_17 ci_1 ?_
      refine ev_goto (pc := 18) (tgt := 22) dX12_isWord_18 (by decide) ?_
      cases h
      exact ev_zret (pc := 22) (Or.inr rfl) dX12_isWord_22 rfl
theorem z_X12_isWord (p0 : Int) (M : Mem) : f_X12_isWord p0 M = 0 ∨ f_X12_isWord p0 M = 1 := by
  unfold f_X12_isWord
  repeat' split
  all_goals first | exact Or.inl rfl | exact Or.inr rfl
def f_X12_emit (p0 p1 : Int) (M : Mem) : Option (Mem) := ck (0 ≤ (wI ((wI ((M 801 12) + 121)) + (wI (2 * (M 801 13))))) ∧ (wI ((wI ((M 801 12) + 121)) + (wI (2 * (M 801 13))))) < 2916) (lt (upM M 804 (wI ((wI ((M 801 12) + 121)) + (wI (2 * (M 801 13))))) p0) fun M2 => ck (0 ≤ (wI ((wI ((wI ((M2 801 12) + 121)) + (wI (2 * (M2 801 13))))) + 1)) ∧ (wI ((wI ((wI ((M2 801 12) + 121)) + (wI (2 * (M2 801 13))))) + 1)) < 2916) (lt (upM M2 804 (wI ((wI ((wI ((M2 801 12) + 121)) + (wI (2 * (M2 801 13))))) + 1)) p1) fun M4 => lt (upM M4 801 13 (wI ((M4 801 13) + 1))) fun M5 => some M5))
set_option maxRecDepth 100000 in
set_option maxHeartbeats 4000000 in
theorem e_X12_emit {g : Gm} {d : Nat} {p0 p1 : Int} {M N : Mem} {M' : Mem} (hd : 0 ≤ d) (h : f_X12_emit p0 p1 M = some M') : EvM g d mtX12_emit [vR 801, vI p0, vI p1] (sg (mx N M)) (0, 0) vN (sg (mx N M')) := by
  unfold f_X12_emit at h
  refine EvM.of mkX12_emit.2.2.2.1 (Nat.le_of_ble_eq_true rfl) ?_
  change Ev g d mtX12_emit 0 [(0, vR 801), (1, vI p0), (2, vI p1)] [] (sg (mx N M)) (0, 0) vN (sg (mx N M'))
  refine ev_aload_n (pc := 0) 0 dX12_emit_0 rfl rfl ?_
  refine ev_getR (pc := 1) fl12_16 rfl dX12_emit_1 rfl kd_801 (by omega) (rf_801_2 _) ?_
  refine ev_aload_n (pc := 4) 0 dX12_emit_4 rfl rfl ?_
  refine ev_getIr (pc := 5) fl12_164 rfl dX12_emit_5 rfl kd_801 (by omega) (by omega) 12 rfl ?_
  refine ev_bipush (pc := 8) (x := 121) dX12_emit_8 cb_121 ?_
  refine ev_iadd (pc := 10) dX12_emit_10 ?_
  refine ev_iconst (pc := 11) (x := 2) dX12_emit_11 ci_2 ?_
  refine ev_aload_n (pc := 12) 0 dX12_emit_12 rfl rfl ?_
  refine ev_getIr (pc := 13) fl12_167 rfl dX12_emit_13 rfl kd_801 (by omega) (by omega) 13 rfl ?_
  refine ev_imul (pc := 16) dX12_emit_16 ?_
  refine ev_iadd (pc := 17) dX12_emit_17 ?_
  refine ev_iload_n (pc := 18) 1 dX12_emit_18 rfl rfl ?_
  obtain ⟨c1, h⟩ := ck_some h
  obtain ⟨M2, eM2, h⟩ := lt_some h
  refine ev_istr (pc := 19) dX12_emit_19 kd_804 (by omega) (by omega) c1.1 c1.2 eM2 ?_
  refine ev_aload_n (pc := 20) 0 dX12_emit_20 rfl rfl ?_
  refine ev_getR (pc := 21) fl12_16 rfl dX12_emit_21 rfl kd_801 (by omega) (rf_801_2 _) ?_
  refine ev_aload_n (pc := 24) 0 dX12_emit_24 rfl rfl ?_
  refine ev_getIr (pc := 25) fl12_164 rfl dX12_emit_25 rfl kd_801 (by omega) (by omega) 12 rfl ?_
  refine ev_bipush (pc := 28) (x := 121) dX12_emit_28 cb_121 ?_
  refine ev_iadd (pc := 30) dX12_emit_30 ?_
  refine ev_iconst (pc := 31) (x := 2) dX12_emit_31 ci_2 ?_
  refine ev_aload_n (pc := 32) 0 dX12_emit_32 rfl rfl ?_
  refine ev_getIr (pc := 33) fl12_167 rfl dX12_emit_33 rfl kd_801 (by omega) (by omega) 13 rfl ?_
  refine ev_imul (pc := 36) dX12_emit_36 ?_
  refine ev_iadd (pc := 37) dX12_emit_37 ?_
  refine ev_iconst (pc := 38) (x := 1) dX12_emit_38 ci_1 ?_
  refine ev_iadd (pc := 39) dX12_emit_39 ?_
  refine ev_iload_n (pc := 40) 2 dX12_emit_40 rfl rfl ?_
  obtain ⟨c3, h⟩ := ck_some h
  obtain ⟨M4, eM4, h⟩ := lt_some h
  refine ev_istr (pc := 41) dX12_emit_41 kd_804 (by omega) (by omega) c3.1 c3.2 eM4 ?_
  refine ev_aload_n (pc := 42) 0 dX12_emit_42 rfl rfl ?_
  refine ev_dup (pc := 43) rfl dX12_emit_43 ?_
  refine ev_getIr (pc := 44) fl12_167 rfl dX12_emit_44 rfl kd_801 (by omega) (by omega) 13 rfl ?_
  refine ev_iconst (pc := 47) (x := 1) dX12_emit_47 ci_1 ?_
  refine ev_iadd (pc := 48) dX12_emit_48 ?_
  obtain ⟨M5, eM5, h⟩ := lt_some h
  refine ev_putIr (pc := 49) fl12_167 rfl dX12_emit_49 kd_801 (by omega) (by omega) eM5 ?_
  cases h
  exact ev_vret (pc := 52) dX12_emit_52 rfl
def f_X12_nameOf (M : Mem) : Int := if (M 801 9) = 2 then (if (lCmp (M 801 11) (f_X12_w4 104 111 117 114)) ≠ 0 then (if (lCmp (M 801 11) (f_X12_w4 115 116 101 112)) ≠ 0 then (if (lCmp (M 801 11) (f_X12_w4 104 105 103 104)) ≠ 0 then (if (lCmp (M 801 11) (f_X12_w4 115 105 108 108)) ≠ 0 then (if (lCmp (M 801 11) (f_X12_w5 119 97 116 101 114)) ≠ 0 then (if (lCmp (M 801 11) (f_X12_w4 102 105 115 104)) ≠ 0 then (if (lCmp (M 801 11) (f_X12_w4 119 111 114 110)) ≠ 0 then (if (lCmp (M 801 11) (f_X12_w6 119 101 105 103 104 116)) ≠ 0 then (if (lCmp (M 801 11) (f_X12_w5 111 116 104 101 114)) ≠ 0 then (-1) else 8) else 7) else 6) else 5) else 4) else 3) else 2) else 1) else 0) else (-1)
set_option maxRecDepth 100000 in
set_option maxHeartbeats 4000000 in
theorem e_X12_nameOf {g : Gm} {d : Nat} {M N : Mem} {v : Int} (hd : 5 ≤ d) (h : f_X12_nameOf M = v) : EvM g d mtX12_nameOf [vR 801] (sg (mx N M)) (0, 0) (vI v) (sg (mx N M)) := by
  unfold f_X12_nameOf at h
  refine EvM.of mkX12_nameOf.2.2.2.1 (Nat.le_of_ble_eq_true rfl) ?_
  change Ev g d mtX12_nameOf 0 [(0, vR 801)] [] (sg (mx N M)) (0, 0) (vI v) (sg (mx N M))
  refine ev_aload_n (pc := 0) 0 dX12_nameOf_0 rfl rfl ?_
  refine ev_getIr (pc := 1) fl12_126 rfl dX12_nameOf_1 rfl kd_801 (by omega) (by omega) 9 rfl ?_
  refine ev_iconst (pc := 4) (x := 2) dX12_nameOf_4 ci_2 ?_
  refine ev_icmp_eq (pc := 5) (tgt := 10) dX12_nameOf_5 (by decide) (fun b1 => ?_) (fun b1 => ?_)
  · rw [if_pos b1] at h
    refine ev_aload_n (pc := 10) 0 dX12_nameOf_10 rfl rfl ?_
    refine ev_getJr (pc := 11) fl12_139 rfl dX12_nameOf_11 rfl kd_801 (by omega) (by omega) 11 rfl ?_
    refine ev_bipush (pc := 14) (x := 104) dX12_nameOf_14 cb_104 ?_
    refine ev_bipush (pc := 16) (x := 111) dX12_nameOf_16 cb_111 ?_
    refine ev_bipush (pc := 18) (x := 117) dX12_nameOf_18 cb_117 ?_
    refine ev_bipush (pc := 20) (x := 114) dX12_nameOf_20 cb_114 ?_
    refine ev_cS (pc := 22) [vI 104, vI 111, vI 117, vI 114] [vL (M 801 11)] rfl mkX12_w4 ml12_156 msX12_w4 dX12_nameOf_22 rfl (Nat.le_of_ble_eq_true rfl) (by omega) rfl (e_X12_w4 (d := d - 1) (v := (f_X12_w4 104 111 117 114)) (by omega)  rfl) ?_
    refine ev_lcmp (pc := 25) dX12_nameOf_25 ?_
    refine ev_if_ne (pc := 26) (tgt := 31) dX12_nameOf_26 (by decide) (fun b2 => ?_) (fun b2 => ?_)
    · rw [if_pos b2] at h
      refine ev_aload_n (pc := 31) 0 dX12_nameOf_31 rfl rfl ?_
      refine ev_getJr (pc := 32) fl12_139 rfl dX12_nameOf_32 rfl kd_801 (by omega) (by omega) 11 rfl ?_
      refine ev_bipush (pc := 35) (x := 115) dX12_nameOf_35 cb_115 ?_
      refine ev_bipush (pc := 37) (x := 116) dX12_nameOf_37 cb_116 ?_
      refine ev_bipush (pc := 39) (x := 101) dX12_nameOf_39 cb_101 ?_
      refine ev_bipush (pc := 41) (x := 112) dX12_nameOf_41 cb_112 ?_
      refine ev_cS (pc := 43) [vI 115, vI 116, vI 101, vI 112] [vL (M 801 11)] rfl mkX12_w4 ml12_156 msX12_w4 dX12_nameOf_43 rfl (Nat.le_of_ble_eq_true rfl) (by omega) rfl (e_X12_w4 (d := d - 1) (v := (f_X12_w4 115 116 101 112)) (by omega)  rfl) ?_
      refine ev_lcmp (pc := 46) dX12_nameOf_46 ?_
      refine ev_if_ne (pc := 47) (tgt := 52) dX12_nameOf_47 (by decide) (fun b3 => ?_) (fun b3 => ?_)
      · rw [if_pos b3] at h
        refine ev_aload_n (pc := 52) 0 dX12_nameOf_52 rfl rfl ?_
        refine ev_getJr (pc := 53) fl12_139 rfl dX12_nameOf_53 rfl kd_801 (by omega) (by omega) 11 rfl ?_
        refine ev_bipush (pc := 56) (x := 104) dX12_nameOf_56 cb_104 ?_
        refine ev_bipush (pc := 58) (x := 105) dX12_nameOf_58 cb_105 ?_
        refine ev_bipush (pc := 60) (x := 103) dX12_nameOf_60 cb_103 ?_
        refine ev_bipush (pc := 62) (x := 104) dX12_nameOf_62 cb_104 ?_
        refine ev_cS (pc := 64) [vI 104, vI 105, vI 103, vI 104] [vL (M 801 11)] rfl mkX12_w4 ml12_156 msX12_w4 dX12_nameOf_64 rfl (Nat.le_of_ble_eq_true rfl) (by omega) rfl (e_X12_w4 (d := d - 1) (v := (f_X12_w4 104 105 103 104)) (by omega)  rfl) ?_
        refine ev_lcmp (pc := 67) dX12_nameOf_67 ?_
        refine ev_if_ne (pc := 68) (tgt := 73) dX12_nameOf_68 (by decide) (fun b4 => ?_) (fun b4 => ?_)
        · rw [if_pos b4] at h
          refine ev_aload_n (pc := 73) 0 dX12_nameOf_73 rfl rfl ?_
          refine ev_getJr (pc := 74) fl12_139 rfl dX12_nameOf_74 rfl kd_801 (by omega) (by omega) 11 rfl ?_
          refine ev_bipush (pc := 77) (x := 115) dX12_nameOf_77 cb_115 ?_
          refine ev_bipush (pc := 79) (x := 105) dX12_nameOf_79 cb_105 ?_
          refine ev_bipush (pc := 81) (x := 108) dX12_nameOf_81 cb_108 ?_
          refine ev_bipush (pc := 83) (x := 108) dX12_nameOf_83 cb_108 ?_
          refine ev_cS (pc := 85) [vI 115, vI 105, vI 108, vI 108] [vL (M 801 11)] rfl mkX12_w4 ml12_156 msX12_w4 dX12_nameOf_85 rfl (Nat.le_of_ble_eq_true rfl) (by omega) rfl (e_X12_w4 (d := d - 1) (v := (f_X12_w4 115 105 108 108)) (by omega)  rfl) ?_
          refine ev_lcmp (pc := 88) dX12_nameOf_88 ?_
          refine ev_if_ne (pc := 89) (tgt := 94) dX12_nameOf_89 (by decide) (fun b5 => ?_) (fun b5 => ?_)
          · rw [if_pos b5] at h
            refine ev_aload_n (pc := 94) 0 dX12_nameOf_94 rfl rfl ?_
            refine ev_getJr (pc := 95) fl12_139 rfl dX12_nameOf_95 rfl kd_801 (by omega) (by omega) 11 rfl ?_
            refine ev_bipush (pc := 98) (x := 119) dX12_nameOf_98 cb_119 ?_
            refine ev_bipush (pc := 100) (x := 97) dX12_nameOf_100 cb_97 ?_
            refine ev_bipush (pc := 102) (x := 116) dX12_nameOf_102 cb_116 ?_
            refine ev_bipush (pc := 104) (x := 101) dX12_nameOf_104 cb_101 ?_
            refine ev_bipush (pc := 106) (x := 114) dX12_nameOf_106 cb_114 ?_
            refine ev_cS (pc := 108) [vI 119, vI 97, vI 116, vI 101, vI 114] [vL (M 801 11)] rfl mkX12_w5 ml12_160 msX12_w5 dX12_nameOf_108 rfl (Nat.le_of_ble_eq_true rfl) (by omega) rfl (e_X12_w5 (d := d - 1) (v := (f_X12_w5 119 97 116 101 114)) (by omega)  rfl) ?_
            refine ev_lcmp (pc := 111) dX12_nameOf_111 ?_
            refine ev_if_ne (pc := 112) (tgt := 117) dX12_nameOf_112 (by decide) (fun b6 => ?_) (fun b6 => ?_)
            · rw [if_pos b6] at h
              refine ev_aload_n (pc := 117) 0 dX12_nameOf_117 rfl rfl ?_
              refine ev_getJr (pc := 118) fl12_139 rfl dX12_nameOf_118 rfl kd_801 (by omega) (by omega) 11 rfl ?_
              refine ev_bipush (pc := 121) (x := 102) dX12_nameOf_121 cb_102 ?_
              refine ev_bipush (pc := 123) (x := 105) dX12_nameOf_123 cb_105 ?_
              refine ev_bipush (pc := 125) (x := 115) dX12_nameOf_125 cb_115 ?_
              refine ev_bipush (pc := 127) (x := 104) dX12_nameOf_127 cb_104 ?_
              refine ev_cS (pc := 129) [vI 102, vI 105, vI 115, vI 104] [vL (M 801 11)] rfl mkX12_w4 ml12_156 msX12_w4 dX12_nameOf_129 rfl (Nat.le_of_ble_eq_true rfl) (by omega) rfl (e_X12_w4 (d := d - 1) (v := (f_X12_w4 102 105 115 104)) (by omega)  rfl) ?_
              refine ev_lcmp (pc := 132) dX12_nameOf_132 ?_
              refine ev_if_ne (pc := 133) (tgt := 138) dX12_nameOf_133 (by decide) (fun b7 => ?_) (fun b7 => ?_)
              · rw [if_pos b7] at h
                refine ev_aload_n (pc := 138) 0 dX12_nameOf_138 rfl rfl ?_
                refine ev_getJr (pc := 139) fl12_139 rfl dX12_nameOf_139 rfl kd_801 (by omega) (by omega) 11 rfl ?_
                refine ev_bipush (pc := 142) (x := 119) dX12_nameOf_142 cb_119 ?_
                refine ev_bipush (pc := 144) (x := 111) dX12_nameOf_144 cb_111 ?_
                refine ev_bipush (pc := 146) (x := 114) dX12_nameOf_146 cb_114 ?_
                refine ev_bipush (pc := 148) (x := 110) dX12_nameOf_148 cb_110 ?_
                refine ev_cS (pc := 150) [vI 119, vI 111, vI 114, vI 110] [vL (M 801 11)] rfl mkX12_w4 ml12_156 msX12_w4 dX12_nameOf_150 rfl (Nat.le_of_ble_eq_true rfl) (by omega) rfl (e_X12_w4 (d := d - 1) (v := (f_X12_w4 119 111 114 110)) (by omega)  rfl) ?_
                refine ev_lcmp (pc := 153) dX12_nameOf_153 ?_
                refine ev_if_ne (pc := 154) (tgt := 160) dX12_nameOf_154 (by decide) (fun b8 => ?_) (fun b8 => ?_)
                · rw [if_pos b8] at h
                  refine ev_aload_n (pc := 160) 0 dX12_nameOf_160 rfl rfl ?_
                  refine ev_getJr (pc := 161) fl12_139 rfl dX12_nameOf_161 rfl kd_801 (by omega) (by omega) 11 rfl ?_
                  refine ev_bipush (pc := 164) (x := 119) dX12_nameOf_164 cb_119 ?_
                  refine ev_bipush (pc := 166) (x := 101) dX12_nameOf_166 cb_101 ?_
                  refine ev_bipush (pc := 168) (x := 105) dX12_nameOf_168 cb_105 ?_
                  refine ev_bipush (pc := 170) (x := 103) dX12_nameOf_170 cb_103 ?_
                  refine ev_bipush (pc := 172) (x := 104) dX12_nameOf_172 cb_104 ?_
                  refine ev_bipush (pc := 174) (x := 116) dX12_nameOf_174 cb_116 ?_
                  refine ev_cS (pc := 176) [vI 119, vI 101, vI 105, vI 103, vI 104, vI 116] [vL (M 801 11)] rfl mkX12_w6 ml12_170 msX12_w6 dX12_nameOf_176 rfl (Nat.le_of_ble_eq_true rfl) (by omega) rfl (e_X12_w6 (d := d - 1) (v := (f_X12_w6 119 101 105 103 104 116)) (by omega)  rfl) ?_
                  refine ev_lcmp (pc := 179) dX12_nameOf_179 ?_
                  refine ev_if_ne (pc := 180) (tgt := 188) dX12_nameOf_180 (by decide) (fun b9 => ?_) (fun b9 => ?_)
                  · rw [if_pos b9] at h
                    refine ev_aload_n (pc := 188) 0 dX12_nameOf_188 rfl rfl ?_
                    refine ev_getJr (pc := 189) fl12_139 rfl dX12_nameOf_189 rfl kd_801 (by omega) (by omega) 11 rfl ?_
                    refine ev_bipush (pc := 192) (x := 111) dX12_nameOf_192 cb_111 ?_
                    refine ev_bipush (pc := 194) (x := 116) dX12_nameOf_194 cb_116 ?_
                    refine ev_bipush (pc := 196) (x := 104) dX12_nameOf_196 cb_104 ?_
                    refine ev_bipush (pc := 198) (x := 101) dX12_nameOf_198 cb_101 ?_
                    refine ev_bipush (pc := 200) (x := 114) dX12_nameOf_200 cb_114 ?_
                    refine ev_cS (pc := 202) [vI 111, vI 116, vI 104, vI 101, vI 114] [vL (M 801 11)] rfl mkX12_w5 ml12_160 msX12_w5 dX12_nameOf_202 rfl (Nat.le_of_ble_eq_true rfl) (by omega) rfl (e_X12_w5 (d := d - 1) (v := (f_X12_w5 111 116 104 101 114)) (by omega)  rfl) ?_
                    refine ev_lcmp (pc := 205) dX12_nameOf_205 ?_
                    refine ev_if_ne (pc := 206) (tgt := 214) dX12_nameOf_206 (by decide) (fun b10 => ?_) (fun b10 => ?_)
                    · rw [if_pos b10] at h
                      refine ev_iconst (pc := 214) (x := (-1)) dX12_nameOf_214 ci_m1 ?_
                      cases h
                      exact ev_iret (pc := 215) dX12_nameOf_215 rfl
                    · rw [if_neg b10] at h
                      refine ev_bipush (pc := 209) (x := 8) dX12_nameOf_209 cb_8 ?_
                      refine ev_goto (pc := 211) (tgt := 215) dX12_nameOf_211 (by decide) ?_
                      cases h
                      exact ev_iret (pc := 215) dX12_nameOf_215 rfl
                  · rw [if_neg b9] at h
                    refine ev_bipush (pc := 183) (x := 7) dX12_nameOf_183 cb_7 ?_
                    refine ev_goto (pc := 185) (tgt := 215) dX12_nameOf_185 (by decide) ?_
                    cases h
                    exact ev_iret (pc := 215) dX12_nameOf_215 rfl
                · rw [if_neg b8] at h
                  refine ev_bipush (pc := 157) (x := 6) dX12_nameOf_157 cb_6 ?_
                  cases h
                  exact ev_iret (pc := 159) dX12_nameOf_159 rfl
              · rw [if_neg b7] at h
                refine ev_iconst (pc := 136) (x := 5) dX12_nameOf_136 ci_5 ?_
                cases h
                exact ev_iret (pc := 137) dX12_nameOf_137 rfl
            · rw [if_neg b6] at h
              refine ev_iconst (pc := 115) (x := 4) dX12_nameOf_115 ci_4 ?_
              cases h
              exact ev_iret (pc := 116) dX12_nameOf_116 rfl
          · rw [if_neg b5] at h
            refine ev_iconst (pc := 92) (x := 3) dX12_nameOf_92 ci_3 ?_
            cases h
            exact ev_iret (pc := 93) dX12_nameOf_93 rfl
        · rw [if_neg b4] at h
          refine ev_iconst (pc := 71) (x := 2) dX12_nameOf_71 ci_2 ?_
          cases h
          exact ev_iret (pc := 72) dX12_nameOf_72 rfl
      · rw [if_neg b3] at h
        refine ev_iconst (pc := 50) (x := 1) dX12_nameOf_50 ci_1 ?_
        cases h
        exact ev_iret (pc := 51) dX12_nameOf_51 rfl
    · rw [if_neg b2] at h
      refine ev_iconst (pc := 29) (x := 0) dX12_nameOf_29 ci_0 ?_
      cases h
      exact ev_iret (pc := 30) dX12_nameOf_30 rfl
  · rw [if_neg b1] at h
    refine ev_iconst (pc := 8) (x := (-1)) dX12_nameOf_8 ci_m1 ?_
    cases h
    exact ev_iret (pc := 9) dX12_nameOf_9 rfl
def f_X12_isOf (p0 : Int) (M : Mem) : Int := if p0 < 7 then 1 else (if p0 ≠ 7 then (if (M 801 14) ≠ 1 then 0 else 1) else (if (M 801 14) = 3 then 0 else 1))
set_option maxRecDepth 100000 in
set_option maxHeartbeats 4000000 in
theorem e_X12_isOf {g : Gm} {d : Nat} {p0 : Int} {M N : Mem} {v : Int} (hd : 0 ≤ d) (h : f_X12_isOf p0 M = v) : EvM g d mtX12_isOf [vR 801, vI p0] (sg (mx N M)) (0, 0) (vI v) (sg (mx N M)) := by
  unfold f_X12_isOf at h
  refine EvM.of mkX12_isOf.2.2.2.1 (Nat.le_of_ble_eq_true rfl) ?_
  change Ev g d mtX12_isOf 0 [(0, vR 801), (1, vI p0)] [] (sg (mx N M)) (0, 0) (vI v) (sg (mx N M))
  refine ev_iload_n (pc := 0) 1 dX12_isOf_0 rfl rfl ?_
  refine ev_bipush (pc := 1) (x := 7) dX12_isOf_1 cb_7 ?_
  refine ev_icmp_lt (pc := 3) (tgt := 31) dX12_isOf_3 (by decide) (fun b1 => ?_) (fun b1 => ?_)
  · rw [if_pos b1] at h
    refine ev_iconst (pc := 31) (x := 1) dX12_isOf_31 ci_1 ?_
    refine ev_goto (pc := 32) (tgt := 36) dX12_isOf_32 (by decide) ?_
    cases h
    exact ev_zret (pc := 36) (Or.inr rfl) dX12_isOf_36 rfl
  · rw [if_neg b1] at h
    refine ev_iload_n (pc := 6) 1 dX12_isOf_6 rfl rfl ?_
    refine ev_bipush (pc := 7) (x := 7) dX12_isOf_7 cb_7 ?_
    refine ev_icmp_ne (pc := 9) (tgt := 23) dX12_isOf_9 (by decide) (fun b2 => ?_) (fun b2 => ?_)
    · rw [if_pos b2] at h
      refine ev_aload_n (pc := 23) 0 dX12_isOf_23 rfl rfl ?_
      refine ev_getIr (pc := 24) fl12_174 rfl dX12_isOf_24 rfl kd_801 (by omega) (by omega) 14 rfl ?_
      refine ev_iconst (pc := 27) (x := 1) dX12_isOf_27 ci_1 ?_
      refine ev_icmp_ne (pc := 28) (tgt := 35) dX12_isOf_28 (by decide) (fun b3 => ?_) (fun b3 => ?_)
      · rw [if_pos b3] at h
        refine ev_iconst (pc := 35) (x := 0) dX12_isOf_35 ci_0 ?_
        cases h
        exact ev_zret (pc := 36) (Or.inl rfl) dX12_isOf_36 rfl
      · rw [if_neg b3] at h
        refine ev_iconst (pc := 31) (x := 1) dX12_isOf_31 ci_1 ?_
        refine ev_goto (pc := 32) (tgt := 36) dX12_isOf_32 (by decide) ?_
        cases h
        exact ev_zret (pc := 36) (Or.inr rfl) dX12_isOf_36 rfl
    · rw [if_neg b2] at h
      refine ev_aload_n (pc := 12) 0 dX12_isOf_12 rfl rfl ?_
      refine ev_getIr (pc := 13) fl12_174 rfl dX12_isOf_13 rfl kd_801 (by omega) (by omega) 14 rfl ?_
      refine ev_iconst (pc := 16) (x := 3) dX12_isOf_16 ci_3 ?_
      refine ev_icmp_eq (pc := 17) (tgt := 35) dX12_isOf_17 (by decide) (fun b4 => ?_) (fun b4 => ?_)
      · rw [if_pos b4] at h
        refine ev_iconst (pc := 35) (x := 0) dX12_isOf_35 ci_0 ?_
        cases h
        exact ev_zret (pc := 36) (Or.inl rfl) dX12_isOf_36 rfl
      · rw [if_neg b4] at h
        refine ev_goto (pc := 20) (tgt := 31) dX12_isOf_20 (by decide) ?_
        refine ev_iconst (pc := 31) (x := 1) dX12_isOf_31 ci_1 ?_
        refine ev_goto (pc := 32) (tgt := 36) dX12_isOf_32 (by decide) ?_
        cases h
        exact ev_zret (pc := 36) (Or.inr rfl) dX12_isOf_36 rfl
theorem z_X12_isOf (p0 : Int) (M : Mem) : f_X12_isOf p0 M = 0 ∨ f_X12_isOf p0 M = 1 := by
  unfold f_X12_isOf
  repeat' split
  all_goals first | exact Or.inl rfl | exact Or.inr rfl
def f_X12_rank (p0 : Int) : Int := if p0 < 40 then (if p0 ≠ 22 then (if p0 ≠ 21 then (if p0 ≠ 20 then (if p0 < 10 then (if p0 ≠ 4 then (if p0 < 7 then 5 else 6) else 7) else 4) else 3) else 2) else 1) else 0
set_option maxRecDepth 100000 in
set_option maxHeartbeats 4000000 in
theorem e_X12_rank {g : Gm} {d : Nat} {p0 : Int} {M0 : Mem} {v : Int} (hd : 0 ≤ d) (h : f_X12_rank p0 = v) : EvM g d mtX12_rank [vI p0] (sg M0) (0, 0) (vI v) (sg M0) := by
  unfold f_X12_rank at h
  refine EvM.of mkX12_rank.2.2.2.1 (Nat.le_of_ble_eq_true rfl) ?_
  change Ev g d mtX12_rank 0 [(0, vI p0)] [] (sg M0) (0, 0) (vI v) (sg M0)
  refine ev_iload_n (pc := 0) 0 dX12_rank_0 rfl rfl ?_
  refine ev_bipush (pc := 1) (x := 40) dX12_rank_1 cb_40 ?_
  refine ev_icmp_lt (pc := 3) (tgt := 10) dX12_rank_3 (by decide) (fun b1 => ?_) (fun b1 => ?_)
  · rw [if_pos b1] at h
    refine ev_iload_n (pc := 10) 0 dX12_rank_10 rfl rfl ?_
    refine ev_bipush (pc := 11) (x := 22) dX12_rank_11 cb_22 ?_
    refine ev_icmp_ne (pc := 13) (tgt := 20) dX12_rank_13 (by decide) (fun b2 => ?_) (fun b2 => ?_)
    · rw [if_pos b2] at h
      refine ev_iload_n (pc := 20) 0 dX12_rank_20 rfl rfl ?_
      refine ev_bipush (pc := 21) (x := 21) dX12_rank_21 cb_21 ?_
      refine ev_icmp_ne (pc := 23) (tgt := 30) dX12_rank_23 (by decide) (fun b3 => ?_) (fun b3 => ?_)
      · rw [if_pos b3] at h
        refine ev_iload_n (pc := 30) 0 dX12_rank_30 rfl rfl ?_
        refine ev_bipush (pc := 31) (x := 20) dX12_rank_31 cb_20 ?_
        refine ev_icmp_ne (pc := 33) (tgt := 40) dX12_rank_33 (by decide) (fun b4 => ?_) (fun b4 => ?_)
        · rw [if_pos b4] at h
          refine ev_iload_n (pc := 40) 0 dX12_rank_40 rfl rfl ?_
          refine ev_bipush (pc := 41) (x := 10) dX12_rank_41 cb_10 ?_
          refine ev_icmp_lt (pc := 43) (tgt := 50) dX12_rank_43 (by decide) (fun b5 => ?_) (fun b5 => ?_)
          · rw [if_pos b5] at h
            refine ev_iload_n (pc := 50) 0 dX12_rank_50 rfl rfl ?_
            refine ev_iconst (pc := 51) (x := 4) dX12_rank_51 ci_4 ?_
            refine ev_icmp_ne (pc := 52) (tgt := 60) dX12_rank_52 (by decide) (fun b6 => ?_) (fun b6 => ?_)
            · rw [if_pos b6] at h
              refine ev_iload_n (pc := 60) 0 dX12_rank_60 rfl rfl ?_
              refine ev_bipush (pc := 61) (x := 7) dX12_rank_61 cb_7 ?_
              refine ev_icmp_lt (pc := 63) (tgt := 71) dX12_rank_63 (by decide) (fun b7 => ?_) (fun b7 => ?_)
              · rw [if_pos b7] at h
                refine ev_iconst (pc := 71) (x := 5) dX12_rank_71 ci_5 ?_
                cases h
                exact ev_iret (pc := 72) dX12_rank_72 rfl
              · rw [if_neg b7] at h
                refine ev_bipush (pc := 66) (x := 6) dX12_rank_66 cb_6 ?_
                refine ev_goto (pc := 68) (tgt := 72) dX12_rank_68 (by decide) ?_
                cases h
                exact ev_iret (pc := 72) dX12_rank_72 rfl
            · rw [if_neg b6] at h
              refine ev_bipush (pc := 55) (x := 7) dX12_rank_55 cb_7 ?_
              refine ev_goto (pc := 57) (tgt := 72) dX12_rank_57 (by decide) ?_
              cases h
              exact ev_iret (pc := 72) dX12_rank_72 rfl
          · rw [if_neg b5] at h
            refine ev_iconst (pc := 46) (x := 4) dX12_rank_46 ci_4 ?_
            refine ev_goto (pc := 47) (tgt := 72) dX12_rank_47 (by decide) ?_
            cases h
            exact ev_iret (pc := 72) dX12_rank_72 rfl
        · rw [if_neg b4] at h
          refine ev_iconst (pc := 36) (x := 3) dX12_rank_36 ci_3 ?_
          refine ev_goto (pc := 37) (tgt := 72) dX12_rank_37 (by decide) ?_
          cases h
          exact ev_iret (pc := 72) dX12_rank_72 rfl
      · rw [if_neg b3] at h
        refine ev_iconst (pc := 26) (x := 2) dX12_rank_26 ci_2 ?_
        refine ev_goto (pc := 27) (tgt := 72) dX12_rank_27 (by decide) ?_
        cases h
        exact ev_iret (pc := 72) dX12_rank_72 rfl
    · rw [if_neg b2] at h
      refine ev_iconst (pc := 16) (x := 1) dX12_rank_16 ci_1 ?_
      refine ev_goto (pc := 17) (tgt := 72) dX12_rank_17 (by decide) ?_
      cases h
      exact ev_iret (pc := 72) dX12_rank_72 rfl
  · rw [if_neg b1] at h
    refine ev_iconst (pc := 6) (x := 0) dX12_rank_6 ci_0 ?_
    refine ev_goto (pc := 7) (tgt := 72) dX12_rank_7 (by decide) ?_
    cases h
    exact ev_iret (pc := 72) dX12_rank_72 rfl
def f_X12_settle_L0 : Nat → Int → Mem → Option (Mem)
  | 0, _, _ => none
  | n + 1, x1, M => if (M 801 16) ≤ 0 then (some M) else (ck (0 ≤ (wI ((M 801 16) - 1)) ∧ (wI ((M 801 16) - 1)) < 160) (if (f_X12_rank (M 806 (wI ((M 801 16) - 1)))) < x1 then (some M) else (lt (upM M 801 16 (wI ((M 801 16) - 1))) fun M4 => ck (0 ≤ (M4 801 16) ∧ (M4 801 16) < 160) ((f_X12_emit (M4 806 (M4 801 16)) 0 M4).bind fun q6 => ck (0 ≤ (q6 801 16) ∧ (q6 801 16) < 160) (if (q6 806 (q6 801 16)) = 4 then (lt (upM q6 801 17 (wI ((q6 801 17) - 1))) fun M9 => f_X12_settle_L0 n x1 M9) else (if (q6 806 (q6 801 16)) ≠ 20 then (f_X12_settle_L0 n x1 q6) else (lt (upM q6 801 17 (wI ((q6 801 17) - 1))) fun M11 => f_X12_settle_L0 n x1 M11)))))))
set_option maxRecDepth 100000 in
set_option maxHeartbeats 4000000 in
theorem e_X12_settle_L0 {g : Gm} {d : Nat} {x1 : Int} {r : Vv} {σ' : Sg} {N : Mem} (hd : 1 ≤ d) : ∀ (n : Nat) {M : Mem} {q : Mem}, f_X12_settle_L0 n x1 M = some q → Ev g d mtX12_settle 89 [] [] (sg (mx N q)) (0, 0) r σ' → Ev g d mtX12_settle 0 [(0, vR 801), (1, vI x1)] [] (sg (mx N M)) (0, 0) r σ' := by
  intro n
  induction n with
  | zero =>
    intro M q h hk0
    rw [f_X12_settle_L0.eq_1] at h
    cases h
  | succ n ih =>
    intro M q h hk0
    rw [f_X12_settle_L0.eq_2] at h
    refine ev_aload_n (pc := 0) 0 dX12_settle_0 rfl rfl ?_
    refine ev_getIr (pc := 1) fl12_177 rfl dX12_settle_1 rfl kd_801 (by omega) (by omega) 16 rfl ?_
    refine ev_if_le (pc := 4) (tgt := 89) dX12_settle_4 (by decide) (fun b1 => ?_) (fun b1 => ?_)
    · rw [if_pos b1] at h
      cases h
      refine ev_pick [] rfl ?_
      exact hk0
    · rw [if_neg b1] at h
      refine ev_aload_n (pc := 7) 0 dX12_settle_7 rfl rfl ?_
      refine ev_getR (pc := 8) fl12_29 rfl dX12_settle_8 rfl kd_801 (by omega) (rf_801_15 _) ?_
      refine ev_aload_n (pc := 11) 0 dX12_settle_11 rfl rfl ?_
      refine ev_getIr (pc := 12) fl12_177 rfl dX12_settle_12 rfl kd_801 (by omega) (by omega) 16 rfl ?_
      refine ev_iconst (pc := 15) (x := 1) dX12_settle_15 ci_1 ?_
      refine ev_isub (pc := 16) dX12_settle_16 ?_
      obtain ⟨c2, h⟩ := ck_some h
      refine ev_ildr (pc := 17) dX12_settle_17 kd_806 (by omega) (by omega) c2.1 c2.2 ?_
      refine ev_cS (pc := 18) [vI (M 806 (wI ((M 801 16) - 1)))] [] rfl mkX12_rank ml12_180 msX12_rank dX12_settle_18 rfl (Nat.le_of_ble_eq_true rfl) (by omega) rfl (e_X12_rank (d := d - 1) (v := (f_X12_rank (M 806 (wI ((M 801 16) - 1))))) (by omega)  rfl) ?_
      refine ev_iload_n (pc := 21) 1 dX12_settle_21 rfl rfl ?_
      refine ev_icmp_lt (pc := 22) (tgt := 89) dX12_settle_22 (by decide) (fun b3 => ?_) (fun b3 => ?_)
      · rw [if_pos b3] at h
        cases h
        refine ev_pick [] rfl ?_
        exact hk0
      · rw [if_neg b3] at h
        refine ev_aload_n (pc := 25) 0 dX12_settle_25 rfl rfl ?_
        refine ev_dup (pc := 26) rfl dX12_settle_26 ?_
        refine ev_getIr (pc := 27) fl12_177 rfl dX12_settle_27 rfl kd_801 (by omega) (by omega) 16 rfl ?_
        refine ev_iconst (pc := 30) (x := 1) dX12_settle_30 ci_1 ?_
        refine ev_isub (pc := 31) dX12_settle_31 ?_
        obtain ⟨M4, eM4, h⟩ := lt_some h
        refine ev_putIr (pc := 32) fl12_177 rfl dX12_settle_32 kd_801 (by omega) (by omega) eM4 ?_
        refine ev_aload_n (pc := 35) 0 dX12_settle_35 rfl rfl ?_
        refine ev_aload_n (pc := 36) 0 dX12_settle_36 rfl rfl ?_
        refine ev_getR (pc := 37) fl12_29 rfl dX12_settle_37 rfl kd_801 (by omega) (rf_801_15 _) ?_
        refine ev_aload_n (pc := 40) 0 dX12_settle_40 rfl rfl ?_
        refine ev_getIr (pc := 41) fl12_177 rfl dX12_settle_41 rfl kd_801 (by omega) (by omega) 16 rfl ?_
        obtain ⟨c5, h⟩ := ck_some h
        refine ev_ildr (pc := 44) dX12_settle_44 kd_806 (by omega) (by omega) c5.1 c5.2 ?_
        refine ev_iconst (pc := 45) (x := 0) dX12_settle_45 ci_0 ?_
        obtain ⟨q6, hq6, h⟩ := bd h
        refine ev_cV0 (pc := 46) [vI (M4 806 (M4 801 16)), vI 0] [] rfl mkX12_emit ml12_183 mnX12_emit dX12_settle_46 kd_801 (by omega) rfl (Nat.le_of_ble_eq_true rfl) (by omega) (e_X12_emit (d := d - 1) (M' := q6) (by omega)  hq6) ?_
        refine ev_aload_n (pc := 49) 0 dX12_settle_49 rfl rfl ?_
        refine ev_getR (pc := 50) fl12_29 rfl dX12_settle_50 rfl kd_801 (by omega) (rf_801_15 _) ?_
        refine ev_aload_n (pc := 53) 0 dX12_settle_53 rfl rfl ?_
        refine ev_getIr (pc := 54) fl12_177 rfl dX12_settle_54 rfl kd_801 (by omega) (by omega) 16 rfl ?_
        obtain ⟨c7, h⟩ := ck_some h
        refine ev_ildr (pc := 57) dX12_settle_57 kd_806 (by omega) (by omega) c7.1 c7.2 ?_
        refine ev_iconst (pc := 58) (x := 4) dX12_settle_58 ci_4 ?_
        refine ev_icmp_eq (pc := 59) (tgt := 76) dX12_settle_59 (by decide) (fun b8 => ?_) (fun b8 => ?_)
        · rw [if_pos b8] at h
          refine ev_aload_n (pc := 76) 0 dX12_settle_76 rfl rfl ?_
          refine ev_dup (pc := 77) rfl dX12_settle_77 ?_
          refine ev_getIr (pc := 78) fl12_187 rfl dX12_settle_78 rfl kd_801 (by omega) (by omega) 17 rfl ?_
          refine ev_iconst (pc := 81) (x := 1) dX12_settle_81 ci_1 ?_
          refine ev_isub (pc := 82) dX12_settle_82 ?_
          obtain ⟨M9, eM9, h⟩ := lt_some h
          refine ev_putIr (pc := 83) fl12_187 rfl dX12_settle_83 kd_801 (by omega) (by omega) eM9 ?_
          refine ev_goto (pc := 86) (tgt := 0) dX12_settle_86 (by decide) ?_
          refine ev_pick [0, 1] rfl ?_
          exact ih h hk0
        · rw [if_neg b8] at h
          refine ev_aload_n (pc := 62) 0 dX12_settle_62 rfl rfl ?_
          refine ev_getR (pc := 63) fl12_29 rfl dX12_settle_63 rfl kd_801 (by omega) (rf_801_15 _) ?_
          refine ev_aload_n (pc := 66) 0 dX12_settle_66 rfl rfl ?_
          refine ev_getIr (pc := 67) fl12_177 rfl dX12_settle_67 rfl kd_801 (by omega) (by omega) 16 rfl ?_
          refine ev_ildr (pc := 70) dX12_settle_70 kd_806 (by omega) (by omega) c7.1 c7.2 ?_
          refine ev_bipush (pc := 71) (x := 20) dX12_settle_71 cb_20 ?_
          refine ev_icmp_ne (pc := 73) (tgt := 0) dX12_settle_73 (by decide) (fun b10 => ?_) (fun b10 => ?_)
          · rw [if_pos b10] at h
            refine ev_pick [0, 1] rfl ?_
            exact ih h hk0
          · rw [if_neg b10] at h
            refine ev_aload_n (pc := 76) 0 dX12_settle_76 rfl rfl ?_
            refine ev_dup (pc := 77) rfl dX12_settle_77 ?_
            refine ev_getIr (pc := 78) fl12_187 rfl dX12_settle_78 rfl kd_801 (by omega) (by omega) 17 rfl ?_
            refine ev_iconst (pc := 81) (x := 1) dX12_settle_81 ci_1 ?_
            refine ev_isub (pc := 82) dX12_settle_82 ?_
            obtain ⟨M11, eM11, h⟩ := lt_some h
            refine ev_putIr (pc := 83) fl12_187 rfl dX12_settle_83 kd_801 (by omega) (by omega) eM11 ?_
            refine ev_goto (pc := 86) (tgt := 0) dX12_settle_86 (by decide) ?_
            refine ev_pick [0, 1] rfl ?_
            exact ih h hk0
def f_X12_settle (n : Nat) (p0 : Int) (M : Mem) : Option (Mem) := (f_X12_settle_L0 n p0 M).bind fun q12 => some q12
set_option maxRecDepth 100000 in
set_option maxHeartbeats 4000000 in
theorem e_X12_settle {g : Gm} {d : Nat} {n : Nat} {p0 : Int} {M N : Mem} {M' : Mem} (hd : 1 ≤ d) (h : f_X12_settle n p0 M = some M') : EvM g d mtX12_settle [vR 801, vI p0] (sg (mx N M)) (0, 0) vN (sg (mx N M')) := by
  unfold f_X12_settle at h
  refine EvM.of mkX12_settle.2.2.2.1 (Nat.le_of_ble_eq_true rfl) ?_
  change Ev g d mtX12_settle 0 [(0, vR 801), (1, vI p0)] [] (sg (mx N M)) (0, 0) vN (sg (mx N M'))
  obtain ⟨q12, hq12, h⟩ := bd h
  refine ev_pick [0, 1] rfl ?_
  refine e_X12_settle_L0 hd  n hq12 ?_
  cases h
  exact ev_vret (pc := 89) dX12_settle_89 rfl
def f_X12_isOpen_L7 : Nat → Int → Mem → Option (Int)
  | 0, _, _ => none
  | n + 1, x1, M => if x1 < 0 then (some x1) else (ck (0 ≤ x1 ∧ x1 < 160) (if 40 ≤ (M 806 x1) then (some x1) else (f_X12_isOpen_L7 n (wI (x1 + (-1))) M)))
set_option maxRecDepth 100000 in
set_option maxHeartbeats 4000000 in
theorem e_X12_isOpen_L7 {g : Gm} {d : Nat} {r : Vv} {σ' : Sg} {M N : Mem} (hd : 0 ≤ d) : ∀ (n : Nat) {x1 : Int} {q : Int}, f_X12_isOpen_L7 n x1 M = some q → Ev g d mtX12_isOpen 28 [(1, vI q)] [] (sg (mx N M)) (0, 0) r σ' → Ev g d mtX12_isOpen 7 [(0, vR 801), (1, vI x1)] [] (sg (mx N M)) (0, 0) r σ' := by
  intro n
  induction n with
  | zero =>
    intro x1 q h hk0
    rw [f_X12_isOpen_L7.eq_1] at h
    cases h
  | succ n ih =>
    intro x1 q h hk0
    rw [f_X12_isOpen_L7.eq_2] at h
    refine ev_iload_n (pc := 7) 1 dX12_isOpen_7 rfl rfl ?_
    refine ev_if_lt (pc := 8) (tgt := 28) dX12_isOpen_8 (by decide) (fun b1 => ?_) (fun b1 => ?_)
    · rw [if_pos b1] at h
      cases h
      refine ev_pick [1] rfl ?_
      exact hk0
    · rw [if_neg b1] at h
      refine ev_aload_n (pc := 11) 0 dX12_isOpen_11 rfl rfl ?_
      refine ev_getR (pc := 12) fl12_29 rfl dX12_isOpen_12 rfl kd_801 (by omega) (rf_801_15 _) ?_
      refine ev_iload_n (pc := 15) 1 dX12_isOpen_15 rfl rfl ?_
      obtain ⟨c2, h⟩ := ck_some h
      refine ev_ildr (pc := 16) dX12_isOpen_16 kd_806 (by omega) (by omega) c2.1 c2.2 ?_
      refine ev_bipush (pc := 17) (x := 40) dX12_isOpen_17 cb_40 ?_
      refine ev_icmp_ge (pc := 19) (tgt := 28) dX12_isOpen_19 (by decide) (fun b3 => ?_) (fun b3 => ?_)
      · rw [if_pos b3] at h
        cases h
        refine ev_pick [1] rfl ?_
        exact hk0
      · rw [if_neg b3] at h
        refine ev_iinc (pc := 22) (il' := [(1, vI (wI (x1 + (-1)))), (0, vR 801)]) 1 dX12_isOpen_22 rfl (Nat.le_of_ble_eq_true rfl) rfl rfl ?_
        refine ev_goto (pc := 25) (tgt := 7) dX12_isOpen_25 (by decide) ?_
        refine ev_pick [1, 0] rfl ?_
        exact ih h hk0
def f_X12_isOpen_J28 (n : Nat) (x1 : Int) (M : Mem) : Option (Int) := if x1 < 0 then (some 0) else (some 1)
set_option maxRecDepth 100000 in
set_option maxHeartbeats 4000000 in
theorem e_X12_isOpen_J28 {g : Gm} {d : Nat} {n : Nat} {x1 : Int} {M N : Mem} {v : Int} (hd : 0 ≤ d) (h : f_X12_isOpen_J28 n x1 M = some v) : Ev g d mtX12_isOpen 28 [(1, vI x1)] [] (sg (mx N M)) (0, 0) (vI v) (sg (mx N M)) := by
  unfold f_X12_isOpen_J28 at h
  refine ev_iload_n (pc := 28) 0 dX12_isOpen_28 rfl rfl ?_
  refine ev_if_lt (pc := 29) (tgt := 36) dX12_isOpen_29 (by decide) (fun b5 => ?_) (fun b5 => ?_)
  · rw [if_pos b5] at h
    refine ev_iconst (pc := 36) (x := 0) dX12_isOpen_36 ci_0 ?_
    cases h
    exact ev_zret (pc := 37) (Or.inl rfl) dX12_isOpen_37 rfl
  · rw [if_neg b5] at h
    refine ev_iconst (pc := 32) (x := 1) dX12_isOpen_32 ci_1 ?_
    refine ev_goto (pc := 33) (tgt := 37) dX12_isOpen_33 (by decide) ?_
    cases h
    exact ev_zret (pc := 37) (Or.inr rfl) dX12_isOpen_37 rfl
def f_X12_isOpen (n : Nat) (M : Mem) : Option (Int) := (f_X12_isOpen_L7 n (wI ((M 801 16) - 1)) M).bind fun q4 => f_X12_isOpen_J28 n q4 M
set_option maxRecDepth 100000 in
set_option maxHeartbeats 4000000 in
theorem e_X12_isOpen {g : Gm} {d : Nat} {n : Nat} {M N : Mem} {v : Int} (hd : 0 ≤ d) (h : f_X12_isOpen n M = some v) : EvM g d mtX12_isOpen [vR 801] (sg (mx N M)) (0, 0) (vI v) (sg (mx N M)) := by
  unfold f_X12_isOpen at h
  refine EvM.of mkX12_isOpen.2.2.2.1 (Nat.le_of_ble_eq_true rfl) ?_
  change Ev g d mtX12_isOpen 0 [(0, vR 801)] [] (sg (mx N M)) (0, 0) (vI v) (sg (mx N M))
  refine ev_aload_n (pc := 0) 0 dX12_isOpen_0 rfl rfl ?_
  refine ev_getIr (pc := 1) fl12_177 rfl dX12_isOpen_1 rfl kd_801 (by omega) (by omega) 16 rfl ?_
  refine ev_iconst (pc := 4) (x := 1) dX12_isOpen_4 ci_1 ?_
  refine ev_isub (pc := 5) dX12_isOpen_5 ?_
  refine ev_istore_n (pc := 6) (il' := [(1, vI (wI ((M 801 16) - 1))), (0, vR 801)]) dX12_isOpen_6 rfl (Nat.le_of_ble_eq_true rfl) rfl ?_
  obtain ⟨q4, hq4, h⟩ := bd h
  refine ev_pick [1, 0] rfl ?_
  refine e_X12_isOpen_L7 hd  n hq4 ?_
  refine ev_pick [0] rfl ?_
  exact e_X12_isOpen_J28 hd  h
def f_X12_isCompared_L7 : Nat → Int → Mem → Option (Int)
  | 0, _, _ => none
  | n + 1, x1, M => if x1 < 0 then (some x1) else (ck (0 ≤ x1 ∧ x1 < 160) (if (f_X12_rank (M 806 x1)) ≤ 4 then (some x1) else (f_X12_isCompared_L7 n (wI (x1 + (-1))) M)))
set_option maxRecDepth 100000 in
set_option maxHeartbeats 4000000 in
theorem e_X12_isCompared_L7 {g : Gm} {d : Nat} {r : Vv} {σ' : Sg} {M N : Mem} (hd : 1 ≤ d) : ∀ (n : Nat) {x1 : Int} {q : Int}, f_X12_isCompared_L7 n x1 M = some q → Ev g d mtX12_isCompared 30 [(0, vR 801), (1, vI q)] [] (sg (mx N M)) (0, 0) r σ' → Ev g d mtX12_isCompared 7 [(0, vR 801), (1, vI x1)] [] (sg (mx N M)) (0, 0) r σ' := by
  intro n
  induction n with
  | zero =>
    intro x1 q h hk0
    rw [f_X12_isCompared_L7.eq_1] at h
    cases h
  | succ n ih =>
    intro x1 q h hk0
    rw [f_X12_isCompared_L7.eq_2] at h
    refine ev_iload_n (pc := 7) 1 dX12_isCompared_7 rfl rfl ?_
    refine ev_if_lt (pc := 8) (tgt := 30) dX12_isCompared_8 (by decide) (fun b1 => ?_) (fun b1 => ?_)
    · rw [if_pos b1] at h
      cases h
      refine ev_pick [0, 1] rfl ?_
      exact hk0
    · rw [if_neg b1] at h
      refine ev_aload_n (pc := 11) 0 dX12_isCompared_11 rfl rfl ?_
      refine ev_getR (pc := 12) fl12_29 rfl dX12_isCompared_12 rfl kd_801 (by omega) (rf_801_15 _) ?_
      refine ev_iload_n (pc := 15) 1 dX12_isCompared_15 rfl rfl ?_
      obtain ⟨c2, h⟩ := ck_some h
      refine ev_ildr (pc := 16) dX12_isCompared_16 kd_806 (by omega) (by omega) c2.1 c2.2 ?_
      refine ev_cS (pc := 17) [vI (M 806 x1)] [] rfl mkX12_rank ml12_180 msX12_rank dX12_isCompared_17 rfl (Nat.le_of_ble_eq_true rfl) (by omega) rfl (e_X12_rank (d := d - 1) (v := (f_X12_rank (M 806 x1))) (by omega)  rfl) ?_
      refine ev_iconst (pc := 20) (x := 4) dX12_isCompared_20 ci_4 ?_
      refine ev_icmp_le (pc := 21) (tgt := 30) dX12_isCompared_21 (by decide) (fun b3 => ?_) (fun b3 => ?_)
      · rw [if_pos b3] at h
        cases h
        refine ev_pick [0, 1] rfl ?_
        exact hk0
      · rw [if_neg b3] at h
        refine ev_iinc (pc := 24) (il' := [(1, vI (wI (x1 + (-1)))), (0, vR 801)]) 1 dX12_isCompared_24 rfl (Nat.le_of_ble_eq_true rfl) rfl rfl ?_
        refine ev_goto (pc := 27) (tgt := 7) dX12_isCompared_27 (by decide) ?_
        refine ev_pick [1, 0] rfl ?_
        exact ih h hk0
def f_X12_isCompared_J30 (n : Nat) (x1 : Int) (M : Mem) : Option (Int) := if x1 < 0 then (some 0) else (ck (0 ≤ x1 ∧ x1 < 160) (if (f_X12_rank (M 806 x1)) ≠ 4 then (some 0) else (some 1)))
set_option maxRecDepth 100000 in
set_option maxHeartbeats 4000000 in
theorem e_X12_isCompared_J30 {g : Gm} {d : Nat} {n : Nat} {x1 : Int} {M N : Mem} {v : Int} (hd : 1 ≤ d) (h : f_X12_isCompared_J30 n x1 M = some v) : Ev g d mtX12_isCompared 30 [(0, vR 801), (1, vI x1)] [] (sg (mx N M)) (0, 0) (vI v) (sg (mx N M)) := by
  unfold f_X12_isCompared_J30 at h
  refine ev_iload_n (pc := 30) 1 dX12_isCompared_30 rfl rfl ?_
  refine ev_if_lt (pc := 31) (tgt := 51) dX12_isCompared_31 (by decide) (fun b5 => ?_) (fun b5 => ?_)
  · rw [if_pos b5] at h
    refine ev_iconst (pc := 51) (x := 0) dX12_isCompared_51 ci_0 ?_
    cases h
    exact ev_zret (pc := 52) (Or.inl rfl) dX12_isCompared_52 rfl
  · rw [if_neg b5] at h
    refine ev_aload_n (pc := 34) 0 dX12_isCompared_34 rfl rfl ?_
    refine ev_getR (pc := 35) fl12_29 rfl dX12_isCompared_35 rfl kd_801 (by omega) (rf_801_15 _) ?_
    refine ev_iload_n (pc := 38) 1 dX12_isCompared_38 rfl rfl ?_
    obtain ⟨c6, h⟩ := ck_some h
    refine ev_ildr (pc := 39) dX12_isCompared_39 kd_806 (by omega) (by omega) c6.1 c6.2 ?_
    refine ev_cS (pc := 40) [vI (M 806 x1)] [] rfl mkX12_rank ml12_180 msX12_rank dX12_isCompared_40 rfl (Nat.le_of_ble_eq_true rfl) (by omega) rfl (e_X12_rank (d := d - 1) (v := (f_X12_rank (M 806 x1))) (by omega)  rfl) ?_
    refine ev_iconst (pc := 43) (x := 4) dX12_isCompared_43 ci_4 ?_
    refine ev_icmp_ne (pc := 44) (tgt := 51) dX12_isCompared_44 (by decide) (fun b7 => ?_) (fun b7 => ?_)
    · rw [if_pos b7] at h
      refine ev_iconst (pc := 51) (x := 0) dX12_isCompared_51 ci_0 ?_
      cases h
      exact ev_zret (pc := 52) (Or.inl rfl) dX12_isCompared_52 rfl
    · rw [if_neg b7] at h
      refine ev_iconst (pc := 47) (x := 1) dX12_isCompared_47 ci_1 ?_
      refine ev_goto (pc := 48) (tgt := 52) dX12_isCompared_48 (by decide) ?_
      cases h
      exact ev_zret (pc := 52) (Or.inr rfl) dX12_isCompared_52 rfl
def f_X12_isCompared (n : Nat) (M : Mem) : Option (Int) := (f_X12_isCompared_L7 n (wI ((M 801 16) - 1)) M).bind fun q4 => f_X12_isCompared_J30 n q4 M
set_option maxRecDepth 100000 in
set_option maxHeartbeats 4000000 in
theorem e_X12_isCompared {g : Gm} {d : Nat} {n : Nat} {M N : Mem} {v : Int} (hd : 1 ≤ d) (h : f_X12_isCompared n M = some v) : EvM g d mtX12_isCompared [vR 801] (sg (mx N M)) (0, 0) (vI v) (sg (mx N M)) := by
  unfold f_X12_isCompared at h
  refine EvM.of mkX12_isCompared.2.2.2.1 (Nat.le_of_ble_eq_true rfl) ?_
  change Ev g d mtX12_isCompared 0 [(0, vR 801)] [] (sg (mx N M)) (0, 0) (vI v) (sg (mx N M))
  refine ev_aload_n (pc := 0) 0 dX12_isCompared_0 rfl rfl ?_
  refine ev_getIr (pc := 1) fl12_177 rfl dX12_isCompared_1 rfl kd_801 (by omega) (by omega) 16 rfl ?_
  refine ev_iconst (pc := 4) (x := 1) dX12_isCompared_4 ci_1 ?_
  refine ev_isub (pc := 5) dX12_isCompared_5 ?_
  refine ev_istore_n (pc := 6) (il' := [(1, vI (wI ((M 801 16) - 1))), (0, vR 801)]) dX12_isCompared_6 rfl (Nat.le_of_ble_eq_true rfl) rfl ?_
  obtain ⟨q4, hq4, h⟩ := bd h
  refine ev_pick [1, 0] rfl ?_
  refine e_X12_isCompared_L7 hd  n hq4 ?_
  refine ev_pick [0, 1] rfl ?_
  exact e_X12_isCompared_J30 hd  h
def f_X12_isAskHere (n : Nat) (M : Mem) : Option (Int) := if (M 801 19) = 0 then (some 0) else ((f_X12_isOpen n M).bind fun q2 => if q2 ≠ 0 then (some 0) else (some 1))
set_option maxRecDepth 100000 in
set_option maxHeartbeats 4000000 in
theorem e_X12_isAskHere {g : Gm} {d : Nat} {n : Nat} {M N : Mem} {v : Int} (hd : 1 ≤ d) (h : f_X12_isAskHere n M = some v) : EvM g d mtX12_isAskHere [vR 801] (sg (mx N M)) (0, 0) (vI v) (sg (mx N M)) := by
  unfold f_X12_isAskHere at h
  refine EvM.of mkX12_isAskHere.2.2.2.1 (Nat.le_of_ble_eq_true rfl) ?_
  change Ev g d mtX12_isAskHere 0 [(0, vR 801)] [] (sg (mx N M)) (0, 0) (vI v) (sg (mx N M))
  refine ev_aload_n (pc := 0) 0 dX12_isAskHere_0 rfl rfl ?_
  refine ev_getIr (pc := 1) fl12_190 rfl dX12_isAskHere_1 rfl kd_801 (by omega) (by omega) 19 rfl ?_
  refine ev_if_eq (pc := 4) (tgt := 18) dX12_isAskHere_4 (by decide) (fun b1 => ?_) (fun b1 => ?_)
  · rw [if_pos b1] at h
    refine ev_iconst (pc := 18) (x := 0) dX12_isAskHere_18 ci_0 ?_
    cases h
    exact ev_zret (pc := 19) (Or.inl rfl) dX12_isAskHere_19 rfl
  · rw [if_neg b1] at h
    refine ev_aload_n (pc := 7) 0 dX12_isAskHere_7 rfl rfl ?_
    obtain ⟨q2, hq2, h⟩ := bd h
    refine ev_cV (pc := 8) [] [] rfl mkX12_isOpen ml12_193 mnX12_isOpen dX12_isAskHere_8 kd_801 (by omega) rfl (Nat.le_of_ble_eq_true rfl) (by omega) rfl (e_X12_isOpen (d := d - 1) (v := q2) (by omega)  hq2) ?_
    refine ev_if_ne (pc := 11) (tgt := 18) dX12_isAskHere_11 (by decide) (fun b3 => ?_) (fun b3 => ?_)
    · rw [if_pos b3] at h
      refine ev_iconst (pc := 18) (x := 0) dX12_isAskHere_18 ci_0 ?_
      cases h
      exact ev_zret (pc := 19) (Or.inl rfl) dX12_isAskHere_19 rfl
    · rw [if_neg b3] at h
      refine ev_iconst (pc := 14) (x := 1) dX12_isAskHere_14 ci_1 ?_
      refine ev_goto (pc := 15) (tgt := 19) dX12_isAskHere_15 (by decide) ?_
      cases h
      exact ev_zret (pc := 19) (Or.inr rfl) dX12_isAskHere_19 rfl
def f_X12_isAskAhead (n : Nat) (M : Mem) : Option (Int) := (f_X12_isAskHere n M).bind fun q1 => if q1 = 0 then (some 0) else (if (M 801 16) = 0 then (some 1) else (ck (0 ≤ (wI ((M 801 16) - 1)) ∧ (wI ((M 801 16) - 1)) < 160) (if (f_X12_isIn (f_X12_rank (M 806 (wI ((M 801 16) - 1)))) 1 3) = 0 then (some 0) else (some 1))))
set_option maxRecDepth 100000 in
set_option maxHeartbeats 4000000 in
theorem e_X12_isAskAhead {g : Gm} {d : Nat} {n : Nat} {M N : Mem} {v : Int} (hd : 2 ≤ d) (h : f_X12_isAskAhead n M = some v) : EvM g d mtX12_isAskAhead [vR 801] (sg (mx N M)) (0, 0) (vI v) (sg (mx N M)) := by
  unfold f_X12_isAskAhead at h
  refine EvM.of mkX12_isAskAhead.2.2.2.1 (Nat.le_of_ble_eq_true rfl) ?_
  change Ev g d mtX12_isAskAhead 0 [(0, vR 801)] [] (sg (mx N M)) (0, 0) (vI v) (sg (mx N M))
  refine ev_aload_n (pc := 0) 0 dX12_isAskAhead_0 rfl rfl ?_
  obtain ⟨q1, hq1, h⟩ := bd h
  refine ev_cV (pc := 1) [] [] rfl mkX12_isAskHere ml12_197 mnX12_isAskHere dX12_isAskAhead_1 kd_801 (by omega) rfl (Nat.le_of_ble_eq_true rfl) (by omega) rfl (e_X12_isAskHere (d := d - 1) (v := q1) (by omega)  hq1) ?_
  refine ev_if_eq (pc := 4) (tgt := 40) dX12_isAskAhead_4 (by decide) (fun b2 => ?_) (fun b2 => ?_)
  · rw [if_pos b2] at h
    refine ev_iconst (pc := 40) (x := 0) dX12_isAskAhead_40 ci_0 ?_
    cases h
    exact ev_zret (pc := 41) (Or.inl rfl) dX12_isAskAhead_41 rfl
  · rw [if_neg b2] at h
    refine ev_aload_n (pc := 7) 0 dX12_isAskAhead_7 rfl rfl ?_
    refine ev_getIr (pc := 8) fl12_177 rfl dX12_isAskAhead_8 rfl kd_801 (by omega) (by omega) 16 rfl ?_
    refine ev_if_eq (pc := 11) (tgt := 36) dX12_isAskAhead_11 (by decide) (fun b3 => ?_) (fun b3 => ?_)
    · rw [if_pos b3] at h
      refine ev_iconst (pc := 36) (x := 1) dX12_isAskAhead_36 ci_1 ?_
      refine ev_goto (pc := 37) (tgt := 41) dX12_isAskAhead_37 (by decide) ?_
      cases h
      exact ev_zret (pc := 41) (Or.inr rfl) dX12_isAskAhead_41 rfl
    · rw [if_neg b3] at h
      refine ev_aload_n (pc := 14) 0 dX12_isAskAhead_14 rfl rfl ?_
      refine ev_getR (pc := 15) fl12_29 rfl dX12_isAskAhead_15 rfl kd_801 (by omega) (rf_801_15 _) ?_
      refine ev_aload_n (pc := 18) 0 dX12_isAskAhead_18 rfl rfl ?_
      refine ev_getIr (pc := 19) fl12_177 rfl dX12_isAskAhead_19 rfl kd_801 (by omega) (by omega) 16 rfl ?_
      refine ev_iconst (pc := 22) (x := 1) dX12_isAskAhead_22 ci_1 ?_
      refine ev_isub (pc := 23) dX12_isAskAhead_23 ?_
      obtain ⟨c4, h⟩ := ck_some h
      refine ev_ildr (pc := 24) dX12_isAskAhead_24 kd_806 (by omega) (by omega) c4.1 c4.2 ?_
      refine ev_cS (pc := 25) [vI (M 806 (wI ((M 801 16) - 1)))] [] rfl mkX12_rank ml12_180 msX12_rank dX12_isAskAhead_25 rfl (Nat.le_of_ble_eq_true rfl) (by omega) rfl (e_X12_rank (d := d - 1) (v := (f_X12_rank (M 806 (wI ((M 801 16) - 1))))) (by omega)  rfl) ?_
      refine ev_iconst (pc := 28) (x := 1) dX12_isAskAhead_28 ci_1 ?_
      refine ev_iconst (pc := 29) (x := 3) dX12_isAskAhead_29 ci_3 ?_
      refine ev_cS (pc := 30) [vI (f_X12_rank (M 806 (wI ((M 801 16) - 1)))), vI 1, vI 3] [] rfl mkX12_isIn ml12_90 msX12_isIn dX12_isAskAhead_30 rfl (Nat.le_of_ble_eq_true rfl) (by omega) rfl (e_X12_isIn (d := d - 1) (v := (f_X12_isIn (f_X12_rank (M 806 (wI ((M 801 16) - 1)))) 1 3)) (by omega)  rfl) ?_
      refine ev_if_eq (pc := 33) (tgt := 40) dX12_isAskAhead_33 (by decide) (fun b5 => ?_) (fun b5 => ?_)
      · rw [if_pos b5] at h
        refine ev_iconst (pc := 40) (x := 0) dX12_isAskAhead_40 ci_0 ?_
        cases h
        exact ev_zret (pc := 41) (Or.inl rfl) dX12_isAskAhead_41 rfl
      · rw [if_neg b5] at h
        refine ev_iconst (pc := 36) (x := 1) dX12_isAskAhead_36 ci_1 ?_
        refine ev_goto (pc := 37) (tgt := 41) dX12_isAskAhead_37 (by decide) ?_
        cases h
        exact ev_zret (pc := 41) (Or.inr rfl) dX12_isAskAhead_41 rfl
def f_X12_opened (n : Nat) (p0 : Int) (M : Mem) : Option (Int × Mem) := if (M 801 17) ≠ 8 then (lt (upM M 801 17 (wI ((M 801 17) + 1))) fun M2 => ck (0 ≤ (M2 801 16) ∧ (M2 801 16) < 160) (lt (upM M2 806 (M2 801 16) p0) fun M4 => lt (upM M4 801 16 (wI ((M4 801 16) + 1))) fun M5 => (f_X12_nextToken n M5).bind fun q6 => some (0, q6))) else (some (3, M))
set_option maxRecDepth 100000 in
set_option maxHeartbeats 4000000 in
theorem e_X12_opened {g : Gm} {d : Nat} {n : Nat} {p0 : Int} {M N : Mem} {v : Int} {M' : Mem} (hd : 2 ≤ d) (h : f_X12_opened n p0 M = some (v, M')) : EvM g d mtX12_opened [vR 801, vI p0] (sg (mx N M)) (0, 0) (vI v) (sg (mx N M')) := by
  unfold f_X12_opened at h
  refine EvM.of mkX12_opened.2.2.2.1 (Nat.le_of_ble_eq_true rfl) ?_
  change Ev g d mtX12_opened 0 [(0, vR 801), (1, vI p0)] [] (sg (mx N M)) (0, 0) (vI v) (sg (mx N M'))
  refine ev_aload_n (pc := 0) 0 dX12_opened_0 rfl rfl ?_
  refine ev_getIr (pc := 1) fl12_187 rfl dX12_opened_1 rfl kd_801 (by omega) (by omega) 17 rfl ?_
  refine ev_bipush (pc := 4) (x := 8) dX12_opened_4 cb_8 ?_
  refine ev_icmp_ne (pc := 6) (tgt := 11) dX12_opened_6 (by decide) (fun b1 => ?_) (fun b1 => ?_)
  · rw [if_pos b1] at h
    refine ev_aload_n (pc := 11) 0 dX12_opened_11 rfl rfl ?_
    refine ev_dup (pc := 12) rfl dX12_opened_12 ?_
    refine ev_getIr (pc := 13) fl12_187 rfl dX12_opened_13 rfl kd_801 (by omega) (by omega) 17 rfl ?_
    refine ev_iconst (pc := 16) (x := 1) dX12_opened_16 ci_1 ?_
    refine ev_iadd (pc := 17) dX12_opened_17 ?_
    obtain ⟨M2, eM2, h⟩ := lt_some h
    refine ev_putIr (pc := 18) fl12_187 rfl dX12_opened_18 kd_801 (by omega) (by omega) eM2 ?_
    refine ev_aload_n (pc := 21) 0 dX12_opened_21 rfl rfl ?_
    refine ev_getR (pc := 22) fl12_29 rfl dX12_opened_22 rfl kd_801 (by omega) (rf_801_15 _) ?_
    refine ev_aload_n (pc := 25) 0 dX12_opened_25 rfl rfl ?_
    refine ev_getIr (pc := 26) fl12_177 rfl dX12_opened_26 rfl kd_801 (by omega) (by omega) 16 rfl ?_
    refine ev_iload_n (pc := 29) 1 dX12_opened_29 rfl rfl ?_
    obtain ⟨c3, h⟩ := ck_some h
    obtain ⟨M4, eM4, h⟩ := lt_some h
    refine ev_istr (pc := 30) dX12_opened_30 kd_806 (by omega) (by omega) c3.1 c3.2 eM4 ?_
    refine ev_aload_n (pc := 31) 0 dX12_opened_31 rfl rfl ?_
    refine ev_dup (pc := 32) rfl dX12_opened_32 ?_
    refine ev_getIr (pc := 33) fl12_177 rfl dX12_opened_33 rfl kd_801 (by omega) (by omega) 16 rfl ?_
    refine ev_iconst (pc := 36) (x := 1) dX12_opened_36 ci_1 ?_
    refine ev_iadd (pc := 37) dX12_opened_37 ?_
    obtain ⟨M5, eM5, h⟩ := lt_some h
    refine ev_putIr (pc := 38) fl12_177 rfl dX12_opened_38 kd_801 (by omega) (by omega) eM5 ?_
    refine ev_aload_n (pc := 41) 0 dX12_opened_41 rfl rfl ?_
    obtain ⟨q6, hq6, h⟩ := bd h
    refine ev_cV0 (pc := 42) [] [] rfl mkX12_nextToken ml12_200 mnX12_nextToken dX12_opened_42 kd_801 (by omega) rfl (Nat.le_of_ble_eq_true rfl) (by omega) (e_X12_nextToken (d := d - 1) (M' := q6) (by omega)  hq6) ?_
    refine ev_iconst (pc := 45) (x := 0) dX12_opened_45 ci_0 ?_
    cases h
    exact ev_iret (pc := 46) dX12_opened_46 rfl
  · rw [if_neg b1] at h
    refine ev_iconst (pc := 9) (x := 3) dX12_opened_9 ci_3 ?_
    cases h
    exact ev_iret (pc := 10) dX12_opened_10 rfl
def f_X12_one (n : Nat) (p0 p1 : Int) (M : Mem) : Option (Int × Mem) := (f_X12_emit p0 p1 M).bind fun q1 => (f_X12_nextToken n q1).bind fun q2 => lt (upM q2 801 18 1) fun M3 => (f_X12_settle n 7 M3).bind fun q4 => some (0, q4)
set_option maxRecDepth 100000 in
set_option maxHeartbeats 4000000 in
theorem e_X12_one {g : Gm} {d : Nat} {n : Nat} {p0 p1 : Int} {M N : Mem} {v : Int} {M' : Mem} (hd : 2 ≤ d) (h : f_X12_one n p0 p1 M = some (v, M')) : EvM g d mtX12_one [vR 801, vI p0, vI p1] (sg (mx N M)) (0, 0) (vI v) (sg (mx N M')) := by
  unfold f_X12_one at h
  refine EvM.of mkX12_one.2.2.2.1 (Nat.le_of_ble_eq_true rfl) ?_
  change Ev g d mtX12_one 0 [(0, vR 801), (1, vI p0), (2, vI p1)] [] (sg (mx N M)) (0, 0) (vI v) (sg (mx N M'))
  refine ev_aload_n (pc := 0) 0 dX12_one_0 rfl rfl ?_
  refine ev_iload_n (pc := 1) 1 dX12_one_1 rfl rfl ?_
  refine ev_iload_n (pc := 2) 2 dX12_one_2 rfl rfl ?_
  obtain ⟨q1, hq1, h⟩ := bd h
  refine ev_cV0 (pc := 3) [vI p0, vI p1] [] rfl mkX12_emit ml12_183 mnX12_emit dX12_one_3 kd_801 (by omega) rfl (Nat.le_of_ble_eq_true rfl) (by omega) (e_X12_emit (d := d - 1) (M' := q1) (by omega)  hq1) ?_
  refine ev_aload_n (pc := 6) 0 dX12_one_6 rfl rfl ?_
  obtain ⟨q2, hq2, h⟩ := bd h
  refine ev_cV0 (pc := 7) [] [] rfl mkX12_nextToken ml12_200 mnX12_nextToken dX12_one_7 kd_801 (by omega) rfl (Nat.le_of_ble_eq_true rfl) (by omega) (e_X12_nextToken (d := d - 1) (M' := q2) (by omega)  hq2) ?_
  refine ev_aload_n (pc := 10) 0 dX12_one_10 rfl rfl ?_
  refine ev_iconst (pc := 11) (x := 1) dX12_one_11 ci_1 ?_
  obtain ⟨M3, eM3, h⟩ := lt_some h
  refine ev_putZr (pc := 12) fl12_203 rfl dX12_one_12 kd_801 (by omega) (by omega) (Or.inr rfl) eM3 ?_
  refine ev_aload_n (pc := 15) 0 dX12_one_15 rfl rfl ?_
  refine ev_bipush (pc := 16) (x := 7) dX12_one_16 cb_7 ?_
  obtain ⟨q4, hq4, h⟩ := bd h
  refine ev_cV0 (pc := 18) [vI 7] [] rfl mkX12_settle ml12_206 mnX12_settle dX12_one_18 kd_801 (by omega) rfl (Nat.le_of_ble_eq_true rfl) (by omega) (e_X12_settle (d := d - 1) (M' := q4) (by omega)  hq4) ?_
  refine ev_iconst (pc := 21) (x := 0) dX12_one_21 ci_0 ?_
  cases h
  exact ev_iret (pc := 22) dX12_one_22 rfl
def f_X12_beside (n : Nat) (p0 : Int) (M : Mem) : Option (Int × Mem) := (f_X12_nextToken n M).bind fun q1 => if 0 ≤ (f_X12_nameOf q1) then (if (f_X12_isIn (f_X12_nameOf q1) 2 6) = 0 then (some (5, q1)) else ((f_X12_one n p0 (f_X12_nameOf q1) q1).bind fun q4 => some (q4.1, q4.2))) else (some (1, q1))
set_option maxRecDepth 100000 in
set_option maxHeartbeats 4000000 in
theorem e_X12_beside {g : Gm} {d : Nat} {n : Nat} {p0 : Int} {M N : Mem} {v : Int} {M' : Mem} (hd : 6 ≤ d) (h : f_X12_beside n p0 M = some (v, M')) : EvM g d mtX12_beside [vR 801, vI p0] (sg (mx N M)) (0, 0) (vI v) (sg (mx N M')) := by
  unfold f_X12_beside at h
  refine EvM.of mkX12_beside.2.2.2.1 (Nat.le_of_ble_eq_true rfl) ?_
  change Ev g d mtX12_beside 0 [(0, vR 801), (1, vI p0)] [] (sg (mx N M)) (0, 0) (vI v) (sg (mx N M'))
  refine ev_aload_n (pc := 0) 0 dX12_beside_0 rfl rfl ?_
  obtain ⟨q1, hq1, h⟩ := bd h
  refine ev_cV0 (pc := 1) [] [] rfl mkX12_nextToken ml12_200 mnX12_nextToken dX12_beside_1 kd_801 (by omega) rfl (Nat.le_of_ble_eq_true rfl) (by omega) (e_X12_nextToken (d := d - 1) (M' := q1) (by omega)  hq1) ?_
  refine ev_aload_n (pc := 4) 0 dX12_beside_4 rfl rfl ?_
  refine ev_cV (pc := 5) [] [] rfl mkX12_nameOf ml12_209 mnX12_nameOf dX12_beside_5 kd_801 (by omega) rfl (Nat.le_of_ble_eq_true rfl) (by omega) rfl (e_X12_nameOf (d := d - 1) (v := (f_X12_nameOf q1)) (by omega)  rfl) ?_
  refine ev_istore_n (pc := 8) (il' := [(2, vI (f_X12_nameOf q1)), (0, vR 801), (1, vI p0)]) dX12_beside_8 rfl (Nat.le_of_ble_eq_true rfl) rfl ?_
  refine ev_iload_n (pc := 9) 0 dX12_beside_9 rfl rfl ?_
  refine ev_if_ge (pc := 10) (tgt := 17) dX12_beside_10 (by decide) (fun b2 => ?_) (fun b2 => ?_)
  · rw [if_pos b2] at h
    refine ev_iload_n (pc := 17) 0 dX12_beside_17 rfl rfl ?_
    refine ev_iconst (pc := 18) (x := 2) dX12_beside_18 ci_2 ?_
    refine ev_bipush (pc := 19) (x := 6) dX12_beside_19 cb_6 ?_
    refine ev_cS (pc := 21) [vI (f_X12_nameOf q1), vI 2, vI 6] [] rfl mkX12_isIn ml12_90 msX12_isIn dX12_beside_21 rfl (Nat.le_of_ble_eq_true rfl) (by omega) rfl (e_X12_isIn (d := d - 1) (v := (f_X12_isIn (f_X12_nameOf q1) 2 6)) (by omega)  rfl) ?_
    refine ev_if_eq (pc := 24) (tgt := 36) dX12_beside_24 (by decide) (fun b3 => ?_) (fun b3 => ?_)
    · rw [if_pos b3] at h
      refine ev_iconst (pc := 36) (x := 5) dX12_beside_36 ci_5 ?_
      cases h
      exact ev_iret (pc := 37) dX12_beside_37 rfl
    · rw [if_neg b3] at h
      refine ev_aload_n (pc := 27) 1 dX12_beside_27 rfl rfl ?_
      refine ev_iload_n (pc := 28) 2 dX12_beside_28 rfl rfl ?_
      refine ev_iload_n (pc := 29) 0 dX12_beside_29 rfl rfl ?_
      obtain ⟨q4, hq4, h⟩ := bd h
      refine ev_cV (pc := 30) [vI p0, vI (f_X12_nameOf q1)] [] rfl mkX12_one ml12_213 mnX12_one dX12_beside_30 kd_801 (by omega) rfl (Nat.le_of_ble_eq_true rfl) (by omega) rfl (e_X12_one (d := d - 1) (v := q4.1) (M' := q4.2) (by omega)  hq4) ?_
      refine ev_goto (pc := 33) (tgt := 37) dX12_beside_33 (by decide) ?_
      cases h
      exact ev_iret (pc := 37) dX12_beside_37 rfl
  · rw [if_neg b2] at h
    refine ev_iconst (pc := 13) (x := 1) dX12_beside_13 ci_1 ?_
    refine ev_goto (pc := 14) (tgt := 37) dX12_beside_14 (by decide) ?_
    cases h
    exact ev_iret (pc := 37) dX12_beside_37 rfl
def f_X12_beginOne (n : Nat) (M : Mem) : Option (Int × Mem) := if (M 801 9) ≠ 1 then (if (f_X12_nameOf M) < 0 then (if (f_X12_isWord (f_X12_w5 97 98 111 118 101) M) = 0 then (if (f_X12_isWord (f_X12_w5 98 101 108 111 119) M) = 0 then (if (M 801 9) ≠ 40 then (if (M 801 9) ≠ 45 then (if (f_X12_isWord (f_X12_w3 110 111 116) M) = 0 then (some (1, M)) else ((f_X12_isAskAhead n M).bind fun q8 => if q8 = 0 then (some (1, M)) else ((f_X12_opened n 20 M).bind fun q10 => some (q10.1, q10.2)))) else ((f_X12_opened n 4 M).bind fun q11 => some (q11.1, q11.2))) else ((f_X12_opened n 40 M).bind fun q12 => some (q12.1, q12.2))) else ((f_X12_beside n 3 M).bind fun q13 => some (q13.1, q13.2))) else ((f_X12_beside n 2 M).bind fun q14 => some (q14.1, q14.2))) else (if (f_X12_isOf (f_X12_nameOf M) M) = 0 then (some (5, M)) else ((f_X12_one n 1 (f_X12_nameOf M) M).bind fun q16 => some (q16.1, q16.2)))) else (if (M 801 10) ≤ 9999 then ((f_X12_one n 0 (M 801 10) M).bind fun q18 => some (q18.1, q18.2)) else (some (2, M)))
set_option maxRecDepth 100000 in
set_option maxHeartbeats 4000000 in
theorem e_X12_beginOne {g : Gm} {d : Nat} {n : Nat} {M N : Mem} {v : Int} {M' : Mem} (hd : 7 ≤ d) (h : f_X12_beginOne n M = some (v, M')) : EvM g d mtX12_beginOne [vR 801] (sg (mx N M)) (0, 0) (vI v) (sg (mx N M')) := by
  unfold f_X12_beginOne at h
  refine EvM.of mkX12_beginOne.2.2.2.1 (Nat.le_of_ble_eq_true rfl) ?_
  change Ev g d mtX12_beginOne 0 [(0, vR 801)] [] (sg (mx N M)) (0, 0) (vI v) (sg (mx N M'))
  refine ev_aload_n (pc := 0) 0 dX12_beginOne_0 rfl rfl ?_
  refine ev_getIr (pc := 1) fl12_126 rfl dX12_beginOne_1 rfl kd_801 (by omega) (by omega) 9 rfl ?_
  refine ev_iconst (pc := 4) (x := 1) dX12_beginOne_4 ci_1 ?_
  refine ev_icmp_ne (pc := 5) (tgt := 32) dX12_beginOne_5 (by decide) (fun b1 => ?_) (fun b1 => ?_)
  · rw [if_pos b1] at h
    refine ev_aload_n (pc := 32) 0 dX12_beginOne_32 rfl rfl ?_
    refine ev_cV (pc := 33) [] [] rfl mkX12_nameOf ml12_209 mnX12_nameOf dX12_beginOne_33 kd_801 (by omega) rfl (Nat.le_of_ble_eq_true rfl) (by omega) rfl (e_X12_nameOf (d := d - 1) (v := (f_X12_nameOf M)) (by omega)  rfl) ?_
    refine ev_istore_n (pc := 36) (il' := [(1, vI (f_X12_nameOf M)), (0, vR 801)]) dX12_beginOne_36 rfl (Nat.le_of_ble_eq_true rfl) rfl ?_
    refine ev_iload_n (pc := 37) 0 dX12_beginOne_37 rfl rfl ?_
    refine ev_if_lt (pc := 38) (tgt := 60) dX12_beginOne_38 (by decide) (fun b2 => ?_) (fun b2 => ?_)
    · rw [if_pos b2] at h
      refine ev_aload_n (pc := 60) 1 dX12_beginOne_60 rfl rfl ?_
      refine ev_bipush (pc := 61) (x := 97) dX12_beginOne_61 cb_97 ?_
      refine ev_bipush (pc := 63) (x := 98) dX12_beginOne_63 cb_98 ?_
      refine ev_bipush (pc := 65) (x := 111) dX12_beginOne_65 cb_111 ?_
      refine ev_bipush (pc := 67) (x := 118) dX12_beginOne_67 cb_118 ?_
      refine ev_bipush (pc := 69) (x := 101) dX12_beginOne_69 cb_101 ?_
      refine ev_cS (pc := 71) [vI 97, vI 98, vI 111, vI 118, vI 101] [vR 801] rfl mkX12_w5 ml12_160 msX12_w5 dX12_beginOne_71 rfl (Nat.le_of_ble_eq_true rfl) (by omega) rfl (e_X12_w5 (d := d - 1) (v := (f_X12_w5 97 98 111 118 101)) (by omega)  rfl) ?_
      refine ev_cV (pc := 74) [vL (f_X12_w5 97 98 111 118 101)] [] rfl mkX12_isWord ml12_219 mnX12_isWord dX12_beginOne_74 kd_801 (by omega) rfl (Nat.le_of_ble_eq_true rfl) (by omega) rfl (e_X12_isWord (d := d - 1) (v := (f_X12_isWord (f_X12_w5 97 98 111 118 101) M)) (by omega)  rfl) ?_
      refine ev_if_eq (pc := 77) (tgt := 86) dX12_beginOne_77 (by decide) (fun b3 => ?_) (fun b3 => ?_)
      · rw [if_pos b3] at h
        refine ev_aload_n (pc := 86) 1 dX12_beginOne_86 rfl rfl ?_
        refine ev_bipush (pc := 87) (x := 98) dX12_beginOne_87 cb_98 ?_
        refine ev_bipush (pc := 89) (x := 101) dX12_beginOne_89 cb_101 ?_
        refine ev_bipush (pc := 91) (x := 108) dX12_beginOne_91 cb_108 ?_
        refine ev_bipush (pc := 93) (x := 111) dX12_beginOne_93 cb_111 ?_
        refine ev_bipush (pc := 95) (x := 119) dX12_beginOne_95 cb_119 ?_
        refine ev_cS (pc := 97) [vI 98, vI 101, vI 108, vI 111, vI 119] [vR 801] rfl mkX12_w5 ml12_160 msX12_w5 dX12_beginOne_97 rfl (Nat.le_of_ble_eq_true rfl) (by omega) rfl (e_X12_w5 (d := d - 1) (v := (f_X12_w5 98 101 108 111 119)) (by omega)  rfl) ?_
        refine ev_cV (pc := 100) [vL (f_X12_w5 98 101 108 111 119)] [] rfl mkX12_isWord ml12_219 mnX12_isWord dX12_beginOne_100 kd_801 (by omega) rfl (Nat.le_of_ble_eq_true rfl) (by omega) rfl (e_X12_isWord (d := d - 1) (v := (f_X12_isWord (f_X12_w5 98 101 108 111 119) M)) (by omega)  rfl) ?_
        refine ev_if_eq (pc := 103) (tgt := 112) dX12_beginOne_103 (by decide) (fun b4 => ?_) (fun b4 => ?_)
        · rw [if_pos b4] at h
          refine ev_aload_n (pc := 112) 1 dX12_beginOne_112 rfl rfl ?_
          refine ev_getIr (pc := 113) fl12_126 rfl dX12_beginOne_113 rfl kd_801 (by omega) (by omega) 9 rfl ?_
          refine ev_bipush (pc := 116) (x := 40) dX12_beginOne_116 cb_40 ?_
          refine ev_icmp_ne (pc := 118) (tgt := 128) dX12_beginOne_118 (by decide) (fun b5 => ?_) (fun b5 => ?_)
          · rw [if_pos b5] at h
            refine ev_aload_n (pc := 128) 1 dX12_beginOne_128 rfl rfl ?_
            refine ev_getIr (pc := 129) fl12_126 rfl dX12_beginOne_129 rfl kd_801 (by omega) (by omega) 9 rfl ?_
            refine ev_bipush (pc := 132) (x := 45) dX12_beginOne_132 cb_45 ?_
            refine ev_icmp_ne (pc := 134) (tgt := 143) dX12_beginOne_134 (by decide) (fun b6 => ?_) (fun b6 => ?_)
            · rw [if_pos b6] at h
              refine ev_aload_n (pc := 143) 1 dX12_beginOne_143 rfl rfl ?_
              refine ev_bipush (pc := 144) (x := 110) dX12_beginOne_144 cb_110 ?_
              refine ev_bipush (pc := 146) (x := 111) dX12_beginOne_146 cb_111 ?_
              refine ev_bipush (pc := 148) (x := 116) dX12_beginOne_148 cb_116 ?_
              refine ev_cS (pc := 150) [vI 110, vI 111, vI 116] [vR 801] rfl mkX12_w3 ml12_152 msX12_w3 dX12_beginOne_150 rfl (Nat.le_of_ble_eq_true rfl) (by omega) rfl (e_X12_w3 (d := d - 1) (v := (f_X12_w3 110 111 116)) (by omega)  rfl) ?_
              refine ev_cV (pc := 153) [vL (f_X12_w3 110 111 116)] [] rfl mkX12_isWord ml12_219 mnX12_isWord dX12_beginOne_153 kd_801 (by omega) rfl (Nat.le_of_ble_eq_true rfl) (by omega) rfl (e_X12_isWord (d := d - 1) (v := (f_X12_isWord (f_X12_w3 110 111 116) M)) (by omega)  rfl) ?_
              refine ev_if_eq (pc := 156) (tgt := 175) dX12_beginOne_156 (by decide) (fun b7 => ?_) (fun b7 => ?_)
              · rw [if_pos b7] at h
                refine ev_iconst (pc := 175) (x := 1) dX12_beginOne_175 ci_1 ?_
                cases h
                exact ev_iret (pc := 176) dX12_beginOne_176 rfl
              · rw [if_neg b7] at h
                refine ev_aload_n (pc := 159) 1 dX12_beginOne_159 rfl rfl ?_
                obtain ⟨q8, hq8, h⟩ := bd h
                refine ev_cV (pc := 160) [] [] rfl mkX12_isAskAhead ml12_229 mnX12_isAskAhead dX12_beginOne_160 kd_801 (by omega) rfl (Nat.le_of_ble_eq_true rfl) (by omega) rfl (e_X12_isAskAhead (d := d - 1) (v := q8) (by omega)  hq8) ?_
                refine ev_if_eq (pc := 163) (tgt := 175) dX12_beginOne_163 (by decide) (fun b9 => ?_) (fun b9 => ?_)
                · rw [if_pos b9] at h
                  refine ev_iconst (pc := 175) (x := 1) dX12_beginOne_175 ci_1 ?_
                  cases h
                  exact ev_iret (pc := 176) dX12_beginOne_176 rfl
                · rw [if_neg b9] at h
                  refine ev_aload_n (pc := 166) 1 dX12_beginOne_166 rfl rfl ?_
                  refine ev_bipush (pc := 167) (x := 20) dX12_beginOne_167 cb_20 ?_
                  obtain ⟨q10, hq10, h⟩ := bd h
                  refine ev_cV (pc := 169) [vI 20] [] rfl mkX12_opened ml12_226 mnX12_opened dX12_beginOne_169 kd_801 (by omega) rfl (Nat.le_of_ble_eq_true rfl) (by omega) rfl (e_X12_opened (d := d - 1) (v := q10.1) (M' := q10.2) (by omega)  hq10) ?_
                  refine ev_goto (pc := 172) (tgt := 176) dX12_beginOne_172 (by decide) ?_
                  cases h
                  exact ev_iret (pc := 176) dX12_beginOne_176 rfl
            · rw [if_neg b6] at h
              refine ev_aload_n (pc := 137) 1 dX12_beginOne_137 rfl rfl ?_
              refine ev_iconst (pc := 138) (x := 4) dX12_beginOne_138 ci_4 ?_
              obtain ⟨q11, hq11, h⟩ := bd h
              refine ev_cV (pc := 139) [vI 4] [] rfl mkX12_opened ml12_226 mnX12_opened dX12_beginOne_139 kd_801 (by omega) rfl (Nat.le_of_ble_eq_true rfl) (by omega) rfl (e_X12_opened (d := d - 1) (v := q11.1) (M' := q11.2) (by omega)  hq11) ?_
              cases h
              exact ev_iret (pc := 142) dX12_beginOne_142 rfl
          · rw [if_neg b5] at h
            refine ev_aload_n (pc := 121) 1 dX12_beginOne_121 rfl rfl ?_
            refine ev_bipush (pc := 122) (x := 40) dX12_beginOne_122 cb_40 ?_
            obtain ⟨q12, hq12, h⟩ := bd h
            refine ev_cV (pc := 124) [vI 40] [] rfl mkX12_opened ml12_226 mnX12_opened dX12_beginOne_124 kd_801 (by omega) rfl (Nat.le_of_ble_eq_true rfl) (by omega) rfl (e_X12_opened (d := d - 1) (v := q12.1) (M' := q12.2) (by omega)  hq12) ?_
            cases h
            exact ev_iret (pc := 127) dX12_beginOne_127 rfl
        · rw [if_neg b4] at h
          refine ev_aload_n (pc := 106) 1 dX12_beginOne_106 rfl rfl ?_
          refine ev_iconst (pc := 107) (x := 3) dX12_beginOne_107 ci_3 ?_
          obtain ⟨q13, hq13, h⟩ := bd h
          refine ev_cV (pc := 108) [vI 3] [] rfl mkX12_beside ml12_223 mnX12_beside dX12_beginOne_108 kd_801 (by omega) rfl (Nat.le_of_ble_eq_true rfl) (by omega) rfl (e_X12_beside (d := d - 1) (v := q13.1) (M' := q13.2) (by omega)  hq13) ?_
          cases h
          exact ev_iret (pc := 111) dX12_beginOne_111 rfl
      · rw [if_neg b3] at h
        refine ev_aload_n (pc := 80) 1 dX12_beginOne_80 rfl rfl ?_
        refine ev_iconst (pc := 81) (x := 2) dX12_beginOne_81 ci_2 ?_
        obtain ⟨q14, hq14, h⟩ := bd h
        refine ev_cV (pc := 82) [vI 2] [] rfl mkX12_beside ml12_223 mnX12_beside dX12_beginOne_82 kd_801 (by omega) rfl (Nat.le_of_ble_eq_true rfl) (by omega) rfl (e_X12_beside (d := d - 1) (v := q14.1) (M' := q14.2) (by omega)  hq14) ?_
        cases h
        exact ev_iret (pc := 85) dX12_beginOne_85 rfl
    · rw [if_neg b2] at h
      refine ev_aload_n (pc := 41) 1 dX12_beginOne_41 rfl rfl ?_
      refine ev_iload_n (pc := 42) 0 dX12_beginOne_42 rfl rfl ?_
      refine ev_cV (pc := 43) [vI (f_X12_nameOf M)] [] rfl mkX12_isOf ml12_216 mnX12_isOf dX12_beginOne_43 kd_801 (by omega) rfl (Nat.le_of_ble_eq_true rfl) (by omega) rfl (e_X12_isOf (d := d - 1) (v := (f_X12_isOf (f_X12_nameOf M) M)) (by omega)  rfl) ?_
      refine ev_if_eq (pc := 46) (tgt := 58) dX12_beginOne_46 (by decide) (fun b15 => ?_) (fun b15 => ?_)
      · rw [if_pos b15] at h
        refine ev_iconst (pc := 58) (x := 5) dX12_beginOne_58 ci_5 ?_
        cases h
        exact ev_iret (pc := 59) dX12_beginOne_59 rfl
      · rw [if_neg b15] at h
        refine ev_aload_n (pc := 49) 1 dX12_beginOne_49 rfl rfl ?_
        refine ev_iconst (pc := 50) (x := 1) dX12_beginOne_50 ci_1 ?_
        refine ev_iload_n (pc := 51) 0 dX12_beginOne_51 rfl rfl ?_
        obtain ⟨q16, hq16, h⟩ := bd h
        refine ev_cV (pc := 52) [vI 1, vI (f_X12_nameOf M)] [] rfl mkX12_one ml12_213 mnX12_one dX12_beginOne_52 kd_801 (by omega) rfl (Nat.le_of_ble_eq_true rfl) (by omega) rfl (e_X12_one (d := d - 1) (v := q16.1) (M' := q16.2) (by omega)  hq16) ?_
        refine ev_goto (pc := 55) (tgt := 59) dX12_beginOne_55 (by decide) ?_
        cases h
        exact ev_iret (pc := 59) dX12_beginOne_59 rfl
  · rw [if_neg b1] at h
    refine ev_aload_n (pc := 8) 0 dX12_beginOne_8 rfl rfl ?_
    refine ev_getIr (pc := 9) fl12_132 rfl dX12_beginOne_9 rfl kd_801 (by omega) (by omega) 10 rfl ?_
    refine ev_sipush (pc := 12) (x := 9999) dX12_beginOne_12 cs_9999 ?_
    refine ev_icmp_le (pc := 15) (tgt := 22) dX12_beginOne_15 (by decide) (fun b17 => ?_) (fun b17 => ?_)
    · rw [if_pos b17] at h
      refine ev_aload_n (pc := 22) 0 dX12_beginOne_22 rfl rfl ?_
      refine ev_iconst (pc := 23) (x := 0) dX12_beginOne_23 ci_0 ?_
      refine ev_aload_n (pc := 24) 0 dX12_beginOne_24 rfl rfl ?_
      refine ev_getIr (pc := 25) fl12_132 rfl dX12_beginOne_25 rfl kd_801 (by omega) (by omega) 10 rfl ?_
      obtain ⟨q18, hq18, h⟩ := bd h
      refine ev_cV (pc := 28) [vI 0, vI (M 801 10)] [] rfl mkX12_one ml12_213 mnX12_one dX12_beginOne_28 kd_801 (by omega) rfl (Nat.le_of_ble_eq_true rfl) (by omega) rfl (e_X12_one (d := d - 1) (v := q18.1) (M' := q18.2) (by omega)  hq18) ?_
      cases h
      exact ev_iret (pc := 31) dX12_beginOne_31 rfl
    · rw [if_neg b17] at h
      refine ev_iconst (pc := 18) (x := 2) dX12_beginOne_18 ci_2 ?_
      refine ev_goto (pc := 19) (tgt := 31) dX12_beginOne_19 (by decide) ?_
      cases h
      exact ev_iret (pc := 31) dX12_beginOne_31 rfl
def f_X12_compareOf (M : Mem) : Int := if (M 801 9) ≠ 60 then (if (M 801 9) ≠ 4 then (if (M 801 9) ≠ 62 then (if (M 801 9) ≠ 5 then (if (M 801 9) ≠ 61 then (if (M 801 9) ≠ 35 then (-1) else 15) else 14) else 13) else 12) else 11) else 10
set_option maxRecDepth 100000 in
set_option maxHeartbeats 4000000 in
theorem e_X12_compareOf {g : Gm} {d : Nat} {M N : Mem} {v : Int} (hd : 0 ≤ d) (h : f_X12_compareOf M = v) : EvM g d mtX12_compareOf [vR 801] (sg (mx N M)) (0, 0) (vI v) (sg (mx N M)) := by
  unfold f_X12_compareOf at h
  refine EvM.of mkX12_compareOf.2.2.2.1 (Nat.le_of_ble_eq_true rfl) ?_
  change Ev g d mtX12_compareOf 0 [(0, vR 801)] [] (sg (mx N M)) (0, 0) (vI v) (sg (mx N M))
  refine ev_aload_n (pc := 0) 0 dX12_compareOf_0 rfl rfl ?_
  refine ev_getIr (pc := 1) fl12_126 rfl dX12_compareOf_1 rfl kd_801 (by omega) (by omega) 9 rfl ?_
  refine ev_bipush (pc := 4) (x := 60) dX12_compareOf_4 cb_60 ?_
  refine ev_icmp_ne (pc := 6) (tgt := 14) dX12_compareOf_6 (by decide) (fun b1 => ?_) (fun b1 => ?_)
  · rw [if_pos b1] at h
    refine ev_aload_n (pc := 14) 0 dX12_compareOf_14 rfl rfl ?_
    refine ev_getIr (pc := 15) fl12_126 rfl dX12_compareOf_15 rfl kd_801 (by omega) (by omega) 9 rfl ?_
    refine ev_iconst (pc := 18) (x := 4) dX12_compareOf_18 ci_4 ?_
    refine ev_icmp_ne (pc := 19) (tgt := 27) dX12_compareOf_19 (by decide) (fun b2 => ?_) (fun b2 => ?_)
    · rw [if_pos b2] at h
      refine ev_aload_n (pc := 27) 0 dX12_compareOf_27 rfl rfl ?_
      refine ev_getIr (pc := 28) fl12_126 rfl dX12_compareOf_28 rfl kd_801 (by omega) (by omega) 9 rfl ?_
      refine ev_bipush (pc := 31) (x := 62) dX12_compareOf_31 cb_62 ?_
      refine ev_icmp_ne (pc := 33) (tgt := 41) dX12_compareOf_33 (by decide) (fun b3 => ?_) (fun b3 => ?_)
      · rw [if_pos b3] at h
        refine ev_aload_n (pc := 41) 0 dX12_compareOf_41 rfl rfl ?_
        refine ev_getIr (pc := 42) fl12_126 rfl dX12_compareOf_42 rfl kd_801 (by omega) (by omega) 9 rfl ?_
        refine ev_iconst (pc := 45) (x := 5) dX12_compareOf_45 ci_5 ?_
        refine ev_icmp_ne (pc := 46) (tgt := 54) dX12_compareOf_46 (by decide) (fun b4 => ?_) (fun b4 => ?_)
        · rw [if_pos b4] at h
          refine ev_aload_n (pc := 54) 0 dX12_compareOf_54 rfl rfl ?_
          refine ev_getIr (pc := 55) fl12_126 rfl dX12_compareOf_55 rfl kd_801 (by omega) (by omega) 9 rfl ?_
          refine ev_bipush (pc := 58) (x := 61) dX12_compareOf_58 cb_61 ?_
          refine ev_icmp_ne (pc := 60) (tgt := 68) dX12_compareOf_60 (by decide) (fun b5 => ?_) (fun b5 => ?_)
          · rw [if_pos b5] at h
            refine ev_aload_n (pc := 68) 0 dX12_compareOf_68 rfl rfl ?_
            refine ev_getIr (pc := 69) fl12_126 rfl dX12_compareOf_69 rfl kd_801 (by omega) (by omega) 9 rfl ?_
            refine ev_bipush (pc := 72) (x := 35) dX12_compareOf_72 cb_35 ?_
            refine ev_icmp_ne (pc := 74) (tgt := 82) dX12_compareOf_74 (by decide) (fun b6 => ?_) (fun b6 => ?_)
            · rw [if_pos b6] at h
              refine ev_iconst (pc := 82) (x := (-1)) dX12_compareOf_82 ci_m1 ?_
              cases h
              exact ev_iret (pc := 83) dX12_compareOf_83 rfl
            · rw [if_neg b6] at h
              refine ev_bipush (pc := 77) (x := 15) dX12_compareOf_77 cb_15 ?_
              refine ev_goto (pc := 79) (tgt := 83) dX12_compareOf_79 (by decide) ?_
              cases h
              exact ev_iret (pc := 83) dX12_compareOf_83 rfl
          · rw [if_neg b5] at h
            refine ev_bipush (pc := 63) (x := 14) dX12_compareOf_63 cb_14 ?_
            refine ev_goto (pc := 65) (tgt := 83) dX12_compareOf_65 (by decide) ?_
            cases h
            exact ev_iret (pc := 83) dX12_compareOf_83 rfl
        · rw [if_neg b4] at h
          refine ev_bipush (pc := 49) (x := 13) dX12_compareOf_49 cb_13 ?_
          refine ev_goto (pc := 51) (tgt := 83) dX12_compareOf_51 (by decide) ?_
          cases h
          exact ev_iret (pc := 83) dX12_compareOf_83 rfl
      · rw [if_neg b3] at h
        refine ev_bipush (pc := 36) (x := 12) dX12_compareOf_36 cb_12 ?_
        refine ev_goto (pc := 38) (tgt := 83) dX12_compareOf_38 (by decide) ?_
        cases h
        exact ev_iret (pc := 83) dX12_compareOf_83 rfl
    · rw [if_neg b2] at h
      refine ev_bipush (pc := 22) (x := 11) dX12_compareOf_22 cb_11 ?_
      refine ev_goto (pc := 24) (tgt := 83) dX12_compareOf_24 (by decide) ?_
      cases h
      exact ev_iret (pc := 83) dX12_compareOf_83 rfl
  · rw [if_neg b1] at h
    refine ev_bipush (pc := 9) (x := 10) dX12_compareOf_9 cb_10 ?_
    refine ev_goto (pc := 11) (tgt := 83) dX12_compareOf_11 (by decide) ?_
    cases h
    exact ev_iret (pc := 83) dX12_compareOf_83 rfl
def f_X12_betweenOf (n : Nat) (M : Mem) : Option (Int) := if (M 801 9) ≠ 43 then (if (M 801 9) ≠ 45 then (if (M 801 9) ≠ 42 then (if (M 801 9) ≠ 47 then ((f_X12_isAskHere n M).bind fun q5 => if q5 ≠ 0 then ((f_X12_isCompared n M).bind fun q7 => if q7 ≠ 0 then (if (f_X12_isWord (f_X12_w3 97 110 100) M) = 0 then (if (f_X12_isWord (f_X12_w2 111 114) M) = 0 then (some (-1)) else (some 22)) else (some 21)) else (some (f_X12_compareOf M))) else (some (-1))) else (some 8)) else (some 7)) else (some 6)) else (some 5)
set_option maxRecDepth 100000 in
set_option maxHeartbeats 4000000 in
theorem e_X12_betweenOf {g : Gm} {d : Nat} {n : Nat} {M N : Mem} {v : Int} (hd : 2 ≤ d) (h : f_X12_betweenOf n M = some v) : EvM g d mtX12_betweenOf [vR 801] (sg (mx N M)) (0, 0) (vI v) (sg (mx N M)) := by
  unfold f_X12_betweenOf at h
  refine EvM.of mkX12_betweenOf.2.2.2.1 (Nat.le_of_ble_eq_true rfl) ?_
  change Ev g d mtX12_betweenOf 0 [(0, vR 801)] [] (sg (mx N M)) (0, 0) (vI v) (sg (mx N M))
  refine ev_aload_n (pc := 0) 0 dX12_betweenOf_0 rfl rfl ?_
  refine ev_getIr (pc := 1) fl12_126 rfl dX12_betweenOf_1 rfl kd_801 (by omega) (by omega) 9 rfl ?_
  refine ev_bipush (pc := 4) (x := 43) dX12_betweenOf_4 cb_43 ?_
  refine ev_icmp_ne (pc := 6) (tgt := 11) dX12_betweenOf_6 (by decide) (fun b1 => ?_) (fun b1 => ?_)
  · rw [if_pos b1] at h
    refine ev_aload_n (pc := 11) 0 dX12_betweenOf_11 rfl rfl ?_
    refine ev_getIr (pc := 12) fl12_126 rfl dX12_betweenOf_12 rfl kd_801 (by omega) (by omega) 9 rfl ?_
    refine ev_bipush (pc := 15) (x := 45) dX12_betweenOf_15 cb_45 ?_
    refine ev_icmp_ne (pc := 17) (tgt := 23) dX12_betweenOf_17 (by decide) (fun b2 => ?_) (fun b2 => ?_)
    · rw [if_pos b2] at h
      refine ev_aload_n (pc := 23) 0 dX12_betweenOf_23 rfl rfl ?_
      refine ev_getIr (pc := 24) fl12_126 rfl dX12_betweenOf_24 rfl kd_801 (by omega) (by omega) 9 rfl ?_
      refine ev_bipush (pc := 27) (x := 42) dX12_betweenOf_27 cb_42 ?_
      refine ev_icmp_ne (pc := 29) (tgt := 35) dX12_betweenOf_29 (by decide) (fun b3 => ?_) (fun b3 => ?_)
      · rw [if_pos b3] at h
        refine ev_aload_n (pc := 35) 0 dX12_betweenOf_35 rfl rfl ?_
        refine ev_getIr (pc := 36) fl12_126 rfl dX12_betweenOf_36 rfl kd_801 (by omega) (by omega) 9 rfl ?_
        refine ev_bipush (pc := 39) (x := 47) dX12_betweenOf_39 cb_47 ?_
        refine ev_icmp_ne (pc := 41) (tgt := 47) dX12_betweenOf_41 (by decide) (fun b4 => ?_) (fun b4 => ?_)
        · rw [if_pos b4] at h
          refine ev_aload_n (pc := 47) 0 dX12_betweenOf_47 rfl rfl ?_
          obtain ⟨q5, hq5, h⟩ := bd h
          refine ev_cV (pc := 48) [] [] rfl mkX12_isAskHere ml12_197 mnX12_isAskHere dX12_betweenOf_48 kd_801 (by omega) rfl (Nat.le_of_ble_eq_true rfl) (by omega) rfl (e_X12_isAskHere (d := d - 1) (v := q5) (by omega)  hq5) ?_
          refine ev_if_ne (pc := 51) (tgt := 56) dX12_betweenOf_51 (by decide) (fun b6 => ?_) (fun b6 => ?_)
          · rw [if_pos b6] at h
            refine ev_aload_n (pc := 56) 0 dX12_betweenOf_56 rfl rfl ?_
            obtain ⟨q7, hq7, h⟩ := bd h
            refine ev_cV (pc := 57) [] [] rfl mkX12_isCompared ml12_232 mnX12_isCompared dX12_betweenOf_57 kd_801 (by omega) rfl (Nat.le_of_ble_eq_true rfl) (by omega) rfl (e_X12_isCompared (d := d - 1) (v := q7) (by omega)  hq7) ?_
            refine ev_if_ne (pc := 60) (tgt := 68) dX12_betweenOf_60 (by decide) (fun b8 => ?_) (fun b8 => ?_)
            · rw [if_pos b8] at h
              refine ev_aload_n (pc := 68) 0 dX12_betweenOf_68 rfl rfl ?_
              refine ev_bipush (pc := 69) (x := 97) dX12_betweenOf_69 cb_97 ?_
              refine ev_bipush (pc := 71) (x := 110) dX12_betweenOf_71 cb_110 ?_
              refine ev_bipush (pc := 73) (x := 100) dX12_betweenOf_73 cb_100 ?_
              refine ev_cS (pc := 75) [vI 97, vI 110, vI 100] [vR 801] rfl mkX12_w3 ml12_152 msX12_w3 dX12_betweenOf_75 rfl (Nat.le_of_ble_eq_true rfl) (by omega) rfl (e_X12_w3 (d := d - 1) (v := (f_X12_w3 97 110 100)) (by omega)  rfl) ?_
              refine ev_cV (pc := 78) [vL (f_X12_w3 97 110 100)] [] rfl mkX12_isWord ml12_219 mnX12_isWord dX12_betweenOf_78 kd_801 (by omega) rfl (Nat.le_of_ble_eq_true rfl) (by omega) rfl (e_X12_isWord (d := d - 1) (v := (f_X12_isWord (f_X12_w3 97 110 100) M)) (by omega)  rfl) ?_
              refine ev_if_eq (pc := 81) (tgt := 89) dX12_betweenOf_81 (by decide) (fun b9 => ?_) (fun b9 => ?_)
              · rw [if_pos b9] at h
                refine ev_aload_n (pc := 89) 0 dX12_betweenOf_89 rfl rfl ?_
                refine ev_bipush (pc := 90) (x := 111) dX12_betweenOf_90 cb_111 ?_
                refine ev_bipush (pc := 92) (x := 114) dX12_betweenOf_92 cb_114 ?_
                refine ev_cS (pc := 94) [vI 111, vI 114] [vR 801] rfl mkX12_w2 ml12_148 msX12_w2 dX12_betweenOf_94 rfl (Nat.le_of_ble_eq_true rfl) (by omega) rfl (e_X12_w2 (d := d - 1) (v := (f_X12_w2 111 114)) (by omega)  rfl) ?_
                refine ev_cV (pc := 97) [vL (f_X12_w2 111 114)] [] rfl mkX12_isWord ml12_219 mnX12_isWord dX12_betweenOf_97 kd_801 (by omega) rfl (Nat.le_of_ble_eq_true rfl) (by omega) rfl (e_X12_isWord (d := d - 1) (v := (f_X12_isWord (f_X12_w2 111 114) M)) (by omega)  rfl) ?_
                refine ev_if_eq (pc := 100) (tgt := 108) dX12_betweenOf_100 (by decide) (fun b10 => ?_) (fun b10 => ?_)
                · rw [if_pos b10] at h
                  refine ev_iconst (pc := 108) (x := (-1)) dX12_betweenOf_108 ci_m1 ?_
                  cases h
                  exact ev_iret (pc := 109) dX12_betweenOf_109 rfl
                · rw [if_neg b10] at h
                  refine ev_bipush (pc := 103) (x := 22) dX12_betweenOf_103 cb_22 ?_
                  refine ev_goto (pc := 105) (tgt := 109) dX12_betweenOf_105 (by decide) ?_
                  cases h
                  exact ev_iret (pc := 109) dX12_betweenOf_109 rfl
              · rw [if_neg b9] at h
                refine ev_bipush (pc := 84) (x := 21) dX12_betweenOf_84 cb_21 ?_
                refine ev_goto (pc := 86) (tgt := 109) dX12_betweenOf_86 (by decide) ?_
                cases h
                exact ev_iret (pc := 109) dX12_betweenOf_109 rfl
            · rw [if_neg b8] at h
              refine ev_aload_n (pc := 63) 0 dX12_betweenOf_63 rfl rfl ?_
              refine ev_cV (pc := 64) [] [] rfl mkX12_compareOf ml12_235 mnX12_compareOf dX12_betweenOf_64 kd_801 (by omega) rfl (Nat.le_of_ble_eq_true rfl) (by omega) rfl (e_X12_compareOf (d := d - 1) (v := (f_X12_compareOf M)) (by omega)  rfl) ?_
              cases h
              exact ev_iret (pc := 67) dX12_betweenOf_67 rfl
          · rw [if_neg b6] at h
            refine ev_iconst (pc := 54) (x := (-1)) dX12_betweenOf_54 ci_m1 ?_
            cases h
            exact ev_iret (pc := 55) dX12_betweenOf_55 rfl
        · rw [if_neg b4] at h
          refine ev_bipush (pc := 44) (x := 8) dX12_betweenOf_44 cb_8 ?_
          cases h
          exact ev_iret (pc := 46) dX12_betweenOf_46 rfl
      · rw [if_neg b3] at h
        refine ev_bipush (pc := 32) (x := 7) dX12_betweenOf_32 cb_7 ?_
        cases h
        exact ev_iret (pc := 34) dX12_betweenOf_34 rfl
    · rw [if_neg b2] at h
      refine ev_bipush (pc := 20) (x := 6) dX12_betweenOf_20 cb_6 ?_
      cases h
      exact ev_iret (pc := 22) dX12_betweenOf_22 rfl
  · rw [if_neg b1] at h
    refine ev_iconst (pc := 9) (x := 5) dX12_betweenOf_9 ci_5 ?_
    cases h
    exact ev_iret (pc := 10) dX12_betweenOf_10 rfl
def f_X12_behindOne (n : Nat) (M : Mem) : Option (Int × Mem) := (f_X12_betweenOf n M).bind fun q1 => if q1 < 0 then ((f_X12_isOpen n M).bind fun q3 => if q3 = 0 then (some (0, M)) else (if (M 801 9) = 41 then ((f_X12_settle n 1 M).bind fun q6 => lt (upM q6 801 16 (wI ((q6 801 16) - 1))) fun M7 => lt (upM M7 801 17 (wI ((M7 801 17) - 1))) fun M8 => (f_X12_nextToken n M8).bind fun q9 => (f_X12_settle n 7 q9).bind fun q10 => some (1, q10)) else (some (0, M)))) else ((f_X12_settle n (f_X12_rank q1) M).bind fun q11 => ck (0 ≤ (q11 801 16) ∧ (q11 801 16) < 160) (lt (upM q11 806 (q11 801 16) q1) fun M13 => lt (upM M13 801 16 (wI ((M13 801 16) + 1))) fun M14 => lt (upM M14 801 18 0) fun M15 => (f_X12_nextToken n M15).bind fun q16 => some (1, q16)))
set_option maxRecDepth 100000 in
set_option maxHeartbeats 4000000 in
theorem e_X12_behindOne {g : Gm} {d : Nat} {n : Nat} {M N : Mem} {v : Int} {M' : Mem} (hd : 3 ≤ d) (h : f_X12_behindOne n M = some (v, M')) : EvM g d mtX12_behindOne [vR 801] (sg (mx N M)) (0, 0) (vI v) (sg (mx N M')) := by
  unfold f_X12_behindOne at h
  refine EvM.of mkX12_behindOne.2.2.2.1 (Nat.le_of_ble_eq_true rfl) ?_
  change Ev g d mtX12_behindOne 0 [(0, vR 801)] [] (sg (mx N M)) (0, 0) (vI v) (sg (mx N M'))
  refine ev_aload_n (pc := 0) 0 dX12_behindOne_0 rfl rfl ?_
  obtain ⟨q1, hq1, h⟩ := bd h
  refine ev_cV (pc := 1) [] [] rfl mkX12_betweenOf ml12_238 mnX12_betweenOf dX12_behindOne_1 kd_801 (by omega) rfl (Nat.le_of_ble_eq_true rfl) (by omega) rfl (e_X12_betweenOf (d := d - 1) (v := q1) (by omega)  hq1) ?_
  refine ev_istore_n (pc := 4) (il' := [(1, vI q1), (0, vR 801)]) dX12_behindOne_4 rfl (Nat.le_of_ble_eq_true rfl) rfl ?_
  refine ev_iload_n (pc := 5) 0 dX12_behindOne_5 rfl rfl ?_
  refine ev_if_lt (pc := 6) (tgt := 48) dX12_behindOne_6 (by decide) (fun b2 => ?_) (fun b2 => ?_)
  · rw [if_pos b2] at h
    refine ev_aload_n (pc := 48) 1 dX12_behindOne_48 rfl rfl ?_
    obtain ⟨q3, hq3, h⟩ := bd h
    refine ev_cV (pc := 49) [] [] rfl mkX12_isOpen ml12_193 mnX12_isOpen dX12_behindOne_49 kd_801 (by omega) rfl (Nat.le_of_ble_eq_true rfl) (by omega) rfl (e_X12_isOpen (d := d - 1) (v := q3) (by omega)  hq3) ?_
    refine ev_if_eq (pc := 52) (tgt := 64) dX12_behindOne_52 (by decide) (fun b4 => ?_) (fun b4 => ?_)
    · rw [if_pos b4] at h
      refine ev_iconst (pc := 64) (x := 0) dX12_behindOne_64 ci_0 ?_
      cases h
      exact ev_zret (pc := 65) (Or.inl rfl) dX12_behindOne_65 rfl
    · rw [if_neg b4] at h
      refine ev_aload_n (pc := 55) 1 dX12_behindOne_55 rfl rfl ?_
      refine ev_getIr (pc := 56) fl12_126 rfl dX12_behindOne_56 rfl kd_801 (by omega) (by omega) 9 rfl ?_
      refine ev_bipush (pc := 59) (x := 41) dX12_behindOne_59 cb_41 ?_
      refine ev_icmp_eq (pc := 61) (tgt := 66) dX12_behindOne_61 (by decide) (fun b5 => ?_) (fun b5 => ?_)
      · rw [if_pos b5] at h
        refine ev_aload_n (pc := 66) 1 dX12_behindOne_66 rfl rfl ?_
        refine ev_iconst (pc := 67) (x := 1) dX12_behindOne_67 ci_1 ?_
        obtain ⟨q6, hq6, h⟩ := bd h
        refine ev_cV0 (pc := 68) [vI 1] [] rfl mkX12_settle ml12_206 mnX12_settle dX12_behindOne_68 kd_801 (by omega) rfl (Nat.le_of_ble_eq_true rfl) (by omega) (e_X12_settle (d := d - 1) (M' := q6) (by omega)  hq6) ?_
        refine ev_aload_n (pc := 71) 1 dX12_behindOne_71 rfl rfl ?_
        refine ev_dup (pc := 72) rfl dX12_behindOne_72 ?_
        refine ev_getIr (pc := 73) fl12_177 rfl dX12_behindOne_73 rfl kd_801 (by omega) (by omega) 16 rfl ?_
        refine ev_iconst (pc := 76) (x := 1) dX12_behindOne_76 ci_1 ?_
        refine ev_isub (pc := 77) dX12_behindOne_77 ?_
        obtain ⟨M7, eM7, h⟩ := lt_some h
        refine ev_putIr (pc := 78) fl12_177 rfl dX12_behindOne_78 kd_801 (by omega) (by omega) eM7 ?_
        refine ev_aload_n (pc := 81) 1 dX12_behindOne_81 rfl rfl ?_
        refine ev_dup (pc := 82) rfl dX12_behindOne_82 ?_
        refine ev_getIr (pc := 83) fl12_187 rfl dX12_behindOne_83 rfl kd_801 (by omega) (by omega) 17 rfl ?_
        refine ev_iconst (pc := 86) (x := 1) dX12_behindOne_86 ci_1 ?_
        refine ev_isub (pc := 87) dX12_behindOne_87 ?_
        obtain ⟨M8, eM8, h⟩ := lt_some h
        refine ev_putIr (pc := 88) fl12_187 rfl dX12_behindOne_88 kd_801 (by omega) (by omega) eM8 ?_
        refine ev_aload_n (pc := 91) 1 dX12_behindOne_91 rfl rfl ?_
        obtain ⟨q9, hq9, h⟩ := bd h
        refine ev_cV0 (pc := 92) [] [] rfl mkX12_nextToken ml12_200 mnX12_nextToken dX12_behindOne_92 kd_801 (by omega) rfl (Nat.le_of_ble_eq_true rfl) (by omega) (e_X12_nextToken (d := d - 1) (M' := q9) (by omega)  hq9) ?_
        refine ev_aload_n (pc := 95) 1 dX12_behindOne_95 rfl rfl ?_
        refine ev_bipush (pc := 96) (x := 7) dX12_behindOne_96 cb_7 ?_
        obtain ⟨q10, hq10, h⟩ := bd h
        refine ev_cV0 (pc := 98) [vI 7] [] rfl mkX12_settle ml12_206 mnX12_settle dX12_behindOne_98 kd_801 (by omega) rfl (Nat.le_of_ble_eq_true rfl) (by omega) (e_X12_settle (d := d - 1) (M' := q10) (by omega)  hq10) ?_
        refine ev_iconst (pc := 101) (x := 1) dX12_behindOne_101 ci_1 ?_
        cases h
        exact ev_zret (pc := 102) (Or.inr rfl) dX12_behindOne_102 rfl
      · rw [if_neg b5] at h
        refine ev_iconst (pc := 64) (x := 0) dX12_behindOne_64 ci_0 ?_
        cases h
        exact ev_zret (pc := 65) (Or.inl rfl) dX12_behindOne_65 rfl
  · rw [if_neg b2] at h
    refine ev_aload_n (pc := 9) 1 dX12_behindOne_9 rfl rfl ?_
    refine ev_iload_n (pc := 10) 0 dX12_behindOne_10 rfl rfl ?_
    refine ev_cS (pc := 11) [vI q1] [vR 801] rfl mkX12_rank ml12_180 msX12_rank dX12_behindOne_11 rfl (Nat.le_of_ble_eq_true rfl) (by omega) rfl (e_X12_rank (d := d - 1) (v := (f_X12_rank q1)) (by omega)  rfl) ?_
    obtain ⟨q11, hq11, h⟩ := bd h
    refine ev_cV0 (pc := 14) [vI (f_X12_rank q1)] [] rfl mkX12_settle ml12_206 mnX12_settle dX12_behindOne_14 kd_801 (by omega) rfl (Nat.le_of_ble_eq_true rfl) (by omega) (e_X12_settle (d := d - 1) (M' := q11) (by omega)  hq11) ?_
    refine ev_aload_n (pc := 17) 1 dX12_behindOne_17 rfl rfl ?_
    refine ev_getR (pc := 18) fl12_29 rfl dX12_behindOne_18 rfl kd_801 (by omega) (rf_801_15 _) ?_
    refine ev_aload_n (pc := 21) 1 dX12_behindOne_21 rfl rfl ?_
    refine ev_getIr (pc := 22) fl12_177 rfl dX12_behindOne_22 rfl kd_801 (by omega) (by omega) 16 rfl ?_
    refine ev_iload_n (pc := 25) 0 dX12_behindOne_25 rfl rfl ?_
    obtain ⟨c12, h⟩ := ck_some h
    obtain ⟨M13, eM13, h⟩ := lt_some h
    refine ev_istr (pc := 26) dX12_behindOne_26 kd_806 (by omega) (by omega) c12.1 c12.2 eM13 ?_
    refine ev_aload_n (pc := 27) 1 dX12_behindOne_27 rfl rfl ?_
    refine ev_dup (pc := 28) rfl dX12_behindOne_28 ?_
    refine ev_getIr (pc := 29) fl12_177 rfl dX12_behindOne_29 rfl kd_801 (by omega) (by omega) 16 rfl ?_
    refine ev_iconst (pc := 32) (x := 1) dX12_behindOne_32 ci_1 ?_
    refine ev_iadd (pc := 33) dX12_behindOne_33 ?_
    obtain ⟨M14, eM14, h⟩ := lt_some h
    refine ev_putIr (pc := 34) fl12_177 rfl dX12_behindOne_34 kd_801 (by omega) (by omega) eM14 ?_
    refine ev_aload_n (pc := 37) 1 dX12_behindOne_37 rfl rfl ?_
    refine ev_iconst (pc := 38) (x := 0) dX12_behindOne_38 ci_0 ?_
    obtain ⟨M15, eM15, h⟩ := lt_some h
    refine ev_putZr (pc := 39) fl12_203 rfl dX12_behindOne_39 kd_801 (by omega) (by omega) (Or.inl rfl) eM15 ?_
    refine ev_aload_n (pc := 42) 1 dX12_behindOne_42 rfl rfl ?_
    obtain ⟨q16, hq16, h⟩ := bd h
    refine ev_cV0 (pc := 43) [] [] rfl mkX12_nextToken ml12_200 mnX12_nextToken dX12_behindOne_43 kd_801 (by omega) rfl (Nat.le_of_ble_eq_true rfl) (by omega) (e_X12_nextToken (d := d - 1) (M' := q16) (by omega)  hq16) ?_
    refine ev_iconst (pc := 46) (x := 1) dX12_behindOne_46 ci_1 ?_
    cases h
    exact ev_zret (pc := 47) (Or.inr rfl) dX12_behindOne_47 rfl
def f_X12_parsed_L20_J57 (n : Nat) (K : Mem → Option (Int × Mem)) (M : Mem) : Option (Int × Mem) := (f_X12_settle n 1 M).bind fun q14 => some (0, q14)
set_option maxRecDepth 100000 in
set_option maxHeartbeats 4000000 in
theorem e_X12_parsed_L20_J57 {g : Gm} {d : Nat} {n : Nat} {K : Mem → Option (Int × Mem)} {x1 : Int} {M N : Mem} {v : Int} {M' : Mem} (hd : 8 ≤ d) (hK : ∀ {M : Mem}, K M = some (v, M') → Ev g d mtX12_parsed 20 [(0, vR 801), (1, vI x1)] [] (sg (mx N M)) (0, 0) (vI v) (sg (mx N M'))) (h : f_X12_parsed_L20_J57 n K M = some (v, M')) : Ev g d mtX12_parsed 57 [(0, vR 801)] [] (sg (mx N M)) (0, 0) (vI v) (sg (mx N M')) := by
  unfold f_X12_parsed_L20_J57 at h
  refine ev_aload_n (pc := 57) 0 dX12_parsed_57 rfl rfl ?_
  refine ev_iconst (pc := 58) (x := 1) dX12_parsed_58 ci_1 ?_
  obtain ⟨q14, hq14, h⟩ := bd h
  refine ev_cV0 (pc := 59) [vI 1] [] rfl mkX12_settle ml12_206 mnX12_settle dX12_parsed_59 kd_801 (by omega) rfl (Nat.le_of_ble_eq_true rfl) (by omega) (e_X12_settle (d := d - 1) (M' := q14) (by omega)  hq14) ?_
  refine ev_iconst (pc := 62) (x := 0) dX12_parsed_62 ci_0 ?_
  cases h
  exact ev_iret (pc := 63) dX12_parsed_63 rfl
def f_X12_parsed_L20 : Nat → Int → Mem → Option (Int × Mem)
  | 0, _, _ => none
  | n + 1, x1, M => if (M 801 18) = 0 then ((f_X12_beginOne n M).bind fun q7 => if q7.1 = 0 then (f_X12_parsed_L20 n x1 q7.2) else (some (q7.1, q7.2))) else ((f_X12_behindOne n M).bind fun q9 => if q9.1 = 0 then ((f_X12_isOpen n q9.2).bind fun q11 => if q11 ≠ 0 then (some (1, q9.2)) else (if x1 = 0 then (f_X12_parsed_L20_J57 n (fun M => f_X12_parsed_L20 n x1 M) q9.2) else ((f_X12_isCompared n q9.2).bind fun q15 => if q15 ≠ 0 then (f_X12_parsed_L20_J57 n (fun M => f_X12_parsed_L20 n x1 M) q9.2) else (some (1, q9.2))))) else (f_X12_parsed_L20 n x1 q9.2))
set_option maxRecDepth 100000 in
set_option maxHeartbeats 4000000 in
theorem e_X12_parsed_L20 {g : Gm} {d : Nat} {x1 : Int} {N : Mem} (hd : 8 ≤ d) : ∀ (n : Nat) {M : Mem} {v : Int} {M' : Mem}, f_X12_parsed_L20 n x1 M = some (v, M') → Ev g d mtX12_parsed 20 [(0, vR 801), (1, vI x1)] [] (sg (mx N M)) (0, 0) (vI v) (sg (mx N M')) := by
  intro n
  induction n with
  | zero =>
    intro M v M' h
    rw [f_X12_parsed_L20.eq_1] at h
    cases h
  | succ n ih =>
    intro M v M' h
    rw [f_X12_parsed_L20.eq_2] at h
    refine ev_aload_n (pc := 20) 0 dX12_parsed_20 rfl rfl ?_
    refine ev_getIr (pc := 21) fl12_203 rfl dX12_parsed_21 rfl kd_801 (by omega) (by omega) 18 rfl ?_
    refine ev_if_eq (pc := 24) (tgt := 64) dX12_parsed_24 (by decide) (fun b6 => ?_) (fun b6 => ?_)
    · rw [if_pos b6] at h
      refine ev_aload_n (pc := 64) 0 dX12_parsed_64 rfl rfl ?_
      obtain ⟨q7, hq7, h⟩ := bd h
      refine ev_cV (pc := 65) [] [] rfl mkX12_beginOne ml12_244 mnX12_beginOne dX12_parsed_65 kd_801 (by omega) rfl (Nat.le_of_ble_eq_true rfl) (by omega) rfl (e_X12_beginOne (d := d - 1) (v := q7.1) (M' := q7.2) (by omega)  hq7) ?_
      refine ev_istore_n (pc := 68) (il' := [(2, vI q7.1), (0, vR 801), (1, vI x1)]) dX12_parsed_68 rfl (Nat.le_of_ble_eq_true rfl) rfl ?_
      refine ev_iload_n (pc := 69) 0 dX12_parsed_69 rfl rfl ?_
      refine ev_if_eq (pc := 70) (tgt := 75) dX12_parsed_70 (by decide) (fun b8 => ?_) (fun b8 => ?_)
      · rw [if_pos b8] at h
        refine ev_goto (pc := 75) (tgt := 20) dX12_parsed_75 (by decide) ?_
        refine ev_pick [1, 2] rfl ?_
        exact ih h
      · rw [if_neg b8] at h
        refine ev_iload_n (pc := 73) 0 dX12_parsed_73 rfl rfl ?_
        cases h
        exact ev_iret (pc := 74) dX12_parsed_74 rfl
    · rw [if_neg b6] at h
      refine ev_aload_n (pc := 27) 0 dX12_parsed_27 rfl rfl ?_
      obtain ⟨q9, hq9, h⟩ := bd h
      refine ev_cV (pc := 28) [] [] rfl mkX12_behindOne ml12_241 mnX12_behindOne dX12_parsed_28 kd_801 (by omega) rfl (Nat.le_of_ble_eq_true rfl) (by omega) rfl (e_X12_behindOne (d := d - 1) (v := q9.1) (M' := q9.2) (by omega)  hq9) ?_
      refine ev_if_eq (pc := 31) (tgt := 37) dX12_parsed_31 (by decide) (fun b10 => ?_) (fun b10 => ?_)
      · rw [if_pos b10] at h
        refine ev_aload_n (pc := 37) 0 dX12_parsed_37 rfl rfl ?_
        obtain ⟨q11, hq11, h⟩ := bd h
        refine ev_cV (pc := 38) [] [] rfl mkX12_isOpen ml12_193 mnX12_isOpen dX12_parsed_38 kd_801 (by omega) rfl (Nat.le_of_ble_eq_true rfl) (by omega) rfl (e_X12_isOpen (d := d - 1) (v := q11) (by omega)  hq11) ?_
        refine ev_if_ne (pc := 41) (tgt := 55) dX12_parsed_41 (by decide) (fun b12 => ?_) (fun b12 => ?_)
        · rw [if_pos b12] at h
          refine ev_iconst (pc := 55) (x := 1) dX12_parsed_55 ci_1 ?_
          cases h
          exact ev_iret (pc := 56) dX12_parsed_56 rfl
        · rw [if_neg b12] at h
          refine ev_iload_n (pc := 44) 1 dX12_parsed_44 rfl rfl ?_
          refine ev_if_eq (pc := 45) (tgt := 57) dX12_parsed_45 (by decide) (fun b13 => ?_) (fun b13 => ?_)
          · rw [if_pos b13] at h
            refine ev_pick [0] rfl ?_
            exact e_X12_parsed_L20_J57 hd  (fun h9 => ih h9) h
          · rw [if_neg b13] at h
            refine ev_aload_n (pc := 48) 0 dX12_parsed_48 rfl rfl ?_
            obtain ⟨q15, hq15, h⟩ := bd h
            refine ev_cV (pc := 49) [] [] rfl mkX12_isCompared ml12_232 mnX12_isCompared dX12_parsed_49 kd_801 (by omega) rfl (Nat.le_of_ble_eq_true rfl) (by omega) rfl (e_X12_isCompared (d := d - 1) (v := q15) (by omega)  hq15) ?_
            refine ev_if_ne (pc := 52) (tgt := 57) dX12_parsed_52 (by decide) (fun b16 => ?_) (fun b16 => ?_)
            · rw [if_pos b16] at h
              refine ev_pick [0] rfl ?_
              exact e_X12_parsed_L20_J57 hd  (fun h9 => ih h9) h
            · rw [if_neg b16] at h
              refine ev_iconst (pc := 55) (x := 1) dX12_parsed_55 ci_1 ?_
              cases h
              exact ev_iret (pc := 56) dX12_parsed_56 rfl
      · rw [if_neg b10] at h
        refine ev_goto (pc := 34) (tgt := 20) dX12_parsed_34 (by decide) ?_
        refine ev_pick [0, 1] rfl ?_
        exact ih h
def f_X12_parsed (n : Nat) (p0 : Int) (M : Mem) : Option (Int × Mem) := lt (upM M 801 16 0) fun M1 => lt (upM M1 801 17 0) fun M2 => lt (upM M2 801 18 0) fun M3 => ck (p0 = 0 ∨ p0 = 1) (lt (upM M3 801 19 p0) fun M4 => f_X12_parsed_L20 n p0 M4)
set_option maxRecDepth 100000 in
set_option maxHeartbeats 4000000 in
theorem e_X12_parsed {g : Gm} {d : Nat} {n : Nat} {p0 : Int} {M N : Mem} {v : Int} {M' : Mem} (hd : 8 ≤ d) (h : f_X12_parsed n p0 M = some (v, M')) : EvM g d mtX12_parsed [vR 801, vI p0] (sg (mx N M)) (0, 0) (vI v) (sg (mx N M')) := by
  unfold f_X12_parsed at h
  refine EvM.of mkX12_parsed.2.2.2.1 (Nat.le_of_ble_eq_true rfl) ?_
  change Ev g d mtX12_parsed 0 [(0, vR 801), (1, vI p0)] [] (sg (mx N M)) (0, 0) (vI v) (sg (mx N M'))
  refine ev_aload_n (pc := 0) 0 dX12_parsed_0 rfl rfl ?_
  refine ev_iconst (pc := 1) (x := 0) dX12_parsed_1 ci_0 ?_
  obtain ⟨M1, eM1, h⟩ := lt_some h
  refine ev_putIr (pc := 2) fl12_177 rfl dX12_parsed_2 kd_801 (by omega) (by omega) eM1 ?_
  refine ev_aload_n (pc := 5) 0 dX12_parsed_5 rfl rfl ?_
  refine ev_iconst (pc := 6) (x := 0) dX12_parsed_6 ci_0 ?_
  obtain ⟨M2, eM2, h⟩ := lt_some h
  refine ev_putIr (pc := 7) fl12_187 rfl dX12_parsed_7 kd_801 (by omega) (by omega) eM2 ?_
  refine ev_aload_n (pc := 10) 0 dX12_parsed_10 rfl rfl ?_
  refine ev_iconst (pc := 11) (x := 0) dX12_parsed_11 ci_0 ?_
  obtain ⟨M3, eM3, h⟩ := lt_some h
  refine ev_putZr (pc := 12) fl12_203 rfl dX12_parsed_12 kd_801 (by omega) (by omega) (Or.inl rfl) eM3 ?_
  refine ev_aload_n (pc := 15) 0 dX12_parsed_15 rfl rfl ?_
  refine ev_iload_n (pc := 16) 1 dX12_parsed_16 rfl rfl ?_
  obtain ⟨c5, h⟩ := ck_some h
  obtain ⟨M4, eM4, h⟩ := lt_some h
  refine ev_putZr (pc := 17) fl12_190 rfl dX12_parsed_17 kd_801 (by omega) (by omega) c5 eM4 ?_
  refine ev_pick [0, 1] rfl ?_
  exact e_X12_parsed_L20 hd  n h
def f_X12_figure (n : Nat) (p0 p1 p2 : Int) (M : Mem) : Option (Int × Mem) := if (M 801 9) = 1 then (if (f_X12_isIn (M 801 10) p1 p2) ≠ 0 then (ck (0 ≤ p0 ∧ p0 < 2916) (lt (upM M 804 p0 (M 801 10)) fun M4 => (f_X12_nextToken n M4).bind fun q5 => some (0, q5))) else (some (2, M))) else (some (1, M))
set_option maxRecDepth 100000 in
set_option maxHeartbeats 4000000 in
theorem e_X12_figure {g : Gm} {d : Nat} {n : Nat} {p0 p1 p2 : Int} {M N : Mem} {v : Int} {M' : Mem} (hd : 2 ≤ d) (h : f_X12_figure n p0 p1 p2 M = some (v, M')) : EvM g d mtX12_figure [vR 801, vI p0, vI p1, vI p2] (sg (mx N M)) (0, 0) (vI v) (sg (mx N M')) := by
  unfold f_X12_figure at h
  refine EvM.of mkX12_figure.2.2.2.1 (Nat.le_of_ble_eq_true rfl) ?_
  change Ev g d mtX12_figure 0 [(0, vR 801), (1, vI p0), (2, vI p1), (3, vI p2)] [] (sg (mx N M)) (0, 0) (vI v) (sg (mx N M'))
  refine ev_aload_n (pc := 0) 0 dX12_figure_0 rfl rfl ?_
  refine ev_getIr (pc := 1) fl12_126 rfl dX12_figure_1 rfl kd_801 (by omega) (by omega) 9 rfl ?_
  refine ev_iconst (pc := 4) (x := 1) dX12_figure_4 ci_1 ?_
  refine ev_icmp_eq (pc := 5) (tgt := 10) dX12_figure_5 (by decide) (fun b1 => ?_) (fun b1 => ?_)
  · rw [if_pos b1] at h
    refine ev_aload_n (pc := 10) 0 dX12_figure_10 rfl rfl ?_
    refine ev_getIr (pc := 11) fl12_132 rfl dX12_figure_11 rfl kd_801 (by omega) (by omega) 10 rfl ?_
    refine ev_iload_n (pc := 14) 2 dX12_figure_14 rfl rfl ?_
    refine ev_iload_n (pc := 15) 3 dX12_figure_15 rfl rfl ?_
    refine ev_cS (pc := 16) [vI (M 801 10), vI p1, vI p2] [] rfl mkX12_isIn ml12_90 msX12_isIn dX12_figure_16 rfl (Nat.le_of_ble_eq_true rfl) (by omega) rfl (e_X12_isIn (d := d - 1) (v := (f_X12_isIn (M 801 10) p1 p2)) (by omega)  rfl) ?_
    refine ev_if_ne (pc := 19) (tgt := 24) dX12_figure_19 (by decide) (fun b2 => ?_) (fun b2 => ?_)
    · rw [if_pos b2] at h
      refine ev_aload_n (pc := 24) 0 dX12_figure_24 rfl rfl ?_
      refine ev_getR (pc := 25) fl12_16 rfl dX12_figure_25 rfl kd_801 (by omega) (rf_801_2 _) ?_
      refine ev_iload_n (pc := 28) 1 dX12_figure_28 rfl rfl ?_
      refine ev_aload_n (pc := 29) 0 dX12_figure_29 rfl rfl ?_
      refine ev_getIr (pc := 30) fl12_132 rfl dX12_figure_30 rfl kd_801 (by omega) (by omega) 10 rfl ?_
      obtain ⟨c3, h⟩ := ck_some h
      obtain ⟨M4, eM4, h⟩ := lt_some h
      refine ev_istr (pc := 33) dX12_figure_33 kd_804 (by omega) (by omega) c3.1 c3.2 eM4 ?_
      refine ev_aload_n (pc := 34) 0 dX12_figure_34 rfl rfl ?_
      obtain ⟨q5, hq5, h⟩ := bd h
      refine ev_cV0 (pc := 35) [] [] rfl mkX12_nextToken ml12_200 mnX12_nextToken dX12_figure_35 kd_801 (by omega) rfl (Nat.le_of_ble_eq_true rfl) (by omega) (e_X12_nextToken (d := d - 1) (M' := q5) (by omega)  hq5) ?_
      refine ev_iconst (pc := 38) (x := 0) dX12_figure_38 ci_0 ?_
      cases h
      exact ev_iret (pc := 39) dX12_figure_39 rfl
    · rw [if_neg b2] at h
      refine ev_iconst (pc := 22) (x := 2) dX12_figure_22 ci_2 ?_
      cases h
      exact ev_iret (pc := 23) dX12_figure_23 rfl
  · rw [if_neg b1] at h
    refine ev_iconst (pc := 8) (x := 1) dX12_figure_8 ci_1 ?_
    cases h
    exact ev_iret (pc := 9) dX12_figure_9 rfl
def f_X12_worded (n : Nat) (p0 p1 p2 p3 : Int) (M : Mem) : Option (Int × Mem) := if (f_X12_isWord p0 M) ≠ 0 then ((f_X12_nextToken n M).bind fun q2 => (f_X12_figure n p1 p2 p3 q2).bind fun q3 => some (q3.1, q3.2)) else (some (1, M))
set_option maxRecDepth 100000 in
set_option maxHeartbeats 4000000 in
theorem e_X12_worded {g : Gm} {d : Nat} {n : Nat} {p0 p1 p2 p3 : Int} {M N : Mem} {v : Int} {M' : Mem} (hd : 3 ≤ d) (h : f_X12_worded n p0 p1 p2 p3 M = some (v, M')) : EvM g d mtX12_worded [vR 801, vL p0, vI p1, vI p2, vI p3] (sg (mx N M)) (0, 0) (vI v) (sg (mx N M')) := by
  unfold f_X12_worded at h
  refine EvM.of mkX12_worded.2.2.2.1 (Nat.le_of_ble_eq_true rfl) ?_
  change Ev g d mtX12_worded 0 [(0, vR 801), (1, vL p0), (3, vI p1), (4, vI p2), (5, vI p3)] [] (sg (mx N M)) (0, 0) (vI v) (sg (mx N M'))
  refine ev_aload_n (pc := 0) 0 dX12_worded_0 rfl rfl ?_
  refine ev_lload_n (pc := 1) 1 dX12_worded_1 rfl rfl ?_
  refine ev_cV (pc := 2) [vL p0] [] rfl mkX12_isWord ml12_219 mnX12_isWord dX12_worded_2 kd_801 (by omega) rfl (Nat.le_of_ble_eq_true rfl) (by omega) rfl (e_X12_isWord (d := d - 1) (v := (f_X12_isWord p0 M)) (by omega)  rfl) ?_
  refine ev_if_ne (pc := 5) (tgt := 10) dX12_worded_5 (by decide) (fun b1 => ?_) (fun b1 => ?_)
  · rw [if_pos b1] at h
    refine ev_aload_n (pc := 10) 0 dX12_worded_10 rfl rfl ?_
    obtain ⟨q2, hq2, h⟩ := bd h
    refine ev_cV0 (pc := 11) [] [] rfl mkX12_nextToken ml12_200 mnX12_nextToken dX12_worded_11 kd_801 (by omega) rfl (Nat.le_of_ble_eq_true rfl) (by omega) (e_X12_nextToken (d := d - 1) (M' := q2) (by omega)  hq2) ?_
    refine ev_aload_n (pc := 14) 0 dX12_worded_14 rfl rfl ?_
    refine ev_iload_n (pc := 15) 2 dX12_worded_15 rfl rfl ?_
    refine ev_iload (pc := 16) 3 dX12_worded_16 rfl ?_
    refine ev_iload (pc := 18) 4 dX12_worded_18 rfl ?_
    obtain ⟨q3, hq3, h⟩ := bd h
    refine ev_cV (pc := 20) [vI p1, vI p2, vI p3] [] rfl mkX12_figure ml12_247 mnX12_figure dX12_worded_20 kd_801 (by omega) rfl (Nat.le_of_ble_eq_true rfl) (by omega) rfl (e_X12_figure (d := d - 1) (v := q3.1) (M' := q3.2) (by omega)  hq3) ?_
    cases h
    exact ev_iret (pc := 23) dX12_worded_23 rfl
  · rw [if_neg b1] at h
    refine ev_iconst (pc := 8) (x := 1) dX12_worded_8 ci_1 ?_
    cases h
    exact ev_iret (pc := 9) dX12_worded_9 rfl
def f_X12_lawClause (n : Nat) (p0 p1 : Int) (M : Mem) : Option (Int × Mem) := ck (0 ≤ (wI (p0 + 1)) ∧ (wI (p0 + 1)) < 2916) (lt (upM M 804 (wI (p0 + 1)) (M 801 13)) fun M2 => (f_X12_parsed n p1 M2).bind fun q3 => ck (0 ≤ (wI (p0 + 2)) ∧ (wI (p0 + 2)) < 2916) (lt (upM q3.2 804 (wI (p0 + 2)) (q3.2 801 13)) fun M5 => some (q3.1, M5)))
set_option maxRecDepth 100000 in
set_option maxHeartbeats 4000000 in
theorem e_X12_lawClause {g : Gm} {d : Nat} {n : Nat} {p0 p1 : Int} {M N : Mem} {v : Int} {M' : Mem} (hd : 9 ≤ d) (h : f_X12_lawClause n p0 p1 M = some (v, M')) : EvM g d mtX12_lawClause [vR 801, vI p0, vI p1] (sg (mx N M)) (0, 0) (vI v) (sg (mx N M')) := by
  unfold f_X12_lawClause at h
  refine EvM.of mkX12_lawClause.2.2.2.1 (Nat.le_of_ble_eq_true rfl) ?_
  change Ev g d mtX12_lawClause 0 [(0, vR 801), (1, vI p0), (2, vI p1)] [] (sg (mx N M)) (0, 0) (vI v) (sg (mx N M'))
  refine ev_aload_n (pc := 0) 0 dX12_lawClause_0 rfl rfl ?_
  refine ev_getR (pc := 1) fl12_16 rfl dX12_lawClause_1 rfl kd_801 (by omega) (rf_801_2 _) ?_
  refine ev_iload_n (pc := 4) 1 dX12_lawClause_4 rfl rfl ?_
  refine ev_iconst (pc := 5) (x := 1) dX12_lawClause_5 ci_1 ?_
  refine ev_iadd (pc := 6) dX12_lawClause_6 ?_
  refine ev_aload_n (pc := 7) 0 dX12_lawClause_7 rfl rfl ?_
  refine ev_getIr (pc := 8) fl12_167 rfl dX12_lawClause_8 rfl kd_801 (by omega) (by omega) 13 rfl ?_
  obtain ⟨c1, h⟩ := ck_some h
  obtain ⟨M2, eM2, h⟩ := lt_some h
  refine ev_istr (pc := 11) dX12_lawClause_11 kd_804 (by omega) (by omega) c1.1 c1.2 eM2 ?_
  refine ev_aload_n (pc := 12) 0 dX12_lawClause_12 rfl rfl ?_
  refine ev_iload_n (pc := 13) 2 dX12_lawClause_13 rfl rfl ?_
  obtain ⟨q3, hq3, h⟩ := bd h
  refine ev_cV (pc := 14) [vI p1] [] rfl mkX12_parsed ml12_251 mnX12_parsed dX12_lawClause_14 kd_801 (by omega) rfl (Nat.le_of_ble_eq_true rfl) (by omega) rfl (e_X12_parsed (d := d - 1) (v := q3.1) (M' := q3.2) (by omega)  hq3) ?_
  refine ev_istore_n (pc := 17) (il' := [(3, vI q3.1), (0, vR 801), (1, vI p0), (2, vI p1)]) dX12_lawClause_17 rfl (Nat.le_of_ble_eq_true rfl) rfl ?_
  refine ev_aload_n (pc := 18) 1 dX12_lawClause_18 rfl rfl ?_
  refine ev_getR (pc := 19) fl12_16 rfl dX12_lawClause_19 rfl kd_801 (by omega) (rf_801_2 _) ?_
  refine ev_iload_n (pc := 22) 2 dX12_lawClause_22 rfl rfl ?_
  refine ev_iconst (pc := 23) (x := 2) dX12_lawClause_23 ci_2 ?_
  refine ev_iadd (pc := 24) dX12_lawClause_24 ?_
  refine ev_aload_n (pc := 25) 1 dX12_lawClause_25 rfl rfl ?_
  refine ev_getIr (pc := 26) fl12_167 rfl dX12_lawClause_26 rfl kd_801 (by omega) (by omega) 13 rfl ?_
  obtain ⟨c4, h⟩ := ck_some h
  obtain ⟨M5, eM5, h⟩ := lt_some h
  refine ev_istr (pc := 29) dX12_lawClause_29 kd_804 (by omega) (by omega) c4.1 c4.2 eM5 ?_
  refine ev_iload_n (pc := 30) 0 dX12_lawClause_30 rfl rfl ?_
  cases h
  exact ev_iret (pc := 31) dX12_lawClause_31 rfl
def f_X12_stepClause_J66 (n : Nat) (x1 x2 : Int) (M : Mem) : Option (Int × Mem) := if x2 = 0 then ((f_X12_worded n (f_X12_w4 102 105 115 104) (wI (x1 + 4)) 0 999 M).bind fun q5 => some (q5.1, q5.2)) else (some (x2, M))
set_option maxRecDepth 100000 in
set_option maxHeartbeats 4000000 in
theorem e_X12_stepClause_J66 {g : Gm} {d : Nat} {n : Nat} {x1 x2 : Int} {M N : Mem} {v : Int} {M' : Mem} (hd : 4 ≤ d) (h : f_X12_stepClause_J66 n x1 x2 M = some (v, M')) : Ev g d mtX12_stepClause 66 [(0, vR 801), (1, vI x1), (2, vI x2)] [] (sg (mx N M)) (0, 0) (vI v) (sg (mx N M')) := by
  unfold f_X12_stepClause_J66 at h
  refine ev_iload_n (pc := 66) 2 dX12_stepClause_66 rfl rfl ?_
  refine ev_if_eq (pc := 67) (tgt := 74) dX12_stepClause_67 (by decide) (fun b4 => ?_) (fun b4 => ?_)
  · rw [if_pos b4] at h
    refine ev_aload_n (pc := 74) 0 dX12_stepClause_74 rfl rfl ?_
    refine ev_bipush (pc := 75) (x := 102) dX12_stepClause_75 cb_102 ?_
    refine ev_bipush (pc := 77) (x := 105) dX12_stepClause_77 cb_105 ?_
    refine ev_bipush (pc := 79) (x := 115) dX12_stepClause_79 cb_115 ?_
    refine ev_bipush (pc := 81) (x := 104) dX12_stepClause_81 cb_104 ?_
    refine ev_cS (pc := 83) [vI 102, vI 105, vI 115, vI 104] [vR 801] rfl mkX12_w4 ml12_156 msX12_w4 dX12_stepClause_83 rfl (Nat.le_of_ble_eq_true rfl) (by omega) rfl (e_X12_w4 (d := d - 1) (v := (f_X12_w4 102 105 115 104)) (by omega)  rfl) ?_
    refine ev_iload_n (pc := 86) 1 dX12_stepClause_86 rfl rfl ?_
    refine ev_iconst (pc := 87) (x := 4) dX12_stepClause_87 ci_4 ?_
    refine ev_iadd (pc := 88) dX12_stepClause_88 ?_
    refine ev_iconst (pc := 89) (x := 0) dX12_stepClause_89 ci_0 ?_
    refine ev_sipush (pc := 90) (x := 999) dX12_stepClause_90 cs_999 ?_
    obtain ⟨q5, hq5, h⟩ := bd h
    refine ev_cV (pc := 93) [vL (f_X12_w4 102 105 115 104), vI (wI (x1 + 4)), vI 0, vI 999] [] rfl mkX12_worded ml12_255 mnX12_worded dX12_stepClause_93 kd_801 (by omega) rfl (Nat.le_of_ble_eq_true rfl) (by omega) rfl (e_X12_worded (d := d - 1) (v := q5.1) (M' := q5.2) (by omega)  hq5) ?_
    cases h
    exact ev_iret (pc := 96) dX12_stepClause_96 rfl
  · rw [if_neg b4] at h
    refine ev_iload_n (pc := 70) 2 dX12_stepClause_70 rfl rfl ?_
    refine ev_goto (pc := 71) (tgt := 96) dX12_stepClause_71 (by decide) ?_
    cases h
    exact ev_iret (pc := 96) dX12_stepClause_96 rfl
def f_X12_stepClause_J37 (n : Nat) (x1 x2 : Int) (M : Mem) : Option (Int × Mem) := if x2 ≠ 0 then (f_X12_stepClause_J66 n x1 x2 M) else ((f_X12_worded n (f_X12_w5 119 97 116 101 114) (wI (x1 + 3)) 0 999 M).bind fun q6 => f_X12_stepClause_J66 n x1 q6.1 q6.2)
set_option maxRecDepth 100000 in
set_option maxHeartbeats 4000000 in
theorem e_X12_stepClause_J37 {g : Gm} {d : Nat} {n : Nat} {x1 x2 : Int} {M N : Mem} {v : Int} {M' : Mem} (hd : 4 ≤ d) (h : f_X12_stepClause_J37 n x1 x2 M = some (v, M')) : Ev g d mtX12_stepClause 37 [(0, vR 801), (1, vI x1), (2, vI x2)] [] (sg (mx N M)) (0, 0) (vI v) (sg (mx N M')) := by
  unfold f_X12_stepClause_J37 at h
  refine ev_iload_n (pc := 37) 2 dX12_stepClause_37 rfl rfl ?_
  refine ev_if_ne (pc := 38) (tgt := 66) dX12_stepClause_38 (by decide) (fun b3 => ?_) (fun b3 => ?_)
  · rw [if_pos b3] at h
    refine ev_pick [0, 1, 2] rfl ?_
    exact e_X12_stepClause_J66 hd  h
  · rw [if_neg b3] at h
    refine ev_aload_n (pc := 41) 0 dX12_stepClause_41 rfl rfl ?_
    refine ev_bipush (pc := 42) (x := 119) dX12_stepClause_42 cb_119 ?_
    refine ev_bipush (pc := 44) (x := 97) dX12_stepClause_44 cb_97 ?_
    refine ev_bipush (pc := 46) (x := 116) dX12_stepClause_46 cb_116 ?_
    refine ev_bipush (pc := 48) (x := 101) dX12_stepClause_48 cb_101 ?_
    refine ev_bipush (pc := 50) (x := 114) dX12_stepClause_50 cb_114 ?_
    refine ev_cS (pc := 52) [vI 119, vI 97, vI 116, vI 101, vI 114] [vR 801] rfl mkX12_w5 ml12_160 msX12_w5 dX12_stepClause_52 rfl (Nat.le_of_ble_eq_true rfl) (by omega) rfl (e_X12_w5 (d := d - 1) (v := (f_X12_w5 119 97 116 101 114)) (by omega)  rfl) ?_
    refine ev_iload_n (pc := 55) 1 dX12_stepClause_55 rfl rfl ?_
    refine ev_iconst (pc := 56) (x := 3) dX12_stepClause_56 ci_3 ?_
    refine ev_iadd (pc := 57) dX12_stepClause_57 ?_
    refine ev_iconst (pc := 58) (x := 0) dX12_stepClause_58 ci_0 ?_
    refine ev_sipush (pc := 59) (x := 999) dX12_stepClause_59 cs_999 ?_
    obtain ⟨q6, hq6, h⟩ := bd h
    refine ev_cV (pc := 62) [vL (f_X12_w5 119 97 116 101 114), vI (wI (x1 + 3)), vI 0, vI 999] [] rfl mkX12_worded ml12_255 mnX12_worded dX12_stepClause_62 kd_801 (by omega) rfl (Nat.le_of_ble_eq_true rfl) (by omega) rfl (e_X12_worded (d := d - 1) (v := q6.1) (M' := q6.2) (by omega)  hq6) ?_
    refine ev_istore_n (pc := 65) (il' := [(2, vI q6.1), (0, vR 801), (1, vI x1)]) dX12_stepClause_65 rfl (Nat.le_of_ble_eq_true rfl) rfl ?_
    refine ev_pick [1, 2, 0] rfl ?_
    exact e_X12_stepClause_J66 hd  h
def f_X12_stepClause (n : Nat) (p0 : Int) (M : Mem) : Option (Int × Mem) := (f_X12_figure n (wI (p0 + 1)) 1 99 M).bind fun q1 => if q1.1 ≠ 0 then (f_X12_stepClause_J37 n p0 q1.1 q1.2) else ((f_X12_worded n (f_X12_w4 115 105 108 108) (wI (p0 + 2)) 0 99 q1.2).bind fun q7 => f_X12_stepClause_J37 n p0 q7.1 q7.2)
set_option maxRecDepth 100000 in
set_option maxHeartbeats 4000000 in
theorem e_X12_stepClause {g : Gm} {d : Nat} {n : Nat} {p0 : Int} {M N : Mem} {v : Int} {M' : Mem} (hd : 4 ≤ d) (h : f_X12_stepClause n p0 M = some (v, M')) : EvM g d mtX12_stepClause [vR 801, vI p0] (sg (mx N M)) (0, 0) (vI v) (sg (mx N M')) := by
  unfold f_X12_stepClause at h
  refine EvM.of mkX12_stepClause.2.2.2.1 (Nat.le_of_ble_eq_true rfl) ?_
  change Ev g d mtX12_stepClause 0 [(0, vR 801), (1, vI p0)] [] (sg (mx N M)) (0, 0) (vI v) (sg (mx N M'))
  refine ev_aload_n (pc := 0) 0 dX12_stepClause_0 rfl rfl ?_
  refine ev_iload_n (pc := 1) 1 dX12_stepClause_1 rfl rfl ?_
  refine ev_iconst (pc := 2) (x := 1) dX12_stepClause_2 ci_1 ?_
  refine ev_iadd (pc := 3) dX12_stepClause_3 ?_
  refine ev_iconst (pc := 4) (x := 1) dX12_stepClause_4 ci_1 ?_
  refine ev_bipush (pc := 5) (x := 99) dX12_stepClause_5 cb_99 ?_
  obtain ⟨q1, hq1, h⟩ := bd h
  refine ev_cV (pc := 7) [vI (wI (p0 + 1)), vI 1, vI 99] [] rfl mkX12_figure ml12_247 mnX12_figure dX12_stepClause_7 kd_801 (by omega) rfl (Nat.le_of_ble_eq_true rfl) (by omega) rfl (e_X12_figure (d := d - 1) (v := q1.1) (M' := q1.2) (by omega)  hq1) ?_
  refine ev_istore_n (pc := 10) (il' := [(2, vI q1.1), (0, vR 801), (1, vI p0)]) dX12_stepClause_10 rfl (Nat.le_of_ble_eq_true rfl) rfl ?_
  refine ev_iload_n (pc := 11) 0 dX12_stepClause_11 rfl rfl ?_
  refine ev_if_ne (pc := 12) (tgt := 37) dX12_stepClause_12 (by decide) (fun b2 => ?_) (fun b2 => ?_)
  · rw [if_pos b2] at h
    refine ev_pick [1, 2, 0] rfl ?_
    exact e_X12_stepClause_J37 hd  h
  · rw [if_neg b2] at h
    refine ev_aload_n (pc := 15) 1 dX12_stepClause_15 rfl rfl ?_
    refine ev_bipush (pc := 16) (x := 115) dX12_stepClause_16 cb_115 ?_
    refine ev_bipush (pc := 18) (x := 105) dX12_stepClause_18 cb_105 ?_
    refine ev_bipush (pc := 20) (x := 108) dX12_stepClause_20 cb_108 ?_
    refine ev_bipush (pc := 22) (x := 108) dX12_stepClause_22 cb_108 ?_
    refine ev_cS (pc := 24) [vI 115, vI 105, vI 108, vI 108] [vR 801] rfl mkX12_w4 ml12_156 msX12_w4 dX12_stepClause_24 rfl (Nat.le_of_ble_eq_true rfl) (by omega) rfl (e_X12_w4 (d := d - 1) (v := (f_X12_w4 115 105 108 108)) (by omega)  rfl) ?_
    refine ev_iload_n (pc := 27) 2 dX12_stepClause_27 rfl rfl ?_
    refine ev_iconst (pc := 28) (x := 2) dX12_stepClause_28 ci_2 ?_
    refine ev_iadd (pc := 29) dX12_stepClause_29 ?_
    refine ev_iconst (pc := 30) (x := 0) dX12_stepClause_30 ci_0 ?_
    refine ev_bipush (pc := 31) (x := 99) dX12_stepClause_31 cb_99 ?_
    obtain ⟨q7, hq7, h⟩ := bd h
    refine ev_cV (pc := 33) [vL (f_X12_w4 115 105 108 108), vI (wI (p0 + 2)), vI 0, vI 99] [] rfl mkX12_worded ml12_255 mnX12_worded dX12_stepClause_33 kd_801 (by omega) rfl (Nat.le_of_ble_eq_true rfl) (by omega) rfl (e_X12_worded (d := d - 1) (v := q7.1) (M' := q7.2) (by omega)  hq7) ?_
    refine ev_istore_n (pc := 36) (il' := [(2, vI q7.1), (0, vR 801), (1, vI p0)]) dX12_stepClause_36 rfl (Nat.le_of_ble_eq_true rfl) rfl ?_
    refine ev_pick [1, 2, 0] rfl ?_
    exact e_X12_stepClause_J37 hd  h
def f_X12_shipClause_J33 (n : Nat) (x1 x2 : Int) (M : Mem) : Option (Int × Mem) := if x2 = 0 then ((f_X12_worded n (f_X12_w2 116 111) (wI (x1 + 3)) 0 8 M).bind fun q4 => some (q4.1, q4.2)) else (some (x2, M))
set_option maxRecDepth 100000 in
set_option maxHeartbeats 4000000 in
theorem e_X12_shipClause_J33 {g : Gm} {d : Nat} {n : Nat} {x1 x2 : Int} {M N : Mem} {v : Int} {M' : Mem} (hd : 4 ≤ d) (h : f_X12_shipClause_J33 n x1 x2 M = some (v, M')) : Ev g d mtX12_shipClause 33 [(0, vR 801), (1, vI x1), (2, vI x2)] [] (sg (mx N M)) (0, 0) (vI v) (sg (mx N M')) := by
  unfold f_X12_shipClause_J33 at h
  refine ev_iload_n (pc := 33) 2 dX12_shipClause_33 rfl rfl ?_
  refine ev_if_eq (pc := 34) (tgt := 41) dX12_shipClause_34 (by decide) (fun b3 => ?_) (fun b3 => ?_)
  · rw [if_pos b3] at h
    refine ev_aload_n (pc := 41) 0 dX12_shipClause_41 rfl rfl ?_
    refine ev_bipush (pc := 42) (x := 116) dX12_shipClause_42 cb_116 ?_
    refine ev_bipush (pc := 44) (x := 111) dX12_shipClause_44 cb_111 ?_
    refine ev_cS (pc := 46) [vI 116, vI 111] [vR 801] rfl mkX12_w2 ml12_148 msX12_w2 dX12_shipClause_46 rfl (Nat.le_of_ble_eq_true rfl) (by omega) rfl (e_X12_w2 (d := d - 1) (v := (f_X12_w2 116 111)) (by omega)  rfl) ?_
    refine ev_iload_n (pc := 49) 1 dX12_shipClause_49 rfl rfl ?_
    refine ev_iconst (pc := 50) (x := 3) dX12_shipClause_50 ci_3 ?_
    refine ev_iadd (pc := 51) dX12_shipClause_51 ?_
    refine ev_iconst (pc := 52) (x := 0) dX12_shipClause_52 ci_0 ?_
    refine ev_bipush (pc := 53) (x := 8) dX12_shipClause_53 cb_8 ?_
    obtain ⟨q4, hq4, h⟩ := bd h
    refine ev_cV (pc := 55) [vL (f_X12_w2 116 111), vI (wI (x1 + 3)), vI 0, vI 8] [] rfl mkX12_worded ml12_255 mnX12_worded dX12_shipClause_55 kd_801 (by omega) rfl (Nat.le_of_ble_eq_true rfl) (by omega) rfl (e_X12_worded (d := d - 1) (v := q4.1) (M' := q4.2) (by omega)  hq4) ?_
    cases h
    exact ev_iret (pc := 58) dX12_shipClause_58 rfl
  · rw [if_neg b3] at h
    refine ev_iload_n (pc := 37) 2 dX12_shipClause_37 rfl rfl ?_
    refine ev_goto (pc := 38) (tgt := 58) dX12_shipClause_38 (by decide) ?_
    cases h
    exact ev_iret (pc := 58) dX12_shipClause_58 rfl
def f_X12_shipClause (n : Nat) (p0 : Int) (M : Mem) : Option (Int × Mem) := (f_X12_figure n (wI (p0 + 1)) 1 99 M).bind fun q1 => if q1.1 ≠ 0 then (f_X12_shipClause_J33 n p0 q1.1 q1.2) else ((f_X12_worded n (f_X12_w2 111 110) (wI (p0 + 2)) 0 8 q1.2).bind fun q5 => f_X12_shipClause_J33 n p0 q5.1 q5.2)
set_option maxRecDepth 100000 in
set_option maxHeartbeats 4000000 in
theorem e_X12_shipClause {g : Gm} {d : Nat} {n : Nat} {p0 : Int} {M N : Mem} {v : Int} {M' : Mem} (hd : 4 ≤ d) (h : f_X12_shipClause n p0 M = some (v, M')) : EvM g d mtX12_shipClause [vR 801, vI p0] (sg (mx N M)) (0, 0) (vI v) (sg (mx N M')) := by
  unfold f_X12_shipClause at h
  refine EvM.of mkX12_shipClause.2.2.2.1 (Nat.le_of_ble_eq_true rfl) ?_
  change Ev g d mtX12_shipClause 0 [(0, vR 801), (1, vI p0)] [] (sg (mx N M)) (0, 0) (vI v) (sg (mx N M'))
  refine ev_aload_n (pc := 0) 0 dX12_shipClause_0 rfl rfl ?_
  refine ev_iload_n (pc := 1) 1 dX12_shipClause_1 rfl rfl ?_
  refine ev_iconst (pc := 2) (x := 1) dX12_shipClause_2 ci_1 ?_
  refine ev_iadd (pc := 3) dX12_shipClause_3 ?_
  refine ev_iconst (pc := 4) (x := 1) dX12_shipClause_4 ci_1 ?_
  refine ev_bipush (pc := 5) (x := 99) dX12_shipClause_5 cb_99 ?_
  obtain ⟨q1, hq1, h⟩ := bd h
  refine ev_cV (pc := 7) [vI (wI (p0 + 1)), vI 1, vI 99] [] rfl mkX12_figure ml12_247 mnX12_figure dX12_shipClause_7 kd_801 (by omega) rfl (Nat.le_of_ble_eq_true rfl) (by omega) rfl (e_X12_figure (d := d - 1) (v := q1.1) (M' := q1.2) (by omega)  hq1) ?_
  refine ev_istore_n (pc := 10) (il' := [(2, vI q1.1), (0, vR 801), (1, vI p0)]) dX12_shipClause_10 rfl (Nat.le_of_ble_eq_true rfl) rfl ?_
  refine ev_iload_n (pc := 11) 0 dX12_shipClause_11 rfl rfl ?_
  refine ev_if_ne (pc := 12) (tgt := 33) dX12_shipClause_12 (by decide) (fun b2 => ?_) (fun b2 => ?_)
  · rw [if_pos b2] at h
    refine ev_pick [1, 2, 0] rfl ?_
    exact e_X12_shipClause_J33 hd  h
  · rw [if_neg b2] at h
    refine ev_aload_n (pc := 15) 1 dX12_shipClause_15 rfl rfl ?_
    refine ev_bipush (pc := 16) (x := 111) dX12_shipClause_16 cb_111 ?_
    refine ev_bipush (pc := 18) (x := 110) dX12_shipClause_18 cb_110 ?_
    refine ev_cS (pc := 20) [vI 111, vI 110] [vR 801] rfl mkX12_w2 ml12_148 msX12_w2 dX12_shipClause_20 rfl (Nat.le_of_ble_eq_true rfl) (by omega) rfl (e_X12_w2 (d := d - 1) (v := (f_X12_w2 111 110)) (by omega)  rfl) ?_
    refine ev_iload_n (pc := 23) 2 dX12_shipClause_23 rfl rfl ?_
    refine ev_iconst (pc := 24) (x := 2) dX12_shipClause_24 ci_2 ?_
    refine ev_iadd (pc := 25) dX12_shipClause_25 ?_
    refine ev_iconst (pc := 26) (x := 0) dX12_shipClause_26 ci_0 ?_
    refine ev_bipush (pc := 27) (x := 8) dX12_shipClause_27 cb_8 ?_
    obtain ⟨q5, hq5, h⟩ := bd h
    refine ev_cV (pc := 29) [vL (f_X12_w2 111 110), vI (wI (p0 + 2)), vI 0, vI 8] [] rfl mkX12_worded ml12_255 mnX12_worded dX12_shipClause_29 kd_801 (by omega) rfl (Nat.le_of_ble_eq_true rfl) (by omega) rfl (e_X12_worded (d := d - 1) (v := q5.1) (M' := q5.2) (by omega)  hq5) ?_
    refine ev_istore_n (pc := 32) (il' := [(2, vI q5.1), (0, vR 801), (1, vI p0)]) dX12_shipClause_32 rfl (Nat.le_of_ble_eq_true rfl) rfl ?_
    refine ev_pick [1, 2, 0] rfl ?_
    exact e_X12_shipClause_J33 hd  h
def f_X12_pair (n : Nat) (p0 p1 p2 p3 p4 : Int) (M : Mem) : Option (Int × Mem) := (f_X12_figure n (wI (p0 + 1)) 0 p1 M).bind fun q1 => if q1.1 = 0 then ((f_X12_worded n p2 (wI (p0 + 2)) p3 p4 q1.2).bind fun q3 => some (q3.1, q3.2)) else (some (q1.1, q1.2))
set_option maxRecDepth 100000 in
set_option maxHeartbeats 4000000 in
theorem e_X12_pair {g : Gm} {d : Nat} {n : Nat} {p0 p1 p2 p3 p4 : Int} {M N : Mem} {v : Int} {M' : Mem} (hd : 4 ≤ d) (h : f_X12_pair n p0 p1 p2 p3 p4 M = some (v, M')) : EvM g d mtX12_pair [vR 801, vI p0, vI p1, vL p2, vI p3, vI p4] (sg (mx N M)) (0, 0) (vI v) (sg (mx N M')) := by
  unfold f_X12_pair at h
  refine EvM.of mkX12_pair.2.2.2.1 (Nat.le_of_ble_eq_true rfl) ?_
  change Ev g d mtX12_pair 0 [(0, vR 801), (1, vI p0), (2, vI p1), (3, vL p2), (5, vI p3), (6, vI p4)] [] (sg (mx N M)) (0, 0) (vI v) (sg (mx N M'))
  refine ev_aload_n (pc := 0) 0 dX12_pair_0 rfl rfl ?_
  refine ev_iload_n (pc := 1) 1 dX12_pair_1 rfl rfl ?_
  refine ev_iconst (pc := 2) (x := 1) dX12_pair_2 ci_1 ?_
  refine ev_iadd (pc := 3) dX12_pair_3 ?_
  refine ev_iconst (pc := 4) (x := 0) dX12_pair_4 ci_0 ?_
  refine ev_iload_n (pc := 5) 2 dX12_pair_5 rfl rfl ?_
  obtain ⟨q1, hq1, h⟩ := bd h
  refine ev_cV (pc := 6) [vI (wI (p0 + 1)), vI 0, vI p1] [] rfl mkX12_figure ml12_247 mnX12_figure dX12_pair_6 kd_801 (by omega) rfl (Nat.le_of_ble_eq_true rfl) (by omega) rfl (e_X12_figure (d := d - 1) (v := q1.1) (M' := q1.2) (by omega)  hq1) ?_
  refine ev_istore (pc := 9) (il' := [(7, vI q1.1), (0, vR 801), (1, vI p0), (2, vI p1), (3, vL p2), (5, vI p3), (6, vI p4)]) dX12_pair_9 (Nat.le_of_ble_eq_true rfl) rfl ?_
  refine ev_iload (pc := 11) 0 dX12_pair_11 rfl ?_
  refine ev_if_eq (pc := 13) (tgt := 21) dX12_pair_13 (by decide) (fun b2 => ?_) (fun b2 => ?_)
  · rw [if_pos b2] at h
    refine ev_aload_n (pc := 21) 1 dX12_pair_21 rfl rfl ?_
    refine ev_lload_n (pc := 22) 4 dX12_pair_22 rfl rfl ?_
    refine ev_iload_n (pc := 23) 2 dX12_pair_23 rfl rfl ?_
    refine ev_iconst (pc := 24) (x := 2) dX12_pair_24 ci_2 ?_
    refine ev_iadd (pc := 25) dX12_pair_25 ?_
    refine ev_iload (pc := 26) 5 dX12_pair_26 rfl ?_
    refine ev_iload (pc := 28) 6 dX12_pair_28 rfl ?_
    obtain ⟨q3, hq3, h⟩ := bd h
    refine ev_cV (pc := 30) [vL p2, vI (wI (p0 + 2)), vI p3, vI p4] [] rfl mkX12_worded ml12_255 mnX12_worded dX12_pair_30 kd_801 (by omega) rfl (Nat.le_of_ble_eq_true rfl) (by omega) rfl (e_X12_worded (d := d - 1) (v := q3.1) (M' := q3.2) (by omega)  hq3) ?_
    cases h
    exact ev_iret (pc := 33) dX12_pair_33 rfl
  · rw [if_neg b2] at h
    refine ev_iload (pc := 16) 0 dX12_pair_16 rfl ?_
    refine ev_goto (pc := 18) (tgt := 33) dX12_pair_18 (by decide) ?_
    cases h
    exact ev_iret (pc := 33) dX12_pair_33 rfl
def f_X12_body (n : Nat) (p0 p1 : Int) (M : Mem) : Option (Int × Mem) := (if p0 = 4 then ((f_X12_lawClause n p1 1 M).bind fun q3 => some (q3.1, q3.2)) else (if p0 = 5 then ((f_X12_stepClause n p1 M).bind fun q5 => some (q5.1, q5.2)) else (if p0 = 6 then ((f_X12_shipClause n p1 M).bind fun q7 => some (q7.1, q7.2)) else (if p0 = 7 then ((f_X12_figure n (wI (p1 + 1)) 1 60 M).bind fun q9 => some (q9.1, q9.2)) else (if p0 = 8 then ((f_X12_pair n p1 8 (f_X12_w2 98 121) 1 999 M).bind fun q11 => some (q11.1, q11.2)) else (if p0 = 9 then ((f_X12_pair n p1 8 (f_X12_w2 116 111) 0 99 M).bind fun q13 => some (q13.1, q13.2)) else (if p0 = 10 then ((f_X12_figure n (wI (p1 + 1)) 0 8 M).bind fun q15 => some (q15.1, q15.2)) else (if p0 = 11 then ((f_X12_pair n p1 6 (f_X12_w2 116 111) 0 8 M).bind fun q17 => some (q17.1, q17.2)) else ((f_X12_lawClause n p1 0 M).bind fun q1 => some (q1.1, q1.2))))))))))
set_option maxRecDepth 100000 in
set_option maxHeartbeats 4000000 in
theorem e_X12_body {g : Gm} {d : Nat} {n : Nat} {p0 p1 : Int} {M N : Mem} {v : Int} {M' : Mem} (hd : 10 ≤ d) (h : f_X12_body n p0 p1 M = some (v, M')) : EvM g d mtX12_body [vR 801, vI p0, vI p1] (sg (mx N M)) (0, 0) (vI v) (sg (mx N M')) := by
  unfold f_X12_body at h
  refine EvM.of mkX12_body.2.2.2.1 (Nat.le_of_ble_eq_true rfl) ?_
  change Ev g d mtX12_body 0 [(0, vR 801), (1, vI p0), (2, vI p1)] [] (sg (mx N M)) (0, 0) (vI v) (sg (mx N M'))
  refine ev_iload_n (pc := 0) 1 dX12_body_0 rfl rfl ?_
  by_cases b2 : p0 = 4
  · rw [if_pos b2] at h
    refine ev_tswIn (pc := 1) (tgt := 48) dX12_body_1 (by omega) (by omega) (by rw [b2] <;> rfl) (by decide) ?_
    refine ev_aload_n (pc := 48) 0 dX12_body_48 rfl rfl ?_
    refine ev_iload_n (pc := 49) 2 dX12_body_49 rfl rfl ?_
    refine ev_iconst (pc := 50) (x := 1) dX12_body_50 ci_1 ?_
    obtain ⟨q3, hq3, h⟩ := bd h
    refine ev_cV (pc := 51) [vI p1, vI 1] [] rfl mkX12_lawClause ml12_259 mnX12_lawClause dX12_body_51 kd_801 (by omega) rfl (Nat.le_of_ble_eq_true rfl) (by omega) rfl (e_X12_lawClause (d := d - 1) (v := q3.1) (M' := q3.2) (by omega)  hq3) ?_
    cases h
    exact ev_iret (pc := 54) dX12_body_54 rfl
  · rw [if_neg b2] at h
    by_cases b4 : p0 = 5
    · rw [if_pos b4] at h
      refine ev_tswIn (pc := 1) (tgt := 55) dX12_body_1 (by omega) (by omega) (by rw [b4] <;> rfl) (by decide) ?_
      refine ev_aload_n (pc := 55) 0 dX12_body_55 rfl rfl ?_
      refine ev_iload_n (pc := 56) 2 dX12_body_56 rfl rfl ?_
      obtain ⟨q5, hq5, h⟩ := bd h
      refine ev_cV (pc := 57) [vI p1] [] rfl mkX12_stepClause ml12_263 mnX12_stepClause dX12_body_57 kd_801 (by omega) rfl (Nat.le_of_ble_eq_true rfl) (by omega) rfl (e_X12_stepClause (d := d - 1) (v := q5.1) (M' := q5.2) (by omega)  hq5) ?_
      cases h
      exact ev_iret (pc := 60) dX12_body_60 rfl
    · rw [if_neg b4] at h
      by_cases b6 : p0 = 6
      · rw [if_pos b6] at h
        refine ev_tswIn (pc := 1) (tgt := 61) dX12_body_1 (by omega) (by omega) (by rw [b6] <;> rfl) (by decide) ?_
        refine ev_aload_n (pc := 61) 0 dX12_body_61 rfl rfl ?_
        refine ev_iload_n (pc := 62) 2 dX12_body_62 rfl rfl ?_
        obtain ⟨q7, hq7, h⟩ := bd h
        refine ev_cV (pc := 63) [vI p1] [] rfl mkX12_shipClause ml12_266 mnX12_shipClause dX12_body_63 kd_801 (by omega) rfl (Nat.le_of_ble_eq_true rfl) (by omega) rfl (e_X12_shipClause (d := d - 1) (v := q7.1) (M' := q7.2) (by omega)  hq7) ?_
        cases h
        exact ev_iret (pc := 66) dX12_body_66 rfl
      · rw [if_neg b6] at h
        by_cases b8 : p0 = 7
        · rw [if_pos b8] at h
          refine ev_tswIn (pc := 1) (tgt := 67) dX12_body_1 (by omega) (by omega) (by rw [b8] <;> rfl) (by decide) ?_
          refine ev_aload_n (pc := 67) 0 dX12_body_67 rfl rfl ?_
          refine ev_iload_n (pc := 68) 2 dX12_body_68 rfl rfl ?_
          refine ev_iconst (pc := 69) (x := 1) dX12_body_69 ci_1 ?_
          refine ev_iadd (pc := 70) dX12_body_70 ?_
          refine ev_iconst (pc := 71) (x := 1) dX12_body_71 ci_1 ?_
          refine ev_bipush (pc := 72) (x := 60) dX12_body_72 cb_60 ?_
          obtain ⟨q9, hq9, h⟩ := bd h
          refine ev_cV (pc := 74) [vI (wI (p1 + 1)), vI 1, vI 60] [] rfl mkX12_figure ml12_247 mnX12_figure dX12_body_74 kd_801 (by omega) rfl (Nat.le_of_ble_eq_true rfl) (by omega) rfl (e_X12_figure (d := d - 1) (v := q9.1) (M' := q9.2) (by omega)  hq9) ?_
          cases h
          exact ev_iret (pc := 77) dX12_body_77 rfl
        · rw [if_neg b8] at h
          by_cases b10 : p0 = 8
          · rw [if_pos b10] at h
            refine ev_tswIn (pc := 1) (tgt := 78) dX12_body_1 (by omega) (by omega) (by rw [b10] <;> rfl) (by decide) ?_
            refine ev_aload_n (pc := 78) 0 dX12_body_78 rfl rfl ?_
            refine ev_iload_n (pc := 79) 2 dX12_body_79 rfl rfl ?_
            refine ev_bipush (pc := 80) (x := 8) dX12_body_80 cb_8 ?_
            refine ev_bipush (pc := 82) (x := 98) dX12_body_82 cb_98 ?_
            refine ev_bipush (pc := 84) (x := 121) dX12_body_84 cb_121 ?_
            refine ev_cS (pc := 86) [vI 98, vI 121] [vI 8, vI p1, vR 801] rfl mkX12_w2 ml12_148 msX12_w2 dX12_body_86 rfl (Nat.le_of_ble_eq_true rfl) (by omega) rfl (e_X12_w2 (d := d - 1) (v := (f_X12_w2 98 121)) (by omega)  rfl) ?_
            refine ev_iconst (pc := 89) (x := 1) dX12_body_89 ci_1 ?_
            refine ev_sipush (pc := 90) (x := 999) dX12_body_90 cs_999 ?_
            obtain ⟨q11, hq11, h⟩ := bd h
            refine ev_cV (pc := 93) [vI p1, vI 8, vL (f_X12_w2 98 121), vI 1, vI 999] [] rfl mkX12_pair ml12_269 mnX12_pair dX12_body_93 kd_801 (by omega) rfl (Nat.le_of_ble_eq_true rfl) (by omega) rfl (e_X12_pair (d := d - 1) (v := q11.1) (M' := q11.2) (by omega)  hq11) ?_
            cases h
            exact ev_iret (pc := 96) dX12_body_96 rfl
          · rw [if_neg b10] at h
            by_cases b12 : p0 = 9
            · rw [if_pos b12] at h
              refine ev_tswIn (pc := 1) (tgt := 97) dX12_body_1 (by omega) (by omega) (by rw [b12] <;> rfl) (by decide) ?_
              refine ev_aload_n (pc := 97) 0 dX12_body_97 rfl rfl ?_
              refine ev_iload_n (pc := 98) 2 dX12_body_98 rfl rfl ?_
              refine ev_bipush (pc := 99) (x := 8) dX12_body_99 cb_8 ?_
              refine ev_bipush (pc := 101) (x := 116) dX12_body_101 cb_116 ?_
              refine ev_bipush (pc := 103) (x := 111) dX12_body_103 cb_111 ?_
              refine ev_cS (pc := 105) [vI 116, vI 111] [vI 8, vI p1, vR 801] rfl mkX12_w2 ml12_148 msX12_w2 dX12_body_105 rfl (Nat.le_of_ble_eq_true rfl) (by omega) rfl (e_X12_w2 (d := d - 1) (v := (f_X12_w2 116 111)) (by omega)  rfl) ?_
              refine ev_iconst (pc := 108) (x := 0) dX12_body_108 ci_0 ?_
              refine ev_bipush (pc := 109) (x := 99) dX12_body_109 cb_99 ?_
              obtain ⟨q13, hq13, h⟩ := bd h
              refine ev_cV (pc := 111) [vI p1, vI 8, vL (f_X12_w2 116 111), vI 0, vI 99] [] rfl mkX12_pair ml12_269 mnX12_pair dX12_body_111 kd_801 (by omega) rfl (Nat.le_of_ble_eq_true rfl) (by omega) rfl (e_X12_pair (d := d - 1) (v := q13.1) (M' := q13.2) (by omega)  hq13) ?_
              cases h
              exact ev_iret (pc := 114) dX12_body_114 rfl
            · rw [if_neg b12] at h
              by_cases b14 : p0 = 10
              · rw [if_pos b14] at h
                refine ev_tswIn (pc := 1) (tgt := 115) dX12_body_1 (by omega) (by omega) (by rw [b14] <;> rfl) (by decide) ?_
                refine ev_aload_n (pc := 115) 0 dX12_body_115 rfl rfl ?_
                refine ev_iload_n (pc := 116) 2 dX12_body_116 rfl rfl ?_
                refine ev_iconst (pc := 117) (x := 1) dX12_body_117 ci_1 ?_
                refine ev_iadd (pc := 118) dX12_body_118 ?_
                refine ev_iconst (pc := 119) (x := 0) dX12_body_119 ci_0 ?_
                refine ev_bipush (pc := 120) (x := 8) dX12_body_120 cb_8 ?_
                obtain ⟨q15, hq15, h⟩ := bd h
                refine ev_cV (pc := 122) [vI (wI (p1 + 1)), vI 0, vI 8] [] rfl mkX12_figure ml12_247 mnX12_figure dX12_body_122 kd_801 (by omega) rfl (Nat.le_of_ble_eq_true rfl) (by omega) rfl (e_X12_figure (d := d - 1) (v := q15.1) (M' := q15.2) (by omega)  hq15) ?_
                cases h
                exact ev_iret (pc := 125) dX12_body_125 rfl
              · rw [if_neg b14] at h
                by_cases b16 : p0 = 11
                · rw [if_pos b16] at h
                  refine ev_tswIn (pc := 1) (tgt := 126) dX12_body_1 (by omega) (by omega) (by rw [b16] <;> rfl) (by decide) ?_
                  refine ev_aload_n (pc := 126) 0 dX12_body_126 rfl rfl ?_
                  refine ev_iload_n (pc := 127) 2 dX12_body_127 rfl rfl ?_
                  refine ev_bipush (pc := 128) (x := 6) dX12_body_128 cb_6 ?_
                  refine ev_bipush (pc := 130) (x := 116) dX12_body_130 cb_116 ?_
                  refine ev_bipush (pc := 132) (x := 111) dX12_body_132 cb_111 ?_
                  refine ev_cS (pc := 134) [vI 116, vI 111] [vI 6, vI p1, vR 801] rfl mkX12_w2 ml12_148 msX12_w2 dX12_body_134 rfl (Nat.le_of_ble_eq_true rfl) (by omega) rfl (e_X12_w2 (d := d - 1) (v := (f_X12_w2 116 111)) (by omega)  rfl) ?_
                  refine ev_iconst (pc := 137) (x := 0) dX12_body_137 ci_0 ?_
                  refine ev_bipush (pc := 138) (x := 8) dX12_body_138 cb_8 ?_
                  obtain ⟨q17, hq17, h⟩ := bd h
                  refine ev_cV (pc := 140) [vI p1, vI 6, vL (f_X12_w2 116 111), vI 0, vI 8] [] rfl mkX12_pair ml12_269 mnX12_pair dX12_body_140 kd_801 (by omega) rfl (Nat.le_of_ble_eq_true rfl) (by omega) rfl (e_X12_pair (d := d - 1) (v := q17.1) (M' := q17.2) (by omega)  hq17) ?_
                  cases h
                  exact ev_iret (pc := 143) dX12_body_143 rfl
                · rw [if_neg b16] at h
                  refine ev_tswOut (pc := 1) (tgt := 144) dX12_body_1 (by omega) (by decide) ?_
                  refine ev_aload_n (pc := 144) 0 dX12_body_144 rfl rfl ?_
                  refine ev_iload_n (pc := 145) 2 dX12_body_145 rfl rfl ?_
                  refine ev_iconst (pc := 146) (x := 0) dX12_body_146 ci_0 ?_
                  obtain ⟨q1, hq1, h⟩ := bd h
                  refine ev_cV (pc := 147) [vI p1, vI 0] [] rfl mkX12_lawClause ml12_259 mnX12_lawClause dX12_body_147 kd_801 (by omega) rfl (Nat.le_of_ble_eq_true rfl) (by omega) rfl (e_X12_lawClause (d := d - 1) (v := q1.1) (M' := q1.2) (by omega)  hq1) ?_
                  cases h
                  exact ev_iret (pc := 150) dX12_body_150 rfl
