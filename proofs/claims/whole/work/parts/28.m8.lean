/-! ===== methods: X12_run, X12_image, X12_back, X12_about ===== -/
def f_X12_run_L8 : Nat → Int → Int → Int → Mem → Option (Mem)
  | 0, _, _, _, _ => none
  | n + 1, x1, x2, x3, M => if 7 ≤ x3 then (some M) else (ck (0 ≤ x3 ∧ x3 < 7) (lt (upM M 822 x3 (-1)) fun M4 => f_X12_run_L8 n x1 x2 (wI (x3 + 1)) M4))
set_option maxRecDepth 100000 in
set_option maxHeartbeats 4000000 in
theorem e_X12_run_L8 {g : Gm} {d : Nat} {x1 x2 : Int} {r : Vv} {σ' : Sg} {N : Mem} (hd : 8 ≤ d) : ∀ (n : Nat) {x3 : Int} {M : Mem} {q : Mem}, f_X12_run_L8 n x1 x2 x3 M = some q → Ev g d mtX12_run 27 [(0, vR 801), (1, vI x1), (2, vI x2)] [] (sg (mx N q)) (0, 0) r σ' → Ev g d mtX12_run 8 [(0, vR 801), (1, vI x1), (2, vI x2), (3, vI x3)] [] (sg (mx N M)) (0, 0) r σ' := by
  intro n
  induction n with
  | zero =>
    intro x3 M q h hk0
    rw [f_X12_run_L8.eq_1] at h
    cases h
  | succ n ih =>
    intro x3 M q h hk0
    rw [f_X12_run_L8.eq_2] at h
    refine ev_iload_n (pc := 8) 3 dX12_run_8 rfl rfl ?_
    refine ev_bipush (pc := 9) (x := 7) dX12_run_9 cb_7 ?_
    refine ev_icmp_ge (pc := 11) (tgt := 27) dX12_run_11 (by decide) (fun b2 => ?_) (fun b2 => ?_)
    · rw [if_pos b2] at h
      cases h
      refine ev_pick [0, 1, 2] rfl ?_
      exact hk0
    · rw [if_neg b2] at h
      refine ev_aload_n (pc := 14) 0 dX12_run_14 rfl rfl ?_
      refine ev_getR (pc := 15) fl12_83 rfl dX12_run_15 rfl kd_801 (by omega) (rf_801_42 _) ?_
      refine ev_iload_n (pc := 18) 3 dX12_run_18 rfl rfl ?_
      refine ev_iconst (pc := 19) (x := (-1)) dX12_run_19 ci_m1 ?_
      obtain ⟨c3, h⟩ := ck_some h
      obtain ⟨M4, eM4, h⟩ := lt_some h
      refine ev_istr (pc := 20) dX12_run_20 kd_822 (by omega) (by omega) c3.1 c3.2 eM4 ?_
      refine ev_iinc (pc := 21) (il' := [(3, vI (wI (x3 + 1))), (0, vR 801), (1, vI x1), (2, vI x2)]) 3 dX12_run_21 rfl (Nat.le_of_ble_eq_true rfl) rfl rfl ?_
      refine ev_goto (pc := 24) (tgt := 8) dX12_run_24 (by decide) ?_
      refine ev_pick [1, 2, 3, 0] rfl ?_
      exact ih h hk0
def f_X12_run_L55_J102 (n : Nat) (K : Int → Int → Mem → Option (Int × Mem)) (x1 x2 x3 x5 x6 s0 s1 : Int) (M : Mem) : Option (Int × Mem) := if x6 = 0 then (K (wI (s0 + s1)) (wI (x5 + 1)) M) else (ck (0 ≤ x5 ∧ x5 < 7) (if (M 822 x5) ≠ (-1) then (K (wI (s0 + s1)) (wI (x5 + 1)) M) else (lt (upM M 822 x5 x3) fun M17 => K (wI (s0 + s1)) (wI (x5 + 1)) M17)))
set_option maxRecDepth 100000 in
set_option maxHeartbeats 4000000 in
theorem e_X12_run_L55_J102 {g : Gm} {d : Nat} {n : Nat} {K : Int → Int → Mem → Option (Int × Mem)} {x1 x2 x3 x5 x6 s0 s1 : Int} {M N : Mem} {q : Int × Mem} {r : Vv} {σ' : Sg} (hd : 8 ≤ d) (hK : ∀ {x4 x5 : Int} {M : Mem}, K x4 x5 M = some q → Ev g d mtX12_run 55 [(0, vR 801), (1, vI x1), (2, vI x2), (3, vI x3), (4, vI x4), (5, vI x5)] [] (sg (mx N M)) (0, 0) r σ') (hk0 : Ev g d mtX12_run 135 [(0, vR 801), (1, vI x1), (2, vI x2), (3, vI x3), (4, vI q.1)] [] (sg (mx N q.2)) (0, 0) r σ') (h : f_X12_run_L55_J102 n K x1 x2 x3 x5 x6 s0 s1 M = some q) : Ev g d mtX12_run 102 [(0, vR 801), (1, vI x1), (2, vI x2), (3, vI x3), (5, vI x5), (6, vI x6)] [vI s1, vI s0] (sg (mx N M)) (0, 0) r σ' := by
  unfold f_X12_run_L55_J102 at h
  refine ev_iadd (pc := 102) dX12_run_102 ?_
  refine ev_istore (pc := 103) (il' := [(4, vI (wI (s0 + s1))), (0, vR 801), (1, vI x1), (2, vI x2), (3, vI x3), (5, vI x5), (6, vI x6)]) dX12_run_103 (Nat.le_of_ble_eq_true rfl) rfl ?_
  refine ev_iload (pc := 105) 6 dX12_run_105 rfl ?_
  refine ev_if_eq (pc := 107) (tgt := 129) dX12_run_107 (by decide) (fun b14 => ?_) (fun b14 => ?_)
  · rw [if_pos b14] at h
    refine ev_iinc (pc := 129) (il' := [(5, vI (wI (x5 + 1))), (4, vI (wI (s0 + s1))), (0, vR 801), (1, vI x1), (2, vI x2), (3, vI x3), (6, vI x6)]) 5 dX12_run_129 rfl (Nat.le_of_ble_eq_true rfl) rfl rfl ?_
    refine ev_goto (pc := 132) (tgt := 55) dX12_run_132 (by decide) ?_
    refine ev_pick [2, 3, 4, 5, 1, 0] rfl ?_
    exact hK h
  · rw [if_neg b14] at h
    refine ev_aload_n (pc := 110) 1 dX12_run_110 rfl rfl ?_
    refine ev_getR (pc := 111) fl12_83 rfl dX12_run_111 rfl kd_801 (by omega) (rf_801_42 _) ?_
    refine ev_iload (pc := 114) 5 dX12_run_114 rfl ?_
    obtain ⟨c15, h⟩ := ck_some h
    refine ev_ildr (pc := 116) dX12_run_116 kd_822 (by omega) (by omega) c15.1 c15.2 ?_
    refine ev_iconst (pc := 117) (x := (-1)) dX12_run_117 ci_m1 ?_
    refine ev_icmp_ne (pc := 118) (tgt := 129) dX12_run_118 (by decide) (fun b16 => ?_) (fun b16 => ?_)
    · rw [if_pos b16] at h
      refine ev_iinc (pc := 129) (il' := [(5, vI (wI (x5 + 1))), (4, vI (wI (s0 + s1))), (0, vR 801), (1, vI x1), (2, vI x2), (3, vI x3), (6, vI x6)]) 5 dX12_run_129 rfl (Nat.le_of_ble_eq_true rfl) rfl rfl ?_
      refine ev_goto (pc := 132) (tgt := 55) dX12_run_132 (by decide) ?_
      refine ev_pick [2, 3, 4, 5, 1, 0] rfl ?_
      exact hK h
    · rw [if_neg b16] at h
      refine ev_aload_n (pc := 121) 1 dX12_run_121 rfl rfl ?_
      refine ev_getR (pc := 122) fl12_83 rfl dX12_run_122 rfl kd_801 (by omega) (rf_801_42 _) ?_
      refine ev_iload (pc := 125) 5 dX12_run_125 rfl ?_
      refine ev_iload_n (pc := 127) 4 dX12_run_127 rfl rfl ?_
      obtain ⟨M17, eM17, h⟩ := lt_some h
      refine ev_istr (pc := 128) dX12_run_128 kd_822 (by omega) (by omega) c15.1 c15.2 eM17 ?_
      refine ev_iinc (pc := 129) (il' := [(5, vI (wI (x5 + 1))), (4, vI (wI (s0 + s1))), (0, vR 801), (1, vI x1), (2, vI x2), (3, vI x3), (6, vI x6)]) 5 dX12_run_129 rfl (Nat.le_of_ble_eq_true rfl) rfl rfl ?_
      refine ev_goto (pc := 132) (tgt := 55) dX12_run_132 (by decide) ?_
      refine ev_pick [2, 3, 4, 5, 1, 0] rfl ?_
      exact hK h
def f_X12_run_L55_J88 (n : Nat) (K : Int → Int → Mem → Option (Int × Mem)) (x1 x2 x3 x4 x5 s0 : Int) (M : Mem) : Option (Int × Mem) := if s0 = 0 then (f_X12_run_L55_J102 n (K) x1 x2 x3 x5 s0 x4 0 M) else (f_X12_run_L55_J102 n (K) x1 x2 x3 x5 s0 x4 1 M)
set_option maxRecDepth 100000 in
set_option maxHeartbeats 4000000 in
theorem e_X12_run_L55_J88 {g : Gm} {d : Nat} {n : Nat} {K : Int → Int → Mem → Option (Int × Mem)} {x1 x2 x3 x4 x5 s0 : Int} {M N : Mem} {q : Int × Mem} {r : Vv} {σ' : Sg} (hd : 8 ≤ d) (hK : ∀ {x4 x5 : Int} {M : Mem}, K x4 x5 M = some q → Ev g d mtX12_run 55 [(0, vR 801), (1, vI x1), (2, vI x2), (3, vI x3), (4, vI x4), (5, vI x5)] [] (sg (mx N M)) (0, 0) r σ') (hk0 : Ev g d mtX12_run 135 [(0, vR 801), (1, vI x1), (2, vI x2), (3, vI x3), (4, vI q.1)] [] (sg (mx N q.2)) (0, 0) r σ') (h : f_X12_run_L55_J88 n K x1 x2 x3 x4 x5 s0 M = some q) : Ev g d mtX12_run 88 [(0, vR 801), (1, vI x1), (2, vI x2), (3, vI x3), (4, vI x4), (5, vI x5)] [vI s0] (sg (mx N M)) (0, 0) r σ' := by
  unfold f_X12_run_L55_J88 at h
  refine ev_istore (pc := 88) (il' := [(6, vI s0), (0, vR 801), (1, vI x1), (2, vI x2), (3, vI x3), (4, vI x4), (5, vI x5)]) dX12_run_88 (Nat.le_of_ble_eq_true rfl) rfl ?_
  refine ev_iload (pc := 90) 5 dX12_run_90 rfl ?_
  refine ev_iload (pc := 92) 0 dX12_run_92 rfl ?_
  refine ev_if_eq (pc := 94) (tgt := 101) dX12_run_94 (by decide) (fun b13 => ?_) (fun b13 => ?_)
  · rw [if_pos b13] at h
    refine ev_iconst (pc := 101) (x := 0) dX12_run_101 ci_0 ?_
    refine ev_pick [1, 2, 3, 4, 6, 0] rfl ?_
    exact e_X12_run_L55_J102 hd  hK hk0 h
  · rw [if_neg b13] at h
    refine ev_iconst (pc := 97) (x := 1) dX12_run_97 ci_1 ?_
    refine ev_goto (pc := 98) (tgt := 102) dX12_run_98 (by decide) ?_
    refine ev_pick [1, 2, 3, 4, 6, 0] rfl ?_
    exact e_X12_run_L55_J102 hd  hK hk0 h
def f_X12_run_L55 : Nat → Int → Int → Int → Int → Int → Mem → Option (Int × Mem)
  | 0, _, _, _, _, _, _ => none
  | n + 1, x1, x2, x3, x4, x5, M => if (M 802 1) ≤ x5 then (some (x4, M)) else ((f_X12_get x5 1 M).bind fun q10 => (f_X12_get x5 2 M).bind fun q11 => if q10 ≠ q11 then (f_X12_run_L55_J88 n (fun x4 x5 M => f_X12_run_L55 n x1 x2 x3 x4 x5 M) x1 x2 x3 x4 x5 0 M) else (f_X12_run_L55_J88 n (fun x4 x5 M => f_X12_run_L55 n x1 x2 x3 x4 x5 M) x1 x2 x3 x4 x5 1 M))
set_option maxRecDepth 100000 in
set_option maxHeartbeats 4000000 in
theorem e_X12_run_L55 {g : Gm} {d : Nat} {x1 x2 x3 : Int} {r : Vv} {σ' : Sg} {N : Mem} (hd : 8 ≤ d) : ∀ (n : Nat) {x4 x5 : Int} {M : Mem} {q : Int × Mem}, f_X12_run_L55 n x1 x2 x3 x4 x5 M = some q → Ev g d mtX12_run 135 [(0, vR 801), (1, vI x1), (2, vI x2), (3, vI x3), (4, vI q.1)] [] (sg (mx N q.2)) (0, 0) r σ' → Ev g d mtX12_run 55 [(0, vR 801), (1, vI x1), (2, vI x2), (3, vI x3), (4, vI x4), (5, vI x5)] [] (sg (mx N M)) (0, 0) r σ' := by
  intro n
  induction n with
  | zero =>
    intro x4 x5 M q h hk0
    rw [f_X12_run_L55.eq_1] at h
    cases h
  | succ n ih =>
    intro x4 x5 M q h hk0
    rw [f_X12_run_L55.eq_2] at h
    refine ev_iload (pc := 55) 5 dX12_run_55 rfl ?_
    refine ev_aload_n (pc := 57) 0 dX12_run_57 rfl rfl ?_
    refine ev_getR (pc := 58) fl12_7 rfl dX12_run_58 rfl kd_801 (by omega) (rf_801_0 _) ?_
    refine ev_iconst (pc := 61) (x := 1) dX12_run_61 ci_1 ?_
    refine ev_ildr (pc := 62) dX12_run_62 kd_802 (by omega) (by omega) (by omega) (by omega) ?_
    refine ev_icmp_ge (pc := 63) (tgt := 135) dX12_run_63 (by decide) (fun b9 => ?_) (fun b9 => ?_)
    · rw [if_pos b9] at h
      cases h
      refine ev_pick [0, 1, 2, 3, 4] rfl ?_
      exact hk0
    · rw [if_neg b9] at h
      refine ev_aload_n (pc := 66) 0 dX12_run_66 rfl rfl ?_
      refine ev_iload (pc := 67) 5 dX12_run_67 rfl ?_
      refine ev_iconst (pc := 69) (x := 1) dX12_run_69 ci_1 ?_
      obtain ⟨q10, hq10, h⟩ := bd h
      refine ev_cV (pc := 70) [vI x5, vI 1] [] rfl mkX12_get ml12_340 mnX12_get dX12_run_70 kd_801 (by omega) rfl (Nat.le_of_ble_eq_true rfl) (by omega) rfl (e_X12_get (d := d - 1) (v := q10) (by omega)  hq10) ?_
      refine ev_aload_n (pc := 73) 0 dX12_run_73 rfl rfl ?_
      refine ev_iload (pc := 74) 5 dX12_run_74 rfl ?_
      refine ev_iconst (pc := 76) (x := 2) dX12_run_76 ci_2 ?_
      obtain ⟨q11, hq11, h⟩ := bd h
      refine ev_cV (pc := 77) [vI x5, vI 2] [vI q10] rfl mkX12_get ml12_340 mnX12_get dX12_run_77 kd_801 (by omega) rfl (Nat.le_of_ble_eq_true rfl) (by omega) rfl (e_X12_get (d := d - 1) (v := q11) (by omega)  hq11) ?_
      refine ev_icmp_ne (pc := 80) (tgt := 87) dX12_run_80 (by decide) (fun b12 => ?_) (fun b12 => ?_)
      · rw [if_pos b12] at h
        refine ev_iconst (pc := 87) (x := 0) dX12_run_87 ci_0 ?_
        refine ev_pick [0, 1, 2, 3, 4, 5] rfl ?_
        exact e_X12_run_L55_J88 hd  (fun h9 => ih h9 hk0) hk0 h
      · rw [if_neg b12] at h
        refine ev_iconst (pc := 83) (x := 1) dX12_run_83 ci_1 ?_
        refine ev_goto (pc := 84) (tgt := 88) dX12_run_84 (by decide) ?_
        refine ev_pick [0, 1, 2, 3, 4, 5] rfl ?_
        exact e_X12_run_L55_J88 hd  (fun h9 => ih h9 hk0) hk0 h
def f_X12_run_L29_J148 (n : Nat) (K : Int → Int → Mem → Option (Int × Mem)) (x1 x2 x3 : Int) (M : Mem) : Option (Int × Mem) := (f_X12_pass n M).bind fun q20 => K x2 (wI (x3 + 1)) q20
set_option maxRecDepth 100000 in
set_option maxHeartbeats 4000000 in
theorem e_X12_run_L29_J148 {g : Gm} {d : Nat} {n : Nat} {K : Int → Int → Mem → Option (Int × Mem)} {x1 x2 x3 : Int} {M N : Mem} {q : Int × Mem} {r : Vv} {σ' : Sg} (hd : 8 ≤ d) (hK : ∀ {x2 x3 : Int} {M : Mem}, K x2 x3 M = some q → Ev g d mtX12_run 29 [(0, vR 801), (1, vI x1), (2, vI x2), (3, vI x3)] [] (sg (mx N M)) (0, 0) r σ') (hk0 : Ev g d mtX12_run 158 [(0, vR 801), (1, vI x1), (2, vI q.1)] [] (sg (mx N q.2)) (0, 0) r σ') (h : f_X12_run_L29_J148 n K x1 x2 x3 M = some q) : Ev g d mtX12_run 148 [(0, vR 801), (1, vI x1), (2, vI x2), (3, vI x3)] [] (sg (mx N M)) (0, 0) r σ' := by
  unfold f_X12_run_L29_J148 at h
  refine ev_aload_n (pc := 148) 0 dX12_run_148 rfl rfl ?_
  obtain ⟨q20, hq20, h⟩ := bd h
  refine ev_cV0 (pc := 149) [] [] rfl mkX12_pass ml12_381 mnX12_pass dX12_run_149 kd_801 (by omega) rfl (Nat.le_of_ble_eq_true rfl) (by omega) (e_X12_pass (d := d - 1) (M' := q20) (by omega)  hq20) ?_
  refine ev_iinc (pc := 152) (il' := [(3, vI (wI (x3 + 1))), (0, vR 801), (1, vI x1), (2, vI x2)]) 3 dX12_run_152 rfl (Nat.le_of_ble_eq_true rfl) rfl rfl ?_
  refine ev_goto (pc := 155) (tgt := 29) dX12_run_155 (by decide) ?_
  refine ev_pick [1, 2, 3, 0] rfl ?_
  exact hK h
def f_X12_run_L29 : Nat → Int → Int → Int → Mem → Option (Int × Mem)
  | 0, _, _, _, _ => none
  | n + 1, x1, x2, x3, M => if 48 < x3 then (some (x2, M)) else (if x2 ≠ (-1) then (some (x2, M)) else (if (M 802 1) ≤ 0 then (some (x2, M)) else ((f_X12_run_L55 n x1 x2 x3 0 0 M).bind fun q18 => if q18.1 ≠ (q18.2 802 1) then (f_X12_run_L29_J148 n (fun x2 x3 M => f_X12_run_L29 n x1 x2 x3 M) x1 x2 x3 q18.2) else (f_X12_run_L29_J148 n (fun x2 x3 M => f_X12_run_L29 n x1 x2 x3 M) x1 x3 x3 q18.2))))
set_option maxRecDepth 100000 in
set_option maxHeartbeats 4000000 in
theorem e_X12_run_L29 {g : Gm} {d : Nat} {x1 : Int} {r : Vv} {σ' : Sg} {N : Mem} (hd : 8 ≤ d) : ∀ (n : Nat) {x2 x3 : Int} {M : Mem} {q : Int × Mem}, f_X12_run_L29 n x1 x2 x3 M = some q → Ev g d mtX12_run 158 [(0, vR 801), (1, vI x1), (2, vI q.1)] [] (sg (mx N q.2)) (0, 0) r σ' → Ev g d mtX12_run 29 [(0, vR 801), (1, vI x1), (2, vI x2), (3, vI x3)] [] (sg (mx N M)) (0, 0) r σ' := by
  intro n
  induction n with
  | zero =>
    intro x2 x3 M q h hk0
    rw [f_X12_run_L29.eq_1] at h
    cases h
  | succ n ih =>
    intro x2 x3 M q h hk0
    rw [f_X12_run_L29.eq_2] at h
    refine ev_iload_n (pc := 29) 3 dX12_run_29 rfl rfl ?_
    refine ev_bipush (pc := 30) (x := 48) dX12_run_30 cb_48 ?_
    refine ev_icmp_gt (pc := 32) (tgt := 158) dX12_run_32 (by decide) (fun b6 => ?_) (fun b6 => ?_)
    · rw [if_pos b6] at h
      cases h
      refine ev_pick [0, 1, 2] rfl ?_
      exact hk0
    · rw [if_neg b6] at h
      refine ev_iload_n (pc := 35) 2 dX12_run_35 rfl rfl ?_
      refine ev_iconst (pc := 36) (x := (-1)) dX12_run_36 ci_m1 ?_
      refine ev_icmp_ne (pc := 37) (tgt := 158) dX12_run_37 (by decide) (fun b7 => ?_) (fun b7 => ?_)
      · rw [if_pos b7] at h
        cases h
        refine ev_pick [0, 1, 2] rfl ?_
        exact hk0
      · rw [if_neg b7] at h
        refine ev_aload_n (pc := 40) 0 dX12_run_40 rfl rfl ?_
        refine ev_getR (pc := 41) fl12_7 rfl dX12_run_41 rfl kd_801 (by omega) (rf_801_0 _) ?_
        refine ev_iconst (pc := 44) (x := 1) dX12_run_44 ci_1 ?_
        refine ev_ildr (pc := 45) dX12_run_45 kd_802 (by omega) (by omega) (by omega) (by omega) ?_
        refine ev_if_le (pc := 46) (tgt := 158) dX12_run_46 (by decide) (fun b8 => ?_) (fun b8 => ?_)
        · rw [if_pos b8] at h
          cases h
          refine ev_pick [0, 1, 2] rfl ?_
          exact hk0
        · rw [if_neg b8] at h
          refine ev_iconst (pc := 49) (x := 0) dX12_run_49 ci_0 ?_
          refine ev_istore (pc := 50) (il' := [(4, vI 0), (0, vR 801), (1, vI x1), (2, vI x2), (3, vI x3)]) dX12_run_50 (Nat.le_of_ble_eq_true rfl) rfl ?_
          refine ev_iconst (pc := 52) (x := 0) dX12_run_52 ci_0 ?_
          refine ev_istore (pc := 53) (il' := [(5, vI 0), (4, vI 0), (0, vR 801), (1, vI x1), (2, vI x2), (3, vI x3)]) dX12_run_53 (Nat.le_of_ble_eq_true rfl) rfl ?_
          obtain ⟨q18, hq18, h⟩ := bd h
          refine ev_pick [2, 3, 4, 5, 1, 0] rfl ?_
          refine e_X12_run_L55 hd  n hq18 ?_
          refine ev_iload (pc := 135) 4 dX12_run_135 rfl ?_
          refine ev_aload_n (pc := 137) 0 dX12_run_137 rfl rfl ?_
          refine ev_getR (pc := 138) fl12_7 rfl dX12_run_138 rfl kd_801 (by omega) (rf_801_0 _) ?_
          refine ev_iconst (pc := 141) (x := 1) dX12_run_141 ci_1 ?_
          refine ev_ildr (pc := 142) dX12_run_142 kd_802 (by omega) (by omega) (by omega) (by omega) ?_
          refine ev_icmp_ne (pc := 143) (tgt := 148) dX12_run_143 (by decide) (fun b19 => ?_) (fun b19 => ?_)
          · rw [if_pos b19] at h
            refine ev_pick [0, 1, 2, 3] rfl ?_
            exact e_X12_run_L29_J148 hd  (fun h9 => ih h9 hk0) hk0 h
          · rw [if_neg b19] at h
            refine ev_iload_n (pc := 146) 3 dX12_run_146 rfl rfl ?_
            refine ev_istore_n (pc := 147) (il' := [(2, vI x3), (0, vR 801), (1, vI x1), (3, vI x3), (4, vI q18.1)]) dX12_run_147 rfl (Nat.le_of_ble_eq_true rfl) rfl ?_
            refine ev_pick [1, 2, 0, 3] rfl ?_
            exact e_X12_run_L29_J148 hd  (fun h9 => ih h9 hk0) hk0 h
def f_X12_run_L178 : Nat → Int → Int → Mem → Option (Int)
  | 0, _, _, _ => none
  | n + 1, x3, x4, M => if (M 802 1) ≤ x4 then (some x3) else (ck (0 ≤ x4 ∧ x4 < 7) (ck (0 ≤ x3 ∧ x3 < 7) (if (M 822 x4) ≤ (M 822 x3) then (f_X12_run_L178 n x3 (wI (x4 + 1)) M) else (f_X12_run_L178 n x4 (wI (x4 + 1)) M))))
set_option maxRecDepth 100000 in
set_option maxHeartbeats 4000000 in
theorem e_X12_run_L178 {g : Gm} {d : Nat} {r : Vv} {σ' : Sg} {M N : Mem} (hd : 8 ≤ d) : ∀ (n : Nat) {x3 x4 : Int} {q : Int}, f_X12_run_L178 n x3 x4 M = some q → Ev g d mtX12_run 214 [(3, vI q)] [] (sg (mx N M)) (0, 0) r σ' → Ev g d mtX12_run 178 [(0, vR 801), (3, vI x3), (4, vI x4)] [] (sg (mx N M)) (0, 0) r σ' := by
  intro n
  induction n with
  | zero =>
    intro x3 x4 q h hk0
    rw [f_X12_run_L178.eq_1] at h
    cases h
  | succ n ih =>
    intro x3 x4 q h hk0
    rw [f_X12_run_L178.eq_2] at h
    refine ev_iload (pc := 178) 2 dX12_run_178 rfl ?_
    refine ev_aload_n (pc := 180) 0 dX12_run_180 rfl rfl ?_
    refine ev_getR (pc := 181) fl12_7 rfl dX12_run_181 rfl kd_801 (by omega) (rf_801_0 _) ?_
    refine ev_iconst (pc := 184) (x := 1) dX12_run_184 ci_1 ?_
    refine ev_ildr (pc := 185) dX12_run_185 kd_802 (by omega) (by omega) (by omega) (by omega) ?_
    refine ev_icmp_ge (pc := 186) (tgt := 214) dX12_run_186 (by decide) (fun b25 => ?_) (fun b25 => ?_)
    · rw [if_pos b25] at h
      cases h
      refine ev_pick [1] rfl ?_
      exact hk0
    · rw [if_neg b25] at h
      refine ev_aload_n (pc := 189) 0 dX12_run_189 rfl rfl ?_
      refine ev_getR (pc := 190) fl12_83 rfl dX12_run_190 rfl kd_801 (by omega) (rf_801_42 _) ?_
      refine ev_iload (pc := 193) 2 dX12_run_193 rfl ?_
      obtain ⟨c26, h⟩ := ck_some h
      refine ev_ildr (pc := 195) dX12_run_195 kd_822 (by omega) (by omega) c26.1 c26.2 ?_
      refine ev_aload_n (pc := 196) 0 dX12_run_196 rfl rfl ?_
      refine ev_getR (pc := 197) fl12_83 rfl dX12_run_197 rfl kd_801 (by omega) (rf_801_42 _) ?_
      refine ev_iload_n (pc := 200) 1 dX12_run_200 rfl rfl ?_
      obtain ⟨c27, h⟩ := ck_some h
      refine ev_ildr (pc := 201) dX12_run_201 kd_822 (by omega) (by omega) c27.1 c27.2 ?_
      refine ev_icmp_le (pc := 202) (tgt := 208) dX12_run_202 (by decide) (fun b28 => ?_) (fun b28 => ?_)
      · rw [if_pos b28] at h
        refine ev_iinc (pc := 208) (il' := [(4, vI (wI (x4 + 1))), (0, vR 801), (3, vI x3)]) 2 dX12_run_208 rfl (Nat.le_of_ble_eq_true rfl) rfl rfl ?_
        refine ev_goto (pc := 211) (tgt := 178) dX12_run_211 (by decide) ?_
        refine ev_pick [1, 2, 0] rfl ?_
        exact ih h hk0
      · rw [if_neg b28] at h
        refine ev_iload (pc := 205) 2 dX12_run_205 rfl ?_
        refine ev_istore_n (pc := 207) (il' := [(3, vI x4), (0, vR 801), (4, vI x4)]) dX12_run_207 rfl (Nat.le_of_ble_eq_true rfl) rfl ?_
        refine ev_iinc (pc := 208) (il' := [(4, vI (wI (x4 + 1))), (3, vI x4), (0, vR 801)]) 2 dX12_run_208 rfl (Nat.le_of_ble_eq_true rfl) rfl rfl ?_
        refine ev_goto (pc := 211) (tgt := 178) dX12_run_211 (by decide) ?_
        refine ev_pick [2, 1, 0] rfl ?_
        exact ih h hk0
def f_X12_run_J158 (n : Nat) (x1 x2 : Int) (M : Mem) : Option (Int × Mem) := (f_X12_putBack n M).bind fun q22 => if x2 = (-1) then (some (x2, q22)) else (if x1 ≠ 0 then ((f_X12_run_L178 n 0 1 q22).bind fun q29 => some (q29, q22)) else (some (x2, q22)))
set_option maxRecDepth 100000 in
set_option maxHeartbeats 4000000 in
theorem e_X12_run_J158 {g : Gm} {d : Nat} {n : Nat} {x1 x2 : Int} {M N : Mem} {v : Int} {M' : Mem} (hd : 8 ≤ d) (h : f_X12_run_J158 n x1 x2 M = some (v, M')) : Ev g d mtX12_run 158 [(0, vR 801), (1, vI x1), (2, vI x2)] [] (sg (mx N M)) (0, 0) (vI v) (sg (mx N M')) := by
  unfold f_X12_run_J158 at h
  refine ev_aload_n (pc := 158) 0 dX12_run_158 rfl rfl ?_
  obtain ⟨q22, hq22, h⟩ := bd h
  refine ev_cV0 (pc := 159) [] [] rfl mkX12_putBack ml12_430 mnX12_putBack dX12_run_159 kd_801 (by omega) rfl (Nat.le_of_ble_eq_true rfl) (by omega) (e_X12_putBack (d := d - 1) (M' := q22) (by omega)  hq22) ?_
  refine ev_iload_n (pc := 162) 2 dX12_run_162 rfl rfl ?_
  refine ev_iconst (pc := 163) (x := (-1)) dX12_run_163 ci_m1 ?_
  refine ev_icmp_eq (pc := 164) (tgt := 171) dX12_run_164 (by decide) (fun b23 => ?_) (fun b23 => ?_)
  · rw [if_pos b23] at h
    refine ev_iload_n (pc := 171) 2 dX12_run_171 rfl rfl ?_
    cases h
    exact ev_iret (pc := 172) dX12_run_172 rfl
  · rw [if_neg b23] at h
    refine ev_iload_n (pc := 167) 1 dX12_run_167 rfl rfl ?_
    refine ev_if_ne (pc := 168) (tgt := 173) dX12_run_168 (by decide) (fun b24 => ?_) (fun b24 => ?_)
    · rw [if_pos b24] at h
      refine ev_iconst (pc := 173) (x := 0) dX12_run_173 ci_0 ?_
      refine ev_istore_n (pc := 174) (il' := [(3, vI 0), (0, vR 801), (1, vI x1), (2, vI x2)]) dX12_run_174 rfl (Nat.le_of_ble_eq_true rfl) rfl ?_
      refine ev_iconst (pc := 175) (x := 1) dX12_run_175 ci_1 ?_
      refine ev_istore (pc := 176) (il' := [(4, vI 1), (3, vI 0), (0, vR 801), (1, vI x1), (2, vI x2)]) dX12_run_176 (Nat.le_of_ble_eq_true rfl) rfl ?_
      obtain ⟨q29, hq29, h⟩ := bd h
      refine ev_pick [2, 1, 0] rfl ?_
      refine e_X12_run_L178 hd  n hq29 ?_
      refine ev_iload_n (pc := 214) 0 dX12_run_214 rfl rfl ?_
      cases h
      exact ev_iret (pc := 215) dX12_run_215 rfl
    · rw [if_neg b24] at h
      refine ev_iload_n (pc := 171) 2 dX12_run_171 rfl rfl ?_
      cases h
      exact ev_iret (pc := 172) dX12_run_172 rfl
def f_X12_run (n : Nat) (p0 : Int) (M : Mem) : Option (Int × Mem) := (f_X12_begin n M).bind fun q1 => (f_X12_run_L8 n p0 (-1) 0 q1).bind fun q5 => (f_X12_run_L29 n p0 (-1) 0 q5).bind fun q21 => f_X12_run_J158 n p0 q21.1 q21.2
set_option maxRecDepth 100000 in
set_option maxHeartbeats 4000000 in
theorem e_X12_run {g : Gm} {d : Nat} {n : Nat} {p0 : Int} {M N : Mem} {v : Int} {M' : Mem} (hd : 8 ≤ d) (h : f_X12_run n p0 M = some (v, M')) : EvM g d mtX12_run [vR 801, vI p0] (sg (mx N M)) (0, 0) (vI v) (sg (mx N M')) := by
  unfold f_X12_run at h
  refine EvM.of mkX12_run.2.2.2.1 (Nat.le_of_ble_eq_true rfl) ?_
  change Ev g d mtX12_run 0 [(0, vR 801), (1, vI p0)] [] (sg (mx N M)) (0, 0) (vI v) (sg (mx N M'))
  refine ev_aload_n (pc := 0) 0 dX12_run_0 rfl rfl ?_
  obtain ⟨q1, hq1, h⟩ := bd h
  refine ev_cV0 (pc := 1) [] [] rfl mkX12_begin ml12_427 mnX12_begin dX12_run_1 kd_801 (by omega) rfl (Nat.le_of_ble_eq_true rfl) (by omega) (e_X12_begin (d := d - 1) (M' := q1) (by omega)  hq1) ?_
  refine ev_iconst (pc := 4) (x := (-1)) dX12_run_4 ci_m1 ?_
  refine ev_istore_n (pc := 5) (il' := [(2, vI (-1)), (0, vR 801), (1, vI p0)]) dX12_run_5 rfl (Nat.le_of_ble_eq_true rfl) rfl ?_
  refine ev_iconst (pc := 6) (x := 0) dX12_run_6 ci_0 ?_
  refine ev_istore_n (pc := 7) (il' := [(3, vI 0), (2, vI (-1)), (0, vR 801), (1, vI p0)]) dX12_run_7 rfl (Nat.le_of_ble_eq_true rfl) rfl ?_
  obtain ⟨q5, hq5, h⟩ := bd h
  refine ev_pick [2, 3, 1, 0] rfl ?_
  refine e_X12_run_L8 hd  n hq5 ?_
  refine ev_iconst (pc := 27) (x := 0) dX12_run_27 ci_0 ?_
  refine ev_istore_n (pc := 28) (il' := [(3, vI 0), (0, vR 801), (1, vI p0), (2, vI (-1))]) dX12_run_28 rfl (Nat.le_of_ble_eq_true rfl) rfl ?_
  obtain ⟨q21, hq21, h⟩ := bd h
  refine ev_pick [1, 2, 3, 0] rfl ?_
  refine e_X12_run_L29 hd  n hq21 ?_
  refine ev_pick [0, 1, 2] rfl ?_
  exact e_X12_run_J158 hd  h
def f_X12_image (n : Nat) (M : Mem) : Option (Int × Mem) := (f_X12_copy n 802 803 M).bind fun q1 => some ((q1 802 8), q1)
set_option maxRecDepth 100000 in
set_option maxHeartbeats 4000000 in
theorem e_X12_image {g : Gm} {d : Nat} {n : Nat} {M N : Mem} {v : Int} {M' : Mem} (hd : 1 ≤ d) (h : f_X12_image n M = some (v, M')) : EvM g d mtX12_image [vR 801] (sg (mx N M)) (0, 0) (vI v) (sg (mx N M')) := by
  unfold f_X12_image at h
  refine EvM.of mkX12_image.2.2.2.1 (Nat.le_of_ble_eq_true rfl) ?_
  change Ev g d mtX12_image 0 [(0, vR 801)] [] (sg (mx N M)) (0, 0) (vI v) (sg (mx N M'))
  refine ev_aload_n (pc := 0) 0 dX12_image_0 rfl rfl ?_
  refine ev_getR (pc := 1) fl12_7 rfl dX12_image_1 rfl kd_801 (by omega) (rf_801_0 _) ?_
  refine ev_aload_n (pc := 4) 0 dX12_image_4 rfl rfl ?_
  refine ev_getR (pc := 5) fl12_13 rfl dX12_image_5 rfl kd_801 (by omega) (rf_801_1 _) ?_
  obtain ⟨q1, hq1, h⟩ := bd h
  refine ev_cS0 (pc := 8) [vR 802, vR 803] [] rfl mkX12_copy ml12_86 msX12_copy dX12_image_8 rfl (Nat.le_of_ble_eq_true rfl) (by omega) (e_X12_copy (d := d - 1) (M' := q1) (by omega) ⟨kd_802, (by omega), (by omega)⟩ ⟨kd_803, (by omega), (by omega)⟩ hq1) ?_
  refine ev_aload_n (pc := 11) 0 dX12_image_11 rfl rfl ?_
  refine ev_getR (pc := 12) fl12_7 rfl dX12_image_12 rfl kd_801 (by omega) (rf_801_0 _) ?_
  refine ev_bipush (pc := 15) (x := 8) dX12_image_15 cb_8 ?_
  refine ev_ildr (pc := 17) dX12_image_17 kd_802 (by omega) (by omega) (by omega) (by omega) ?_
  cases h
  exact ev_iret (pc := 18) dX12_image_18 rfl
def f_X12_back (n : Nat) (M : Mem) : Option (Int × Mem) := (f_X12_copy n 803 802 M).bind fun q1 => some ((q1 802 8), q1)
set_option maxRecDepth 100000 in
set_option maxHeartbeats 4000000 in
theorem e_X12_back {g : Gm} {d : Nat} {n : Nat} {M N : Mem} {v : Int} {M' : Mem} (hd : 1 ≤ d) (h : f_X12_back n M = some (v, M')) : EvM g d mtX12_back [vR 801] (sg (mx N M)) (0, 0) (vI v) (sg (mx N M')) := by
  unfold f_X12_back at h
  refine EvM.of mkX12_back.2.2.2.1 (Nat.le_of_ble_eq_true rfl) ?_
  change Ev g d mtX12_back 0 [(0, vR 801)] [] (sg (mx N M)) (0, 0) (vI v) (sg (mx N M'))
  refine ev_aload_n (pc := 0) 0 dX12_back_0 rfl rfl ?_
  refine ev_getR (pc := 1) fl12_13 rfl dX12_back_1 rfl kd_801 (by omega) (rf_801_1 _) ?_
  refine ev_aload_n (pc := 4) 0 dX12_back_4 rfl rfl ?_
  refine ev_getR (pc := 5) fl12_7 rfl dX12_back_5 rfl kd_801 (by omega) (rf_801_0 _) ?_
  obtain ⟨q1, hq1, h⟩ := bd h
  refine ev_cS0 (pc := 8) [vR 803, vR 802] [] rfl mkX12_copy ml12_86 msX12_copy dX12_back_8 rfl (Nat.le_of_ble_eq_true rfl) (by omega) (e_X12_copy (d := d - 1) (M' := q1) (by omega) ⟨kd_803, (by omega), (by omega)⟩ ⟨kd_802, (by omega), (by omega)⟩ hq1) ?_
  refine ev_aload_n (pc := 11) 0 dX12_back_11 rfl rfl ?_
  refine ev_getR (pc := 12) fl12_7 rfl dX12_back_12 rfl kd_801 (by omega) (rf_801_0 _) ?_
  refine ev_bipush (pc := 15) (x := 8) dX12_back_15 cb_8 ?_
  refine ev_ildr (pc := 17) dX12_back_17 kd_802 (by omega) (by omega) (by omega) (by omega) ?_
  cases h
  exact ev_iret (pc := 18) dX12_back_18 rfl
def f_X12_about (p0 : Int) (M : Mem) : Option (Int) := if (f_X12_isIn p0 0 7) = 0 then (if p0 ≠ 8 then (some (-2)) else (some (M 801 4))) else (ck (0 ≤ p0 ∧ p0 < 10606) (some (M 802 p0)))
set_option maxRecDepth 100000 in
set_option maxHeartbeats 4000000 in
theorem e_X12_about {g : Gm} {d : Nat} {p0 : Int} {M N : Mem} {v : Int} (hd : 1 ≤ d) (h : f_X12_about p0 M = some v) : EvM g d mtX12_about [vR 801, vI p0] (sg (mx N M)) (0, 0) (vI v) (sg (mx N M)) := by
  unfold f_X12_about at h
  refine EvM.of mkX12_about.2.2.2.1 (Nat.le_of_ble_eq_true rfl) ?_
  change Ev g d mtX12_about 0 [(0, vR 801), (1, vI p0)] [] (sg (mx N M)) (0, 0) (vI v) (sg (mx N M))
  refine ev_iload_n (pc := 0) 1 dX12_about_0 rfl rfl ?_
  refine ev_iconst (pc := 1) (x := 0) dX12_about_1 ci_0 ?_
  refine ev_bipush (pc := 2) (x := 7) dX12_about_2 cb_7 ?_
  refine ev_cS (pc := 4) [vI p0, vI 0, vI 7] [] rfl mkX12_isIn ml12_90 msX12_isIn dX12_about_4 rfl (Nat.le_of_ble_eq_true rfl) (by omega) rfl (e_X12_isIn (d := d - 1) (v := (f_X12_isIn p0 0 7)) (by omega)  rfl) ?_
  refine ev_if_eq (pc := 7) (tgt := 19) dX12_about_7 (by decide) (fun b1 => ?_) (fun b1 => ?_)
  · rw [if_pos b1] at h
    refine ev_iload_n (pc := 19) 1 dX12_about_19 rfl rfl ?_
    refine ev_bipush (pc := 20) (x := 8) dX12_about_20 cb_8 ?_
    refine ev_icmp_ne (pc := 22) (tgt := 32) dX12_about_22 (by decide) (fun b2 => ?_) (fun b2 => ?_)
    · rw [if_pos b2] at h
      refine ev_bipush (pc := 32) (x := (-2)) dX12_about_32 cb_m2 ?_
      cases h
      exact ev_iret (pc := 34) dX12_about_34 rfl
    · rw [if_neg b2] at h
      refine ev_aload_n (pc := 25) 0 dX12_about_25 rfl rfl ?_
      refine ev_getIr (pc := 26) fl12_109 rfl dX12_about_26 rfl kd_801 (by omega) (by omega) 4 rfl ?_
      refine ev_goto (pc := 29) (tgt := 34) dX12_about_29 (by decide) ?_
      cases h
      exact ev_iret (pc := 34) dX12_about_34 rfl
  · rw [if_neg b1] at h
    refine ev_aload_n (pc := 10) 0 dX12_about_10 rfl rfl ?_
    refine ev_getR (pc := 11) fl12_7 rfl dX12_about_11 rfl kd_801 (by omega) (rf_801_0 _) ?_
    refine ev_iload_n (pc := 14) 1 dX12_about_14 rfl rfl ?_
    obtain ⟨c3, h⟩ := ck_some h
    refine ev_ildr (pc := 15) dX12_about_15 kd_802 (by omega) (by omega) c3.1 c3.2 ?_
    refine ev_goto (pc := 16) (tgt := 34) dX12_about_16 (by decide) ?_
    cases h
    exact ev_iret (pc := 34) dX12_about_34 rfl
