/-! ===== methods: X3_partnerOf, X4_addFour, X4_isDigit, X4_isLetter, X4_signAt, X4_wordBetween, X4_advance, X4_failBy, X4_readNumbers, X4_joinsAt, X6_addCode, X4_isAskedBeside, X4_isName, X4_isNameOfLaw, X4_readPart, X4_readClause, X6_empty, X4_readInto, X5_addStep, X5_addShip, X5_addWater, X5_shipsOn, X5_onGoals, X6_numberOf, X7_copyFrom ===== -/
def f_X3_partnerOf_L2_J38 (n : Nat) (K : Int → Option (Int)) (x1 x2 s0 : Int) (M : Mem) : Option (Int) := ck (0 ≤ x2 ∧ x2 < 4) (if (M 749 x2) ≠ x1 then (if s0 ≠ x1 then (K (wI (x2 + 1))) else (some (M 749 x2))) else (some s0))
set_option maxRecDepth 100000 in
set_option maxHeartbeats 4000000 in
theorem e_X3_partnerOf_L2_J38 {g : Gm} {d : Nat} {n : Nat} {K : Int → Option (Int)} {x1 x2 s0 : Int} {M N : Mem} {v : Int} (hd : 0 ≤ d) (hK : ∀ {x2 : Int}, K x2 = some v → Ev g d mtX3_partnerOf 2 [(0, vR 748), (1, vI x1), (2, vI x2)] [] (sg (mx M N)) (0, 0) (vI v) (sg (mx M N))) (h : f_X3_partnerOf_L2_J38 n K x1 x2 s0 M = some v) : Ev g d mtX3_partnerOf 38 [(0, vR 748), (1, vI x1), (2, vI x2)] [vI s0] (sg (mx M N)) (0, 0) (vI v) (sg (mx M N)) := by
  unfold f_X3_partnerOf_L2_J38 at h
  refine ev_istore_n (pc := 38) (il' := [(3, vI s0), (0, vR 748), (1, vI x1), (2, vI x2)]) dX3_partnerOf_38 rfl (Nat.le_of_ble_eq_true rfl) rfl ?_
  refine ev_aload_n (pc := 39) 1 dX3_partnerOf_39 rfl rfl ?_
  refine ev_getR (pc := 40) fl3_9 rfl dX3_partnerOf_40 rfl kd_748 (by omega) (rf_748_1 _) ?_
  refine ev_iload_n (pc := 43) 3 dX3_partnerOf_43 rfl rfl ?_
  obtain ⟨c4, h⟩ := ck_some h
  refine ev_ildc (pc := 44) dX3_partnerOf_44 kd_749 (by omega) (by omega) c4.1 c4.2 ?_
  refine ev_iload_n (pc := 45) 2 dX3_partnerOf_45 rfl rfl ?_
  refine ev_icmp_ne (pc := 46) (tgt := 51) dX3_partnerOf_46 (by decide) (fun b5 => ?_) (fun b5 => ?_)
  · rw [if_pos b5] at h
    refine ev_iload_n (pc := 51) 0 dX3_partnerOf_51 rfl rfl ?_
    refine ev_iload_n (pc := 52) 2 dX3_partnerOf_52 rfl rfl ?_
    refine ev_icmp_ne (pc := 53) (tgt := 63) dX3_partnerOf_53 (by decide) (fun b6 => ?_) (fun b6 => ?_)
    · rw [if_pos b6] at h
      refine ev_iinc (pc := 63) (il' := [(2, vI (wI (x2 + 1))), (3, vI s0), (0, vR 748), (1, vI x1)]) 3 dX3_partnerOf_63 rfl (Nat.le_of_ble_eq_true rfl) rfl rfl ?_
      refine ev_goto (pc := 66) (tgt := 2) dX3_partnerOf_66 (by decide) ?_
      refine ev_pick [2, 3, 0] rfl ?_
      exact hK h
    · rw [if_neg b6] at h
      refine ev_aload_n (pc := 56) 1 dX3_partnerOf_56 rfl rfl ?_
      refine ev_getR (pc := 57) fl3_9 rfl dX3_partnerOf_57 rfl kd_748 (by omega) (rf_748_1 _) ?_
      refine ev_iload_n (pc := 60) 3 dX3_partnerOf_60 rfl rfl ?_
      refine ev_ildc (pc := 61) dX3_partnerOf_61 kd_749 (by omega) (by omega) c4.1 c4.2 ?_
      cases h
      exact ev_iret (pc := 62) dX3_partnerOf_62 rfl
  · rw [if_neg b5] at h
    refine ev_iload_n (pc := 49) 0 dX3_partnerOf_49 rfl rfl ?_
    cases h
    exact ev_iret (pc := 50) dX3_partnerOf_50 rfl
def f_X3_partnerOf_L2 : Nat → Int → Int → Mem → Option (Int)
  | 0, _, _, _ => none
  | n + 1, x1, x2, M => if (M 748 3) ≤ x2 then (some (-1)) else (ck (0 ≤ x2 ∧ x2 < 4) (if (M 748 4) ≤ (M 756 x2) then (f_X3_partnerOf_L2_J38 n (fun x2 => f_X3_partnerOf_L2 n x1 x2 M) x1 x2 (-1) M) else (ck (0 ≤ (M 756 x2) ∧ (M 756 x2) < 4) (f_X3_partnerOf_L2_J38 n (fun x2 => f_X3_partnerOf_L2 n x1 x2 M) x1 x2 (M 750 (M 756 x2)) M))))
set_option maxRecDepth 100000 in
set_option maxHeartbeats 4000000 in
theorem e_X3_partnerOf_L2 {g : Gm} {d : Nat} {x1 : Int} {M N : Mem} (hd : 0 ≤ d) : ∀ (n : Nat) {x2 : Int} {v : Int}, f_X3_partnerOf_L2 n x1 x2 M = some v → Ev g d mtX3_partnerOf 2 [(0, vR 748), (1, vI x1), (2, vI x2)] [] (sg (mx M N)) (0, 0) (vI v) (sg (mx M N)) := by
  intro n
  induction n with
  | zero =>
    intro x2 v h
    rw [f_X3_partnerOf_L2.eq_1] at h
    cases h
  | succ n ih =>
    intro x2 v h
    rw [f_X3_partnerOf_L2.eq_2] at h
    refine ev_iload_n (pc := 2) 2 dX3_partnerOf_2 rfl rfl ?_
    refine ev_aload_n (pc := 3) 0 dX3_partnerOf_3 rfl rfl ?_
    refine ev_getIc (pc := 4) fl3_34 rfl dX3_partnerOf_4 rfl kd_748 (by omega) (by omega) 3 rfl ?_
    refine ev_icmp_ge (pc := 7) (tgt := 69) dX3_partnerOf_7 (by decide) (fun b1 => ?_) (fun b1 => ?_)
    · rw [if_pos b1] at h
      refine ev_iconst (pc := 69) (x := (-1)) dX3_partnerOf_69 ci_m1 ?_
      cases h
      exact ev_iret (pc := 70) dX3_partnerOf_70 rfl
    · rw [if_neg b1] at h
      refine ev_aload_n (pc := 10) 0 dX3_partnerOf_10 rfl rfl ?_
      refine ev_getR (pc := 11) fl3_23 rfl dX3_partnerOf_11 rfl kd_748 (by omega) (rf_748_7 _) ?_
      refine ev_iload_n (pc := 14) 2 dX3_partnerOf_14 rfl rfl ?_
      obtain ⟨c2, h⟩ := ck_some h
      refine ev_ildc (pc := 15) dX3_partnerOf_15 kd_756 (by omega) (by omega) c2.1 c2.2 ?_
      refine ev_aload_n (pc := 16) 0 dX3_partnerOf_16 rfl rfl ?_
      refine ev_getIc (pc := 17) fl3_38 rfl dX3_partnerOf_17 rfl kd_748 (by omega) (by omega) 4 rfl ?_
      refine ev_icmp_ge (pc := 20) (tgt := 37) dX3_partnerOf_20 (by decide) (fun b3 => ?_) (fun b3 => ?_)
      · rw [if_pos b3] at h
        refine ev_iconst (pc := 37) (x := (-1)) dX3_partnerOf_37 ci_m1 ?_
        refine ev_pick [0, 1, 2] rfl ?_
        exact e_X3_partnerOf_L2_J38 hd  (fun h9 => ih h9) h
      · rw [if_neg b3] at h
        refine ev_aload_n (pc := 23) 0 dX3_partnerOf_23 rfl rfl ?_
        refine ev_getR (pc := 24) fl3_15 rfl dX3_partnerOf_24 rfl kd_748 (by omega) (rf_748_2 _) ?_
        refine ev_aload_n (pc := 27) 0 dX3_partnerOf_27 rfl rfl ?_
        refine ev_getR (pc := 28) fl3_23 rfl dX3_partnerOf_28 rfl kd_748 (by omega) (rf_748_7 _) ?_
        refine ev_iload_n (pc := 31) 2 dX3_partnerOf_31 rfl rfl ?_
        refine ev_ildc (pc := 32) dX3_partnerOf_32 kd_756 (by omega) (by omega) c2.1 c2.2 ?_
        obtain ⟨c7, h⟩ := ck_some h
        refine ev_ildc (pc := 33) dX3_partnerOf_33 kd_750 (by omega) (by omega) c7.1 c7.2 ?_
        refine ev_goto (pc := 34) (tgt := 38) dX3_partnerOf_34 (by decide) ?_
        refine ev_pick [0, 1, 2] rfl ?_
        exact e_X3_partnerOf_L2_J38 hd  (fun h9 => ih h9) h
def f_X3_partnerOf (n : Nat) (p0 : Int) (M : Mem) : Option (Int) := f_X3_partnerOf_L2 n p0 0 M
set_option maxRecDepth 100000 in
set_option maxHeartbeats 4000000 in
theorem e_X3_partnerOf {g : Gm} {d : Nat} {n : Nat} {p0 : Int} {M N : Mem} {v : Int} (hd : 0 ≤ d) (h : f_X3_partnerOf n p0 M = some v) : EvM g d mtX3_partnerOf [vR 748, vI p0] (sg (mx M N)) (0, 0) (vI v) (sg (mx M N)) := by
  unfold f_X3_partnerOf at h
  refine EvM.of mkX3_partnerOf.2.2.2.1 (Nat.le_of_ble_eq_true rfl) ?_
  change Ev g d mtX3_partnerOf 0 [(0, vR 748), (1, vI p0)] [] (sg (mx M N)) (0, 0) (vI v) (sg (mx M N))
  refine ev_iconst (pc := 0) (x := 0) dX3_partnerOf_0 ci_0 ?_
  refine ev_istore_n (pc := 1) (il' := [(2, vI 0), (0, vR 748), (1, vI p0)]) dX3_partnerOf_1 rfl (Nat.le_of_ble_eq_true rfl) rfl ?_
  refine ev_pick [1, 2, 0] rfl ?_
  exact e_X3_partnerOf_L2 hd  n h
def f_X4_addFour_L15 : Nat → Int → Int → Mem → Option (Mem)
  | 0, _, _, _ => none
  | n + 1, x1, x2, M => if 4 ≤ x2 then (some M) else (ck (0 ≤ (wI ((M 703 1) + x2)) ∧ (wI ((M 703 1) + x2)) < 300) (lt (upM M 704 (wI ((M 703 1) + x2)) (bAnd (bUshr x1 (wI (24 - (wI (8 * x2))))) 255)) fun M4 => f_X4_addFour_L15 n x1 (wI (x2 + 1)) M4))
set_option maxRecDepth 100000 in
set_option maxHeartbeats 4000000 in
theorem e_X4_addFour_L15 {g : Gm} {d : Nat} {x1 : Int} {r : Vv} {σ' : Sg} {N : Mem} (hd : 0 ≤ d) : ∀ (n : Nat) {x2 : Int} {M : Mem} {q : Mem}, f_X4_addFour_L15 n x1 x2 M = some q → Ev g d mtX4_addFour 50 [(0, vR 703)] [] (sg (mx q N)) (0, 0) r σ' → Ev g d mtX4_addFour 15 [(0, vR 703), (1, vI x1), (2, vI x2)] [] (sg (mx M N)) (0, 0) r σ' := by
  intro n
  induction n with
  | zero =>
    intro x2 M q h hk0
    rw [f_X4_addFour_L15.eq_1] at h
    cases h
  | succ n ih =>
    intro x2 M q h hk0
    rw [f_X4_addFour_L15.eq_2] at h
    refine ev_iload_n (pc := 15) 2 dX4_addFour_15 rfl rfl ?_
    refine ev_iconst (pc := 16) (x := 4) dX4_addFour_16 ci_4 ?_
    refine ev_icmp_ge (pc := 17) (tgt := 50) dX4_addFour_17 (by decide) (fun b2 => ?_) (fun b2 => ?_)
    · rw [if_pos b2] at h
      cases h
      refine ev_pick [0] rfl ?_
      exact hk0
    · rw [if_neg b2] at h
      refine ev_aload_n (pc := 20) 0 dX4_addFour_20 rfl rfl ?_
      refine ev_getR (pc := 21) fl4_9 rfl dX4_addFour_21 rfl kd_703 (by omega) (rf_703_0 _) ?_
      refine ev_aload_n (pc := 24) 0 dX4_addFour_24 rfl rfl ?_
      refine ev_getIc (pc := 25) fl4_22 rfl dX4_addFour_25 rfl kd_703 (by omega) (by omega) 1 rfl ?_
      refine ev_iload_n (pc := 28) 2 dX4_addFour_28 rfl rfl ?_
      refine ev_iadd (pc := 29) dX4_addFour_29 ?_
      refine ev_iload_n (pc := 30) 1 dX4_addFour_30 rfl rfl ?_
      refine ev_bipush (pc := 31) (x := 24) dX4_addFour_31 cb_24 ?_
      refine ev_bipush (pc := 33) (x := 8) dX4_addFour_33 cb_8 ?_
      refine ev_iload_n (pc := 35) 2 dX4_addFour_35 rfl rfl ?_
      refine ev_imul (pc := 36) dX4_addFour_36 ?_
      refine ev_isub (pc := 37) dX4_addFour_37 ?_
      refine ev_iushr (pc := 38) dX4_addFour_38 ?_
      refine ev_sipush (pc := 39) (x := 255) dX4_addFour_39 cs_255 ?_
      refine ev_iand (pc := 42) dX4_addFour_42 ?_
      obtain ⟨c3, h⟩ := ck_some h
      obtain ⟨M4, eM4, h⟩ := lt_some h
      refine ev_istc (pc := 43) dX4_addFour_43 kd_704 (by omega) (by omega) c3.1 c3.2 eM4 ?_
      refine ev_iinc (pc := 44) (il' := [(2, vI (wI (x2 + 1))), (0, vR 703), (1, vI x1)]) 2 dX4_addFour_44 rfl (Nat.le_of_ble_eq_true rfl) rfl rfl ?_
      refine ev_goto (pc := 47) (tgt := 15) dX4_addFour_47 (by decide) ?_
      refine ev_pick [1, 2, 0] rfl ?_
      exact ih h hk0
def f_X4_addFour (n : Nat) (p0 : Int) (M : Mem) : Option (Mem) := if (wI ((M 703 1) + 4)) ≤ 300 then ((f_X4_addFour_L15 n p0 0 M).bind fun q5 => lt (upM q5 703 1 (wI ((q5 703 1) + 4))) fun M6 => some M6) else (some M)
set_option maxRecDepth 100000 in
set_option maxHeartbeats 4000000 in
theorem e_X4_addFour {g : Gm} {d : Nat} {n : Nat} {p0 : Int} {M N : Mem} {M' : Mem} (hd : 0 ≤ d) (h : f_X4_addFour n p0 M = some M') : EvM g d mtX4_addFour [vR 703, vI p0] (sg (mx M N)) (0, 0) vN (sg (mx M' N)) := by
  unfold f_X4_addFour at h
  refine EvM.of mkX4_addFour.2.2.2.1 (Nat.le_of_ble_eq_true rfl) ?_
  change Ev g d mtX4_addFour 0 [(0, vR 703), (1, vI p0)] [] (sg (mx M N)) (0, 0) vN (sg (mx M' N))
  refine ev_aload_n (pc := 0) 0 dX4_addFour_0 rfl rfl ?_
  refine ev_getIc (pc := 1) fl4_22 rfl dX4_addFour_1 rfl kd_703 (by omega) (by omega) 1 rfl ?_
  refine ev_iconst (pc := 4) (x := 4) dX4_addFour_4 ci_4 ?_
  refine ev_iadd (pc := 5) dX4_addFour_5 ?_
  refine ev_sipush (pc := 6) (x := 300) dX4_addFour_6 cs_300 ?_
  refine ev_icmp_le (pc := 9) (tgt := 13) dX4_addFour_9 (by decide) (fun b1 => ?_) (fun b1 => ?_)
  · rw [if_pos b1] at h
    refine ev_iconst (pc := 13) (x := 0) dX4_addFour_13 ci_0 ?_
    refine ev_istore_n (pc := 14) (il' := [(2, vI 0), (0, vR 703), (1, vI p0)]) dX4_addFour_14 rfl (Nat.le_of_ble_eq_true rfl) rfl ?_
    obtain ⟨q5, hq5, h⟩ := bd h
    refine ev_pick [1, 2, 0] rfl ?_
    refine e_X4_addFour_L15 hd  n hq5 ?_
    refine ev_aload_n (pc := 50) 0 dX4_addFour_50 rfl rfl ?_
    refine ev_dup (pc := 51) rfl dX4_addFour_51 ?_
    refine ev_getIc (pc := 52) fl4_22 rfl dX4_addFour_52 rfl kd_703 (by omega) (by omega) 1 rfl ?_
    refine ev_iconst (pc := 55) (x := 4) dX4_addFour_55 ci_4 ?_
    refine ev_iadd (pc := 56) dX4_addFour_56 ?_
    obtain ⟨M6, eM6, h⟩ := lt_some h
    refine ev_putIc (pc := 57) fl4_22 rfl dX4_addFour_57 kd_703 (by omega) (by omega) eM6 ?_
    cases h
    exact ev_vret (pc := 60) dX4_addFour_60 rfl
  · rw [if_neg b1] at h
    cases h
    exact ev_vret (pc := 12) dX4_addFour_12 rfl
def f_X4_isDigit (p0 : Int) : Int := if p0 < 48 then 0 else (if 57 < p0 then 0 else 1)
set_option maxRecDepth 100000 in
set_option maxHeartbeats 4000000 in
theorem e_X4_isDigit {g : Gm} {d : Nat} {p0 : Int} {M0 : Mem} {v : Int} (hd : 0 ≤ d) (h : f_X4_isDigit p0 = v) : EvM g d mtX4_isDigit [vI p0] (sg M0) (0, 0) (vI v) (sg M0) := by
  unfold f_X4_isDigit at h
  refine EvM.of mkX4_isDigit.2.2.2.1 (Nat.le_of_ble_eq_true rfl) ?_
  change Ev g d mtX4_isDigit 0 [(0, vI p0)] [] (sg M0) (0, 0) (vI v) (sg M0)
  refine ev_iload_n (pc := 0) 0 dX4_isDigit_0 rfl rfl ?_
  refine ev_bipush (pc := 1) (x := 48) dX4_isDigit_1 cb_48 ?_
  refine ev_icmp_lt (pc := 3) (tgt := 16) dX4_isDigit_3 (by decide) (fun b1 => ?_) (fun b1 => ?_)
  · rw [if_pos b1] at h
    refine ev_iconst (pc := 16) (x := 0) dX4_isDigit_16 ci_0 ?_
    cases h
    exact ev_zret (pc := 17) (Or.inl rfl) dX4_isDigit_17 rfl
  · rw [if_neg b1] at h
    refine ev_iload_n (pc := 6) 0 dX4_isDigit_6 rfl rfl ?_
    refine ev_bipush (pc := 7) (x := 57) dX4_isDigit_7 cb_57 ?_
    refine ev_icmp_gt (pc := 9) (tgt := 16) dX4_isDigit_9 (by decide) (fun b2 => ?_) (fun b2 => ?_)
    · rw [if_pos b2] at h
      refine ev_iconst (pc := 16) (x := 0) dX4_isDigit_16 ci_0 ?_
      cases h
      exact ev_zret (pc := 17) (Or.inl rfl) dX4_isDigit_17 rfl
    · rw [if_neg b2] at h
      refine ev_iconst (pc := 12) (x := 1) dX4_isDigit_12 ci_1 ?_
      refine ev_goto (pc := 13) (tgt := 17) dX4_isDigit_13 (by decide) ?_
      cases h
      exact ev_zret (pc := 17) (Or.inr rfl) dX4_isDigit_17 rfl
theorem z_X4_isDigit (p0 : Int) : f_X4_isDigit p0 = 0 ∨ f_X4_isDigit p0 = 1 := by
  unfold f_X4_isDigit
  repeat' split
  all_goals first | exact Or.inl rfl | exact Or.inr rfl
def f_X4_isLetter_J12 (x0 : Int) : Int := if x0 < 65 then 0 else (if 90 < x0 then 0 else 1)
set_option maxRecDepth 100000 in
set_option maxHeartbeats 4000000 in
theorem e_X4_isLetter_J12 {g : Gm} {d : Nat} {x0 : Int} {M0 : Mem} {v : Int} (hd : 0 ≤ d) (h : f_X4_isLetter_J12 x0 = v) : Ev g d mtX4_isLetter 12 [(0, vI x0)] [] (sg M0) (0, 0) (vI v) (sg M0) := by
  unfold f_X4_isLetter_J12 at h
  refine ev_iload_n (pc := 12) 0 dX4_isLetter_12 rfl rfl ?_
  refine ev_bipush (pc := 13) (x := 65) dX4_isLetter_13 cb_65 ?_
  refine ev_icmp_lt (pc := 15) (tgt := 28) dX4_isLetter_15 (by decide) (fun b2 => ?_) (fun b2 => ?_)
  · rw [if_pos b2] at h
    refine ev_iconst (pc := 28) (x := 0) dX4_isLetter_28 ci_0 ?_
    cases h
    exact ev_zret (pc := 29) (Or.inl rfl) dX4_isLetter_29 rfl
  · rw [if_neg b2] at h
    refine ev_iload_n (pc := 18) 0 dX4_isLetter_18 rfl rfl ?_
    refine ev_bipush (pc := 19) (x := 90) dX4_isLetter_19 cb_90 ?_
    refine ev_icmp_gt (pc := 21) (tgt := 28) dX4_isLetter_21 (by decide) (fun b3 => ?_) (fun b3 => ?_)
    · rw [if_pos b3] at h
      refine ev_iconst (pc := 28) (x := 0) dX4_isLetter_28 ci_0 ?_
      cases h
      exact ev_zret (pc := 29) (Or.inl rfl) dX4_isLetter_29 rfl
    · rw [if_neg b3] at h
      refine ev_iconst (pc := 24) (x := 1) dX4_isLetter_24 ci_1 ?_
      refine ev_goto (pc := 25) (tgt := 29) dX4_isLetter_25 (by decide) ?_
      cases h
      exact ev_zret (pc := 29) (Or.inr rfl) dX4_isLetter_29 rfl
def f_X4_isLetter (p0 : Int) : Int := if p0 < 97 then (f_X4_isLetter_J12 p0) else (if p0 ≤ 122 then 1 else (f_X4_isLetter_J12 p0))
set_option maxRecDepth 100000 in
set_option maxHeartbeats 4000000 in
theorem e_X4_isLetter {g : Gm} {d : Nat} {p0 : Int} {M0 : Mem} {v : Int} (hd : 0 ≤ d) (h : f_X4_isLetter p0 = v) : EvM g d mtX4_isLetter [vI p0] (sg M0) (0, 0) (vI v) (sg M0) := by
  unfold f_X4_isLetter at h
  refine EvM.of mkX4_isLetter.2.2.2.1 (Nat.le_of_ble_eq_true rfl) ?_
  change Ev g d mtX4_isLetter 0 [(0, vI p0)] [] (sg M0) (0, 0) (vI v) (sg M0)
  refine ev_iload_n (pc := 0) 0 dX4_isLetter_0 rfl rfl ?_
  refine ev_bipush (pc := 1) (x := 97) dX4_isLetter_1 cb_97 ?_
  refine ev_icmp_lt (pc := 3) (tgt := 12) dX4_isLetter_3 (by decide) (fun b1 => ?_) (fun b1 => ?_)
  · rw [if_pos b1] at h
    refine ev_pick [0] rfl ?_
    exact e_X4_isLetter_J12 hd  h
  · rw [if_neg b1] at h
    refine ev_iload_n (pc := 6) 0 dX4_isLetter_6 rfl rfl ?_
    refine ev_bipush (pc := 7) (x := 122) dX4_isLetter_7 cb_122 ?_
    refine ev_icmp_le (pc := 9) (tgt := 24) dX4_isLetter_9 (by decide) (fun b4 => ?_) (fun b4 => ?_)
    · rw [if_pos b4] at h
      refine ev_iconst (pc := 24) (x := 1) dX4_isLetter_24 ci_1 ?_
      refine ev_goto (pc := 25) (tgt := 29) dX4_isLetter_25 (by decide) ?_
      cases h
      exact ev_zret (pc := 29) (Or.inr rfl) dX4_isLetter_29 rfl
    · rw [if_neg b4] at h
      refine ev_pick [0] rfl ?_
      exact e_X4_isLetter_J12 hd  h
theorem z_X4_isLetter (p0 : Int) : f_X4_isLetter p0 = 0 ∨ f_X4_isLetter p0 = 1 := by
  unfold f_X4_isLetter
  unfold f_X4_isLetter_J12
  repeat' split
  all_goals first | exact Or.inl rfl | exact Or.inr rfl
def f_X4_signAt_L48 : Nat → Int → Int → Mem → Option (Int)
  | 0, _, _, _ => none
  | n + 1, x2, x3, M => if 12 ≤ x3 then (some 5) else (ck (0 ≤ x3 ∧ x3 < 12) (if (strC1 x3) ≠ x2 then (f_X4_signAt_L48 n x2 (wI (x3 + 1)) M) else (some x2)))
set_option maxRecDepth 100000 in
set_option maxHeartbeats 4000000 in
theorem e_X4_signAt_L48 {g : Gm} {d : Nat} {x2 : Int} {M N : Mem} (hd : 6 ≤ d) : ∀ (n : Nat) {x3 : Int} {v : Int}, f_X4_signAt_L48 n x2 x3 M = some v → Ev g d mtX4_signAt 48 [(2, vI x2), (3, vI x3)] [] (sg (mx M N)) (0, 0) (vI v) (sg (mx M N)) := by
  intro n
  induction n with
  | zero =>
    intro x3 v h
    rw [f_X4_signAt_L48.eq_1] at h
    cases h
  | succ n ih =>
    intro x3 v h
    rw [f_X4_signAt_L48.eq_2] at h
    refine ev_iload_n (pc := 48) 1 dX4_signAt_48 rfl rfl ?_
    refine ev_str1 (pc := 49) rfl dX4_signAt_49 ?_
    refine ev_sln1 (pc := 51) rfl ml4_153 (Nat.le_of_ble_eq_true rfl) (by omega) dX4_signAt_51 ?_
    refine ev_icmp_ge (pc := 54) (tgt := 75) dX4_signAt_54 (by decide) (fun b3 => ?_) (fun b3 => ?_)
    · rw [if_pos b3] at h
      refine ev_iconst (pc := 75) (x := 5) dX4_signAt_75 ci_5 ?_
      cases h
      exact ev_iret (pc := 76) dX4_signAt_76 rfl
    · rw [if_neg b3] at h
      refine ev_str1 (pc := 57) rfl dX4_signAt_57 ?_
      refine ev_iload_n (pc := 59) 1 dX4_signAt_59 rfl rfl ?_
      obtain ⟨c4, h⟩ := ck_some h
      refine ev_chr1 (pc := 60) rfl ml4_158 (Nat.le_of_ble_eq_true rfl) (by omega) c4.1 c4.2 dX4_signAt_60 ?_
      refine ev_iload_n (pc := 63) 0 dX4_signAt_63 rfl rfl ?_
      refine ev_icmp_ne (pc := 64) (tgt := 69) dX4_signAt_64 (by decide) (fun b5 => ?_) (fun b5 => ?_)
      · rw [if_pos b5] at h
        refine ev_iinc (pc := 69) (il' := [(3, vI (wI (x3 + 1))), (2, vI x2)]) 1 dX4_signAt_69 rfl (Nat.le_of_ble_eq_true rfl) rfl rfl ?_
        refine ev_goto (pc := 72) (tgt := 48) dX4_signAt_72 (by decide) ?_
        refine ev_pick [1, 0] rfl ?_
        exact ih h
      · rw [if_neg b5] at h
        refine ev_iload_n (pc := 67) 0 dX4_signAt_67 rfl rfl ?_
        cases h
        exact ev_iret (pc := 68) dX4_signAt_68 rfl
def f_X4_signAt (n : Nat) (p0 : Int) (M : Mem) : Option (Int) := ck (0 ≤ p0 ∧ p0 < 300) (if (M 703 1) ≤ (wI (p0 + 1)) then (f_X4_signAt_L48 n (M 704 p0) 0 M) else (ck (0 ≤ (wI (p0 + 1)) ∧ (wI (p0 + 1)) < 300) (if (M 704 (wI (p0 + 1))) ≠ 61 then (f_X4_signAt_L48 n (M 704 p0) 0 M) else (if (M 704 p0) ≠ 60 then (if (M 704 p0) ≠ 62 then (f_X4_signAt_L48 n (M 704 p0) 0 M) else (some 2)) else (some 1)))))
set_option maxRecDepth 100000 in
set_option maxHeartbeats 4000000 in
theorem e_X4_signAt {g : Gm} {d : Nat} {n : Nat} {p0 : Int} {M N : Mem} {v : Int} (hd : 6 ≤ d) (h : f_X4_signAt n p0 M = some v) : EvM g d mtX4_signAt [vR 703, vI p0] (sg (mx M N)) (0, 0) (vI v) (sg (mx M N)) := by
  unfold f_X4_signAt at h
  refine EvM.of mkX4_signAt.2.2.2.1 (Nat.le_of_ble_eq_true rfl) ?_
  change Ev g d mtX4_signAt 0 [(0, vR 703), (1, vI p0)] [] (sg (mx M N)) (0, 0) (vI v) (sg (mx M N))
  refine ev_aload_n (pc := 0) 0 dX4_signAt_0 rfl rfl ?_
  refine ev_getR (pc := 1) fl4_9 rfl dX4_signAt_1 rfl kd_703 (by omega) (rf_703_0 _) ?_
  refine ev_iload_n (pc := 4) 1 dX4_signAt_4 rfl rfl ?_
  obtain ⟨c1, h⟩ := ck_some h
  refine ev_ildc (pc := 5) dX4_signAt_5 kd_704 (by omega) (by omega) c1.1 c1.2 ?_
  refine ev_istore_n (pc := 6) (il' := [(2, vI (M 704 p0)), (0, vR 703), (1, vI p0)]) dX4_signAt_6 rfl (Nat.le_of_ble_eq_true rfl) rfl ?_
  refine ev_iload_n (pc := 7) 2 dX4_signAt_7 rfl rfl ?_
  refine ev_iconst (pc := 8) (x := 1) dX4_signAt_8 ci_1 ?_
  refine ev_iadd (pc := 9) dX4_signAt_9 ?_
  refine ev_aload_n (pc := 10) 1 dX4_signAt_10 rfl rfl ?_
  refine ev_getIc (pc := 11) fl4_22 rfl dX4_signAt_11 rfl kd_703 (by omega) (by omega) 1 rfl ?_
  refine ev_icmp_ge (pc := 14) (tgt := 46) dX4_signAt_14 (by decide) (fun b2 => ?_) (fun b2 => ?_)
  · rw [if_pos b2] at h
    refine ev_iconst (pc := 46) (x := 0) dX4_signAt_46 ci_0 ?_
    refine ev_istore_n (pc := 47) (il' := [(3, vI 0), (2, vI (M 704 p0)), (0, vR 703), (1, vI p0)]) dX4_signAt_47 rfl (Nat.le_of_ble_eq_true rfl) rfl ?_
    refine ev_pick [1, 0] rfl ?_
    exact e_X4_signAt_L48 hd  n h
  · rw [if_neg b2] at h
    refine ev_aload_n (pc := 17) 1 dX4_signAt_17 rfl rfl ?_
    refine ev_getR (pc := 18) fl4_9 rfl dX4_signAt_18 rfl kd_703 (by omega) (rf_703_0 _) ?_
    refine ev_iload_n (pc := 21) 2 dX4_signAt_21 rfl rfl ?_
    refine ev_iconst (pc := 22) (x := 1) dX4_signAt_22 ci_1 ?_
    refine ev_iadd (pc := 23) dX4_signAt_23 ?_
    obtain ⟨c6, h⟩ := ck_some h
    refine ev_ildc (pc := 24) dX4_signAt_24 kd_704 (by omega) (by omega) c6.1 c6.2 ?_
    refine ev_bipush (pc := 25) (x := 61) dX4_signAt_25 cb_61 ?_
    refine ev_icmp_ne (pc := 27) (tgt := 46) dX4_signAt_27 (by decide) (fun b7 => ?_) (fun b7 => ?_)
    · rw [if_pos b7] at h
      refine ev_iconst (pc := 46) (x := 0) dX4_signAt_46 ci_0 ?_
      refine ev_istore_n (pc := 47) (il' := [(3, vI 0), (2, vI (M 704 p0)), (0, vR 703), (1, vI p0)]) dX4_signAt_47 rfl (Nat.le_of_ble_eq_true rfl) rfl ?_
      refine ev_pick [1, 0] rfl ?_
      exact e_X4_signAt_L48 hd  n h
    · rw [if_neg b7] at h
      refine ev_iload_n (pc := 30) 0 dX4_signAt_30 rfl rfl ?_
      refine ev_bipush (pc := 31) (x := 60) dX4_signAt_31 cb_60 ?_
      refine ev_icmp_ne (pc := 33) (tgt := 38) dX4_signAt_33 (by decide) (fun b8 => ?_) (fun b8 => ?_)
      · rw [if_pos b8] at h
        refine ev_iload_n (pc := 38) 0 dX4_signAt_38 rfl rfl ?_
        refine ev_bipush (pc := 39) (x := 62) dX4_signAt_39 cb_62 ?_
        refine ev_icmp_ne (pc := 41) (tgt := 46) dX4_signAt_41 (by decide) (fun b9 => ?_) (fun b9 => ?_)
        · rw [if_pos b9] at h
          refine ev_iconst (pc := 46) (x := 0) dX4_signAt_46 ci_0 ?_
          refine ev_istore_n (pc := 47) (il' := [(3, vI 0), (2, vI (M 704 p0)), (0, vR 703), (1, vI p0)]) dX4_signAt_47 rfl (Nat.le_of_ble_eq_true rfl) rfl ?_
          refine ev_pick [1, 0] rfl ?_
          exact e_X4_signAt_L48 hd  n h
        · rw [if_neg b9] at h
          refine ev_iconst (pc := 44) (x := 2) dX4_signAt_44 ci_2 ?_
          cases h
          exact ev_iret (pc := 45) dX4_signAt_45 rfl
      · rw [if_neg b8] at h
        refine ev_iconst (pc := 36) (x := 1) dX4_signAt_36 ci_1 ?_
        cases h
        exact ev_iret (pc := 37) dX4_signAt_37 rfl
def f_X4_wordBetween_L13 : Nat → Int → Int → Int → Int → Int → Int → Mem → Option (Int)
  | 0, _, _, _, _, _, _, _ => none
  | n + 1, x1, x2, x3, x4, x5, x6, M => if 138 ≤ x6 then (some 5) else (ck (0 ≤ x6 ∧ x6 < 138) (if (strC0 x6) = 32 then (if x5 = 0 then (f_X4_wordBetween_L13 n x1 x2 (wI (x3 + 1)) 0 1 (wI (x6 + 1)) M) else (if x4 ≠ (wI (x2 - x1)) then (f_X4_wordBetween_L13 n x1 x2 (wI (x3 + 1)) 0 1 (wI (x6 + 1)) M) else (some x3))) else (if x5 = 0 then (f_X4_wordBetween_L13 n x1 x2 x3 (wI (x4 + 1)) 0 (wI (x6 + 1)) M) else (if x2 ≤ (wI (x1 + x4)) then (f_X4_wordBetween_L13 n x1 x2 x3 (wI (x4 + 1)) 0 (wI (x6 + 1)) M) else (ck (0 ≤ (wI (x1 + x4)) ∧ (wI (x1 + x4)) < 300) (if (M 704 (wI (x1 + x4))) ≠ (strC0 x6) then (f_X4_wordBetween_L13 n x1 x2 x3 (wI (x4 + 1)) 0 (wI (x6 + 1)) M) else (f_X4_wordBetween_L13 n x1 x2 x3 (wI (x4 + 1)) 1 (wI (x6 + 1)) M)))))))
set_option maxRecDepth 100000 in
set_option maxHeartbeats 4000000 in
theorem e_X4_wordBetween_L13 {g : Gm} {d : Nat} {x1 x2 : Int} {M N : Mem} (hd : 6 ≤ d) : ∀ (n : Nat) {x3 x4 x5 x6 : Int} {v : Int}, f_X4_wordBetween_L13 n x1 x2 x3 x4 x5 x6 M = some v → Ev g d mtX4_wordBetween 13 [(0, vR 703), (1, vI x1), (2, vI x2), (3, vI x3), (4, vI x4), (5, vI x5), (6, vI x6)] [] (sg (mx M N)) (0, 0) (vI v) (sg (mx M N)) := by
  intro n
  induction n with
  | zero =>
    intro x3 x4 x5 x6 v h
    rw [f_X4_wordBetween_L13.eq_1] at h
    cases h
  | succ n ih =>
    intro x3 x4 x5 x6 v h
    rw [f_X4_wordBetween_L13.eq_2] at h
    refine ev_iload (pc := 13) 6 dX4_wordBetween_13 rfl ?_
    refine ev_str0 (pc := 15) rfl dX4_wordBetween_15 ?_
    refine ev_sln0 (pc := 17) rfl ml4_153 (Nat.le_of_ble_eq_true rfl) (by omega) dX4_wordBetween_17 ?_
    refine ev_icmp_ge (pc := 20) (tgt := 109) dX4_wordBetween_20 (by decide) (fun b1 => ?_) (fun b1 => ?_)
    · rw [if_pos b1] at h
      refine ev_iconst (pc := 109) (x := 5) dX4_wordBetween_109 ci_5 ?_
      cases h
      exact ev_iret (pc := 110) dX4_wordBetween_110 rfl
    · rw [if_neg b1] at h
      refine ev_str0 (pc := 23) rfl dX4_wordBetween_23 ?_
      refine ev_iload (pc := 25) 6 dX4_wordBetween_25 rfl ?_
      obtain ⟨c2, h⟩ := ck_some h
      refine ev_chr0 (pc := 27) rfl ml4_158 (Nat.le_of_ble_eq_true rfl) (by omega) c2.1 c2.2 dX4_wordBetween_27 ?_
      refine ev_istore (pc := 30) (il' := [(7, vI (strC0 x6)), (0, vR 703), (1, vI x1), (2, vI x2), (3, vI x3), (4, vI x4), (5, vI x5), (6, vI x6)]) dX4_wordBetween_30 (Nat.le_of_ble_eq_true rfl) rfl ?_
      refine ev_iload (pc := 32) 0 dX4_wordBetween_32 rfl ?_
      refine ev_bipush (pc := 34) (x := 32) dX4_wordBetween_34 cb_32 ?_
      refine ev_icmp_eq (pc := 36) (tgt := 79) dX4_wordBetween_36 (by decide) (fun b3 => ?_) (fun b3 => ?_)
      · rw [if_pos b3] at h
        refine ev_iload (pc := 79) 6 dX4_wordBetween_79 rfl ?_
        refine ev_if_eq (pc := 81) (tgt := 94) dX4_wordBetween_81 (by decide) (fun b4 => ?_) (fun b4 => ?_)
        · rw [if_pos b4] at h
          refine ev_iinc (pc := 94) (il' := [(3, vI (wI (x3 + 1))), (7, vI (strC0 x6)), (0, vR 703), (1, vI x1), (2, vI x2), (4, vI x4), (5, vI x5), (6, vI x6)]) 4 dX4_wordBetween_94 rfl (Nat.le_of_ble_eq_true rfl) rfl rfl ?_
          refine ev_iconst (pc := 97) (x := 0) dX4_wordBetween_97 ci_0 ?_
          refine ev_istore (pc := 98) (il' := [(4, vI 0), (3, vI (wI (x3 + 1))), (7, vI (strC0 x6)), (0, vR 703), (1, vI x1), (2, vI x2), (5, vI x5), (6, vI x6)]) dX4_wordBetween_98 (Nat.le_of_ble_eq_true rfl) rfl ?_
          refine ev_iconst (pc := 100) (x := 1) dX4_wordBetween_100 ci_1 ?_
          refine ev_istore (pc := 101) (il' := [(5, vI 1), (4, vI 0), (3, vI (wI (x3 + 1))), (7, vI (strC0 x6)), (0, vR 703), (1, vI x1), (2, vI x2), (6, vI x6)]) dX4_wordBetween_101 (Nat.le_of_ble_eq_true rfl) rfl ?_
          refine ev_iinc (pc := 103) (il' := [(6, vI (wI (x6 + 1))), (5, vI 1), (4, vI 0), (3, vI (wI (x3 + 1))), (7, vI (strC0 x6)), (0, vR 703), (1, vI x1), (2, vI x2)]) 7 dX4_wordBetween_103 rfl (Nat.le_of_ble_eq_true rfl) rfl rfl ?_
          refine ev_goto (pc := 106) (tgt := 13) dX4_wordBetween_106 (by decide) ?_
          refine ev_pick [5, 6, 7, 3, 2, 1, 0] rfl ?_
          exact ih h
        · rw [if_neg b4] at h
          refine ev_iload (pc := 84) 5 dX4_wordBetween_84 rfl ?_
          refine ev_iload_n (pc := 86) 3 dX4_wordBetween_86 rfl rfl ?_
          refine ev_iload_n (pc := 87) 2 dX4_wordBetween_87 rfl rfl ?_
          refine ev_isub (pc := 88) dX4_wordBetween_88 ?_
          refine ev_icmp_ne (pc := 89) (tgt := 94) dX4_wordBetween_89 (by decide) (fun b5 => ?_) (fun b5 => ?_)
          · rw [if_pos b5] at h
            refine ev_iinc (pc := 94) (il' := [(3, vI (wI (x3 + 1))), (7, vI (strC0 x6)), (0, vR 703), (1, vI x1), (2, vI x2), (4, vI x4), (5, vI x5), (6, vI x6)]) 4 dX4_wordBetween_94 rfl (Nat.le_of_ble_eq_true rfl) rfl rfl ?_
            refine ev_iconst (pc := 97) (x := 0) dX4_wordBetween_97 ci_0 ?_
            refine ev_istore (pc := 98) (il' := [(4, vI 0), (3, vI (wI (x3 + 1))), (7, vI (strC0 x6)), (0, vR 703), (1, vI x1), (2, vI x2), (5, vI x5), (6, vI x6)]) dX4_wordBetween_98 (Nat.le_of_ble_eq_true rfl) rfl ?_
            refine ev_iconst (pc := 100) (x := 1) dX4_wordBetween_100 ci_1 ?_
            refine ev_istore (pc := 101) (il' := [(5, vI 1), (4, vI 0), (3, vI (wI (x3 + 1))), (7, vI (strC0 x6)), (0, vR 703), (1, vI x1), (2, vI x2), (6, vI x6)]) dX4_wordBetween_101 (Nat.le_of_ble_eq_true rfl) rfl ?_
            refine ev_iinc (pc := 103) (il' := [(6, vI (wI (x6 + 1))), (5, vI 1), (4, vI 0), (3, vI (wI (x3 + 1))), (7, vI (strC0 x6)), (0, vR 703), (1, vI x1), (2, vI x2)]) 7 dX4_wordBetween_103 rfl (Nat.le_of_ble_eq_true rfl) rfl rfl ?_
            refine ev_goto (pc := 106) (tgt := 13) dX4_wordBetween_106 (by decide) ?_
            refine ev_pick [5, 6, 7, 3, 2, 1, 0] rfl ?_
            exact ih h
          · rw [if_neg b5] at h
            refine ev_iload_n (pc := 92) 4 dX4_wordBetween_92 rfl rfl ?_
            cases h
            exact ev_iret (pc := 93) dX4_wordBetween_93 rfl
      · rw [if_neg b3] at h
        refine ev_iload (pc := 39) 6 dX4_wordBetween_39 rfl ?_
        refine ev_if_eq (pc := 41) (tgt := 70) dX4_wordBetween_41 (by decide) (fun b6 => ?_) (fun b6 => ?_)
        · rw [if_pos b6] at h
          refine ev_iconst (pc := 70) (x := 0) dX4_wordBetween_70 ci_0 ?_
          refine ev_istore (pc := 71) (il' := [(5, vI 0), (7, vI (strC0 x6)), (0, vR 703), (1, vI x1), (2, vI x2), (3, vI x3), (4, vI x4), (6, vI x6)]) dX4_wordBetween_71 (Nat.le_of_ble_eq_true rfl) rfl ?_
          refine ev_iinc (pc := 73) (il' := [(4, vI (wI (x4 + 1))), (5, vI 0), (7, vI (strC0 x6)), (0, vR 703), (1, vI x1), (2, vI x2), (3, vI x3), (6, vI x6)]) 6 dX4_wordBetween_73 rfl (Nat.le_of_ble_eq_true rfl) rfl rfl ?_
          refine ev_goto (pc := 76) (tgt := 103) dX4_wordBetween_76 (by decide) ?_
          refine ev_iinc (pc := 103) (il' := [(6, vI (wI (x6 + 1))), (4, vI (wI (x4 + 1))), (5, vI 0), (7, vI (strC0 x6)), (0, vR 703), (1, vI x1), (2, vI x2), (3, vI x3)]) 7 dX4_wordBetween_103 rfl (Nat.le_of_ble_eq_true rfl) rfl rfl ?_
          refine ev_goto (pc := 106) (tgt := 13) dX4_wordBetween_106 (by decide) ?_
          refine ev_pick [4, 5, 6, 7, 1, 2, 0] rfl ?_
          exact ih h
        · rw [if_neg b6] at h
          refine ev_iload_n (pc := 44) 2 dX4_wordBetween_44 rfl rfl ?_
          refine ev_iload (pc := 45) 5 dX4_wordBetween_45 rfl ?_
          refine ev_iadd (pc := 47) dX4_wordBetween_47 ?_
          refine ev_iload_n (pc := 48) 3 dX4_wordBetween_48 rfl rfl ?_
          refine ev_icmp_ge (pc := 49) (tgt := 70) dX4_wordBetween_49 (by decide) (fun b7 => ?_) (fun b7 => ?_)
          · rw [if_pos b7] at h
            refine ev_iconst (pc := 70) (x := 0) dX4_wordBetween_70 ci_0 ?_
            refine ev_istore (pc := 71) (il' := [(5, vI 0), (7, vI (strC0 x6)), (0, vR 703), (1, vI x1), (2, vI x2), (3, vI x3), (4, vI x4), (6, vI x6)]) dX4_wordBetween_71 (Nat.le_of_ble_eq_true rfl) rfl ?_
            refine ev_iinc (pc := 73) (il' := [(4, vI (wI (x4 + 1))), (5, vI 0), (7, vI (strC0 x6)), (0, vR 703), (1, vI x1), (2, vI x2), (3, vI x3), (6, vI x6)]) 6 dX4_wordBetween_73 rfl (Nat.le_of_ble_eq_true rfl) rfl rfl ?_
            refine ev_goto (pc := 76) (tgt := 103) dX4_wordBetween_76 (by decide) ?_
            refine ev_iinc (pc := 103) (il' := [(6, vI (wI (x6 + 1))), (4, vI (wI (x4 + 1))), (5, vI 0), (7, vI (strC0 x6)), (0, vR 703), (1, vI x1), (2, vI x2), (3, vI x3)]) 7 dX4_wordBetween_103 rfl (Nat.le_of_ble_eq_true rfl) rfl rfl ?_
            refine ev_goto (pc := 106) (tgt := 13) dX4_wordBetween_106 (by decide) ?_
            refine ev_pick [4, 5, 6, 7, 1, 2, 0] rfl ?_
            exact ih h
          · rw [if_neg b7] at h
            refine ev_aload_n (pc := 52) 1 dX4_wordBetween_52 rfl rfl ?_
            refine ev_getR (pc := 53) fl4_9 rfl dX4_wordBetween_53 rfl kd_703 (by omega) (rf_703_0 _) ?_
            refine ev_iload_n (pc := 56) 2 dX4_wordBetween_56 rfl rfl ?_
            refine ev_iload (pc := 57) 5 dX4_wordBetween_57 rfl ?_
            refine ev_iadd (pc := 59) dX4_wordBetween_59 ?_
            obtain ⟨c8, h⟩ := ck_some h
            refine ev_ildc (pc := 60) dX4_wordBetween_60 kd_704 (by omega) (by omega) c8.1 c8.2 ?_
            refine ev_iload (pc := 61) 0 dX4_wordBetween_61 rfl ?_
            refine ev_icmp_ne (pc := 63) (tgt := 70) dX4_wordBetween_63 (by decide) (fun b9 => ?_) (fun b9 => ?_)
            · rw [if_pos b9] at h
              refine ev_iconst (pc := 70) (x := 0) dX4_wordBetween_70 ci_0 ?_
              refine ev_istore (pc := 71) (il' := [(5, vI 0), (7, vI (strC0 x6)), (0, vR 703), (1, vI x1), (2, vI x2), (3, vI x3), (4, vI x4), (6, vI x6)]) dX4_wordBetween_71 (Nat.le_of_ble_eq_true rfl) rfl ?_
              refine ev_iinc (pc := 73) (il' := [(4, vI (wI (x4 + 1))), (5, vI 0), (7, vI (strC0 x6)), (0, vR 703), (1, vI x1), (2, vI x2), (3, vI x3), (6, vI x6)]) 6 dX4_wordBetween_73 rfl (Nat.le_of_ble_eq_true rfl) rfl rfl ?_
              refine ev_goto (pc := 76) (tgt := 103) dX4_wordBetween_76 (by decide) ?_
              refine ev_iinc (pc := 103) (il' := [(6, vI (wI (x6 + 1))), (4, vI (wI (x4 + 1))), (5, vI 0), (7, vI (strC0 x6)), (0, vR 703), (1, vI x1), (2, vI x2), (3, vI x3)]) 7 dX4_wordBetween_103 rfl (Nat.le_of_ble_eq_true rfl) rfl rfl ?_
              refine ev_goto (pc := 106) (tgt := 13) dX4_wordBetween_106 (by decide) ?_
              refine ev_pick [4, 5, 6, 7, 1, 2, 0] rfl ?_
              exact ih h
            · rw [if_neg b9] at h
              refine ev_iconst (pc := 66) (x := 1) dX4_wordBetween_66 ci_1 ?_
              refine ev_goto (pc := 67) (tgt := 71) dX4_wordBetween_67 (by decide) ?_
              refine ev_istore (pc := 71) (il' := [(5, vI 1), (7, vI (strC0 x6)), (0, vR 703), (1, vI x1), (2, vI x2), (3, vI x3), (4, vI x4), (6, vI x6)]) dX4_wordBetween_71 (Nat.le_of_ble_eq_true rfl) rfl ?_
              refine ev_iinc (pc := 73) (il' := [(4, vI (wI (x4 + 1))), (5, vI 1), (7, vI (strC0 x6)), (0, vR 703), (1, vI x1), (2, vI x2), (3, vI x3), (6, vI x6)]) 6 dX4_wordBetween_73 rfl (Nat.le_of_ble_eq_true rfl) rfl rfl ?_
              refine ev_goto (pc := 76) (tgt := 103) dX4_wordBetween_76 (by decide) ?_
              refine ev_iinc (pc := 103) (il' := [(6, vI (wI (x6 + 1))), (4, vI (wI (x4 + 1))), (5, vI 1), (7, vI (strC0 x6)), (0, vR 703), (1, vI x1), (2, vI x2), (3, vI x3)]) 7 dX4_wordBetween_103 rfl (Nat.le_of_ble_eq_true rfl) rfl rfl ?_
              refine ev_goto (pc := 106) (tgt := 13) dX4_wordBetween_106 (by decide) ?_
              refine ev_pick [4, 5, 6, 7, 1, 2, 0] rfl ?_
              exact ih h
def f_X4_wordBetween (n : Nat) (p0 p1 : Int) (M : Mem) : Option (Int) := f_X4_wordBetween_L13 n p0 p1 128 0 1 0 M
set_option maxRecDepth 100000 in
set_option maxHeartbeats 4000000 in
theorem e_X4_wordBetween {g : Gm} {d : Nat} {n : Nat} {p0 p1 : Int} {M N : Mem} {v : Int} (hd : 6 ≤ d) (h : f_X4_wordBetween n p0 p1 M = some v) : EvM g d mtX4_wordBetween [vR 703, vI p0, vI p1] (sg (mx M N)) (0, 0) (vI v) (sg (mx M N)) := by
  unfold f_X4_wordBetween at h
  refine EvM.of mkX4_wordBetween.2.2.2.1 (Nat.le_of_ble_eq_true rfl) ?_
  change Ev g d mtX4_wordBetween 0 [(0, vR 703), (1, vI p0), (2, vI p1)] [] (sg (mx M N)) (0, 0) (vI v) (sg (mx M N))
  refine ev_sipush (pc := 0) (x := 128) dX4_wordBetween_0 cs_128 ?_
  refine ev_istore_n (pc := 3) (il' := [(3, vI 128), (0, vR 703), (1, vI p0), (2, vI p1)]) dX4_wordBetween_3 rfl (Nat.le_of_ble_eq_true rfl) rfl ?_
  refine ev_iconst (pc := 4) (x := 0) dX4_wordBetween_4 ci_0 ?_
  refine ev_istore (pc := 5) (il' := [(4, vI 0), (3, vI 128), (0, vR 703), (1, vI p0), (2, vI p1)]) dX4_wordBetween_5 (Nat.le_of_ble_eq_true rfl) rfl ?_
  refine ev_iconst (pc := 7) (x := 1) dX4_wordBetween_7 ci_1 ?_
  refine ev_istore (pc := 8) (il' := [(5, vI 1), (4, vI 0), (3, vI 128), (0, vR 703), (1, vI p0), (2, vI p1)]) dX4_wordBetween_8 (Nat.le_of_ble_eq_true rfl) rfl ?_
  refine ev_iconst (pc := 10) (x := 0) dX4_wordBetween_10 ci_0 ?_
  refine ev_istore (pc := 11) (il' := [(6, vI 0), (5, vI 1), (4, vI 0), (3, vI 128), (0, vR 703), (1, vI p0), (2, vI p1)]) dX4_wordBetween_11 (Nat.le_of_ble_eq_true rfl) rfl ?_
  refine ev_pick [4, 5, 6, 3, 2, 1, 0] rfl ?_
  exact e_X4_wordBetween_L13 hd  n h
def f_X4_advance_L0 : Nat → Mem → Option (Mem)
  | 0, _ => none
  | n + 1, M => if (M 703 1) ≤ (M 703 5) then (some M) else (ck (0 ≤ (M 703 5) ∧ (M 703 5) < 300) (if (M 704 (M 703 5)) = 32 then (lt (upM M 703 5 (wI ((M 703 5) + 1))) fun M4 => f_X4_advance_L0 n M4) else (if (M 704 (M 703 5)) ≠ 10 then (some M) else (lt (upM M 703 5 (wI ((M 703 5) + 1))) fun M6 => f_X4_advance_L0 n M6))))
set_option maxRecDepth 100000 in
set_option maxHeartbeats 4000000 in
theorem e_X4_advance_L0 {g : Gm} {d : Nat} {r : Vv} {σ' : Sg} {N : Mem} (hd : 7 ≤ d) : ∀ (n : Nat) {M : Mem} {q : Mem}, f_X4_advance_L0 n M = some q → Ev g d mtX4_advance 52 [(0, vR 703)] [] (sg (mx q N)) (0, 0) r σ' → Ev g d mtX4_advance 0 [(0, vR 703)] [] (sg (mx M N)) (0, 0) r σ' := by
  intro n
  induction n with
  | zero =>
    intro M q h hk0
    rw [f_X4_advance_L0.eq_1] at h
    cases h
  | succ n ih =>
    intro M q h hk0
    rw [f_X4_advance_L0.eq_2] at h
    refine ev_aload_n (pc := 0) 0 dX4_advance_0 rfl rfl ?_
    refine ev_getIc (pc := 1) fl4_34 rfl dX4_advance_1 rfl kd_703 (by omega) (by omega) 5 rfl ?_
    refine ev_aload_n (pc := 4) 0 dX4_advance_4 rfl rfl ?_
    refine ev_getIc (pc := 5) fl4_22 rfl dX4_advance_5 rfl kd_703 (by omega) (by omega) 1 rfl ?_
    refine ev_icmp_ge (pc := 8) (tgt := 52) dX4_advance_8 (by decide) (fun b1 => ?_) (fun b1 => ?_)
    · rw [if_pos b1] at h
      cases h
      refine ev_pick [0] rfl ?_
      exact hk0
    · rw [if_neg b1] at h
      refine ev_aload_n (pc := 11) 0 dX4_advance_11 rfl rfl ?_
      refine ev_getR (pc := 12) fl4_9 rfl dX4_advance_12 rfl kd_703 (by omega) (rf_703_0 _) ?_
      refine ev_aload_n (pc := 15) 0 dX4_advance_15 rfl rfl ?_
      refine ev_getIc (pc := 16) fl4_34 rfl dX4_advance_16 rfl kd_703 (by omega) (by omega) 5 rfl ?_
      obtain ⟨c2, h⟩ := ck_some h
      refine ev_ildc (pc := 19) dX4_advance_19 kd_704 (by omega) (by omega) c2.1 c2.2 ?_
      refine ev_bipush (pc := 20) (x := 32) dX4_advance_20 cb_32 ?_
      refine ev_icmp_eq (pc := 22) (tgt := 39) dX4_advance_22 (by decide) (fun b3 => ?_) (fun b3 => ?_)
      · rw [if_pos b3] at h
        refine ev_aload_n (pc := 39) 0 dX4_advance_39 rfl rfl ?_
        refine ev_dup (pc := 40) rfl dX4_advance_40 ?_
        refine ev_getIc (pc := 41) fl4_34 rfl dX4_advance_41 rfl kd_703 (by omega) (by omega) 5 rfl ?_
        refine ev_iconst (pc := 44) (x := 1) dX4_advance_44 ci_1 ?_
        refine ev_iadd (pc := 45) dX4_advance_45 ?_
        obtain ⟨M4, eM4, h⟩ := lt_some h
        refine ev_putIc (pc := 46) fl4_34 rfl dX4_advance_46 kd_703 (by omega) (by omega) eM4 ?_
        refine ev_goto (pc := 49) (tgt := 0) dX4_advance_49 (by decide) ?_
        refine ev_pick [0] rfl ?_
        exact ih h hk0
      · rw [if_neg b3] at h
        refine ev_aload_n (pc := 25) 0 dX4_advance_25 rfl rfl ?_
        refine ev_getR (pc := 26) fl4_9 rfl dX4_advance_26 rfl kd_703 (by omega) (rf_703_0 _) ?_
        refine ev_aload_n (pc := 29) 0 dX4_advance_29 rfl rfl ?_
        refine ev_getIc (pc := 30) fl4_34 rfl dX4_advance_30 rfl kd_703 (by omega) (by omega) 5 rfl ?_
        refine ev_ildc (pc := 33) dX4_advance_33 kd_704 (by omega) (by omega) c2.1 c2.2 ?_
        refine ev_bipush (pc := 34) (x := 10) dX4_advance_34 cb_10 ?_
        refine ev_icmp_ne (pc := 36) (tgt := 52) dX4_advance_36 (by decide) (fun b5 => ?_) (fun b5 => ?_)
        · rw [if_pos b5] at h
          cases h
          refine ev_pick [0] rfl ?_
          exact hk0
        · rw [if_neg b5] at h
          refine ev_aload_n (pc := 39) 0 dX4_advance_39 rfl rfl ?_
          refine ev_dup (pc := 40) rfl dX4_advance_40 ?_
          refine ev_getIc (pc := 41) fl4_34 rfl dX4_advance_41 rfl kd_703 (by omega) (by omega) 5 rfl ?_
          refine ev_iconst (pc := 44) (x := 1) dX4_advance_44 ci_1 ?_
          refine ev_iadd (pc := 45) dX4_advance_45 ?_
          obtain ⟨M6, eM6, h⟩ := lt_some h
          refine ev_putIc (pc := 46) fl4_34 rfl dX4_advance_46 kd_703 (by omega) (by omega) eM6 ?_
          refine ev_goto (pc := 49) (tgt := 0) dX4_advance_49 (by decide) ?_
          refine ev_pick [0] rfl ?_
          exact ih h hk0
def f_X4_advance_L177 : Nat → Mem → Option (Mem)
  | 0, _ => none
  | n + 1, M => if (M 703 1) ≤ (M 703 5) then (some M) else (ck (0 ≤ (M 703 5) ∧ (M 703 5) < 300) (if (f_X4_isDigit (M 704 (M 703 5))) = 0 then (some M) else (lt (upM M 703 8 (min 10000 (wI ((wI ((wI ((M 703 8) * 10)) + (M 704 (M 703 5)))) - 48)))) fun M25 => lt (upM M25 703 5 (wI ((M25 703 5) + 1))) fun M26 => f_X4_advance_L177 n M26)))
set_option maxRecDepth 100000 in
set_option maxHeartbeats 4000000 in
theorem e_X4_advance_L177 {g : Gm} {d : Nat} {r : Vv} {σ' : Sg} {N : Mem} (hd : 7 ≤ d) : ∀ (n : Nat) {M : Mem} {q : Mem}, f_X4_advance_L177 n M = some q → Ev g d mtX4_advance 288 [] [] (sg (mx q N)) (0, 0) r σ' → Ev g d mtX4_advance 177 [(0, vR 703)] [] (sg (mx M N)) (0, 0) r σ' := by
  intro n
  induction n with
  | zero =>
    intro M q h hk0
    rw [f_X4_advance_L177.eq_1] at h
    cases h
  | succ n ih =>
    intro M q h hk0
    rw [f_X4_advance_L177.eq_2] at h
    refine ev_aload_n (pc := 177) 0 dX4_advance_177 rfl rfl ?_
    refine ev_getIc (pc := 178) fl4_34 rfl dX4_advance_178 rfl kd_703 (by omega) (by omega) 5 rfl ?_
    refine ev_aload_n (pc := 181) 0 dX4_advance_181 rfl rfl ?_
    refine ev_getIc (pc := 182) fl4_22 rfl dX4_advance_182 rfl kd_703 (by omega) (by omega) 1 rfl ?_
    refine ev_icmp_ge (pc := 185) (tgt := 288) dX4_advance_185 (by decide) (fun b22 => ?_) (fun b22 => ?_)
    · rw [if_pos b22] at h
      cases h
      refine ev_pick [] rfl ?_
      exact hk0
    · rw [if_neg b22] at h
      refine ev_aload_n (pc := 188) 0 dX4_advance_188 rfl rfl ?_
      refine ev_getR (pc := 189) fl4_9 rfl dX4_advance_189 rfl kd_703 (by omega) (rf_703_0 _) ?_
      refine ev_aload_n (pc := 192) 0 dX4_advance_192 rfl rfl ?_
      refine ev_getIc (pc := 193) fl4_34 rfl dX4_advance_193 rfl kd_703 (by omega) (by omega) 5 rfl ?_
      obtain ⟨c23, h⟩ := ck_some h
      refine ev_ildc (pc := 196) dX4_advance_196 kd_704 (by omega) (by omega) c23.1 c23.2 ?_
      refine ev_cS (pc := 197) [vI (M 704 (M 703 5))] [] rfl mkX4_isDigit ml4_139 msX4_isDigit dX4_advance_197 rfl (Nat.le_of_ble_eq_true rfl) (by omega) rfl (e_X4_isDigit (d := d - 1) (v := (f_X4_isDigit (M 704 (M 703 5)))) (by omega)  rfl) ?_
      refine ev_if_eq (pc := 200) (tgt := 288) dX4_advance_200 (by decide) (fun b24 => ?_) (fun b24 => ?_)
      · rw [if_pos b24] at h
        cases h
        refine ev_pick [] rfl ?_
        exact hk0
      · rw [if_neg b24] at h
        refine ev_aload_n (pc := 203) 0 dX4_advance_203 rfl rfl ?_
        refine ev_sipush (pc := 204) (x := 10000) dX4_advance_204 cs_10000 ?_
        refine ev_aload_n (pc := 207) 0 dX4_advance_207 rfl rfl ?_
        refine ev_getIc (pc := 208) fl4_95 rfl dX4_advance_208 rfl kd_703 (by omega) (by omega) 8 rfl ?_
        refine ev_bipush (pc := 211) (x := 10) dX4_advance_211 cb_10 ?_
        refine ev_imul (pc := 213) dX4_advance_213 ?_
        refine ev_aload_n (pc := 214) 0 dX4_advance_214 rfl rfl ?_
        refine ev_getR (pc := 215) fl4_9 rfl dX4_advance_215 rfl kd_703 (by omega) (rf_703_0 _) ?_
        refine ev_aload_n (pc := 218) 0 dX4_advance_218 rfl rfl ?_
        refine ev_getIc (pc := 219) fl4_34 rfl dX4_advance_219 rfl kd_703 (by omega) (by omega) 5 rfl ?_
        refine ev_ildc (pc := 222) dX4_advance_222 kd_704 (by omega) (by omega) c23.1 c23.2 ?_
        refine ev_iadd (pc := 223) dX4_advance_223 ?_
        refine ev_bipush (pc := 224) (x := 48) dX4_advance_224 cb_48 ?_
        refine ev_isub (pc := 226) dX4_advance_226 ?_
        refine ev_min (pc := 227) rfl mm4_142 (Nat.le_of_ble_eq_true rfl) (by omega) dX4_advance_227 ?_
        obtain ⟨M25, eM25, h⟩ := lt_some h
        refine ev_putIc (pc := 230) fl4_95 rfl dX4_advance_230 kd_703 (by omega) (by omega) eM25 ?_
        refine ev_aload_n (pc := 233) 0 dX4_advance_233 rfl rfl ?_
        refine ev_dup (pc := 234) rfl dX4_advance_234 ?_
        refine ev_getIc (pc := 235) fl4_34 rfl dX4_advance_235 rfl kd_703 (by omega) (by omega) 5 rfl ?_
        refine ev_iconst (pc := 238) (x := 1) dX4_advance_238 ci_1 ?_
        refine ev_iadd (pc := 239) dX4_advance_239 ?_
        obtain ⟨M26, eM26, h⟩ := lt_some h
        refine ev_putIc (pc := 240) fl4_34 rfl dX4_advance_240 kd_703 (by omega) (by omega) eM26 ?_
        refine ev_goto (pc := 243) (tgt := 177) dX4_advance_243 (by decide) ?_
        refine ev_pick [0] rfl ?_
        exact ih h hk0
def f_X4_advance_L99 : Nat → Mem → Option (Mem)
  | 0, _ => none
  | n + 1, M => if (M 703 1) ≤ (M 703 5) then (some M) else (ck (0 ≤ (M 703 5) ∧ (M 703 5) < 300) (if (f_X4_isLetter (M 704 (M 703 5))) = 0 then (some M) else (lt (upM M 703 5 (wI ((M 703 5) + 1))) fun M31 => f_X4_advance_L99 n M31)))
set_option maxRecDepth 100000 in
set_option maxHeartbeats 4000000 in
theorem e_X4_advance_L99 {g : Gm} {d : Nat} {r : Vv} {σ' : Sg} {N : Mem} (hd : 7 ≤ d) : ∀ (n : Nat) {M : Mem} {q : Mem}, f_X4_advance_L99 n M = some q → Ev g d mtX4_advance 138 [(0, vR 703)] [] (sg (mx q N)) (0, 0) r σ' → Ev g d mtX4_advance 99 [(0, vR 703)] [] (sg (mx M N)) (0, 0) r σ' := by
  intro n
  induction n with
  | zero =>
    intro M q h hk0
    rw [f_X4_advance_L99.eq_1] at h
    cases h
  | succ n ih =>
    intro M q h hk0
    rw [f_X4_advance_L99.eq_2] at h
    refine ev_aload_n (pc := 99) 0 dX4_advance_99 rfl rfl ?_
    refine ev_getIc (pc := 100) fl4_34 rfl dX4_advance_100 rfl kd_703 (by omega) (by omega) 5 rfl ?_
    refine ev_aload_n (pc := 103) 0 dX4_advance_103 rfl rfl ?_
    refine ev_getIc (pc := 104) fl4_22 rfl dX4_advance_104 rfl kd_703 (by omega) (by omega) 1 rfl ?_
    refine ev_icmp_ge (pc := 107) (tgt := 138) dX4_advance_107 (by decide) (fun b28 => ?_) (fun b28 => ?_)
    · rw [if_pos b28] at h
      cases h
      refine ev_pick [0] rfl ?_
      exact hk0
    · rw [if_neg b28] at h
      refine ev_aload_n (pc := 110) 0 dX4_advance_110 rfl rfl ?_
      refine ev_getR (pc := 111) fl4_9 rfl dX4_advance_111 rfl kd_703 (by omega) (rf_703_0 _) ?_
      refine ev_aload_n (pc := 114) 0 dX4_advance_114 rfl rfl ?_
      refine ev_getIc (pc := 115) fl4_34 rfl dX4_advance_115 rfl kd_703 (by omega) (by omega) 5 rfl ?_
      obtain ⟨c29, h⟩ := ck_some h
      refine ev_ildc (pc := 118) dX4_advance_118 kd_704 (by omega) (by omega) c29.1 c29.2 ?_
      refine ev_cS (pc := 119) [vI (M 704 (M 703 5))] [] rfl mkX4_isLetter ml4_132 msX4_isLetter dX4_advance_119 rfl (Nat.le_of_ble_eq_true rfl) (by omega) rfl (e_X4_isLetter (d := d - 1) (v := (f_X4_isLetter (M 704 (M 703 5)))) (by omega)  rfl) ?_
      refine ev_if_eq (pc := 122) (tgt := 138) dX4_advance_122 (by decide) (fun b30 => ?_) (fun b30 => ?_)
      · rw [if_pos b30] at h
        cases h
        refine ev_pick [0] rfl ?_
        exact hk0
      · rw [if_neg b30] at h
        refine ev_aload_n (pc := 125) 0 dX4_advance_125 rfl rfl ?_
        refine ev_dup (pc := 126) rfl dX4_advance_126 ?_
        refine ev_getIc (pc := 127) fl4_34 rfl dX4_advance_127 rfl kd_703 (by omega) (by omega) 5 rfl ?_
        refine ev_iconst (pc := 130) (x := 1) dX4_advance_130 ci_1 ?_
        refine ev_iadd (pc := 131) dX4_advance_131 ?_
        obtain ⟨M31, eM31, h⟩ := lt_some h
        refine ev_putIc (pc := 132) fl4_34 rfl dX4_advance_132 kd_703 (by omega) (by omega) eM31 ?_
        refine ev_goto (pc := 135) (tgt := 99) dX4_advance_135 (by decide) ?_
        refine ev_pick [0] rfl ?_
        exact ih h hk0
def f_X4_advance_J138 (n : Nat) (M : Mem) : Option (Mem) := (f_X4_wordBetween n (M 703 7) (M 703 5) M).bind fun q33 => lt (upM M 703 6 q33) fun M34 => some M34
set_option maxRecDepth 100000 in
set_option maxHeartbeats 4000000 in
theorem e_X4_advance_J138 {g : Gm} {d : Nat} {n : Nat} {M N : Mem} {M' : Mem} (hd : 7 ≤ d) (h : f_X4_advance_J138 n M = some M') : Ev g d mtX4_advance 138 [(0, vR 703)] [] (sg (mx M N)) (0, 0) vN (sg (mx M' N)) := by
  unfold f_X4_advance_J138 at h
  refine ev_aload_n (pc := 138) 0 dX4_advance_138 rfl rfl ?_
  refine ev_aload_n (pc := 139) 0 dX4_advance_139 rfl rfl ?_
  refine ev_aload_n (pc := 140) 0 dX4_advance_140 rfl rfl ?_
  refine ev_getIc (pc := 141) fl4_47 rfl dX4_advance_141 rfl kd_703 (by omega) (by omega) 7 rfl ?_
  refine ev_aload_n (pc := 144) 0 dX4_advance_144 rfl rfl ?_
  refine ev_getIc (pc := 145) fl4_34 rfl dX4_advance_145 rfl kd_703 (by omega) (by omega) 5 rfl ?_
  obtain ⟨q33, hq33, h⟩ := bd h
  refine ev_cV (pc := 148) [vI (M 703 7), vI (M 703 5)] [vR 703] rfl mkX4_wordBetween ml4_135 mnX4_wordBetween dX4_advance_148 kd_703 (by omega) rfl (Nat.le_of_ble_eq_true rfl) (by omega) rfl (e_X4_wordBetween (d := d - 1) (v := q33) (by omega)  hq33) ?_
  obtain ⟨M34, eM34, h⟩ := lt_some h
  refine ev_putIc (pc := 151) fl4_40 rfl dX4_advance_151 kd_703 (by omega) (by omega) eM34 ?_
  refine ev_goto (pc := 154) (tgt := 288) dX4_advance_154 (by decide) ?_
  cases h
  exact ev_vret (pc := 288) dX4_advance_288 rfl
def f_X4_advance_J52 (n : Nat) (M : Mem) : Option (Mem) := lt (upM M 703 7 (M 703 5)) fun M8 => lt (upM M8 703 8 0) fun M9 => if (M9 703 5) < (M9 703 1) then (ck (0 ≤ (M9 703 5) ∧ (M9 703 5) < 300) (if (f_X4_isLetter (M9 704 (M9 703 5))) = 0 then (if (f_X4_isDigit (M9 704 (M9 703 5))) = 0 then ((f_X4_signAt n (M9 703 5) M9).bind fun q14 => lt (upM M9 703 6 q14) fun M15 => if (M15 703 6) = 1 then (lt (upM M15 703 5 (wI ((M15 703 5) + 2))) fun M17 => some M17) else (if (M15 703 6) ≠ 2 then (lt (upM M15 703 5 (wI ((M15 703 5) + 1))) fun M19 => some M19) else (lt (upM M15 703 5 (wI ((M15 703 5) + 2))) fun M20 => some M20))) else (lt (upM M9 703 6 3) fun M21 => (f_X4_advance_L177 n M21).bind fun q27 => some q27)) else ((f_X4_advance_L99 n M9).bind fun q32 => f_X4_advance_J138 n q32))) else (lt (upM M9 703 6 4) fun M35 => some M35)
set_option maxRecDepth 100000 in
set_option maxHeartbeats 4000000 in
theorem e_X4_advance_J52 {g : Gm} {d : Nat} {n : Nat} {M N : Mem} {M' : Mem} (hd : 7 ≤ d) (h : f_X4_advance_J52 n M = some M') : Ev g d mtX4_advance 52 [(0, vR 703)] [] (sg (mx M N)) (0, 0) vN (sg (mx M' N)) := by
  unfold f_X4_advance_J52 at h
  refine ev_aload_n (pc := 52) 0 dX4_advance_52 rfl rfl ?_
  refine ev_aload_n (pc := 53) 0 dX4_advance_53 rfl rfl ?_
  refine ev_getIc (pc := 54) fl4_34 rfl dX4_advance_54 rfl kd_703 (by omega) (by omega) 5 rfl ?_
  obtain ⟨M8, eM8, h⟩ := lt_some h
  refine ev_putIc (pc := 57) fl4_47 rfl dX4_advance_57 kd_703 (by omega) (by omega) eM8 ?_
  refine ev_aload_n (pc := 60) 0 dX4_advance_60 rfl rfl ?_
  refine ev_iconst (pc := 61) (x := 0) dX4_advance_61 ci_0 ?_
  obtain ⟨M9, eM9, h⟩ := lt_some h
  refine ev_putIc (pc := 62) fl4_95 rfl dX4_advance_62 kd_703 (by omega) (by omega) eM9 ?_
  refine ev_aload_n (pc := 65) 0 dX4_advance_65 rfl rfl ?_
  refine ev_getIc (pc := 66) fl4_34 rfl dX4_advance_66 rfl kd_703 (by omega) (by omega) 5 rfl ?_
  refine ev_aload_n (pc := 69) 0 dX4_advance_69 rfl rfl ?_
  refine ev_getIc (pc := 70) fl4_22 rfl dX4_advance_70 rfl kd_703 (by omega) (by omega) 1 rfl ?_
  refine ev_icmp_lt (pc := 73) (tgt := 84) dX4_advance_73 (by decide) (fun b10 => ?_) (fun b10 => ?_)
  · rw [if_pos b10] at h
    refine ev_aload_n (pc := 84) 0 dX4_advance_84 rfl rfl ?_
    refine ev_getR (pc := 85) fl4_9 rfl dX4_advance_85 rfl kd_703 (by omega) (rf_703_0 _) ?_
    refine ev_aload_n (pc := 88) 0 dX4_advance_88 rfl rfl ?_
    refine ev_getIc (pc := 89) fl4_34 rfl dX4_advance_89 rfl kd_703 (by omega) (by omega) 5 rfl ?_
    obtain ⟨c11, h⟩ := ck_some h
    refine ev_ildc (pc := 92) dX4_advance_92 kd_704 (by omega) (by omega) c11.1 c11.2 ?_
    refine ev_cS (pc := 93) [vI (M9 704 (M9 703 5))] [] rfl mkX4_isLetter ml4_132 msX4_isLetter dX4_advance_93 rfl (Nat.le_of_ble_eq_true rfl) (by omega) rfl (e_X4_isLetter (d := d - 1) (v := (f_X4_isLetter (M9 704 (M9 703 5)))) (by omega)  rfl) ?_
    refine ev_if_eq (pc := 96) (tgt := 157) dX4_advance_96 (by decide) (fun b12 => ?_) (fun b12 => ?_)
    · rw [if_pos b12] at h
      refine ev_aload_n (pc := 157) 0 dX4_advance_157 rfl rfl ?_
      refine ev_getR (pc := 158) fl4_9 rfl dX4_advance_158 rfl kd_703 (by omega) (rf_703_0 _) ?_
      refine ev_aload_n (pc := 161) 0 dX4_advance_161 rfl rfl ?_
      refine ev_getIc (pc := 162) fl4_34 rfl dX4_advance_162 rfl kd_703 (by omega) (by omega) 5 rfl ?_
      refine ev_ildc (pc := 165) dX4_advance_165 kd_704 (by omega) (by omega) c11.1 c11.2 ?_
      refine ev_cS (pc := 166) [vI (M9 704 (M9 703 5))] [] rfl mkX4_isDigit ml4_139 msX4_isDigit dX4_advance_166 rfl (Nat.le_of_ble_eq_true rfl) (by omega) rfl (e_X4_isDigit (d := d - 1) (v := (f_X4_isDigit (M9 704 (M9 703 5)))) (by omega)  rfl) ?_
      refine ev_if_eq (pc := 169) (tgt := 246) dX4_advance_169 (by decide) (fun b13 => ?_) (fun b13 => ?_)
      · rw [if_pos b13] at h
        refine ev_aload_n (pc := 246) 0 dX4_advance_246 rfl rfl ?_
        refine ev_aload_n (pc := 247) 0 dX4_advance_247 rfl rfl ?_
        refine ev_aload_n (pc := 248) 0 dX4_advance_248 rfl rfl ?_
        refine ev_getIc (pc := 249) fl4_34 rfl dX4_advance_249 rfl kd_703 (by omega) (by omega) 5 rfl ?_
        obtain ⟨q14, hq14, h⟩ := bd h
        refine ev_cV (pc := 252) [vI (M9 703 5)] [vR 703] rfl mkX4_signAt ml4_147 mnX4_signAt dX4_advance_252 kd_703 (by omega) rfl (Nat.le_of_ble_eq_true rfl) (by omega) rfl (e_X4_signAt (d := d - 1) (v := q14) (by omega)  hq14) ?_
        obtain ⟨M15, eM15, h⟩ := lt_some h
        refine ev_putIc (pc := 255) fl4_40 rfl dX4_advance_255 kd_703 (by omega) (by omega) eM15 ?_
        refine ev_aload_n (pc := 258) 0 dX4_advance_258 rfl rfl ?_
        refine ev_dup (pc := 259) rfl dX4_advance_259 ?_
        refine ev_getIc (pc := 260) fl4_34 rfl dX4_advance_260 rfl kd_703 (by omega) (by omega) 5 rfl ?_
        refine ev_aload_n (pc := 263) 0 dX4_advance_263 rfl rfl ?_
        refine ev_getIc (pc := 264) fl4_40 rfl dX4_advance_264 rfl kd_703 (by omega) (by omega) 6 rfl ?_
        refine ev_iconst (pc := 267) (x := 1) dX4_advance_267 ci_1 ?_
        refine ev_icmp_eq (pc := 268) (tgt := 279) dX4_advance_268 (by decide) (fun b16 => ?_) (fun b16 => ?_)
        · rw [if_pos b16] at h
          refine ev_iconst (pc := 279) (x := 2) dX4_advance_279 ci_2 ?_
          refine ev_goto (pc := 280) (tgt := 284) dX4_advance_280 (by decide) ?_
          refine ev_iadd (pc := 284) dX4_advance_284 ?_
          obtain ⟨M17, eM17, h⟩ := lt_some h
          refine ev_putIc (pc := 285) fl4_34 rfl dX4_advance_285 kd_703 (by omega) (by omega) eM17 ?_
          cases h
          exact ev_vret (pc := 288) dX4_advance_288 rfl
        · rw [if_neg b16] at h
          refine ev_aload_n (pc := 271) 0 dX4_advance_271 rfl rfl ?_
          refine ev_getIc (pc := 272) fl4_40 rfl dX4_advance_272 rfl kd_703 (by omega) (by omega) 6 rfl ?_
          refine ev_iconst (pc := 275) (x := 2) dX4_advance_275 ci_2 ?_
          refine ev_icmp_ne (pc := 276) (tgt := 283) dX4_advance_276 (by decide) (fun b18 => ?_) (fun b18 => ?_)
          · rw [if_pos b18] at h
            refine ev_iconst (pc := 283) (x := 1) dX4_advance_283 ci_1 ?_
            refine ev_iadd (pc := 284) dX4_advance_284 ?_
            obtain ⟨M19, eM19, h⟩ := lt_some h
            refine ev_putIc (pc := 285) fl4_34 rfl dX4_advance_285 kd_703 (by omega) (by omega) eM19 ?_
            cases h
            exact ev_vret (pc := 288) dX4_advance_288 rfl
          · rw [if_neg b18] at h
            refine ev_iconst (pc := 279) (x := 2) dX4_advance_279 ci_2 ?_
            refine ev_goto (pc := 280) (tgt := 284) dX4_advance_280 (by decide) ?_
            refine ev_iadd (pc := 284) dX4_advance_284 ?_
            obtain ⟨M20, eM20, h⟩ := lt_some h
            refine ev_putIc (pc := 285) fl4_34 rfl dX4_advance_285 kd_703 (by omega) (by omega) eM20 ?_
            cases h
            exact ev_vret (pc := 288) dX4_advance_288 rfl
      · rw [if_neg b13] at h
        refine ev_aload_n (pc := 172) 0 dX4_advance_172 rfl rfl ?_
        refine ev_iconst (pc := 173) (x := 3) dX4_advance_173 ci_3 ?_
        obtain ⟨M21, eM21, h⟩ := lt_some h
        refine ev_putIc (pc := 174) fl4_40 rfl dX4_advance_174 kd_703 (by omega) (by omega) eM21 ?_
        obtain ⟨q27, hq27, h⟩ := bd h
        refine ev_pick [0] rfl ?_
        refine e_X4_advance_L177 hd  n hq27 ?_
        cases h
        exact ev_vret (pc := 288) dX4_advance_288 rfl
    · rw [if_neg b12] at h
      obtain ⟨q32, hq32, h⟩ := bd h
      refine ev_pick [0] rfl ?_
      refine e_X4_advance_L99 hd  n hq32 ?_
      refine ev_pick [0] rfl ?_
      exact e_X4_advance_J138 hd  h
  · rw [if_neg b10] at h
    refine ev_aload_n (pc := 76) 0 dX4_advance_76 rfl rfl ?_
    refine ev_iconst (pc := 77) (x := 4) dX4_advance_77 ci_4 ?_
    obtain ⟨M35, eM35, h⟩ := lt_some h
    refine ev_putIc (pc := 78) fl4_40 rfl dX4_advance_78 kd_703 (by omega) (by omega) eM35 ?_
    refine ev_goto (pc := 81) (tgt := 288) dX4_advance_81 (by decide) ?_
    cases h
    exact ev_vret (pc := 288) dX4_advance_288 rfl
def f_X4_advance (n : Nat) (M : Mem) : Option (Mem) := (f_X4_advance_L0 n M).bind fun q7 => f_X4_advance_J52 n q7
set_option maxRecDepth 100000 in
set_option maxHeartbeats 4000000 in
theorem e_X4_advance {g : Gm} {d : Nat} {n : Nat} {M N : Mem} {M' : Mem} (hd : 7 ≤ d) (h : f_X4_advance n M = some M') : EvM g d mtX4_advance [vR 703] (sg (mx M N)) (0, 0) vN (sg (mx M' N)) := by
  unfold f_X4_advance at h
  refine EvM.of mkX4_advance.2.2.2.1 (Nat.le_of_ble_eq_true rfl) ?_
  change Ev g d mtX4_advance 0 [(0, vR 703)] [] (sg (mx M N)) (0, 0) vN (sg (mx M' N))
  obtain ⟨q7, hq7, h⟩ := bd h
  refine ev_pick [0] rfl ?_
  refine e_X4_advance_L0 hd  n hq7 ?_
  refine ev_pick [0] rfl ?_
  exact e_X4_advance_J52 hd  h
def f_X4_failBy (p0 : Int) (M : Mem) : Int × Mem := lt (upM M 703 2 p0) fun M1 => lt (upM M1 703 3 (M1 703 7)) fun M2 => (0, M2)
set_option maxRecDepth 100000 in
set_option maxHeartbeats 4000000 in
theorem e_X4_failBy {g : Gm} {d : Nat} {p0 : Int} {M N : Mem} {v : Int} {M' : Mem} (hd : 0 ≤ d) (h : f_X4_failBy p0 M = (v, M')) : EvM g d mtX4_failBy [vR 703, vI p0] (sg (mx M N)) (0, 0) (vI v) (sg (mx M' N)) := by
  unfold f_X4_failBy at h
  refine EvM.of mkX4_failBy.2.2.2.1 (Nat.le_of_ble_eq_true rfl) ?_
  change Ev g d mtX4_failBy 0 [(0, vR 703), (1, vI p0)] [] (sg (mx M N)) (0, 0) (vI v) (sg (mx M' N))
  refine ev_aload_n (pc := 0) 0 dX4_failBy_0 rfl rfl ?_
  refine ev_iload_n (pc := 1) 1 dX4_failBy_1 rfl rfl ?_
  obtain ⟨M1, eM1, h⟩ := lt_some h
  refine ev_putIc (pc := 2) fl4_15 rfl dX4_failBy_2 kd_703 (by omega) (by omega) eM1 ?_
  refine ev_aload_n (pc := 5) 0 dX4_failBy_5 rfl rfl ?_
  refine ev_aload_n (pc := 6) 0 dX4_failBy_6 rfl rfl ?_
  refine ev_getIc (pc := 7) fl4_47 rfl dX4_failBy_7 rfl kd_703 (by omega) (by omega) 7 rfl ?_
  obtain ⟨M2, eM2, h⟩ := lt_some h
  refine ev_putIc (pc := 10) fl4_19 rfl dX4_failBy_10 kd_703 (by omega) (by omega) eM2 ?_
  refine ev_iconst (pc := 13) (x := 0) dX4_failBy_13 ci_0 ?_
  cases h
  exact ev_zret (pc := 14) (Or.inl rfl) dX4_failBy_14 rfl
def f_X4_readNumbers_L16_J57 (n : Nat) (K : Int → Int → Mem → Option (Int × Mem)) (x1 x2 x3 : Int) (M : Mem) : Option (Int × Mem) := if (M 703 6) = 3 then (ck (0 ≤ x3 ∧ x3 < 15) (lt (f_X11_isBetween (stA [1, 0, 0, 0, 1, 0, 0, 1, 0, 1, 0, 0, 0, 0, 0] x3) (M 703 8) (stA [99, 99, 999, 999, 99, 8, 8, 60, 8, 999, 8, 99, 8, 6, 8] x3)) fun q9 => if q9 ≠ 0 then (ck (isTx (M 0 1)) (ck (0 ≤ x2 ∧ x2 < 96) (lt (upM M ((M 0 1) + 2) x2 (M 703 8)) fun M13 => (f_X4_advance n M13).bind fun q14 => K (wI (x2 + 1)) (wI (x3 + 1)) q14))) else (lt (f_X4_failBy 2 M) fun q15 => ck (q15.1 = 0 ∨ q15.1 = 1) (some (q15.1, q15.2))))) else (lt (f_X4_failBy 1 M) fun q17 => ck (q17.1 = 0 ∨ q17.1 = 1) (some (q17.1, q17.2)))
set_option maxRecDepth 100000 in
set_option maxHeartbeats 4000000 in
theorem e_X4_readNumbers_L16_J57 {g : Gm} {d : Nat} {n : Nat} {K : Int → Int → Mem → Option (Int × Mem)} {x1 x2 x3 : Int} {M N : Mem} {v : Int} {M' : Mem} (hd : 8 ≤ d) (hK : ∀ {x2 x3 : Int} {M : Mem}, K x2 x3 M = some (v, M') → Ev g d mtX4_readNumbers 16 [(0, vR 703), (1, vI x1), (2, vI x2), (3, vI x3)] [] (sg (mx M N)) (0, 0) (vI v) (sg (mx M' N))) (h : f_X4_readNumbers_L16_J57 n K x1 x2 x3 M = some (v, M')) : Ev g d mtX4_readNumbers 57 [(0, vR 703), (1, vI x1), (2, vI x2), (3, vI x3)] [] (sg (mx M N)) (0, 0) (vI v) (sg (mx M' N)) := by
  unfold f_X4_readNumbers_L16_J57 at h
  refine ev_aload_n (pc := 57) 0 dX4_readNumbers_57 rfl rfl ?_
  refine ev_getIc (pc := 58) fl4_40 rfl dX4_readNumbers_58 rfl kd_703 (by omega) (by omega) 6 rfl ?_
  refine ev_iconst (pc := 61) (x := 3) dX4_readNumbers_61 ci_3 ?_
  refine ev_icmp_eq (pc := 62) (tgt := 71) dX4_readNumbers_62 (by decide) (fun b7 => ?_) (fun b7 => ?_)
  · rw [if_pos b7] at h
    refine ev_gets (pc := 71) rfl sl4_92 dX4_readNumbers_71 ?_
    refine ev_iload_n (pc := 74) 3 dX4_readNumbers_74 rfl rfl ?_
    obtain ⟨c8, h⟩ := ck_some h
    refine ev_ialdS (pc := 75) (k := 2) (n := 15) (xs := [1, 0, 0, 0, 1, 0, 0, 1, 0, 1, 0, 0, 0, 0, 0]) rfl c8.1 c8.2 (v := stA [1, 0, 0, 0, 1, 0, 0, 1, 0, 1, 0, 0, 0, 0, 0] x3) rfl dX4_readNumbers_75 ?_
    refine ev_aload_n (pc := 76) 0 dX4_readNumbers_76 rfl rfl ?_
    refine ev_getIc (pc := 77) fl4_95 rfl dX4_readNumbers_77 rfl kd_703 (by omega) (by omega) 8 rfl ?_
    refine ev_gets (pc := 80) rfl sl4_98 dX4_readNumbers_80 ?_
    refine ev_iload_n (pc := 83) 3 dX4_readNumbers_83 rfl rfl ?_
    refine ev_ialdS (pc := 84) (k := 3) (n := 15) (xs := [99, 99, 999, 999, 99, 8, 8, 60, 8, 999, 8, 99, 8, 6, 8]) rfl c8.1 c8.2 (v := stA [99, 99, 999, 999, 99, 8, 8, 60, 8, 999, 8, 99, 8, 6, 8] x3) rfl dX4_readNumbers_84 ?_
    obtain ⟨q9, hq9, h⟩ := lt_some h
    refine ev_cS (pc := 85) [vI (stA [1, 0, 0, 0, 1, 0, 0, 1, 0, 1, 0, 0, 0, 0, 0] x3), vI (M 703 8), vI (stA [99, 99, 999, 999, 99, 8, 8, 60, 8, 999, 8, 99, 8, 6, 8] x3)] [] rfl mkX11_isBetween ml4_53 msX11_isBetween dX4_readNumbers_85 rfl (Nat.le_of_ble_eq_true rfl) (by omega) rfl (e_X11_isBetween (d := d - 1) (v := q9) (by omega)  hq9.symm) ?_
    refine ev_if_ne (pc := 88) (tgt := 97) dX4_readNumbers_88 (by decide) (fun b10 => ?_) (fun b10 => ?_)
    · rw [if_pos b10] at h
      refine ev_aload_n (pc := 97) 0 dX4_readNumbers_97 rfl rfl ?_
      obtain ⟨c11, h⟩ := ck_some h
      refine ev_getR (pc := 98) fl4_25 rfl dX4_readNumbers_98 rfl kd_703 (by omega) (rf_703_4 _ _) ?_
      refine ev_getR (pc := 101) fl4_101 rfl dX4_readNumbers_101 rfl (tx_k c11) (tx_nz c11) (tx_r2 _ c11) ?_
      refine ev_iload_n (pc := 104) 2 dX4_readNumbers_104 rfl rfl ?_
      refine ev_aload_n (pc := 105) 0 dX4_readNumbers_105 rfl rfl ?_
      refine ev_getIc (pc := 106) fl4_95 rfl dX4_readNumbers_106 rfl kd_703 (by omega) (by omega) 8 rfl ?_
      obtain ⟨c12, h⟩ := ck_some h
      obtain ⟨M13, eM13, h⟩ := lt_some h
      refine ev_istc (pc := 109) dX4_readNumbers_109 (tx_ak2 c11) (tx_anz2 c11) (tx_a92 c11) c12.1 c12.2 eM13 ?_
      refine ev_iinc (pc := 110) (il' := [(2, vI (wI (x2 + 1))), (0, vR 703), (1, vI x1), (3, vI x3)]) 2 dX4_readNumbers_110 rfl (Nat.le_of_ble_eq_true rfl) rfl rfl ?_
      refine ev_aload_n (pc := 113) 1 dX4_readNumbers_113 rfl rfl ?_
      obtain ⟨q14, hq14, h⟩ := bd h
      refine ev_cV0 (pc := 114) [] [] rfl mkX4_advance ml4_37 mnX4_advance dX4_readNumbers_114 kd_703 (by omega) rfl (Nat.le_of_ble_eq_true rfl) (by omega) (e_X4_advance (d := d - 1) (M' := q14) (by omega)  hq14) ?_
      refine ev_iinc (pc := 117) (il' := [(3, vI (wI (x3 + 1))), (2, vI (wI (x2 + 1))), (0, vR 703), (1, vI x1)]) 3 dX4_readNumbers_117 rfl (Nat.le_of_ble_eq_true rfl) rfl rfl ?_
      refine ev_goto (pc := 120) (tgt := 16) dX4_readNumbers_120 (by decide) ?_
      refine ev_pick [2, 3, 1, 0] rfl ?_
      exact hK h
    · rw [if_neg b10] at h
      refine ev_aload_n (pc := 91) 0 dX4_readNumbers_91 rfl rfl ?_
      refine ev_iconst (pc := 92) (x := 2) dX4_readNumbers_92 ci_2 ?_
      obtain ⟨q15, hq15, h⟩ := lt_some h
      refine ev_cV (pc := 93) [vI 2] [] rfl mkX4_failBy ml4_57 mnX4_failBy dX4_readNumbers_93 kd_703 (by omega) rfl (Nat.le_of_ble_eq_true rfl) (by omega) rfl (e_X4_failBy (d := d - 1) (v := q15.1) (M' := q15.2) (by omega)  hq15.symm) ?_
      obtain ⟨c16, h⟩ := ck_some h
      cases h
      exact ev_zret (pc := 96) c16 dX4_readNumbers_96 rfl
  · rw [if_neg b7] at h
    refine ev_aload_n (pc := 65) 0 dX4_readNumbers_65 rfl rfl ?_
    refine ev_iconst (pc := 66) (x := 1) dX4_readNumbers_66 ci_1 ?_
    obtain ⟨q17, hq17, h⟩ := lt_some h
    refine ev_cV (pc := 67) [vI 1] [] rfl mkX4_failBy ml4_57 mnX4_failBy dX4_readNumbers_67 kd_703 (by omega) rfl (Nat.le_of_ble_eq_true rfl) (by omega) rfl (e_X4_failBy (d := d - 1) (v := q17.1) (M' := q17.2) (by omega)  hq17.symm) ?_
    obtain ⟨c18, h⟩ := ck_some h
    cases h
    exact ev_zret (pc := 70) c18 dX4_readNumbers_70 rfl
def f_X4_readNumbers_L16 : Nat → Int → Int → Int → Mem → Option (Int × Mem)
  | 0, _, _, _, _ => none
  | n + 1, x1, x2, x3, M => ck (0 ≤ (wI (x1 + 1)) ∧ (wI (x1 + 1)) < 8) (if (stA [0, 4, 7, 8, 10, 12, 13, 15] (wI (x1 + 1))) ≤ x3 then (some (1, M)) else (ck (0 ≤ x3 ∧ x3 < 15) (if (stA [0, 140, 141, 142, 0, 143, 144, 0, 0, 145, 0, 144, 0, 0, 144] x3) = 0 then (f_X4_readNumbers_L16_J57 n (fun x2 x3 M => f_X4_readNumbers_L16 n x1 x2 x3 M) x1 x2 x3 M) else (if (M 703 6) = (stA [0, 140, 141, 142, 0, 143, 144, 0, 0, 145, 0, 144, 0, 0, 144] x3) then ((f_X4_advance n M).bind fun q20 => f_X4_readNumbers_L16_J57 n (fun x2 x3 M => f_X4_readNumbers_L16 n x1 x2 x3 M) x1 x2 x3 q20) else (lt (f_X4_failBy 1 M) fun q21 => ck (q21.1 = 0 ∨ q21.1 = 1) (some (q21.1, q21.2)))))))
set_option maxRecDepth 100000 in
set_option maxHeartbeats 4000000 in
theorem e_X4_readNumbers_L16 {g : Gm} {d : Nat} {x1 : Int} {N : Mem} (hd : 8 ≤ d) : ∀ (n : Nat) {x2 x3 : Int} {M : Mem} {v : Int} {M' : Mem}, f_X4_readNumbers_L16 n x1 x2 x3 M = some (v, M') → Ev g d mtX4_readNumbers 16 [(0, vR 703), (1, vI x1), (2, vI x2), (3, vI x3)] [] (sg (mx M N)) (0, 0) (vI v) (sg (mx M' N)) := by
  intro n
  induction n with
  | zero =>
    intro x2 x3 M v M' h
    rw [f_X4_readNumbers_L16.eq_1] at h
    cases h
  | succ n ih =>
    intro x2 x3 M v M' h
    rw [f_X4_readNumbers_L16.eq_2] at h
    refine ev_iload_n (pc := 16) 3 dX4_readNumbers_16 rfl rfl ?_
    refine ev_gets (pc := 17) rfl sl4_86 dX4_readNumbers_17 ?_
    refine ev_iload_n (pc := 20) 1 dX4_readNumbers_20 rfl rfl ?_
    refine ev_iconst (pc := 21) (x := 1) dX4_readNumbers_21 ci_1 ?_
    refine ev_iadd (pc := 22) dX4_readNumbers_22 ?_
    obtain ⟨c3, h⟩ := ck_some h
    refine ev_ialdS (pc := 23) (k := 0) (n := 8) (xs := [0, 4, 7, 8, 10, 12, 13, 15]) rfl c3.1 c3.2 (v := stA [0, 4, 7, 8, 10, 12, 13, 15] (wI (x1 + 1))) rfl dX4_readNumbers_23 ?_
    refine ev_icmp_ge (pc := 24) (tgt := 123) dX4_readNumbers_24 (by decide) (fun b4 => ?_) (fun b4 => ?_)
    · rw [if_pos b4] at h
      refine ev_iconst (pc := 123) (x := 1) dX4_readNumbers_123 ci_1 ?_
      cases h
      exact ev_zret (pc := 124) (Or.inr rfl) dX4_readNumbers_124 rfl
    · rw [if_neg b4] at h
      refine ev_gets (pc := 27) rfl sl4_89 dX4_readNumbers_27 ?_
      refine ev_iload_n (pc := 30) 3 dX4_readNumbers_30 rfl rfl ?_
      obtain ⟨c5, h⟩ := ck_some h
      refine ev_ialdS (pc := 31) (k := 1) (n := 15) (xs := [0, 140, 141, 142, 0, 143, 144, 0, 0, 145, 0, 144, 0, 0, 144]) rfl c5.1 c5.2 (v := stA [0, 140, 141, 142, 0, 143, 144, 0, 0, 145, 0, 144, 0, 0, 144] x3) rfl dX4_readNumbers_31 ?_
      refine ev_if_eq (pc := 32) (tgt := 57) dX4_readNumbers_32 (by decide) (fun b6 => ?_) (fun b6 => ?_)
      · rw [if_pos b6] at h
        refine ev_pick [0, 1, 2, 3] rfl ?_
        exact e_X4_readNumbers_L16_J57 hd  (fun h9 => ih h9) h
      · rw [if_neg b6] at h
        refine ev_aload_n (pc := 35) 0 dX4_readNumbers_35 rfl rfl ?_
        refine ev_getIc (pc := 36) fl4_40 rfl dX4_readNumbers_36 rfl kd_703 (by omega) (by omega) 6 rfl ?_
        refine ev_gets (pc := 39) rfl sl4_89 dX4_readNumbers_39 ?_
        refine ev_iload_n (pc := 42) 3 dX4_readNumbers_42 rfl rfl ?_
        refine ev_ialdS (pc := 43) (k := 1) (n := 15) (xs := [0, 140, 141, 142, 0, 143, 144, 0, 0, 145, 0, 144, 0, 0, 144]) rfl c5.1 c5.2 (v := stA [0, 140, 141, 142, 0, 143, 144, 0, 0, 145, 0, 144, 0, 0, 144] x3) rfl dX4_readNumbers_43 ?_
        refine ev_icmp_eq (pc := 44) (tgt := 53) dX4_readNumbers_44 (by decide) (fun b19 => ?_) (fun b19 => ?_)
        · rw [if_pos b19] at h
          refine ev_aload_n (pc := 53) 0 dX4_readNumbers_53 rfl rfl ?_
          obtain ⟨q20, hq20, h⟩ := bd h
          refine ev_cV0 (pc := 54) [] [] rfl mkX4_advance ml4_37 mnX4_advance dX4_readNumbers_54 kd_703 (by omega) rfl (Nat.le_of_ble_eq_true rfl) (by omega) (e_X4_advance (d := d - 1) (M' := q20) (by omega)  hq20) ?_
          refine ev_pick [0, 1, 2, 3] rfl ?_
          exact e_X4_readNumbers_L16_J57 hd  (fun h9 => ih h9) h
        · rw [if_neg b19] at h
          refine ev_aload_n (pc := 47) 0 dX4_readNumbers_47 rfl rfl ?_
          refine ev_iconst (pc := 48) (x := 1) dX4_readNumbers_48 ci_1 ?_
          obtain ⟨q21, hq21, h⟩ := lt_some h
          refine ev_cV (pc := 49) [vI 1] [] rfl mkX4_failBy ml4_57 mnX4_failBy dX4_readNumbers_49 kd_703 (by omega) rfl (Nat.le_of_ble_eq_true rfl) (by omega) rfl (e_X4_failBy (d := d - 1) (v := q21.1) (M' := q21.2) (by omega)  hq21.symm) ?_
          obtain ⟨c22, h⟩ := ck_some h
          cases h
          exact ev_zret (pc := 52) c22 dX4_readNumbers_52 rfl
def f_X4_readNumbers (n : Nat) (p0 : Int) (M : Mem) : Option (Int × Mem) := ck (isTx (M 0 1)) (ck (0 ≤ p0 ∧ p0 < 8) (f_X4_readNumbers_L16 n p0 (wI ((M (M 0 1) 0) * 4)) (stA [0, 4, 7, 8, 10, 12, 13, 15] p0) M))
set_option maxRecDepth 100000 in
set_option maxHeartbeats 4000000 in
theorem e_X4_readNumbers {g : Gm} {d : Nat} {n : Nat} {p0 : Int} {M N : Mem} {v : Int} {M' : Mem} (hd : 8 ≤ d) (h : f_X4_readNumbers n p0 M = some (v, M')) : EvM g d mtX4_readNumbers [vR 703, vI p0] (sg (mx M N)) (0, 0) (vI v) (sg (mx M' N)) := by
  unfold f_X4_readNumbers at h
  refine EvM.of mkX4_readNumbers.2.2.2.1 (Nat.le_of_ble_eq_true rfl) ?_
  change Ev g d mtX4_readNumbers 0 [(0, vR 703), (1, vI p0)] [] (sg (mx M N)) (0, 0) (vI v) (sg (mx M' N))
  refine ev_aload_n (pc := 0) 0 dX4_readNumbers_0 rfl rfl ?_
  obtain ⟨c1, h⟩ := ck_some h
  refine ev_getR (pc := 1) fl4_25 rfl dX4_readNumbers_1 rfl kd_703 (by omega) (rf_703_4 _ _) ?_
  refine ev_getIc (pc := 4) fl4_64 rfl dX4_readNumbers_4 rfl (tx_k c1) (tx_nz c1) (tx_n9 c1) 0 rfl ?_
  refine ev_iconst (pc := 7) (x := 4) dX4_readNumbers_7 ci_4 ?_
  refine ev_imul (pc := 8) dX4_readNumbers_8 ?_
  refine ev_istore_n (pc := 9) (il' := [(2, vI (wI ((M (M 0 1) 0) * 4))), (0, vR 703), (1, vI p0)]) dX4_readNumbers_9 rfl (Nat.le_of_ble_eq_true rfl) rfl ?_
  refine ev_gets (pc := 10) rfl sl4_86 dX4_readNumbers_10 ?_
  refine ev_iload_n (pc := 13) 2 dX4_readNumbers_13 rfl rfl ?_
  obtain ⟨c2, h⟩ := ck_some h
  refine ev_ialdS (pc := 14) (k := 0) (n := 8) (xs := [0, 4, 7, 8, 10, 12, 13, 15]) rfl c2.1 c2.2 (v := stA [0, 4, 7, 8, 10, 12, 13, 15] p0) rfl dX4_readNumbers_14 ?_
  refine ev_istore_n (pc := 15) (il' := [(3, vI (stA [0, 4, 7, 8, 10, 12, 13, 15] p0)), (2, vI (wI ((M (M 0 1) 0) * 4))), (0, vR 703), (1, vI p0)]) dX4_readNumbers_15 rfl (Nat.le_of_ble_eq_true rfl) rfl ?_
  refine ev_pick [2, 3, 1, 0] rfl ?_
  exact e_X4_readNumbers_L16 hd  n h
def f_X4_joinsAt (p0 : Int) (M : Mem) : Int := (if p0 = 0 then (if (M 703 6) ≠ 152 then 0 else 1) else (if p0 = 1 then (if (M 703 6) ≠ 153 then 0 else 1) else (if p0 = 3 then (if (M 703 6) = 43 then 1 else (if (M 703 6) ≠ 45 then 0 else 1)) else (if p0 = 4 then (if (M 703 6) = 42 then 1 else (if (M 703 6) ≠ 47 then 0 else 1)) else 0))))
set_option maxRecDepth 100000 in
set_option maxHeartbeats 4000000 in
theorem e_X4_joinsAt {g : Gm} {d : Nat} {p0 : Int} {M N : Mem} {v : Int} (hd : 0 ≤ d) (h : f_X4_joinsAt p0 M = v) : EvM g d mtX4_joinsAt [vR 703, vI p0] (sg (mx M N)) (0, 0) (vI v) (sg (mx M N)) := by
  unfold f_X4_joinsAt at h
  refine EvM.of mkX4_joinsAt.2.2.2.1 (Nat.le_of_ble_eq_true rfl) ?_
  change Ev g d mtX4_joinsAt 0 [(0, vR 703), (1, vI p0)] [] (sg (mx M N)) (0, 0) (vI v) (sg (mx M N))
  refine ev_iload_n (pc := 0) 1 dX4_joinsAt_0 rfl rfl ?_
  by_cases b1 : p0 = 0
  · rw [if_pos b1] at h
    refine ev_tswIn (pc := 1) (tgt := 36) dX4_joinsAt_1 (by omega) (by omega) (by rw [b1] <;> rfl) (by decide) ?_
    refine ev_aload_n (pc := 36) 0 dX4_joinsAt_36 rfl rfl ?_
    refine ev_getIc (pc := 37) fl4_40 rfl dX4_joinsAt_37 rfl kd_703 (by omega) (by omega) 6 rfl ?_
    refine ev_sipush (pc := 40) (x := 152) dX4_joinsAt_40 cs_152 ?_
    refine ev_icmp_ne (pc := 43) (tgt := 50) dX4_joinsAt_43 (by decide) (fun b2 => ?_) (fun b2 => ?_)
    · rw [if_pos b2] at h
      refine ev_iconst (pc := 50) (x := 0) dX4_joinsAt_50 ci_0 ?_
      cases h
      exact ev_zret (pc := 51) (Or.inl rfl) dX4_joinsAt_51 rfl
    · rw [if_neg b2] at h
      refine ev_iconst (pc := 46) (x := 1) dX4_joinsAt_46 ci_1 ?_
      refine ev_goto (pc := 47) (tgt := 51) dX4_joinsAt_47 (by decide) ?_
      cases h
      exact ev_zret (pc := 51) (Or.inr rfl) dX4_joinsAt_51 rfl
  · rw [if_neg b1] at h
    by_cases b3 : p0 = 1
    · rw [if_pos b3] at h
      refine ev_tswIn (pc := 1) (tgt := 52) dX4_joinsAt_1 (by omega) (by omega) (by rw [b3] <;> rfl) (by decide) ?_
      refine ev_aload_n (pc := 52) 0 dX4_joinsAt_52 rfl rfl ?_
      refine ev_getIc (pc := 53) fl4_40 rfl dX4_joinsAt_53 rfl kd_703 (by omega) (by omega) 6 rfl ?_
      refine ev_sipush (pc := 56) (x := 153) dX4_joinsAt_56 cs_153 ?_
      refine ev_icmp_ne (pc := 59) (tgt := 66) dX4_joinsAt_59 (by decide) (fun b4 => ?_) (fun b4 => ?_)
      · rw [if_pos b4] at h
        refine ev_iconst (pc := 66) (x := 0) dX4_joinsAt_66 ci_0 ?_
        cases h
        exact ev_zret (pc := 67) (Or.inl rfl) dX4_joinsAt_67 rfl
      · rw [if_neg b4] at h
        refine ev_iconst (pc := 62) (x := 1) dX4_joinsAt_62 ci_1 ?_
        refine ev_goto (pc := 63) (tgt := 67) dX4_joinsAt_63 (by decide) ?_
        cases h
        exact ev_zret (pc := 67) (Or.inr rfl) dX4_joinsAt_67 rfl
    · rw [if_neg b3] at h
      by_cases b5 : p0 = 3
      · rw [if_pos b5] at h
        refine ev_tswIn (pc := 1) (tgt := 68) dX4_joinsAt_1 (by omega) (by omega) (by rw [b5] <;> rfl) (by decide) ?_
        refine ev_aload_n (pc := 68) 0 dX4_joinsAt_68 rfl rfl ?_
        refine ev_getIc (pc := 69) fl4_40 rfl dX4_joinsAt_69 rfl kd_703 (by omega) (by omega) 6 rfl ?_
        refine ev_bipush (pc := 72) (x := 43) dX4_joinsAt_72 cb_43 ?_
        refine ev_icmp_eq (pc := 74) (tgt := 86) dX4_joinsAt_74 (by decide) (fun b6 => ?_) (fun b6 => ?_)
        · rw [if_pos b6] at h
          refine ev_iconst (pc := 86) (x := 1) dX4_joinsAt_86 ci_1 ?_
          refine ev_goto (pc := 87) (tgt := 91) dX4_joinsAt_87 (by decide) ?_
          cases h
          exact ev_zret (pc := 91) (Or.inr rfl) dX4_joinsAt_91 rfl
        · rw [if_neg b6] at h
          refine ev_aload_n (pc := 77) 0 dX4_joinsAt_77 rfl rfl ?_
          refine ev_getIc (pc := 78) fl4_40 rfl dX4_joinsAt_78 rfl kd_703 (by omega) (by omega) 6 rfl ?_
          refine ev_bipush (pc := 81) (x := 45) dX4_joinsAt_81 cb_45 ?_
          refine ev_icmp_ne (pc := 83) (tgt := 90) dX4_joinsAt_83 (by decide) (fun b7 => ?_) (fun b7 => ?_)
          · rw [if_pos b7] at h
            refine ev_iconst (pc := 90) (x := 0) dX4_joinsAt_90 ci_0 ?_
            cases h
            exact ev_zret (pc := 91) (Or.inl rfl) dX4_joinsAt_91 rfl
          · rw [if_neg b7] at h
            refine ev_iconst (pc := 86) (x := 1) dX4_joinsAt_86 ci_1 ?_
            refine ev_goto (pc := 87) (tgt := 91) dX4_joinsAt_87 (by decide) ?_
            cases h
            exact ev_zret (pc := 91) (Or.inr rfl) dX4_joinsAt_91 rfl
      · rw [if_neg b5] at h
        by_cases b8 : p0 = 4
        · rw [if_pos b8] at h
          refine ev_tswIn (pc := 1) (tgt := 92) dX4_joinsAt_1 (by omega) (by omega) (by rw [b8] <;> rfl) (by decide) ?_
          refine ev_aload_n (pc := 92) 0 dX4_joinsAt_92 rfl rfl ?_
          refine ev_getIc (pc := 93) fl4_40 rfl dX4_joinsAt_93 rfl kd_703 (by omega) (by omega) 6 rfl ?_
          refine ev_bipush (pc := 96) (x := 42) dX4_joinsAt_96 cb_42 ?_
          refine ev_icmp_eq (pc := 98) (tgt := 110) dX4_joinsAt_98 (by decide) (fun b9 => ?_) (fun b9 => ?_)
          · rw [if_pos b9] at h
            refine ev_iconst (pc := 110) (x := 1) dX4_joinsAt_110 ci_1 ?_
            refine ev_goto (pc := 111) (tgt := 115) dX4_joinsAt_111 (by decide) ?_
            cases h
            exact ev_zret (pc := 115) (Or.inr rfl) dX4_joinsAt_115 rfl
          · rw [if_neg b9] at h
            refine ev_aload_n (pc := 101) 0 dX4_joinsAt_101 rfl rfl ?_
            refine ev_getIc (pc := 102) fl4_40 rfl dX4_joinsAt_102 rfl kd_703 (by omega) (by omega) 6 rfl ?_
            refine ev_bipush (pc := 105) (x := 47) dX4_joinsAt_105 cb_47 ?_
            refine ev_icmp_ne (pc := 107) (tgt := 114) dX4_joinsAt_107 (by decide) (fun b10 => ?_) (fun b10 => ?_)
            · rw [if_pos b10] at h
              refine ev_iconst (pc := 114) (x := 0) dX4_joinsAt_114 ci_0 ?_
              cases h
              exact ev_zret (pc := 115) (Or.inl rfl) dX4_joinsAt_115 rfl
            · rw [if_neg b10] at h
              refine ev_iconst (pc := 110) (x := 1) dX4_joinsAt_110 ci_1 ?_
              refine ev_goto (pc := 111) (tgt := 115) dX4_joinsAt_111 (by decide) ?_
              cases h
              exact ev_zret (pc := 115) (Or.inr rfl) dX4_joinsAt_115 rfl
        · rw [if_neg b8] at h
          have hD : Ev g d mtX4_joinsAt 116 [(0, vR 703), (1, vI p0)] [] (sg (mx M N)) (0, 0) (vI v) (sg (mx M N)) := by
            refine ev_iconst (pc := 116) (x := 0) dX4_joinsAt_116 ci_0 ?_
            cases h
            exact ev_zret (pc := 117) (Or.inl rfl) dX4_joinsAt_117 rfl
          by_cases b11 : p0 = 2
          · exact ev_tswIn (pc := 1) (tgt := 116) dX4_joinsAt_1 (by omega) (by omega) (by rw [b11] <;> rfl) (by decide) hD
          exact ev_tswOut (pc := 1) (tgt := 116) dX4_joinsAt_1 (by omega) (by decide) hD
theorem z_X4_joinsAt (p0 : Int) (M : Mem) : f_X4_joinsAt p0 M = 0 ∨ f_X4_joinsAt p0 M = 1 := by
  unfold f_X4_joinsAt
  repeat' split
  all_goals first | exact Or.inl rfl | exact Or.inr rfl
def f_X6_addCode (k p0 p1 : Int) (M : Mem) : Option (Mem) := if 300 ≤ (M k 3) then (some M) else (ck (0 ≤ (M k 3) ∧ (M k 3) < 300) (lt (upM M (k + 3) (M k 3) p0) fun M3 => ck (0 ≤ (M3 k 3) ∧ (M3 k 3) < 300) (lt (upM M3 (k + 4) (M3 k 3) p1) fun M5 => lt (upM M5 k 3 (wI ((M5 k 3) + 1))) fun M6 => some M6)))
set_option maxRecDepth 100000 in
set_option maxHeartbeats 4000000 in
theorem e_X6_addCode {g : Gm} {d : Nat} {k p0 p1 : Int} {M N : Mem} {M' : Mem} (hd : 0 ≤ d) (hk : isTx k) (h : f_X6_addCode k p0 p1 M = some M') : EvM g d mtX6_addCode [vR k, vI p0, vI p1] (sg (mx M N)) (0, 0) vN (sg (mx M' N)) := by
  unfold f_X6_addCode at h
  refine EvM.of mkX6_addCode.2.2.2.1 (Nat.le_of_ble_eq_true rfl) ?_
  change Ev g d mtX6_addCode 0 [(0, vR k), (1, vI p0), (2, vI p1)] [] (sg (mx M N)) (0, 0) vN (sg (mx M' N))
  refine ev_aload_n (pc := 0) 0 dX6_addCode_0 rfl rfl ?_
  refine ev_getIc (pc := 1) fl6_34 rfl dX6_addCode_1 rfl (tx_k hk) (tx_nz hk) (tx_n9 hk) 3 rfl ?_
  refine ev_sipush (pc := 4) (x := 300) dX6_addCode_4 cs_300 ?_
  refine ev_icmp_ge (pc := 7) (tgt := 40) dX6_addCode_7 (by decide) (fun b1 => ?_) (fun b1 => ?_)
  · rw [if_pos b1] at h
    cases h
    exact ev_vret (pc := 40) dX6_addCode_40 rfl
  · rw [if_neg b1] at h
    refine ev_aload_n (pc := 10) 0 dX6_addCode_10 rfl rfl ?_
    refine ev_getR (pc := 11) fl6_18 rfl dX6_addCode_11 rfl (tx_k hk) (tx_nz hk) (tx_r4 _ hk) ?_
    refine ev_aload_n (pc := 14) 0 dX6_addCode_14 rfl rfl ?_
    refine ev_getIc (pc := 15) fl6_34 rfl dX6_addCode_15 rfl (tx_k hk) (tx_nz hk) (tx_n9 hk) 3 rfl ?_
    refine ev_iload_n (pc := 18) 1 dX6_addCode_18 rfl rfl ?_
    obtain ⟨c2, h⟩ := ck_some h
    obtain ⟨M3, eM3, h⟩ := lt_some h
    refine ev_istc (pc := 19) dX6_addCode_19 (tx_ak4 hk) (tx_anz4 hk) (tx_a94 hk) c2.1 c2.2 eM3 ?_
    refine ev_aload_n (pc := 20) 0 dX6_addCode_20 rfl rfl ?_
    refine ev_getR (pc := 21) fl6_21 rfl dX6_addCode_21 rfl (tx_k hk) (tx_nz hk) (tx_r5 _ hk) ?_
    refine ev_aload_n (pc := 24) 0 dX6_addCode_24 rfl rfl ?_
    refine ev_getIc (pc := 25) fl6_34 rfl dX6_addCode_25 rfl (tx_k hk) (tx_nz hk) (tx_n9 hk) 3 rfl ?_
    refine ev_iload_n (pc := 28) 2 dX6_addCode_28 rfl rfl ?_
    obtain ⟨c4, h⟩ := ck_some h
    obtain ⟨M5, eM5, h⟩ := lt_some h
    refine ev_istc (pc := 29) dX6_addCode_29 (tx_ak5 hk) (tx_anz5 hk) (tx_a95 hk) c4.1 c4.2 eM5 ?_
    refine ev_aload_n (pc := 30) 0 dX6_addCode_30 rfl rfl ?_
    refine ev_dup (pc := 31) rfl dX6_addCode_31 ?_
    refine ev_getIc (pc := 32) fl6_34 rfl dX6_addCode_32 rfl (tx_k hk) (tx_nz hk) (tx_n9 hk) 3 rfl ?_
    refine ev_iconst (pc := 35) (x := 1) dX6_addCode_35 ci_1 ?_
    refine ev_iadd (pc := 36) dX6_addCode_36 ?_
    obtain ⟨M6, eM6, h⟩ := lt_some h
    refine ev_putIc (pc := 37) fl6_34 rfl dX6_addCode_37 (tx_k hk) (tx_nz hk) (tx_n9 hk) eM6 ?_
    cases h
    exact ev_vret (pc := 40) dX6_addCode_40 rfl
def f_X4_isAskedBeside (M : Mem) : Int := if (M 703 6) = 135 then 0 else (if (M 703 6) = 133 then 0 else (if (M 703 6) = 148 then 0 else (if (M 703 6) = 149 then 0 else 1)))
set_option maxRecDepth 100000 in
set_option maxHeartbeats 4000000 in
theorem e_X4_isAskedBeside {g : Gm} {d : Nat} {M N : Mem} {v : Int} (hd : 0 ≤ d) (h : f_X4_isAskedBeside M = v) : EvM g d mtX4_isAskedBeside [vR 703] (sg (mx M N)) (0, 0) (vI v) (sg (mx M N)) := by
  unfold f_X4_isAskedBeside at h
  refine EvM.of mkX4_isAskedBeside.2.2.2.1 (Nat.le_of_ble_eq_true rfl) ?_
  change Ev g d mtX4_isAskedBeside 0 [(0, vR 703)] [] (sg (mx M N)) (0, 0) (vI v) (sg (mx M N))
  refine ev_aload_n (pc := 0) 0 dX4_isAskedBeside_0 rfl rfl ?_
  refine ev_getIc (pc := 1) fl4_40 rfl dX4_isAskedBeside_1 rfl kd_703 (by omega) (by omega) 6 rfl ?_
  refine ev_sipush (pc := 4) (x := 135) dX4_isAskedBeside_4 cs_135 ?_
  refine ev_icmp_eq (pc := 7) (tgt := 44) dX4_isAskedBeside_7 (by decide) (fun b1 => ?_) (fun b1 => ?_)
  · rw [if_pos b1] at h
    refine ev_iconst (pc := 44) (x := 0) dX4_isAskedBeside_44 ci_0 ?_
    cases h
    exact ev_zret (pc := 45) (Or.inl rfl) dX4_isAskedBeside_45 rfl
  · rw [if_neg b1] at h
    refine ev_aload_n (pc := 10) 0 dX4_isAskedBeside_10 rfl rfl ?_
    refine ev_getIc (pc := 11) fl4_40 rfl dX4_isAskedBeside_11 rfl kd_703 (by omega) (by omega) 6 rfl ?_
    refine ev_sipush (pc := 14) (x := 133) dX4_isAskedBeside_14 cs_133 ?_
    refine ev_icmp_eq (pc := 17) (tgt := 44) dX4_isAskedBeside_17 (by decide) (fun b2 => ?_) (fun b2 => ?_)
    · rw [if_pos b2] at h
      refine ev_iconst (pc := 44) (x := 0) dX4_isAskedBeside_44 ci_0 ?_
      cases h
      exact ev_zret (pc := 45) (Or.inl rfl) dX4_isAskedBeside_45 rfl
    · rw [if_neg b2] at h
      refine ev_aload_n (pc := 20) 0 dX4_isAskedBeside_20 rfl rfl ?_
      refine ev_getIc (pc := 21) fl4_40 rfl dX4_isAskedBeside_21 rfl kd_703 (by omega) (by omega) 6 rfl ?_
      refine ev_sipush (pc := 24) (x := 148) dX4_isAskedBeside_24 cs_148 ?_
      refine ev_icmp_eq (pc := 27) (tgt := 44) dX4_isAskedBeside_27 (by decide) (fun b3 => ?_) (fun b3 => ?_)
      · rw [if_pos b3] at h
        refine ev_iconst (pc := 44) (x := 0) dX4_isAskedBeside_44 ci_0 ?_
        cases h
        exact ev_zret (pc := 45) (Or.inl rfl) dX4_isAskedBeside_45 rfl
      · rw [if_neg b3] at h
        refine ev_aload_n (pc := 30) 0 dX4_isAskedBeside_30 rfl rfl ?_
        refine ev_getIc (pc := 31) fl4_40 rfl dX4_isAskedBeside_31 rfl kd_703 (by omega) (by omega) 6 rfl ?_
        refine ev_sipush (pc := 34) (x := 149) dX4_isAskedBeside_34 cs_149 ?_
        refine ev_icmp_eq (pc := 37) (tgt := 44) dX4_isAskedBeside_37 (by decide) (fun b4 => ?_) (fun b4 => ?_)
        · rw [if_pos b4] at h
          refine ev_iconst (pc := 44) (x := 0) dX4_isAskedBeside_44 ci_0 ?_
          cases h
          exact ev_zret (pc := 45) (Or.inl rfl) dX4_isAskedBeside_45 rfl
        · rw [if_neg b4] at h
          refine ev_iconst (pc := 40) (x := 1) dX4_isAskedBeside_40 ci_1 ?_
          refine ev_goto (pc := 41) (tgt := 45) dX4_isAskedBeside_41 (by decide) ?_
          cases h
          exact ev_zret (pc := 45) (Or.inr rfl) dX4_isAskedBeside_45 rfl
theorem z_X4_isAskedBeside (M : Mem) : f_X4_isAskedBeside M = 0 ∨ f_X4_isAskedBeside M = 1 := by
  unfold f_X4_isAskedBeside
  repeat' split
  all_goals first | exact Or.inl rfl | exact Or.inr rfl
def f_X4_isName (p0 : Int) : Int := if p0 = 135 then 1 else (if p0 = 133 then 1 else (if p0 = 140 then 1 else (if p0 = 141 then 1 else (if p0 = 142 then 1 else (if p0 = 146 then 1 else (if p0 = 147 then 1 else (if p0 = 148 then 1 else (if p0 ≠ 149 then 0 else 1))))))))
set_option maxRecDepth 100000 in
set_option maxHeartbeats 4000000 in
theorem e_X4_isName {g : Gm} {d : Nat} {p0 : Int} {M0 : Mem} {v : Int} (hd : 0 ≤ d) (h : f_X4_isName p0 = v) : EvM g d mtX4_isName [vI p0] (sg M0) (0, 0) (vI v) (sg M0) := by
  unfold f_X4_isName at h
  refine EvM.of mkX4_isName.2.2.2.1 (Nat.le_of_ble_eq_true rfl) ?_
  change Ev g d mtX4_isName 0 [(0, vI p0)] [] (sg M0) (0, 0) (vI v) (sg M0)
  refine ev_iload_n (pc := 0) 0 dX4_isName_0 rfl rfl ?_
  refine ev_sipush (pc := 1) (x := 135) dX4_isName_1 cs_135 ?_
  refine ev_icmp_eq (pc := 4) (tgt := 63) dX4_isName_4 (by decide) (fun b1 => ?_) (fun b1 => ?_)
  · rw [if_pos b1] at h
    refine ev_iconst (pc := 63) (x := 1) dX4_isName_63 ci_1 ?_
    refine ev_goto (pc := 64) (tgt := 68) dX4_isName_64 (by decide) ?_
    cases h
    exact ev_zret (pc := 68) (Or.inr rfl) dX4_isName_68 rfl
  · rw [if_neg b1] at h
    refine ev_iload_n (pc := 7) 0 dX4_isName_7 rfl rfl ?_
    refine ev_sipush (pc := 8) (x := 133) dX4_isName_8 cs_133 ?_
    refine ev_icmp_eq (pc := 11) (tgt := 63) dX4_isName_11 (by decide) (fun b2 => ?_) (fun b2 => ?_)
    · rw [if_pos b2] at h
      refine ev_iconst (pc := 63) (x := 1) dX4_isName_63 ci_1 ?_
      refine ev_goto (pc := 64) (tgt := 68) dX4_isName_64 (by decide) ?_
      cases h
      exact ev_zret (pc := 68) (Or.inr rfl) dX4_isName_68 rfl
    · rw [if_neg b2] at h
      refine ev_iload_n (pc := 14) 0 dX4_isName_14 rfl rfl ?_
      refine ev_sipush (pc := 15) (x := 140) dX4_isName_15 cs_140 ?_
      refine ev_icmp_eq (pc := 18) (tgt := 63) dX4_isName_18 (by decide) (fun b3 => ?_) (fun b3 => ?_)
      · rw [if_pos b3] at h
        refine ev_iconst (pc := 63) (x := 1) dX4_isName_63 ci_1 ?_
        refine ev_goto (pc := 64) (tgt := 68) dX4_isName_64 (by decide) ?_
        cases h
        exact ev_zret (pc := 68) (Or.inr rfl) dX4_isName_68 rfl
      · rw [if_neg b3] at h
        refine ev_iload_n (pc := 21) 0 dX4_isName_21 rfl rfl ?_
        refine ev_sipush (pc := 22) (x := 141) dX4_isName_22 cs_141 ?_
        refine ev_icmp_eq (pc := 25) (tgt := 63) dX4_isName_25 (by decide) (fun b4 => ?_) (fun b4 => ?_)
        · rw [if_pos b4] at h
          refine ev_iconst (pc := 63) (x := 1) dX4_isName_63 ci_1 ?_
          refine ev_goto (pc := 64) (tgt := 68) dX4_isName_64 (by decide) ?_
          cases h
          exact ev_zret (pc := 68) (Or.inr rfl) dX4_isName_68 rfl
        · rw [if_neg b4] at h
          refine ev_iload_n (pc := 28) 0 dX4_isName_28 rfl rfl ?_
          refine ev_sipush (pc := 29) (x := 142) dX4_isName_29 cs_142 ?_
          refine ev_icmp_eq (pc := 32) (tgt := 63) dX4_isName_32 (by decide) (fun b5 => ?_) (fun b5 => ?_)
          · rw [if_pos b5] at h
            refine ev_iconst (pc := 63) (x := 1) dX4_isName_63 ci_1 ?_
            refine ev_goto (pc := 64) (tgt := 68) dX4_isName_64 (by decide) ?_
            cases h
            exact ev_zret (pc := 68) (Or.inr rfl) dX4_isName_68 rfl
          · rw [if_neg b5] at h
            refine ev_iload_n (pc := 35) 0 dX4_isName_35 rfl rfl ?_
            refine ev_sipush (pc := 36) (x := 146) dX4_isName_36 cs_146 ?_
            refine ev_icmp_eq (pc := 39) (tgt := 63) dX4_isName_39 (by decide) (fun b6 => ?_) (fun b6 => ?_)
            · rw [if_pos b6] at h
              refine ev_iconst (pc := 63) (x := 1) dX4_isName_63 ci_1 ?_
              refine ev_goto (pc := 64) (tgt := 68) dX4_isName_64 (by decide) ?_
              cases h
              exact ev_zret (pc := 68) (Or.inr rfl) dX4_isName_68 rfl
            · rw [if_neg b6] at h
              refine ev_iload_n (pc := 42) 0 dX4_isName_42 rfl rfl ?_
              refine ev_sipush (pc := 43) (x := 147) dX4_isName_43 cs_147 ?_
              refine ev_icmp_eq (pc := 46) (tgt := 63) dX4_isName_46 (by decide) (fun b7 => ?_) (fun b7 => ?_)
              · rw [if_pos b7] at h
                refine ev_iconst (pc := 63) (x := 1) dX4_isName_63 ci_1 ?_
                refine ev_goto (pc := 64) (tgt := 68) dX4_isName_64 (by decide) ?_
                cases h
                exact ev_zret (pc := 68) (Or.inr rfl) dX4_isName_68 rfl
              · rw [if_neg b7] at h
                refine ev_iload_n (pc := 49) 0 dX4_isName_49 rfl rfl ?_
                refine ev_sipush (pc := 50) (x := 148) dX4_isName_50 cs_148 ?_
                refine ev_icmp_eq (pc := 53) (tgt := 63) dX4_isName_53 (by decide) (fun b8 => ?_) (fun b8 => ?_)
                · rw [if_pos b8] at h
                  refine ev_iconst (pc := 63) (x := 1) dX4_isName_63 ci_1 ?_
                  refine ev_goto (pc := 64) (tgt := 68) dX4_isName_64 (by decide) ?_
                  cases h
                  exact ev_zret (pc := 68) (Or.inr rfl) dX4_isName_68 rfl
                · rw [if_neg b8] at h
                  refine ev_iload_n (pc := 56) 0 dX4_isName_56 rfl rfl ?_
                  refine ev_sipush (pc := 57) (x := 149) dX4_isName_57 cs_149 ?_
                  refine ev_icmp_ne (pc := 60) (tgt := 67) dX4_isName_60 (by decide) (fun b9 => ?_) (fun b9 => ?_)
                  · rw [if_pos b9] at h
                    refine ev_iconst (pc := 67) (x := 0) dX4_isName_67 ci_0 ?_
                    cases h
                    exact ev_zret (pc := 68) (Or.inl rfl) dX4_isName_68 rfl
                  · rw [if_neg b9] at h
                    refine ev_iconst (pc := 63) (x := 1) dX4_isName_63 ci_1 ?_
                    refine ev_goto (pc := 64) (tgt := 68) dX4_isName_64 (by decide) ?_
                    cases h
                    exact ev_zret (pc := 68) (Or.inr rfl) dX4_isName_68 rfl
theorem z_X4_isName (p0 : Int) : f_X4_isName p0 = 0 ∨ f_X4_isName p0 = 1 := by
  unfold f_X4_isName
  repeat' split
  all_goals first | exact Or.inl rfl | exact Or.inr rfl
def f_X4_isNameOfLaw (M : Mem) : Int := if (M 703 6) ≠ 148 then (if (M 703 6) ≠ 149 then 1 else (if (M 703 9) ≠ 1 then 0 else 1)) else (if (M 703 9) = 3 then 0 else 1)
set_option maxRecDepth 100000 in
set_option maxHeartbeats 4000000 in
theorem e_X4_isNameOfLaw {g : Gm} {d : Nat} {M N : Mem} {v : Int} (hd : 0 ≤ d) (h : f_X4_isNameOfLaw M = v) : EvM g d mtX4_isNameOfLaw [vR 703] (sg (mx M N)) (0, 0) (vI v) (sg (mx M N)) := by
  unfold f_X4_isNameOfLaw at h
  refine EvM.of mkX4_isNameOfLaw.2.2.2.1 (Nat.le_of_ble_eq_true rfl) ?_
  change Ev g d mtX4_isNameOfLaw 0 [(0, vR 703)] [] (sg (mx M N)) (0, 0) (vI v) (sg (mx M N))
  refine ev_aload_n (pc := 0) 0 dX4_isNameOfLaw_0 rfl rfl ?_
  refine ev_getIc (pc := 1) fl4_40 rfl dX4_isNameOfLaw_1 rfl kd_703 (by omega) (by omega) 6 rfl ?_
  refine ev_sipush (pc := 4) (x := 148) dX4_isNameOfLaw_4 cs_148 ?_
  refine ev_icmp_ne (pc := 7) (tgt := 24) dX4_isNameOfLaw_7 (by decide) (fun b1 => ?_) (fun b1 => ?_)
  · rw [if_pos b1] at h
    refine ev_aload_n (pc := 24) 0 dX4_isNameOfLaw_24 rfl rfl ?_
    refine ev_getIc (pc := 25) fl4_40 rfl dX4_isNameOfLaw_25 rfl kd_703 (by omega) (by omega) 6 rfl ?_
    refine ev_sipush (pc := 28) (x := 149) dX4_isNameOfLaw_28 cs_149 ?_
    refine ev_icmp_ne (pc := 31) (tgt := 42) dX4_isNameOfLaw_31 (by decide) (fun b2 => ?_) (fun b2 => ?_)
    · rw [if_pos b2] at h
      refine ev_iconst (pc := 42) (x := 1) dX4_isNameOfLaw_42 ci_1 ?_
      refine ev_goto (pc := 43) (tgt := 47) dX4_isNameOfLaw_43 (by decide) ?_
      cases h
      exact ev_zret (pc := 47) (Or.inr rfl) dX4_isNameOfLaw_47 rfl
    · rw [if_neg b2] at h
      refine ev_aload_n (pc := 34) 0 dX4_isNameOfLaw_34 rfl rfl ?_
      refine ev_getIc (pc := 35) fl4_50 rfl dX4_isNameOfLaw_35 rfl kd_703 (by omega) (by omega) 9 rfl ?_
      refine ev_iconst (pc := 38) (x := 1) dX4_isNameOfLaw_38 ci_1 ?_
      refine ev_icmp_ne (pc := 39) (tgt := 46) dX4_isNameOfLaw_39 (by decide) (fun b3 => ?_) (fun b3 => ?_)
      · rw [if_pos b3] at h
        refine ev_iconst (pc := 46) (x := 0) dX4_isNameOfLaw_46 ci_0 ?_
        cases h
        exact ev_zret (pc := 47) (Or.inl rfl) dX4_isNameOfLaw_47 rfl
      · rw [if_neg b3] at h
        refine ev_iconst (pc := 42) (x := 1) dX4_isNameOfLaw_42 ci_1 ?_
        refine ev_goto (pc := 43) (tgt := 47) dX4_isNameOfLaw_43 (by decide) ?_
        cases h
        exact ev_zret (pc := 47) (Or.inr rfl) dX4_isNameOfLaw_47 rfl
  · rw [if_neg b1] at h
    refine ev_aload_n (pc := 10) 0 dX4_isNameOfLaw_10 rfl rfl ?_
    refine ev_getIc (pc := 11) fl4_50 rfl dX4_isNameOfLaw_11 rfl kd_703 (by omega) (by omega) 9 rfl ?_
    refine ev_iconst (pc := 14) (x := 3) dX4_isNameOfLaw_14 ci_3 ?_
    refine ev_icmp_eq (pc := 15) (tgt := 22) dX4_isNameOfLaw_15 (by decide) (fun b4 => ?_) (fun b4 => ?_)
    · rw [if_pos b4] at h
      refine ev_iconst (pc := 22) (x := 0) dX4_isNameOfLaw_22 ci_0 ?_
      cases h
      exact ev_zret (pc := 23) (Or.inl rfl) dX4_isNameOfLaw_23 rfl
    · rw [if_neg b4] at h
      refine ev_iconst (pc := 18) (x := 1) dX4_isNameOfLaw_18 ci_1 ?_
      refine ev_goto (pc := 19) (tgt := 23) dX4_isNameOfLaw_19 (by decide) ?_
      cases h
      exact ev_zret (pc := 23) (Or.inr rfl) dX4_isNameOfLaw_23 rfl
theorem z_X4_isNameOfLaw (M : Mem) : f_X4_isNameOfLaw M = 0 ∨ f_X4_isNameOfLaw M = 1 := by
  unfold f_X4_isNameOfLaw
  repeat' split
  all_goals first | exact Or.inl rfl | exact Or.inr rfl
def rdOK (g : Gm) (d : Nat) (R : Nat → Int → Int → Mem → Option (Int × Mem)) : Prop := (∀ {a b v : Int} {M M' N : Mem}, R 0 a b M = some (v, M') → EvM g d mtX4_readPart [vR 703, vI a, vI b] (sg (mx M N)) (0, 0) (vI v) (sg (mx M' N))) ∧ (∀ {a v : Int} {M M' N : Mem}, R 1 a 0 M = some (v, M') → EvM g d mtX4_readAsk [vR 703, vI a] (sg (mx M N)) (0, 0) (vI v) (sg (mx M' N))) ∧ (∀ {a v : Int} {M M' N : Mem}, R 2 a 0 M = some (v, M') → EvM g d mtX4_readOne [vR 703, vI a] (sg (mx M N)) (0, 0) (vI v) (sg (mx M' N))) ∧ (∀ {a v : Int} {M M' N : Mem}, R 3 a 0 M = some (v, M') → EvM g d mtX4_readMinus [vR 703, vI a] (sg (mx M N)) (0, 0) (vI v) (sg (mx M' N))) ∧ (∀ {a v : Int} {M M' N : Mem}, R 4 a 0 M = some (v, M') → EvM g d mtX4_readParted [vR 703, vI a] (sg (mx M N)) (0, 0) (vI v) (sg (mx M' N)))
def f_X4_readPart_L37 : Nat → (Nat → Int → Int → Mem → Option (Int × Mem)) → Int → Int → Int → Mem → Option (Int × Mem)
  | 0, _, _, _, _, _ => none
  | n + 1, R, x1, x2, x3, M => if 300 ≤ x3 then (some (1, M)) else (if (f_X4_joinsAt x1 M) = 0 then (some (1, M)) else ((f_X4_advance n M).bind fun q7 => (R 0 (wI (x1 + 1)) x2 q7).bind fun q8 => if q8.1 ≠ 0 then (ck (isTx (q8.2 0 1)) ((f_X6_addCode (q8.2 0 1) (M 703 6) 0 q8.2).bind fun q11 => f_X4_readPart_L37 n R x1 x2 (wI (x3 + 1)) q11)) else (some (0, q8.2))))
set_option maxRecDepth 100000 in
set_option maxHeartbeats 4000000 in
theorem e_X4_readPart_L37 {g : Gm} {d : Nat} {R : Nat → Int → Int → Mem → Option (Int × Mem)} {x1 x2 : Int} {N : Mem} (hd : 8 ≤ d) (hR : rdOK g (d - 1) R) : ∀ (n : Nat) {x3 : Int} {M : Mem} {v : Int} {M' : Mem}, f_X4_readPart_L37 n R x1 x2 x3 M = some (v, M') → Ev g d mtX4_readPart 37 [(0, vR 703), (1, vI x1), (2, vI x2), (3, vI x3)] [] (sg (mx M N)) (0, 0) (vI v) (sg (mx M' N)) := by
  intro n
  induction n with
  | zero =>
    intro x3 M v M' h
    rw [f_X4_readPart_L37.eq_1] at h
    cases h
  | succ n ih =>
    intro x3 M v M' h
    rw [f_X4_readPart_L37.eq_2] at h
    refine ev_iload_n (pc := 37) 3 dX4_readPart_37 rfl rfl ?_
    refine ev_sipush (pc := 38) (x := 300) dX4_readPart_38 cs_300 ?_
    refine ev_icmp_ge (pc := 41) (tgt := 91) dX4_readPart_41 (by decide) (fun b5 => ?_) (fun b5 => ?_)
    · rw [if_pos b5] at h
      refine ev_iconst (pc := 91) (x := 1) dX4_readPart_91 ci_1 ?_
      cases h
      exact ev_zret (pc := 92) (Or.inr rfl) dX4_readPart_92 rfl
    · rw [if_neg b5] at h
      refine ev_aload_n (pc := 44) 0 dX4_readPart_44 rfl rfl ?_
      refine ev_iload_n (pc := 45) 1 dX4_readPart_45 rfl rfl ?_
      refine ev_cV (pc := 46) [vI x1] [] rfl mkX4_joinsAt ml4_110 mnX4_joinsAt dX4_readPart_46 kd_703 (by omega) rfl (Nat.le_of_ble_eq_true rfl) (by omega) rfl (e_X4_joinsAt (d := d - 1) (v := (f_X4_joinsAt x1 M)) (by omega)  rfl) ?_
      refine ev_if_eq (pc := 49) (tgt := 91) dX4_readPart_49 (by decide) (fun b6 => ?_) (fun b6 => ?_)
      · rw [if_pos b6] at h
        refine ev_iconst (pc := 91) (x := 1) dX4_readPart_91 ci_1 ?_
        cases h
        exact ev_zret (pc := 92) (Or.inr rfl) dX4_readPart_92 rfl
      · rw [if_neg b6] at h
        refine ev_aload_n (pc := 52) 0 dX4_readPart_52 rfl rfl ?_
        refine ev_getIc (pc := 53) fl4_40 rfl dX4_readPart_53 rfl kd_703 (by omega) (by omega) 6 rfl ?_
        refine ev_istore (pc := 56) (il' := [(4, vI (M 703 6)), (0, vR 703), (1, vI x1), (2, vI x2), (3, vI x3)]) dX4_readPart_56 (Nat.le_of_ble_eq_true rfl) rfl ?_
        refine ev_aload_n (pc := 58) 1 dX4_readPart_58 rfl rfl ?_
        obtain ⟨q7, hq7, h⟩ := bd h
        refine ev_cV0 (pc := 59) [] [] rfl mkX4_advance ml4_37 mnX4_advance dX4_readPart_59 kd_703 (by omega) rfl (Nat.le_of_ble_eq_true rfl) (by omega) (e_X4_advance (d := d - 1) (M' := q7) (by omega)  hq7) ?_
        refine ev_aload_n (pc := 62) 1 dX4_readPart_62 rfl rfl ?_
        refine ev_iload_n (pc := 63) 2 dX4_readPart_63 rfl rfl ?_
        refine ev_iconst (pc := 64) (x := 1) dX4_readPart_64 ci_1 ?_
        refine ev_iadd (pc := 65) dX4_readPart_65 ?_
        refine ev_iload_n (pc := 66) 3 dX4_readPart_66 rfl rfl ?_
        obtain ⟨q8, hq8, h⟩ := bd h
        refine ev_cV (pc := 67) [vI (wI (x1 + 1)), vI x2] [] rfl mkX4_readPart ml4_79 mnX4_readPart dX4_readPart_67 kd_703 (by omega) rfl (Nat.le_of_ble_eq_true rfl) (by omega) rfl (hR.1 (v := q8.1) (M' := q8.2) hq8) ?_
        refine ev_if_ne (pc := 70) (tgt := 75) dX4_readPart_70 (by decide) (fun b9 => ?_) (fun b9 => ?_)
        · rw [if_pos b9] at h
          refine ev_aload_n (pc := 75) 1 dX4_readPart_75 rfl rfl ?_
          obtain ⟨c10, h⟩ := ck_some h
          refine ev_getR (pc := 76) fl4_25 rfl dX4_readPart_76 rfl kd_703 (by omega) (rf_703_4 _ _) ?_
          refine ev_iload (pc := 79) 0 dX4_readPart_79 rfl ?_
          refine ev_iconst (pc := 81) (x := 0) dX4_readPart_81 ci_0 ?_
          obtain ⟨q11, hq11, h⟩ := bd h
          refine ev_cV0 (pc := 82) [vI (M 703 6), vI 0] [] rfl mkX6_addCode ml4_113 mnX6_addCode dX4_readPart_82 (tx_k c10) (tx_nz c10) rfl (Nat.le_of_ble_eq_true rfl) (by omega) (e_X6_addCode (d := d - 1) (M' := q11) (by omega) c10 hq11) ?_
          refine ev_iinc (pc := 85) (il' := [(3, vI (wI (x3 + 1))), (4, vI (M 703 6)), (0, vR 703), (1, vI x1), (2, vI x2)]) 4 dX4_readPart_85 rfl (Nat.le_of_ble_eq_true rfl) rfl rfl ?_
          refine ev_goto (pc := 88) (tgt := 37) dX4_readPart_88 (by decide) ?_
          refine ev_pick [2, 3, 4, 0] rfl ?_
          exact ih h
        · rw [if_neg b9] at h
          refine ev_iconst (pc := 73) (x := 0) dX4_readPart_73 ci_0 ?_
          cases h
          exact ev_zret (pc := 74) (Or.inl rfl) dX4_readPart_74 rfl
def b_X4_readPart (n : Nat) (R : Nat → Int → Int → Mem → Option (Int × Mem)) (p0 p1 : Int) (M : Mem) : Option (Int × Mem) := if p0 ≠ 2 then (if p0 ≠ 5 then ((R 0 (wI (p0 + 1)) p1 M).bind fun q3 => if q3.1 ≠ 0 then (f_X4_readPart_L37 n R p0 p1 0 q3.2) else (some (0, q3.2))) else ((R 2 p1 0 M).bind fun q12 => ck (q12.1 = 0 ∨ q12.1 = 1) (some (q12.1, q12.2)))) else ((R 1 p1 0 M).bind fun q14 => ck (q14.1 = 0 ∨ q14.1 = 1) (some (q14.1, q14.2)))
set_option maxRecDepth 100000 in
set_option maxHeartbeats 4000000 in
theorem eb_X4_readPart {g : Gm} {d : Nat} {n : Nat} {R : Nat → Int → Int → Mem → Option (Int × Mem)} {p0 p1 : Int} {M N : Mem} {v : Int} {M' : Mem} (hd : 8 ≤ d) (hR : rdOK g (d - 1) R) (h : b_X4_readPart n R p0 p1 M = some (v, M')) : EvM g d mtX4_readPart [vR 703, vI p0, vI p1] (sg (mx M N)) (0, 0) (vI v) (sg (mx M' N)) := by
  unfold b_X4_readPart at h
  refine EvM.of mkX4_readPart.2.2.2.1 (Nat.le_of_ble_eq_true rfl) ?_
  change Ev g d mtX4_readPart 0 [(0, vR 703), (1, vI p0), (2, vI p1)] [] (sg (mx M N)) (0, 0) (vI v) (sg (mx M' N))
  refine ev_iload_n (pc := 0) 1 dX4_readPart_0 rfl rfl ?_
  refine ev_iconst (pc := 1) (x := 2) dX4_readPart_1 ci_2 ?_
  refine ev_icmp_ne (pc := 2) (tgt := 11) dX4_readPart_2 (by decide) (fun b1 => ?_) (fun b1 => ?_)
  · rw [if_pos b1] at h
    refine ev_iload_n (pc := 11) 1 dX4_readPart_11 rfl rfl ?_
    refine ev_iconst (pc := 12) (x := 5) dX4_readPart_12 ci_5 ?_
    refine ev_icmp_ne (pc := 13) (tgt := 22) dX4_readPart_13 (by decide) (fun b2 => ?_) (fun b2 => ?_)
    · rw [if_pos b2] at h
      refine ev_aload_n (pc := 22) 0 dX4_readPart_22 rfl rfl ?_
      refine ev_iload_n (pc := 23) 1 dX4_readPart_23 rfl rfl ?_
      refine ev_iconst (pc := 24) (x := 1) dX4_readPart_24 ci_1 ?_
      refine ev_iadd (pc := 25) dX4_readPart_25 ?_
      refine ev_iload_n (pc := 26) 2 dX4_readPart_26 rfl rfl ?_
      obtain ⟨q3, hq3, h⟩ := bd h
      refine ev_cV (pc := 27) [vI (wI (p0 + 1)), vI p1] [] rfl mkX4_readPart ml4_79 mnX4_readPart dX4_readPart_27 kd_703 (by omega) rfl (Nat.le_of_ble_eq_true rfl) (by omega) rfl (hR.1 (v := q3.1) (M' := q3.2) hq3) ?_
      refine ev_if_ne (pc := 30) (tgt := 35) dX4_readPart_30 (by decide) (fun b4 => ?_) (fun b4 => ?_)
      · rw [if_pos b4] at h
        refine ev_iconst (pc := 35) (x := 0) dX4_readPart_35 ci_0 ?_
        refine ev_istore_n (pc := 36) (il' := [(3, vI 0), (0, vR 703), (1, vI p0), (2, vI p1)]) dX4_readPart_36 rfl (Nat.le_of_ble_eq_true rfl) rfl ?_
        refine ev_pick [1, 2, 3, 0] rfl ?_
        exact e_X4_readPart_L37 hd hR n h
      · rw [if_neg b4] at h
        refine ev_iconst (pc := 33) (x := 0) dX4_readPart_33 ci_0 ?_
        cases h
        exact ev_zret (pc := 34) (Or.inl rfl) dX4_readPart_34 rfl
    · rw [if_neg b2] at h
      refine ev_aload_n (pc := 16) 0 dX4_readPart_16 rfl rfl ?_
      refine ev_iload_n (pc := 17) 2 dX4_readPart_17 rfl rfl ?_
      obtain ⟨q12, hq12, h⟩ := bd h
      refine ev_cV (pc := 18) [vI p1] [] rfl mkX4_readOne ml4_107 mnX4_readOne dX4_readPart_18 kd_703 (by omega) rfl (Nat.le_of_ble_eq_true rfl) (by omega) rfl (hR.2.2.1 (v := q12.1) (M' := q12.2) hq12) ?_
      obtain ⟨c13, h⟩ := ck_some h
      cases h
      exact ev_zret (pc := 21) c13 dX4_readPart_21 rfl
  · rw [if_neg b1] at h
    refine ev_aload_n (pc := 5) 0 dX4_readPart_5 rfl rfl ?_
    refine ev_iload_n (pc := 6) 2 dX4_readPart_6 rfl rfl ?_
    obtain ⟨q14, hq14, h⟩ := bd h
    refine ev_cV (pc := 7) [vI p1] [] rfl mkX4_readAsk ml4_104 mnX4_readAsk dX4_readPart_7 kd_703 (by omega) rfl (Nat.le_of_ble_eq_true rfl) (by omega) rfl (hR.2.1 (v := q14.1) (M' := q14.2) hq14) ?_
    obtain ⟨c15, h⟩ := ck_some h
    cases h
    exact ev_zret (pc := 10) c15 dX4_readPart_10 rfl
def f_X4_readAsk_J107 (n : Nat) (R : Nat → Int → Int → Mem → Option (Int × Mem)) (x1 x2 : Int) (M : Mem) : Option (Int × Mem) := (f_X4_advance n M).bind fun q5 => (R 0 3 x1 q5).bind fun q6 => if q6.1 ≠ 0 then (ck (isTx (q6.2 0 1)) ((f_X6_addCode (q6.2 0 1) x2 0 q6.2).bind fun q9 => some (1, q9))) else (some (0, q6.2))
set_option maxRecDepth 100000 in
set_option maxHeartbeats 4000000 in
theorem e_X4_readAsk_J107 {g : Gm} {d : Nat} {n : Nat} {R : Nat → Int → Int → Mem → Option (Int × Mem)} {x1 x2 : Int} {M N : Mem} {v : Int} {M' : Mem} (hd : 8 ≤ d) (hR : rdOK g (d - 1) R) (h : f_X4_readAsk_J107 n R x1 x2 M = some (v, M')) : Ev g d mtX4_readAsk 107 [(0, vR 703), (1, vI x1), (2, vI x2)] [] (sg (mx M N)) (0, 0) (vI v) (sg (mx M' N)) := by
  unfold f_X4_readAsk_J107 at h
  refine ev_aload_n (pc := 107) 0 dX4_readAsk_107 rfl rfl ?_
  obtain ⟨q5, hq5, h⟩ := bd h
  refine ev_cV0 (pc := 108) [] [] rfl mkX4_advance ml4_37 mnX4_advance dX4_readAsk_108 kd_703 (by omega) rfl (Nat.le_of_ble_eq_true rfl) (by omega) (e_X4_advance (d := d - 1) (M' := q5) (by omega)  hq5) ?_
  refine ev_aload_n (pc := 111) 0 dX4_readAsk_111 rfl rfl ?_
  refine ev_iconst (pc := 112) (x := 3) dX4_readAsk_112 ci_3 ?_
  refine ev_iload_n (pc := 113) 1 dX4_readAsk_113 rfl rfl ?_
  obtain ⟨q6, hq6, h⟩ := bd h
  refine ev_cV (pc := 114) [vI 3, vI x1] [] rfl mkX4_readPart ml4_79 mnX4_readPart dX4_readAsk_114 kd_703 (by omega) rfl (Nat.le_of_ble_eq_true rfl) (by omega) rfl (hR.1 (v := q6.1) (M' := q6.2) hq6) ?_
  refine ev_if_ne (pc := 117) (tgt := 122) dX4_readAsk_117 (by decide) (fun b7 => ?_) (fun b7 => ?_)
  · rw [if_pos b7] at h
    refine ev_aload_n (pc := 122) 0 dX4_readAsk_122 rfl rfl ?_
    obtain ⟨c8, h⟩ := ck_some h
    refine ev_getR (pc := 123) fl4_25 rfl dX4_readAsk_123 rfl kd_703 (by omega) (rf_703_4 _ _) ?_
    refine ev_iload_n (pc := 126) 2 dX4_readAsk_126 rfl rfl ?_
    refine ev_iconst (pc := 127) (x := 0) dX4_readAsk_127 ci_0 ?_
    obtain ⟨q9, hq9, h⟩ := bd h
    refine ev_cV0 (pc := 128) [vI x2, vI 0] [] rfl mkX6_addCode ml4_113 mnX6_addCode dX4_readAsk_128 (tx_k c8) (tx_nz c8) rfl (Nat.le_of_ble_eq_true rfl) (by omega) (e_X6_addCode (d := d - 1) (M' := q9) (by omega) c8 hq9) ?_
    refine ev_iconst (pc := 131) (x := 1) dX4_readAsk_131 ci_1 ?_
    cases h
    exact ev_zret (pc := 132) (Or.inr rfl) dX4_readAsk_132 rfl
  · rw [if_neg b7] at h
    refine ev_iconst (pc := 120) (x := 0) dX4_readAsk_120 ci_0 ?_
    cases h
    exact ev_zret (pc := 121) (Or.inl rfl) dX4_readAsk_121 rfl
def b_X4_readAsk (n : Nat) (R : Nat → Int → Int → Mem → Option (Int × Mem)) (p0 : Int) (M : Mem) : Option (Int × Mem) := if (M 703 6) ≠ 154 then ((R 0 3 p0 M).bind fun q2 => if q2.1 ≠ 0 then (if (q2.2 703 6) = 60 then (f_X4_readAsk_J107 n R p0 (q2.2 703 6) q2.2) else (if (q2.2 703 6) = 62 then (f_X4_readAsk_J107 n R p0 (q2.2 703 6) q2.2) else (if (q2.2 703 6) = 61 then (f_X4_readAsk_J107 n R p0 (q2.2 703 6) q2.2) else (if (q2.2 703 6) = 35 then (f_X4_readAsk_J107 n R p0 (q2.2 703 6) q2.2) else (if (q2.2 703 6) = 1 then (f_X4_readAsk_J107 n R p0 (q2.2 703 6) q2.2) else (if (q2.2 703 6) = 2 then (f_X4_readAsk_J107 n R p0 (q2.2 703 6) q2.2) else (lt (f_X4_failBy 1 q2.2) fun q15 => ck (q15.1 = 0 ∨ q15.1 = 1) (some (q15.1, q15.2))))))))) else (some (0, q2.2))) else (if p0 < 8 then ((f_X4_advance n M).bind fun q18 => (R 1 (wI (p0 + 1)) 0 q18).bind fun q19 => if q19.1 ≠ 0 then (ck (isTx (q19.2 0 1)) ((f_X6_addCode (q19.2 0 1) 154 0 q19.2).bind fun q22 => some (1, q22))) else (some (0, q19.2))) else (lt (f_X4_failBy 3 M) fun q23 => ck (q23.1 = 0 ∨ q23.1 = 1) (some (q23.1, q23.2))))
set_option maxRecDepth 100000 in
set_option maxHeartbeats 4000000 in
theorem eb_X4_readAsk {g : Gm} {d : Nat} {n : Nat} {R : Nat → Int → Int → Mem → Option (Int × Mem)} {p0 : Int} {M N : Mem} {v : Int} {M' : Mem} (hd : 8 ≤ d) (hR : rdOK g (d - 1) R) (h : b_X4_readAsk n R p0 M = some (v, M')) : EvM g d mtX4_readAsk [vR 703, vI p0] (sg (mx M N)) (0, 0) (vI v) (sg (mx M' N)) := by
  unfold b_X4_readAsk at h
  refine EvM.of mkX4_readAsk.2.2.2.1 (Nat.le_of_ble_eq_true rfl) ?_
  change Ev g d mtX4_readAsk 0 [(0, vR 703), (1, vI p0)] [] (sg (mx M N)) (0, 0) (vI v) (sg (mx M' N))
  refine ev_aload_n (pc := 0) 0 dX4_readAsk_0 rfl rfl ?_
  refine ev_getIc (pc := 1) fl4_40 rfl dX4_readAsk_1 rfl kd_703 (by omega) (by omega) 6 rfl ?_
  refine ev_sipush (pc := 4) (x := 154) dX4_readAsk_4 cs_154 ?_
  refine ev_icmp_ne (pc := 7) (tgt := 51) dX4_readAsk_7 (by decide) (fun b1 => ?_) (fun b1 => ?_)
  · rw [if_pos b1] at h
    refine ev_aload_n (pc := 51) 0 dX4_readAsk_51 rfl rfl ?_
    refine ev_iconst (pc := 52) (x := 3) dX4_readAsk_52 ci_3 ?_
    refine ev_iload_n (pc := 53) 1 dX4_readAsk_53 rfl rfl ?_
    obtain ⟨q2, hq2, h⟩ := bd h
    refine ev_cV (pc := 54) [vI 3, vI p0] [] rfl mkX4_readPart ml4_79 mnX4_readPart dX4_readAsk_54 kd_703 (by omega) rfl (Nat.le_of_ble_eq_true rfl) (by omega) rfl (hR.1 (v := q2.1) (M' := q2.2) hq2) ?_
    refine ev_if_ne (pc := 57) (tgt := 62) dX4_readAsk_57 (by decide) (fun b3 => ?_) (fun b3 => ?_)
    · rw [if_pos b3] at h
      refine ev_aload_n (pc := 62) 0 dX4_readAsk_62 rfl rfl ?_
      refine ev_getIc (pc := 63) fl4_40 rfl dX4_readAsk_63 rfl kd_703 (by omega) (by omega) 6 rfl ?_
      refine ev_istore_n (pc := 66) (il' := [(2, vI (q2.2 703 6)), (0, vR 703), (1, vI p0)]) dX4_readAsk_66 rfl (Nat.le_of_ble_eq_true rfl) rfl ?_
      refine ev_iload_n (pc := 67) 0 dX4_readAsk_67 rfl rfl ?_
      refine ev_bipush (pc := 68) (x := 60) dX4_readAsk_68 cb_60 ?_
      refine ev_icmp_eq (pc := 70) (tgt := 107) dX4_readAsk_70 (by decide) (fun b4 => ?_) (fun b4 => ?_)
      · rw [if_pos b4] at h
        refine ev_pick [1, 2, 0] rfl ?_
        exact e_X4_readAsk_J107 hd hR h
      · rw [if_neg b4] at h
        refine ev_iload_n (pc := 73) 0 dX4_readAsk_73 rfl rfl ?_
        refine ev_bipush (pc := 74) (x := 62) dX4_readAsk_74 cb_62 ?_
        refine ev_icmp_eq (pc := 76) (tgt := 107) dX4_readAsk_76 (by decide) (fun b10 => ?_) (fun b10 => ?_)
        · rw [if_pos b10] at h
          refine ev_pick [1, 2, 0] rfl ?_
          exact e_X4_readAsk_J107 hd hR h
        · rw [if_neg b10] at h
          refine ev_iload_n (pc := 79) 0 dX4_readAsk_79 rfl rfl ?_
          refine ev_bipush (pc := 80) (x := 61) dX4_readAsk_80 cb_61 ?_
          refine ev_icmp_eq (pc := 82) (tgt := 107) dX4_readAsk_82 (by decide) (fun b11 => ?_) (fun b11 => ?_)
          · rw [if_pos b11] at h
            refine ev_pick [1, 2, 0] rfl ?_
            exact e_X4_readAsk_J107 hd hR h
          · rw [if_neg b11] at h
            refine ev_iload_n (pc := 85) 0 dX4_readAsk_85 rfl rfl ?_
            refine ev_bipush (pc := 86) (x := 35) dX4_readAsk_86 cb_35 ?_
            refine ev_icmp_eq (pc := 88) (tgt := 107) dX4_readAsk_88 (by decide) (fun b12 => ?_) (fun b12 => ?_)
            · rw [if_pos b12] at h
              refine ev_pick [1, 2, 0] rfl ?_
              exact e_X4_readAsk_J107 hd hR h
            · rw [if_neg b12] at h
              refine ev_iload_n (pc := 91) 0 dX4_readAsk_91 rfl rfl ?_
              refine ev_iconst (pc := 92) (x := 1) dX4_readAsk_92 ci_1 ?_
              refine ev_icmp_eq (pc := 93) (tgt := 107) dX4_readAsk_93 (by decide) (fun b13 => ?_) (fun b13 => ?_)
              · rw [if_pos b13] at h
                refine ev_pick [1, 2, 0] rfl ?_
                exact e_X4_readAsk_J107 hd hR h
              · rw [if_neg b13] at h
                refine ev_iload_n (pc := 96) 0 dX4_readAsk_96 rfl rfl ?_
                refine ev_iconst (pc := 97) (x := 2) dX4_readAsk_97 ci_2 ?_
                refine ev_icmp_eq (pc := 98) (tgt := 107) dX4_readAsk_98 (by decide) (fun b14 => ?_) (fun b14 => ?_)
                · rw [if_pos b14] at h
                  refine ev_pick [1, 2, 0] rfl ?_
                  exact e_X4_readAsk_J107 hd hR h
                · rw [if_neg b14] at h
                  refine ev_aload_n (pc := 101) 1 dX4_readAsk_101 rfl rfl ?_
                  refine ev_iconst (pc := 102) (x := 1) dX4_readAsk_102 ci_1 ?_
                  obtain ⟨q15, hq15, h⟩ := lt_some h
                  refine ev_cV (pc := 103) [vI 1] [] rfl mkX4_failBy ml4_57 mnX4_failBy dX4_readAsk_103 kd_703 (by omega) rfl (Nat.le_of_ble_eq_true rfl) (by omega) rfl (e_X4_failBy (d := d - 1) (v := q15.1) (M' := q15.2) (by omega)  hq15.symm) ?_
                  obtain ⟨c16, h⟩ := ck_some h
                  cases h
                  exact ev_zret (pc := 106) c16 dX4_readAsk_106 rfl
    · rw [if_neg b3] at h
      refine ev_iconst (pc := 60) (x := 0) dX4_readAsk_60 ci_0 ?_
      cases h
      exact ev_zret (pc := 61) (Or.inl rfl) dX4_readAsk_61 rfl
  · rw [if_neg b1] at h
    refine ev_iload_n (pc := 10) 1 dX4_readAsk_10 rfl rfl ?_
    refine ev_bipush (pc := 11) (x := 8) dX4_readAsk_11 cb_8 ?_
    refine ev_icmp_lt (pc := 13) (tgt := 22) dX4_readAsk_13 (by decide) (fun b17 => ?_) (fun b17 => ?_)
    · rw [if_pos b17] at h
      refine ev_aload_n (pc := 22) 0 dX4_readAsk_22 rfl rfl ?_
      obtain ⟨q18, hq18, h⟩ := bd h
      refine ev_cV0 (pc := 23) [] [] rfl mkX4_advance ml4_37 mnX4_advance dX4_readAsk_23 kd_703 (by omega) rfl (Nat.le_of_ble_eq_true rfl) (by omega) (e_X4_advance (d := d - 1) (M' := q18) (by omega)  hq18) ?_
      refine ev_aload_n (pc := 26) 0 dX4_readAsk_26 rfl rfl ?_
      refine ev_iload_n (pc := 27) 1 dX4_readAsk_27 rfl rfl ?_
      refine ev_iconst (pc := 28) (x := 1) dX4_readAsk_28 ci_1 ?_
      refine ev_iadd (pc := 29) dX4_readAsk_29 ?_
      obtain ⟨q19, hq19, h⟩ := bd h
      refine ev_cV (pc := 30) [vI (wI (p0 + 1))] [] rfl mkX4_readAsk ml4_104 mnX4_readAsk dX4_readAsk_30 kd_703 (by omega) rfl (Nat.le_of_ble_eq_true rfl) (by omega) rfl (hR.2.1 (v := q19.1) (M' := q19.2) hq19) ?_
      refine ev_if_ne (pc := 33) (tgt := 38) dX4_readAsk_33 (by decide) (fun b20 => ?_) (fun b20 => ?_)
      · rw [if_pos b20] at h
        refine ev_aload_n (pc := 38) 0 dX4_readAsk_38 rfl rfl ?_
        obtain ⟨c21, h⟩ := ck_some h
        refine ev_getR (pc := 39) fl4_25 rfl dX4_readAsk_39 rfl kd_703 (by omega) (rf_703_4 _ _) ?_
        refine ev_sipush (pc := 42) (x := 154) dX4_readAsk_42 cs_154 ?_
        refine ev_iconst (pc := 45) (x := 0) dX4_readAsk_45 ci_0 ?_
        obtain ⟨q22, hq22, h⟩ := bd h
        refine ev_cV0 (pc := 46) [vI 154, vI 0] [] rfl mkX6_addCode ml4_113 mnX6_addCode dX4_readAsk_46 (tx_k c21) (tx_nz c21) rfl (Nat.le_of_ble_eq_true rfl) (by omega) (e_X6_addCode (d := d - 1) (M' := q22) (by omega) c21 hq22) ?_
        refine ev_iconst (pc := 49) (x := 1) dX4_readAsk_49 ci_1 ?_
        cases h
        exact ev_zret (pc := 50) (Or.inr rfl) dX4_readAsk_50 rfl
      · rw [if_neg b20] at h
        refine ev_iconst (pc := 36) (x := 0) dX4_readAsk_36 ci_0 ?_
        cases h
        exact ev_zret (pc := 37) (Or.inl rfl) dX4_readAsk_37 rfl
    · rw [if_neg b17] at h
      refine ev_aload_n (pc := 16) 0 dX4_readAsk_16 rfl rfl ?_
      refine ev_iconst (pc := 17) (x := 3) dX4_readAsk_17 ci_3 ?_
      obtain ⟨q23, hq23, h⟩ := lt_some h
      refine ev_cV (pc := 18) [vI 3] [] rfl mkX4_failBy ml4_57 mnX4_failBy dX4_readAsk_18 kd_703 (by omega) rfl (Nat.le_of_ble_eq_true rfl) (by omega) rfl (e_X4_failBy (d := d - 1) (v := q23.1) (M' := q23.2) (by omega)  hq23.symm) ?_
      obtain ⟨c24, h⟩ := ck_some h
      cases h
      exact ev_zret (pc := 21) c24 dX4_readAsk_21 rfl
def f_X4_readOne_J56 (n : Nat) (R : Nat → Int → Int → Mem → Option (Int × Mem)) (x2 : Int) (M : Mem) : Option (Int × Mem) := ck (isTx (M 0 1)) ((f_X6_addCode (M 0 1) x2 (M 703 8) M).bind fun q5 => (f_X4_advance n q5).bind fun q6 => some (1, q6))
set_option maxRecDepth 100000 in
set_option maxHeartbeats 4000000 in
theorem e_X4_readOne_J56 {g : Gm} {d : Nat} {n : Nat} {R : Nat → Int → Int → Mem → Option (Int × Mem)} {x2 : Int} {M N : Mem} {v : Int} {M' : Mem} (hd : 8 ≤ d) (hR : rdOK g (d - 1) R) (h : f_X4_readOne_J56 n R x2 M = some (v, M')) : Ev g d mtX4_readOne 56 [(0, vR 703), (2, vI x2)] [] (sg (mx M N)) (0, 0) (vI v) (sg (mx M' N)) := by
  unfold f_X4_readOne_J56 at h
  refine ev_aload_n (pc := 56) 0 dX4_readOne_56 rfl rfl ?_
  obtain ⟨c4, h⟩ := ck_some h
  refine ev_getR (pc := 57) fl4_25 rfl dX4_readOne_57 rfl kd_703 (by omega) (rf_703_4 _ _) ?_
  refine ev_iload_n (pc := 60) 1 dX4_readOne_60 rfl rfl ?_
  refine ev_aload_n (pc := 61) 0 dX4_readOne_61 rfl rfl ?_
  refine ev_getIc (pc := 62) fl4_95 rfl dX4_readOne_62 rfl kd_703 (by omega) (by omega) 8 rfl ?_
  obtain ⟨q5, hq5, h⟩ := bd h
  refine ev_cV0 (pc := 65) [vI x2, vI (M 703 8)] [] rfl mkX6_addCode ml4_113 mnX6_addCode dX4_readOne_65 (tx_k c4) (tx_nz c4) rfl (Nat.le_of_ble_eq_true rfl) (by omega) (e_X6_addCode (d := d - 1) (M' := q5) (by omega) c4 hq5) ?_
  refine ev_aload_n (pc := 68) 0 dX4_readOne_68 rfl rfl ?_
  obtain ⟨q6, hq6, h⟩ := bd h
  refine ev_cV0 (pc := 69) [] [] rfl mkX4_advance ml4_37 mnX4_advance dX4_readOne_69 kd_703 (by omega) rfl (Nat.le_of_ble_eq_true rfl) (by omega) (e_X4_advance (d := d - 1) (M' := q6) (by omega)  hq6) ?_
  refine ev_iconst (pc := 72) (x := 1) dX4_readOne_72 ci_1 ?_
  cases h
  exact ev_zret (pc := 73) (Or.inr rfl) dX4_readOne_73 rfl
def f_X4_readOne_J38 (n : Nat) (R : Nat → Int → Int → Mem → Option (Int × Mem)) (x2 : Int) (M : Mem) : Option (Int × Mem) := if x2 = 3 then (f_X4_readOne_J56 n R x2 M) else (if (f_X4_isNameOfLaw M) ≠ 0 then (f_X4_readOne_J56 n R x2 M) else (lt (f_X4_failBy 5 M) fun q8 => ck (q8.1 = 0 ∨ q8.1 = 1) (some (q8.1, q8.2))))
set_option maxRecDepth 100000 in
set_option maxHeartbeats 4000000 in
theorem e_X4_readOne_J38 {g : Gm} {d : Nat} {n : Nat} {R : Nat → Int → Int → Mem → Option (Int × Mem)} {x2 : Int} {M N : Mem} {v : Int} {M' : Mem} (hd : 8 ≤ d) (hR : rdOK g (d - 1) R) (h : f_X4_readOne_J38 n R x2 M = some (v, M')) : Ev g d mtX4_readOne 38 [(0, vR 703), (2, vI x2)] [] (sg (mx M N)) (0, 0) (vI v) (sg (mx M' N)) := by
  unfold f_X4_readOne_J38 at h
  refine ev_iload_n (pc := 38) 1 dX4_readOne_38 rfl rfl ?_
  refine ev_iconst (pc := 39) (x := 3) dX4_readOne_39 ci_3 ?_
  refine ev_icmp_eq (pc := 40) (tgt := 56) dX4_readOne_40 (by decide) (fun b3 => ?_) (fun b3 => ?_)
  · rw [if_pos b3] at h
    refine ev_pick [0, 1] rfl ?_
    exact e_X4_readOne_J56 hd hR h
  · rw [if_neg b3] at h
    refine ev_aload_n (pc := 43) 0 dX4_readOne_43 rfl rfl ?_
    refine ev_cV (pc := 44) [] [] rfl mkX4_isNameOfLaw ml4_120 mnX4_isNameOfLaw dX4_readOne_44 kd_703 (by omega) rfl (Nat.le_of_ble_eq_true rfl) (by omega) rfl (e_X4_isNameOfLaw (d := d - 1) (v := (f_X4_isNameOfLaw M)) (by omega)  rfl) ?_
    refine ev_if_ne (pc := 47) (tgt := 56) dX4_readOne_47 (by decide) (fun b7 => ?_) (fun b7 => ?_)
    · rw [if_pos b7] at h
      refine ev_pick [0, 1] rfl ?_
      exact e_X4_readOne_J56 hd hR h
    · rw [if_neg b7] at h
      refine ev_aload_n (pc := 50) 0 dX4_readOne_50 rfl rfl ?_
      refine ev_iconst (pc := 51) (x := 5) dX4_readOne_51 ci_5 ?_
      obtain ⟨q8, hq8, h⟩ := lt_some h
      refine ev_cV (pc := 52) [vI 5] [] rfl mkX4_failBy ml4_57 mnX4_failBy dX4_readOne_52 kd_703 (by omega) rfl (Nat.le_of_ble_eq_true rfl) (by omega) rfl (e_X4_failBy (d := d - 1) (v := q8.1) (M' := q8.2) (by omega)  hq8.symm) ?_
      obtain ⟨c9, h⟩ := ck_some h
      cases h
      exact ev_zret (pc := 55) c9 dX4_readOne_55 rfl
def f_X4_readOne_J17 (n : Nat) (R : Nat → Int → Int → Mem → Option (Int × Mem)) (x2 : Int) (M : Mem) : Option (Int × Mem) := if x2 ≠ 3 then (f_X4_readOne_J38 n R x2 M) else (if (M 703 8) ≤ 9999 then (f_X4_readOne_J38 n R x2 M) else (lt (f_X4_failBy 2 M) fun q11 => ck (q11.1 = 0 ∨ q11.1 = 1) (some (q11.1, q11.2))))
set_option maxRecDepth 100000 in
set_option maxHeartbeats 4000000 in
theorem e_X4_readOne_J17 {g : Gm} {d : Nat} {n : Nat} {R : Nat → Int → Int → Mem → Option (Int × Mem)} {x2 : Int} {M N : Mem} {v : Int} {M' : Mem} (hd : 8 ≤ d) (hR : rdOK g (d - 1) R) (h : f_X4_readOne_J17 n R x2 M = some (v, M')) : Ev g d mtX4_readOne 17 [(0, vR 703), (2, vI x2)] [] (sg (mx M N)) (0, 0) (vI v) (sg (mx M' N)) := by
  unfold f_X4_readOne_J17 at h
  refine ev_iload_n (pc := 17) 1 dX4_readOne_17 rfl rfl ?_
  refine ev_iconst (pc := 18) (x := 3) dX4_readOne_18 ci_3 ?_
  refine ev_icmp_ne (pc := 19) (tgt := 38) dX4_readOne_19 (by decide) (fun b2 => ?_) (fun b2 => ?_)
  · rw [if_pos b2] at h
    refine ev_pick [0, 1] rfl ?_
    exact e_X4_readOne_J38 hd hR h
  · rw [if_neg b2] at h
    refine ev_aload_n (pc := 22) 0 dX4_readOne_22 rfl rfl ?_
    refine ev_getIc (pc := 23) fl4_95 rfl dX4_readOne_23 rfl kd_703 (by omega) (by omega) 8 rfl ?_
    refine ev_sipush (pc := 26) (x := 9999) dX4_readOne_26 cs_9999 ?_
    refine ev_icmp_le (pc := 29) (tgt := 38) dX4_readOne_29 (by decide) (fun b10 => ?_) (fun b10 => ?_)
    · rw [if_pos b10] at h
      refine ev_pick [0, 1] rfl ?_
      exact e_X4_readOne_J38 hd hR h
    · rw [if_neg b10] at h
      refine ev_aload_n (pc := 32) 0 dX4_readOne_32 rfl rfl ?_
      refine ev_iconst (pc := 33) (x := 2) dX4_readOne_33 ci_2 ?_
      obtain ⟨q11, hq11, h⟩ := lt_some h
      refine ev_cV (pc := 34) [vI 2] [] rfl mkX4_failBy ml4_57 mnX4_failBy dX4_readOne_34 kd_703 (by omega) rfl (Nat.le_of_ble_eq_true rfl) (by omega) rfl (e_X4_failBy (d := d - 1) (v := q11.1) (M' := q11.2) (by omega)  hq11.symm) ?_
      obtain ⟨c12, h⟩ := ck_some h
      cases h
      exact ev_zret (pc := 37) c12 dX4_readOne_37 rfl
def f_X4_readOne_J88 (n : Nat) (R : Nat → Int → Int → Mem → Option (Int × Mem)) (x2 : Int) (M : Mem) : Option (Int × Mem) := (f_X4_advance n M).bind fun q15 => if (f_X4_isName (q15 703 6)) ≠ 0 then (if (f_X4_isAskedBeside q15) ≠ 0 then (ck (isTx (q15 0 1)) ((f_X6_addCode (q15 0 1) x2 (q15 703 6) q15).bind fun q19 => (f_X4_advance n q19).bind fun q20 => some (1, q20))) else (lt (f_X4_failBy 5 q15) fun q21 => ck (q21.1 = 0 ∨ q21.1 = 1) (some (q21.1, q21.2)))) else (lt (f_X4_failBy 1 q15) fun q23 => ck (q23.1 = 0 ∨ q23.1 = 1) (some (q23.1, q23.2)))
set_option maxRecDepth 100000 in
set_option maxHeartbeats 4000000 in
theorem e_X4_readOne_J88 {g : Gm} {d : Nat} {n : Nat} {R : Nat → Int → Int → Mem → Option (Int × Mem)} {x2 : Int} {M N : Mem} {v : Int} {M' : Mem} (hd : 8 ≤ d) (hR : rdOK g (d - 1) R) (h : f_X4_readOne_J88 n R x2 M = some (v, M')) : Ev g d mtX4_readOne 88 [(0, vR 703), (2, vI x2)] [] (sg (mx M N)) (0, 0) (vI v) (sg (mx M' N)) := by
  unfold f_X4_readOne_J88 at h
  refine ev_aload_n (pc := 88) 0 dX4_readOne_88 rfl rfl ?_
  obtain ⟨q15, hq15, h⟩ := bd h
  refine ev_cV0 (pc := 89) [] [] rfl mkX4_advance ml4_37 mnX4_advance dX4_readOne_89 kd_703 (by omega) rfl (Nat.le_of_ble_eq_true rfl) (by omega) (e_X4_advance (d := d - 1) (M' := q15) (by omega)  hq15) ?_
  refine ev_aload_n (pc := 92) 0 dX4_readOne_92 rfl rfl ?_
  refine ev_getIc (pc := 93) fl4_40 rfl dX4_readOne_93 rfl kd_703 (by omega) (by omega) 6 rfl ?_
  refine ev_cS (pc := 96) [vI (q15 703 6)] [] rfl mkX4_isName ml4_117 msX4_isName dX4_readOne_96 rfl (Nat.le_of_ble_eq_true rfl) (by omega) rfl (e_X4_isName (d := d - 1) (v := (f_X4_isName (q15 703 6))) (by omega)  rfl) ?_
  refine ev_if_ne (pc := 99) (tgt := 108) dX4_readOne_99 (by decide) (fun b16 => ?_) (fun b16 => ?_)
  · rw [if_pos b16] at h
    refine ev_aload_n (pc := 108) 0 dX4_readOne_108 rfl rfl ?_
    refine ev_cV (pc := 109) [] [] rfl mkX4_isAskedBeside ml4_123 mnX4_isAskedBeside dX4_readOne_109 kd_703 (by omega) rfl (Nat.le_of_ble_eq_true rfl) (by omega) rfl (e_X4_isAskedBeside (d := d - 1) (v := (f_X4_isAskedBeside q15)) (by omega)  rfl) ?_
    refine ev_if_ne (pc := 112) (tgt := 121) dX4_readOne_112 (by decide) (fun b17 => ?_) (fun b17 => ?_)
    · rw [if_pos b17] at h
      refine ev_aload_n (pc := 121) 0 dX4_readOne_121 rfl rfl ?_
      obtain ⟨c18, h⟩ := ck_some h
      refine ev_getR (pc := 122) fl4_25 rfl dX4_readOne_122 rfl kd_703 (by omega) (rf_703_4 _ _) ?_
      refine ev_iload_n (pc := 125) 1 dX4_readOne_125 rfl rfl ?_
      refine ev_aload_n (pc := 126) 0 dX4_readOne_126 rfl rfl ?_
      refine ev_getIc (pc := 127) fl4_40 rfl dX4_readOne_127 rfl kd_703 (by omega) (by omega) 6 rfl ?_
      obtain ⟨q19, hq19, h⟩ := bd h
      refine ev_cV0 (pc := 130) [vI x2, vI (q15 703 6)] [] rfl mkX6_addCode ml4_113 mnX6_addCode dX4_readOne_130 (tx_k c18) (tx_nz c18) rfl (Nat.le_of_ble_eq_true rfl) (by omega) (e_X6_addCode (d := d - 1) (M' := q19) (by omega) c18 hq19) ?_
      refine ev_aload_n (pc := 133) 0 dX4_readOne_133 rfl rfl ?_
      obtain ⟨q20, hq20, h⟩ := bd h
      refine ev_cV0 (pc := 134) [] [] rfl mkX4_advance ml4_37 mnX4_advance dX4_readOne_134 kd_703 (by omega) rfl (Nat.le_of_ble_eq_true rfl) (by omega) (e_X4_advance (d := d - 1) (M' := q20) (by omega)  hq20) ?_
      refine ev_iconst (pc := 137) (x := 1) dX4_readOne_137 ci_1 ?_
      cases h
      exact ev_zret (pc := 138) (Or.inr rfl) dX4_readOne_138 rfl
    · rw [if_neg b17] at h
      refine ev_aload_n (pc := 115) 0 dX4_readOne_115 rfl rfl ?_
      refine ev_iconst (pc := 116) (x := 5) dX4_readOne_116 ci_5 ?_
      obtain ⟨q21, hq21, h⟩ := lt_some h
      refine ev_cV (pc := 117) [vI 5] [] rfl mkX4_failBy ml4_57 mnX4_failBy dX4_readOne_117 kd_703 (by omega) rfl (Nat.le_of_ble_eq_true rfl) (by omega) rfl (e_X4_failBy (d := d - 1) (v := q21.1) (M' := q21.2) (by omega)  hq21.symm) ?_
      obtain ⟨c22, h⟩ := ck_some h
      cases h
      exact ev_zret (pc := 120) c22 dX4_readOne_120 rfl
  · rw [if_neg b16] at h
    refine ev_aload_n (pc := 102) 0 dX4_readOne_102 rfl rfl ?_
    refine ev_iconst (pc := 103) (x := 1) dX4_readOne_103 ci_1 ?_
    obtain ⟨q23, hq23, h⟩ := lt_some h
    refine ev_cV (pc := 104) [vI 1] [] rfl mkX4_failBy ml4_57 mnX4_failBy dX4_readOne_104 kd_703 (by omega) rfl (Nat.le_of_ble_eq_true rfl) (by omega) rfl (e_X4_failBy (d := d - 1) (v := q23.1) (M' := q23.2) (by omega)  hq23.symm) ?_
    obtain ⟨c24, h⟩ := ck_some h
    cases h
    exact ev_zret (pc := 107) c24 dX4_readOne_107 rfl
def f_X4_readOne_J157 (n : Nat) (R : Nat → Int → Int → Mem → Option (Int × Mem)) (x1 x2 : Int) (M : Mem) : Option (Int × Mem) := if x1 < 8 then ((f_X4_advance n M).bind fun q28 => if x2 ≠ 45 then ((R 4 (wI (x1 + 1)) 0 q28).bind fun q30 => ck (q30.1 = 0 ∨ q30.1 = 1) (some (q30.1, q30.2))) else ((R 3 (wI (x1 + 1)) 0 q28).bind fun q32 => ck (q32.1 = 0 ∨ q32.1 = 1) (some (q32.1, q32.2)))) else (lt (f_X4_failBy 3 M) fun q34 => ck (q34.1 = 0 ∨ q34.1 = 1) (some (q34.1, q34.2)))
set_option maxRecDepth 100000 in
set_option maxHeartbeats 4000000 in
theorem e_X4_readOne_J157 {g : Gm} {d : Nat} {n : Nat} {R : Nat → Int → Int → Mem → Option (Int × Mem)} {x1 x2 : Int} {M N : Mem} {v : Int} {M' : Mem} (hd : 8 ≤ d) (hR : rdOK g (d - 1) R) (h : f_X4_readOne_J157 n R x1 x2 M = some (v, M')) : Ev g d mtX4_readOne 157 [(0, vR 703), (1, vI x1), (2, vI x2)] [] (sg (mx M N)) (0, 0) (vI v) (sg (mx M' N)) := by
  unfold f_X4_readOne_J157 at h
  refine ev_iload_n (pc := 157) 1 dX4_readOne_157 rfl rfl ?_
  refine ev_bipush (pc := 158) (x := 8) dX4_readOne_158 cb_8 ?_
  refine ev_icmp_lt (pc := 160) (tgt := 169) dX4_readOne_160 (by decide) (fun b27 => ?_) (fun b27 => ?_)
  · rw [if_pos b27] at h
    refine ev_aload_n (pc := 169) 0 dX4_readOne_169 rfl rfl ?_
    obtain ⟨q28, hq28, h⟩ := bd h
    refine ev_cV0 (pc := 170) [] [] rfl mkX4_advance ml4_37 mnX4_advance dX4_readOne_170 kd_703 (by omega) rfl (Nat.le_of_ble_eq_true rfl) (by omega) (e_X4_advance (d := d - 1) (M' := q28) (by omega)  hq28) ?_
    refine ev_iload_n (pc := 173) 2 dX4_readOne_173 rfl rfl ?_
    refine ev_bipush (pc := 174) (x := 45) dX4_readOne_174 cb_45 ?_
    refine ev_icmp_ne (pc := 176) (tgt := 189) dX4_readOne_176 (by decide) (fun b29 => ?_) (fun b29 => ?_)
    · rw [if_pos b29] at h
      refine ev_aload_n (pc := 189) 0 dX4_readOne_189 rfl rfl ?_
      refine ev_iload_n (pc := 190) 1 dX4_readOne_190 rfl rfl ?_
      refine ev_iconst (pc := 191) (x := 1) dX4_readOne_191 ci_1 ?_
      refine ev_iadd (pc := 192) dX4_readOne_192 ?_
      obtain ⟨q30, hq30, h⟩ := bd h
      refine ev_cV (pc := 193) [vI (wI (x1 + 1))] [] rfl mkX4_readParted ml4_129 mnX4_readParted dX4_readOne_193 kd_703 (by omega) rfl (Nat.le_of_ble_eq_true rfl) (by omega) rfl (hR.2.2.2.2 (v := q30.1) (M' := q30.2) hq30) ?_
      obtain ⟨c31, h⟩ := ck_some h
      cases h
      exact ev_zret (pc := 196) c31 dX4_readOne_196 rfl
    · rw [if_neg b29] at h
      refine ev_aload_n (pc := 179) 0 dX4_readOne_179 rfl rfl ?_
      refine ev_iload_n (pc := 180) 1 dX4_readOne_180 rfl rfl ?_
      refine ev_iconst (pc := 181) (x := 1) dX4_readOne_181 ci_1 ?_
      refine ev_iadd (pc := 182) dX4_readOne_182 ?_
      obtain ⟨q32, hq32, h⟩ := bd h
      refine ev_cV (pc := 183) [vI (wI (x1 + 1))] [] rfl mkX4_readMinus ml4_126 mnX4_readMinus dX4_readOne_183 kd_703 (by omega) rfl (Nat.le_of_ble_eq_true rfl) (by omega) rfl (hR.2.2.2.1 (v := q32.1) (M' := q32.2) hq32) ?_
      refine ev_goto (pc := 186) (tgt := 196) dX4_readOne_186 (by decide) ?_
      obtain ⟨c33, h⟩ := ck_some h
      cases h
      exact ev_zret (pc := 196) c33 dX4_readOne_196 rfl
  · rw [if_neg b27] at h
    refine ev_aload_n (pc := 163) 0 dX4_readOne_163 rfl rfl ?_
    refine ev_iconst (pc := 164) (x := 3) dX4_readOne_164 ci_3 ?_
    obtain ⟨q34, hq34, h⟩ := lt_some h
    refine ev_cV (pc := 165) [vI 3] [] rfl mkX4_failBy ml4_57 mnX4_failBy dX4_readOne_165 kd_703 (by omega) rfl (Nat.le_of_ble_eq_true rfl) (by omega) rfl (e_X4_failBy (d := d - 1) (v := q34.1) (M' := q34.2) (by omega)  hq34.symm) ?_
    obtain ⟨c35, h⟩ := ck_some h
    cases h
    exact ev_zret (pc := 168) c35 dX4_readOne_168 rfl
def b_X4_readOne (n : Nat) (R : Nat → Int → Int → Mem → Option (Int × Mem)) (p0 : Int) (M : Mem) : Option (Int × Mem) := if (M 703 6) = 3 then (f_X4_readOne_J17 n R (M 703 6) M) else (if (f_X4_isName (M 703 6)) = 0 then (if (M 703 6) = 150 then (f_X4_readOne_J88 n R (M 703 6) M) else (if (M 703 6) ≠ 151 then (if (M 703 6) = 40 then (f_X4_readOne_J157 n R p0 (M 703 6) M) else (if (M 703 6) = 45 then (f_X4_readOne_J157 n R p0 (M 703 6) M) else (lt (f_X4_failBy 1 M) fun q37 => ck (q37.1 = 0 ∨ q37.1 = 1) (some (q37.1, q37.2))))) else (f_X4_readOne_J88 n R (M 703 6) M))) else (f_X4_readOne_J17 n R (M 703 6) M))
set_option maxRecDepth 100000 in
set_option maxHeartbeats 4000000 in
theorem eb_X4_readOne {g : Gm} {d : Nat} {n : Nat} {R : Nat → Int → Int → Mem → Option (Int × Mem)} {p0 : Int} {M N : Mem} {v : Int} {M' : Mem} (hd : 8 ≤ d) (hR : rdOK g (d - 1) R) (h : b_X4_readOne n R p0 M = some (v, M')) : EvM g d mtX4_readOne [vR 703, vI p0] (sg (mx M N)) (0, 0) (vI v) (sg (mx M' N)) := by
  unfold b_X4_readOne at h
  refine EvM.of mkX4_readOne.2.2.2.1 (Nat.le_of_ble_eq_true rfl) ?_
  change Ev g d mtX4_readOne 0 [(0, vR 703), (1, vI p0)] [] (sg (mx M N)) (0, 0) (vI v) (sg (mx M' N))
  refine ev_aload_n (pc := 0) 0 dX4_readOne_0 rfl rfl ?_
  refine ev_getIc (pc := 1) fl4_40 rfl dX4_readOne_1 rfl kd_703 (by omega) (by omega) 6 rfl ?_
  refine ev_istore_n (pc := 4) (il' := [(2, vI (M 703 6)), (0, vR 703), (1, vI p0)]) dX4_readOne_4 rfl (Nat.le_of_ble_eq_true rfl) rfl ?_
  refine ev_iload_n (pc := 5) 0 dX4_readOne_5 rfl rfl ?_
  refine ev_iconst (pc := 6) (x := 3) dX4_readOne_6 ci_3 ?_
  refine ev_icmp_eq (pc := 7) (tgt := 17) dX4_readOne_7 (by decide) (fun b1 => ?_) (fun b1 => ?_)
  · rw [if_pos b1] at h
    refine ev_pick [1, 0] rfl ?_
    exact e_X4_readOne_J17 hd hR h
  · rw [if_neg b1] at h
    refine ev_iload_n (pc := 10) 0 dX4_readOne_10 rfl rfl ?_
    refine ev_cS (pc := 11) [vI (M 703 6)] [] rfl mkX4_isName ml4_117 msX4_isName dX4_readOne_11 rfl (Nat.le_of_ble_eq_true rfl) (by omega) rfl (e_X4_isName (d := d - 1) (v := (f_X4_isName (M 703 6))) (by omega)  rfl) ?_
    refine ev_if_eq (pc := 14) (tgt := 74) dX4_readOne_14 (by decide) (fun b13 => ?_) (fun b13 => ?_)
    · rw [if_pos b13] at h
      refine ev_iload_n (pc := 74) 0 dX4_readOne_74 rfl rfl ?_
      refine ev_sipush (pc := 75) (x := 150) dX4_readOne_75 cs_150 ?_
      refine ev_icmp_eq (pc := 78) (tgt := 88) dX4_readOne_78 (by decide) (fun b14 => ?_) (fun b14 => ?_)
      · rw [if_pos b14] at h
        refine ev_pick [1, 0] rfl ?_
        exact e_X4_readOne_J88 hd hR h
      · rw [if_neg b14] at h
        refine ev_iload_n (pc := 81) 0 dX4_readOne_81 rfl rfl ?_
        refine ev_sipush (pc := 82) (x := 151) dX4_readOne_82 cs_151 ?_
        refine ev_icmp_ne (pc := 85) (tgt := 139) dX4_readOne_85 (by decide) (fun b25 => ?_) (fun b25 => ?_)
        · rw [if_pos b25] at h
          refine ev_iload_n (pc := 139) 0 dX4_readOne_139 rfl rfl ?_
          refine ev_bipush (pc := 140) (x := 40) dX4_readOne_140 cb_40 ?_
          refine ev_icmp_eq (pc := 142) (tgt := 157) dX4_readOne_142 (by decide) (fun b26 => ?_) (fun b26 => ?_)
          · rw [if_pos b26] at h
            refine ev_pick [1, 2, 0] rfl ?_
            exact e_X4_readOne_J157 hd hR h
          · rw [if_neg b26] at h
            refine ev_iload_n (pc := 145) 0 dX4_readOne_145 rfl rfl ?_
            refine ev_bipush (pc := 146) (x := 45) dX4_readOne_146 cb_45 ?_
            refine ev_icmp_eq (pc := 148) (tgt := 157) dX4_readOne_148 (by decide) (fun b36 => ?_) (fun b36 => ?_)
            · rw [if_pos b36] at h
              refine ev_pick [1, 2, 0] rfl ?_
              exact e_X4_readOne_J157 hd hR h
            · rw [if_neg b36] at h
              refine ev_aload_n (pc := 151) 1 dX4_readOne_151 rfl rfl ?_
              refine ev_iconst (pc := 152) (x := 1) dX4_readOne_152 ci_1 ?_
              obtain ⟨q37, hq37, h⟩ := lt_some h
              refine ev_cV (pc := 153) [vI 1] [] rfl mkX4_failBy ml4_57 mnX4_failBy dX4_readOne_153 kd_703 (by omega) rfl (Nat.le_of_ble_eq_true rfl) (by omega) rfl (e_X4_failBy (d := d - 1) (v := q37.1) (M' := q37.2) (by omega)  hq37.symm) ?_
              obtain ⟨c38, h⟩ := ck_some h
              cases h
              exact ev_zret (pc := 156) c38 dX4_readOne_156 rfl
        · rw [if_neg b25] at h
          refine ev_pick [1, 0] rfl ?_
          exact e_X4_readOne_J88 hd hR h
    · rw [if_neg b13] at h
      refine ev_pick [1, 0] rfl ?_
      exact e_X4_readOne_J17 hd hR h
def b_X4_readMinus (n : Nat) (R : Nat → Int → Int → Mem → Option (Int × Mem)) (p0 : Int) (M : Mem) : Option (Int × Mem) := (R 2 p0 0 M).bind fun q1 => if q1.1 ≠ 0 then (ck (isTx (q1.2 0 1)) ((f_X6_addCode (q1.2 0 1) 6 0 q1.2).bind fun q4 => some (1, q4))) else (some (0, q1.2))
set_option maxRecDepth 100000 in
set_option maxHeartbeats 4000000 in
theorem eb_X4_readMinus {g : Gm} {d : Nat} {n : Nat} {R : Nat → Int → Int → Mem → Option (Int × Mem)} {p0 : Int} {M N : Mem} {v : Int} {M' : Mem} (hd : 1 ≤ d) (hR : rdOK g (d - 1) R) (h : b_X4_readMinus n R p0 M = some (v, M')) : EvM g d mtX4_readMinus [vR 703, vI p0] (sg (mx M N)) (0, 0) (vI v) (sg (mx M' N)) := by
  unfold b_X4_readMinus at h
  refine EvM.of mkX4_readMinus.2.2.2.1 (Nat.le_of_ble_eq_true rfl) ?_
  change Ev g d mtX4_readMinus 0 [(0, vR 703), (1, vI p0)] [] (sg (mx M N)) (0, 0) (vI v) (sg (mx M' N))
  refine ev_aload_n (pc := 0) 0 dX4_readMinus_0 rfl rfl ?_
  refine ev_iload_n (pc := 1) 1 dX4_readMinus_1 rfl rfl ?_
  obtain ⟨q1, hq1, h⟩ := bd h
  refine ev_cV (pc := 2) [vI p0] [] rfl mkX4_readOne ml4_107 mnX4_readOne dX4_readMinus_2 kd_703 (by omega) rfl (Nat.le_of_ble_eq_true rfl) (by omega) rfl (hR.2.2.1 (v := q1.1) (M' := q1.2) hq1) ?_
  refine ev_if_ne (pc := 5) (tgt := 10) dX4_readMinus_5 (by decide) (fun b2 => ?_) (fun b2 => ?_)
  · rw [if_pos b2] at h
    refine ev_aload_n (pc := 10) 0 dX4_readMinus_10 rfl rfl ?_
    obtain ⟨c3, h⟩ := ck_some h
    refine ev_getR (pc := 11) fl4_25 rfl dX4_readMinus_11 rfl kd_703 (by omega) (rf_703_4 _ _) ?_
    refine ev_bipush (pc := 14) (x := 6) dX4_readMinus_14 cb_6 ?_
    refine ev_iconst (pc := 16) (x := 0) dX4_readMinus_16 ci_0 ?_
    obtain ⟨q4, hq4, h⟩ := bd h
    refine ev_cV0 (pc := 17) [vI 6, vI 0] [] rfl mkX6_addCode ml4_113 mnX6_addCode dX4_readMinus_17 (tx_k c3) (tx_nz c3) rfl (Nat.le_of_ble_eq_true rfl) (by omega) (e_X6_addCode (d := d - 1) (M' := q4) (by omega) c3 hq4) ?_
    refine ev_iconst (pc := 20) (x := 1) dX4_readMinus_20 ci_1 ?_
    cases h
    exact ev_zret (pc := 21) (Or.inr rfl) dX4_readMinus_21 rfl
  · rw [if_neg b2] at h
    refine ev_iconst (pc := 8) (x := 0) dX4_readMinus_8 ci_0 ?_
    cases h
    exact ev_zret (pc := 9) (Or.inl rfl) dX4_readMinus_9 rfl
def b_X4_readParted (n : Nat) (R : Nat → Int → Int → Mem → Option (Int × Mem)) (p0 : Int) (M : Mem) : Option (Int × Mem) := (R 0 3 p0 M).bind fun q1 => if q1.1 ≠ 0 then (if (q1.2 703 6) = 41 then ((f_X4_advance n q1.2).bind fun q4 => some (1, q4)) else (lt (f_X4_failBy 1 q1.2) fun q5 => ck (q5.1 = 0 ∨ q5.1 = 1) (some (q5.1, q5.2)))) else (some (0, q1.2))
set_option maxRecDepth 100000 in
set_option maxHeartbeats 4000000 in
theorem eb_X4_readParted {g : Gm} {d : Nat} {n : Nat} {R : Nat → Int → Int → Mem → Option (Int × Mem)} {p0 : Int} {M N : Mem} {v : Int} {M' : Mem} (hd : 8 ≤ d) (hR : rdOK g (d - 1) R) (h : b_X4_readParted n R p0 M = some (v, M')) : EvM g d mtX4_readParted [vR 703, vI p0] (sg (mx M N)) (0, 0) (vI v) (sg (mx M' N)) := by
  unfold b_X4_readParted at h
  refine EvM.of mkX4_readParted.2.2.2.1 (Nat.le_of_ble_eq_true rfl) ?_
  change Ev g d mtX4_readParted 0 [(0, vR 703), (1, vI p0)] [] (sg (mx M N)) (0, 0) (vI v) (sg (mx M' N))
  refine ev_aload_n (pc := 0) 0 dX4_readParted_0 rfl rfl ?_
  refine ev_iconst (pc := 1) (x := 3) dX4_readParted_1 ci_3 ?_
  refine ev_iload_n (pc := 2) 1 dX4_readParted_2 rfl rfl ?_
  obtain ⟨q1, hq1, h⟩ := bd h
  refine ev_cV (pc := 3) [vI 3, vI p0] [] rfl mkX4_readPart ml4_79 mnX4_readPart dX4_readParted_3 kd_703 (by omega) rfl (Nat.le_of_ble_eq_true rfl) (by omega) rfl (hR.1 (v := q1.1) (M' := q1.2) hq1) ?_
  refine ev_if_ne (pc := 6) (tgt := 11) dX4_readParted_6 (by decide) (fun b2 => ?_) (fun b2 => ?_)
  · rw [if_pos b2] at h
    refine ev_aload_n (pc := 11) 0 dX4_readParted_11 rfl rfl ?_
    refine ev_getIc (pc := 12) fl4_40 rfl dX4_readParted_12 rfl kd_703 (by omega) (by omega) 6 rfl ?_
    refine ev_bipush (pc := 15) (x := 41) dX4_readParted_15 cb_41 ?_
    refine ev_icmp_eq (pc := 17) (tgt := 26) dX4_readParted_17 (by decide) (fun b3 => ?_) (fun b3 => ?_)
    · rw [if_pos b3] at h
      refine ev_aload_n (pc := 26) 0 dX4_readParted_26 rfl rfl ?_
      obtain ⟨q4, hq4, h⟩ := bd h
      refine ev_cV0 (pc := 27) [] [] rfl mkX4_advance ml4_37 mnX4_advance dX4_readParted_27 kd_703 (by omega) rfl (Nat.le_of_ble_eq_true rfl) (by omega) (e_X4_advance (d := d - 1) (M' := q4) (by omega)  hq4) ?_
      refine ev_iconst (pc := 30) (x := 1) dX4_readParted_30 ci_1 ?_
      cases h
      exact ev_zret (pc := 31) (Or.inr rfl) dX4_readParted_31 rfl
    · rw [if_neg b3] at h
      refine ev_aload_n (pc := 20) 0 dX4_readParted_20 rfl rfl ?_
      refine ev_iconst (pc := 21) (x := 1) dX4_readParted_21 ci_1 ?_
      obtain ⟨q5, hq5, h⟩ := lt_some h
      refine ev_cV (pc := 22) [vI 1] [] rfl mkX4_failBy ml4_57 mnX4_failBy dX4_readParted_22 kd_703 (by omega) rfl (Nat.le_of_ble_eq_true rfl) (by omega) rfl (e_X4_failBy (d := d - 1) (v := q5.1) (M' := q5.2) (by omega)  hq5.symm) ?_
      obtain ⟨c6, h⟩ := ck_some h
      cases h
      exact ev_zret (pc := 25) c6 dX4_readParted_25 rfl
  · rw [if_neg b2] at h
    refine ev_iconst (pc := 9) (x := 0) dX4_readParted_9 ci_0 ?_
    cases h
    exact ev_zret (pc := 10) (Or.inl rfl) dX4_readParted_10 rfl
def f_rd (n : Nat) : Nat → Nat → Int → Int → Mem → Option (Int × Mem)
  | 0, _, _, _, _ => none
  | m + 1, sel, a, b, M => match sel with
    | 0 => b_X4_readPart n (f_rd n m) a b M
    | 1 => b_X4_readAsk n (f_rd n m) a M
    | 2 => b_X4_readOne n (f_rd n m) a M
    | 3 => b_X4_readMinus n (f_rd n m) a M
    | _ => b_X4_readParted n (f_rd n m) a M
theorem rd_all {g : Gm} {n : Nat} : ∀ (m : Nat) {d : Nat}, m + 10 ≤ d → rdOK g d (f_rd n m) := by
  intro m
  induction m with
  | zero => intro d hd; exact ⟨fun h => (by rw [f_rd.eq_1] at h; cases h), fun h => (by rw [f_rd.eq_1] at h; cases h), fun h => (by rw [f_rd.eq_1] at h; cases h), fun h => (by rw [f_rd.eq_1] at h; cases h), fun h => (by rw [f_rd.eq_1] at h; cases h)⟩
  | succ m ih =>
    intro d hd
    have hR := ih (d := d - 1) (by omega)
    refine ⟨fun h => eb_X4_readPart (n := n) (by omega) hR (by exact h), fun h => eb_X4_readAsk (n := n) (by omega) hR (by exact h), fun h => eb_X4_readOne (n := n) (by omega) hR (by exact h), fun h => eb_X4_readMinus (n := n) (by omega) hR (by exact h), fun h => eb_X4_readParted (n := n) (by omega) hR (by exact h)⟩
def f_X4_readPart (n : Nat) (p0 p1 : Int) (M : Mem) : Option (Int × Mem) := f_rd n 100 0 p0 p1 M
theorem e_X4_readPart {g : Gm} {d : Nat} {n : Nat} {p0 p1 : Int} {M N : Mem} {v : Int} {M' : Mem} (hd : 110 ≤ d) (h : f_X4_readPart n p0 p1 M = some (v, M')) : EvM g d mtX4_readPart [vR 703, vI p0, vI p1] (sg (mx M N)) (0, 0) (vI v) (sg (mx M' N)) := (rd_all 100 (by omega)).1 h
def f_X4_readAsk (n : Nat) (p0 : Int) (M : Mem) : Option (Int × Mem) := f_rd n 100 1 p0 0 M
theorem e_X4_readAsk {g : Gm} {d : Nat} {n : Nat} {p0 : Int} {M N : Mem} {v : Int} {M' : Mem} (hd : 110 ≤ d) (h : f_X4_readAsk n p0 M = some (v, M')) : EvM g d mtX4_readAsk [vR 703, vI p0] (sg (mx M N)) (0, 0) (vI v) (sg (mx M' N)) := (rd_all 100 (by omega)).2.1 h
def f_X4_readOne (n : Nat) (p0 : Int) (M : Mem) : Option (Int × Mem) := f_rd n 100 2 p0 0 M
theorem e_X4_readOne {g : Gm} {d : Nat} {n : Nat} {p0 : Int} {M N : Mem} {v : Int} {M' : Mem} (hd : 110 ≤ d) (h : f_X4_readOne n p0 M = some (v, M')) : EvM g d mtX4_readOne [vR 703, vI p0] (sg (mx M N)) (0, 0) (vI v) (sg (mx M' N)) := (rd_all 100 (by omega)).2.2.1 h
def f_X4_readMinus (n : Nat) (p0 : Int) (M : Mem) : Option (Int × Mem) := f_rd n 100 3 p0 0 M
theorem e_X4_readMinus {g : Gm} {d : Nat} {n : Nat} {p0 : Int} {M N : Mem} {v : Int} {M' : Mem} (hd : 110 ≤ d) (h : f_X4_readMinus n p0 M = some (v, M')) : EvM g d mtX4_readMinus [vR 703, vI p0] (sg (mx M N)) (0, 0) (vI v) (sg (mx M' N)) := (rd_all 100 (by omega)).2.2.2.1 h
def f_X4_readParted (n : Nat) (p0 : Int) (M : Mem) : Option (Int × Mem) := f_rd n 100 4 p0 0 M
theorem e_X4_readParted {g : Gm} {d : Nat} {n : Nat} {p0 : Int} {M N : Mem} {v : Int} {M' : Mem} (hd : 110 ≤ d) (h : f_X4_readParted n p0 M = some (v, M')) : EvM g d mtX4_readParted [vR 703, vI p0] (sg (mx M N)) (0, 0) (vI v) (sg (mx M' N)) := (rd_all 100 (by omega)).2.2.2.2 h
def f_X4_readClause_J173 (n : Nat) (M : Mem) : Option (Int × Mem) := if (M 703 6) = 59 then (ck (isTx (M 0 1)) (lt (upM M (M 0 1) 0 (wI ((M (M 0 1) 0) + 1))) fun M22 => (f_X4_advance n M22).bind fun q23 => some (1, q23))) else (lt (f_X4_failBy 1 M) fun q24 => ck (q24.1 = 0 ∨ q24.1 = 1) (some (q24.1, q24.2)))
set_option maxRecDepth 100000 in
set_option maxHeartbeats 4000000 in
theorem e_X4_readClause_J173 {g : Gm} {d : Nat} {n : Nat} {M N : Mem} {v : Int} {M' : Mem} (hd : 111 ≤ d) (h : f_X4_readClause_J173 n M = some (v, M')) : Ev g d mtX4_readClause 173 [(0, vR 703)] [] (sg (mx M N)) (0, 0) (vI v) (sg (mx M' N)) := by
  unfold f_X4_readClause_J173 at h
  refine ev_aload_n (pc := 173) 0 dX4_readClause_173 rfl rfl ?_
  refine ev_getIc (pc := 174) fl4_40 rfl dX4_readClause_174 rfl kd_703 (by omega) (by omega) 6 rfl ?_
  refine ev_bipush (pc := 177) (x := 59) dX4_readClause_177 cb_59 ?_
  refine ev_icmp_eq (pc := 179) (tgt := 188) dX4_readClause_179 (by decide) (fun b20 => ?_) (fun b20 => ?_)
  · rw [if_pos b20] at h
    refine ev_aload_n (pc := 188) 0 dX4_readClause_188 rfl rfl ?_
    obtain ⟨c21, h⟩ := ck_some h
    refine ev_getR (pc := 189) fl4_25 rfl dX4_readClause_189 rfl kd_703 (by omega) (rf_703_4 _ _) ?_
    refine ev_dup (pc := 192) rfl dX4_readClause_192 ?_
    refine ev_getIc (pc := 193) fl4_64 rfl dX4_readClause_193 rfl (tx_k c21) (tx_nz c21) (tx_n9 c21) 0 rfl ?_
    refine ev_iconst (pc := 196) (x := 1) dX4_readClause_196 ci_1 ?_
    refine ev_iadd (pc := 197) dX4_readClause_197 ?_
    obtain ⟨M22, eM22, h⟩ := lt_some h
    refine ev_putIc (pc := 198) fl4_64 rfl dX4_readClause_198 (tx_k c21) (tx_nz c21) (tx_n9 c21) eM22 ?_
    refine ev_aload_n (pc := 201) 0 dX4_readClause_201 rfl rfl ?_
    obtain ⟨q23, hq23, h⟩ := bd h
    refine ev_cV0 (pc := 202) [] [] rfl mkX4_advance ml4_37 mnX4_advance dX4_readClause_202 kd_703 (by omega) rfl (Nat.le_of_ble_eq_true rfl) (by omega) (e_X4_advance (d := d - 1) (M' := q23) (by omega)  hq23) ?_
    refine ev_iconst (pc := 205) (x := 1) dX4_readClause_205 ci_1 ?_
    cases h
    exact ev_zret (pc := 206) (Or.inr rfl) dX4_readClause_206 rfl
  · rw [if_neg b20] at h
    refine ev_aload_n (pc := 182) 0 dX4_readClause_182 rfl rfl ?_
    refine ev_iconst (pc := 183) (x := 1) dX4_readClause_183 ci_1 ?_
    obtain ⟨q24, hq24, h⟩ := lt_some h
    refine ev_cV (pc := 184) [vI 1] [] rfl mkX4_failBy ml4_57 mnX4_failBy dX4_readClause_184 kd_703 (by omega) rfl (Nat.le_of_ble_eq_true rfl) (by omega) rfl (e_X4_failBy (d := d - 1) (v := q24.1) (M' := q24.2) (by omega)  hq24.symm) ?_
    obtain ⟨c25, h⟩ := ck_some h
    cases h
    exact ev_zret (pc := 187) c25 dX4_readClause_187 rfl
def f_X4_readClause_J145 (n : Nat) (s1 : Int) (M : Mem) : Option (Int × Mem) := (f_X4_readPart n s1 0 M).bind fun q15 => if q15.1 ≠ 0 then (ck (isTx (q15.2 0 1)) (ck (0 ≤ (q15.2 703 9) ∧ (q15.2 703 9) < 5) (lt (upM q15.2 ((q15.2 0 1) + 6) (q15.2 703 9) (q15.2 (q15.2 0 1) 3)) fun M19 => f_X4_readClause_J173 n M19))) else (some (0, q15.2))
set_option maxRecDepth 100000 in
set_option maxHeartbeats 4000000 in
theorem e_X4_readClause_J145 {g : Gm} {d : Nat} {n : Nat} {s1 : Int} {M N : Mem} {v : Int} {M' : Mem} (hd : 111 ≤ d) (h : f_X4_readClause_J145 n s1 M = some (v, M')) : Ev g d mtX4_readClause 145 [(0, vR 703)] [vI s1, vR 703] (sg (mx M N)) (0, 0) (vI v) (sg (mx M' N)) := by
  unfold f_X4_readClause_J145 at h
  refine ev_iconst (pc := 145) (x := 0) dX4_readClause_145 ci_0 ?_
  obtain ⟨q15, hq15, h⟩ := bd h
  refine ev_cV (pc := 146) [vI s1, vI 0] [] rfl mkX4_readPart ml4_79 mnX4_readPart dX4_readClause_146 kd_703 (by omega) rfl (Nat.le_of_ble_eq_true rfl) (by omega) rfl (e_X4_readPart (d := d - 1) (v := q15.1) (M' := q15.2) (by omega)  hq15) ?_
  refine ev_if_ne (pc := 149) (tgt := 154) dX4_readClause_149 (by decide) (fun b16 => ?_) (fun b16 => ?_)
  · rw [if_pos b16] at h
    refine ev_aload_n (pc := 154) 0 dX4_readClause_154 rfl rfl ?_
    obtain ⟨c17, h⟩ := ck_some h
    refine ev_getR (pc := 155) fl4_25 rfl dX4_readClause_155 rfl kd_703 (by omega) (rf_703_4 _ _) ?_
    refine ev_getR (pc := 158) fl4_83 rfl dX4_readClause_158 rfl (tx_k c17) (tx_nz c17) (tx_r7 _ c17) ?_
    refine ev_aload_n (pc := 161) 0 dX4_readClause_161 rfl rfl ?_
    refine ev_getIc (pc := 162) fl4_50 rfl dX4_readClause_162 rfl kd_703 (by omega) (by omega) 9 rfl ?_
    refine ev_aload_n (pc := 165) 0 dX4_readClause_165 rfl rfl ?_
    refine ev_getR (pc := 166) fl4_25 rfl dX4_readClause_166 rfl kd_703 (by omega) (rf_703_4 _ _) ?_
    refine ev_getIc (pc := 169) fl4_76 rfl dX4_readClause_169 rfl (tx_k c17) (tx_nz c17) (tx_n9 c17) 3 rfl ?_
    obtain ⟨c18, h⟩ := ck_some h
    obtain ⟨M19, eM19, h⟩ := lt_some h
    refine ev_istc (pc := 172) dX4_readClause_172 (tx_ak7 c17) (tx_anz7 c17) (tx_a97 c17) c18.1 c18.2 eM19 ?_
    refine ev_pick [0] rfl ?_
    exact e_X4_readClause_J173 hd  h
  · rw [if_neg b16] at h
    refine ev_iconst (pc := 152) (x := 0) dX4_readClause_152 ci_0 ?_
    cases h
    exact ev_zret (pc := 153) (Or.inl rfl) dX4_readClause_153 rfl
def f_X4_readClause (n : Nat) (M : Mem) : Option (Int × Mem) := lt (upM M 703 9 (wI ((M 703 6) - 128))) fun M1 => if (f_X11_isBetween 128 (M 703 6) 139) ≠ 0 then (ck (isTx (M1 0 1)) ((f_X6_hasLaw (M1 0 1) (M1 703 9) M1).bind fun q4 => if q4 = 0 then (if (M1 (M1 0 1) 0) < 24 then (ck (0 ≤ (M1 (M1 0 1) 0) ∧ (M1 (M1 0 1) 0) < 24) (lt (upM M1 ((M1 0 1) + 1) (M1 (M1 0 1) 0) (M 703 6)) fun M8 => (f_X4_advance n M8).bind fun q9 => if (M 703 6) ≤ 132 then (ck (isTx (q9 0 1)) (ck (0 ≤ (q9 703 9) ∧ (q9 703 9) < 5) (lt (upM q9 ((q9 0 1) + 5) (q9 703 9) (q9 (q9 0 1) 3)) fun M13 => if (M 703 6) ≠ 132 then (f_X4_readClause_J145 n 3 M13) else (f_X4_readClause_J145 n 0 M13)))) else ((f_X4_readNumbers n (wI ((M 703 6) - 133)) q9).bind fun q26 => if q26.1 ≠ 0 then (f_X4_readClause_J173 n q26.2) else (some (0, q26.2))))) else (lt (f_X4_failBy 6 M1) fun q28 => ck (q28.1 = 0 ∨ q28.1 = 1) (some (q28.1, q28.2)))) else (lt (f_X4_failBy 4 M1) fun q30 => ck (q30.1 = 0 ∨ q30.1 = 1) (some (q30.1, q30.2))))) else (lt (f_X4_failBy 1 M1) fun q32 => ck (q32.1 = 0 ∨ q32.1 = 1) (some (q32.1, q32.2)))
set_option maxRecDepth 100000 in
set_option maxHeartbeats 4000000 in
theorem e_X4_readClause {g : Gm} {d : Nat} {n : Nat} {M N : Mem} {v : Int} {M' : Mem} (hd : 111 ≤ d) (h : f_X4_readClause n M = some (v, M')) : EvM g d mtX4_readClause [vR 703] (sg (mx M N)) (0, 0) (vI v) (sg (mx M' N)) := by
  unfold f_X4_readClause at h
  refine EvM.of mkX4_readClause.2.2.2.1 (Nat.le_of_ble_eq_true rfl) ?_
  change Ev g d mtX4_readClause 0 [(0, vR 703)] [] (sg (mx M N)) (0, 0) (vI v) (sg (mx M' N))
  refine ev_aload_n (pc := 0) 0 dX4_readClause_0 rfl rfl ?_
  refine ev_getIc (pc := 1) fl4_40 rfl dX4_readClause_1 rfl kd_703 (by omega) (by omega) 6 rfl ?_
  refine ev_istore_n (pc := 4) (il' := [(1, vI (M 703 6)), (0, vR 703)]) dX4_readClause_4 rfl (Nat.le_of_ble_eq_true rfl) rfl ?_
  refine ev_aload_n (pc := 5) 1 dX4_readClause_5 rfl rfl ?_
  refine ev_iload_n (pc := 6) 0 dX4_readClause_6 rfl rfl ?_
  refine ev_sipush (pc := 7) (x := 128) dX4_readClause_7 cs_128 ?_
  refine ev_isub (pc := 10) dX4_readClause_10 ?_
  obtain ⟨M1, eM1, h⟩ := lt_some h
  refine ev_putIc (pc := 11) fl4_50 rfl dX4_readClause_11 kd_703 (by omega) (by omega) eM1 ?_
  refine ev_sipush (pc := 14) (x := 128) dX4_readClause_14 cs_128 ?_
  refine ev_iload_n (pc := 17) 0 dX4_readClause_17 rfl rfl ?_
  refine ev_sipush (pc := 18) (x := 139) dX4_readClause_18 cs_139 ?_
  refine ev_cS (pc := 21) [vI 128, vI (M 703 6), vI 139] [] rfl mkX11_isBetween ml4_53 msX11_isBetween dX4_readClause_21 rfl (Nat.le_of_ble_eq_true rfl) (by omega) rfl (e_X11_isBetween (d := d - 1) (v := (f_X11_isBetween 128 (M 703 6) 139)) (by omega)  rfl) ?_
  refine ev_if_ne (pc := 24) (tgt := 33) dX4_readClause_24 (by decide) (fun b2 => ?_) (fun b2 => ?_)
  · rw [if_pos b2] at h
    refine ev_aload_n (pc := 33) 1 dX4_readClause_33 rfl rfl ?_
    obtain ⟨c3, h⟩ := ck_some h
    refine ev_getR (pc := 34) fl4_25 rfl dX4_readClause_34 rfl kd_703 (by omega) (rf_703_4 _ _) ?_
    refine ev_aload_n (pc := 37) 1 dX4_readClause_37 rfl rfl ?_
    refine ev_getIc (pc := 38) fl4_50 rfl dX4_readClause_38 rfl kd_703 (by omega) (by omega) 9 rfl ?_
    obtain ⟨q4, hq4, h⟩ := bd h
    refine ev_cV (pc := 41) [vI (M1 703 9)] [] rfl mkX6_hasLaw ml4_61 mnX6_hasLaw dX4_readClause_41 (tx_k c3) (tx_nz c3) rfl (Nat.le_of_ble_eq_true rfl) (by omega) rfl (e_X6_hasLaw (d := d - 1) (v := q4) (by omega) c3 hq4) ?_
    refine ev_if_eq (pc := 44) (tgt := 53) dX4_readClause_44 (by decide) (fun b5 => ?_) (fun b5 => ?_)
    · rw [if_pos b5] at h
      refine ev_aload_n (pc := 53) 1 dX4_readClause_53 rfl rfl ?_
      refine ev_getR (pc := 54) fl4_25 rfl dX4_readClause_54 rfl kd_703 (by omega) (rf_703_4 _ _) ?_
      refine ev_getIc (pc := 57) fl4_64 rfl dX4_readClause_57 rfl (tx_k c3) (tx_nz c3) (tx_n9 c3) 0 rfl ?_
      refine ev_bipush (pc := 60) (x := 24) dX4_readClause_60 cb_24 ?_
      refine ev_icmp_lt (pc := 62) (tgt := 72) dX4_readClause_62 (by decide) (fun b6 => ?_) (fun b6 => ?_)
      · rw [if_pos b6] at h
        refine ev_aload_n (pc := 72) 1 dX4_readClause_72 rfl rfl ?_
        refine ev_getR (pc := 73) fl4_25 rfl dX4_readClause_73 rfl kd_703 (by omega) (rf_703_4 _ _) ?_
        refine ev_getR (pc := 76) fl4_67 rfl dX4_readClause_76 rfl (tx_k c3) (tx_nz c3) (tx_r1 _ c3) ?_
        refine ev_aload_n (pc := 79) 1 dX4_readClause_79 rfl rfl ?_
        refine ev_getR (pc := 80) fl4_25 rfl dX4_readClause_80 rfl kd_703 (by omega) (rf_703_4 _ _) ?_
        refine ev_getIc (pc := 83) fl4_64 rfl dX4_readClause_83 rfl (tx_k c3) (tx_nz c3) (tx_n9 c3) 0 rfl ?_
        refine ev_iload_n (pc := 86) 0 dX4_readClause_86 rfl rfl ?_
        obtain ⟨c7, h⟩ := ck_some h
        obtain ⟨M8, eM8, h⟩ := lt_some h
        refine ev_istc (pc := 87) dX4_readClause_87 (tx_ak1 c3) (tx_anz1 c3) (tx_a91 c3) c7.1 c7.2 eM8 ?_
        refine ev_aload_n (pc := 88) 1 dX4_readClause_88 rfl rfl ?_
        obtain ⟨q9, hq9, h⟩ := bd h
        refine ev_cV0 (pc := 89) [] [] rfl mkX4_advance ml4_37 mnX4_advance dX4_readClause_89 kd_703 (by omega) rfl (Nat.le_of_ble_eq_true rfl) (by omega) (e_X4_advance (d := d - 1) (M' := q9) (by omega)  hq9) ?_
        refine ev_iload_n (pc := 92) 0 dX4_readClause_92 rfl rfl ?_
        refine ev_sipush (pc := 93) (x := 132) dX4_readClause_93 cs_132 ?_
        refine ev_icmp_le (pc := 96) (tgt := 113) dX4_readClause_96 (by decide) (fun b10 => ?_) (fun b10 => ?_)
        · rw [if_pos b10] at h
          refine ev_aload_n (pc := 113) 1 dX4_readClause_113 rfl rfl ?_
          obtain ⟨c11, h⟩ := ck_some h
          refine ev_getR (pc := 114) fl4_25 rfl dX4_readClause_114 rfl kd_703 (by omega) (rf_703_4 _ _) ?_
          refine ev_getR (pc := 117) fl4_73 rfl dX4_readClause_117 rfl (tx_k c11) (tx_nz c11) (tx_r6 _ c11) ?_
          refine ev_aload_n (pc := 120) 1 dX4_readClause_120 rfl rfl ?_
          refine ev_getIc (pc := 121) fl4_50 rfl dX4_readClause_121 rfl kd_703 (by omega) (by omega) 9 rfl ?_
          refine ev_aload_n (pc := 124) 1 dX4_readClause_124 rfl rfl ?_
          refine ev_getR (pc := 125) fl4_25 rfl dX4_readClause_125 rfl kd_703 (by omega) (rf_703_4 _ _) ?_
          refine ev_getIc (pc := 128) fl4_76 rfl dX4_readClause_128 rfl (tx_k c11) (tx_nz c11) (tx_n9 c11) 3 rfl ?_
          obtain ⟨c12, h⟩ := ck_some h
          obtain ⟨M13, eM13, h⟩ := lt_some h
          refine ev_istc (pc := 131) dX4_readClause_131 (tx_ak6 c11) (tx_anz6 c11) (tx_a96 c11) c12.1 c12.2 eM13 ?_
          refine ev_aload_n (pc := 132) 1 dX4_readClause_132 rfl rfl ?_
          refine ev_iload_n (pc := 133) 0 dX4_readClause_133 rfl rfl ?_
          refine ev_sipush (pc := 134) (x := 132) dX4_readClause_134 cs_132 ?_
          refine ev_icmp_ne (pc := 137) (tgt := 144) dX4_readClause_137 (by decide) (fun b14 => ?_) (fun b14 => ?_)
          · rw [if_pos b14] at h
            refine ev_iconst (pc := 144) (x := 3) dX4_readClause_144 ci_3 ?_
            refine ev_pick [1] rfl ?_
            exact e_X4_readClause_J145 hd  h
          · rw [if_neg b14] at h
            refine ev_iconst (pc := 140) (x := 0) dX4_readClause_140 ci_0 ?_
            refine ev_goto (pc := 141) (tgt := 145) dX4_readClause_141 (by decide) ?_
            refine ev_pick [1] rfl ?_
            exact e_X4_readClause_J145 hd  h
        · rw [if_neg b10] at h
          refine ev_aload_n (pc := 99) 1 dX4_readClause_99 rfl rfl ?_
          refine ev_iload_n (pc := 100) 0 dX4_readClause_100 rfl rfl ?_
          refine ev_sipush (pc := 101) (x := 133) dX4_readClause_101 cs_133 ?_
          refine ev_isub (pc := 104) dX4_readClause_104 ?_
          obtain ⟨q26, hq26, h⟩ := bd h
          refine ev_cV (pc := 105) [vI (wI ((M 703 6) - 133))] [] rfl mkX4_readNumbers ml4_70 mnX4_readNumbers dX4_readClause_105 kd_703 (by omega) rfl (Nat.le_of_ble_eq_true rfl) (by omega) rfl (e_X4_readNumbers (d := d - 1) (v := q26.1) (M' := q26.2) (by omega)  hq26) ?_
          refine ev_if_ne (pc := 108) (tgt := 173) dX4_readClause_108 (by decide) (fun b27 => ?_) (fun b27 => ?_)
          · rw [if_pos b27] at h
            refine ev_pick [1] rfl ?_
            exact e_X4_readClause_J173 hd  h
          · rw [if_neg b27] at h
            refine ev_iconst (pc := 111) (x := 0) dX4_readClause_111 ci_0 ?_
            cases h
            exact ev_zret (pc := 112) (Or.inl rfl) dX4_readClause_112 rfl
      · rw [if_neg b6] at h
        refine ev_aload_n (pc := 65) 1 dX4_readClause_65 rfl rfl ?_
        refine ev_bipush (pc := 66) (x := 6) dX4_readClause_66 cb_6 ?_
        obtain ⟨q28, hq28, h⟩ := lt_some h
        refine ev_cV (pc := 68) [vI 6] [] rfl mkX4_failBy ml4_57 mnX4_failBy dX4_readClause_68 kd_703 (by omega) rfl (Nat.le_of_ble_eq_true rfl) (by omega) rfl (e_X4_failBy (d := d - 1) (v := q28.1) (M' := q28.2) (by omega)  hq28.symm) ?_
        obtain ⟨c29, h⟩ := ck_some h
        cases h
        exact ev_zret (pc := 71) c29 dX4_readClause_71 rfl
    · rw [if_neg b5] at h
      refine ev_aload_n (pc := 47) 1 dX4_readClause_47 rfl rfl ?_
      refine ev_iconst (pc := 48) (x := 4) dX4_readClause_48 ci_4 ?_
      obtain ⟨q30, hq30, h⟩ := lt_some h
      refine ev_cV (pc := 49) [vI 4] [] rfl mkX4_failBy ml4_57 mnX4_failBy dX4_readClause_49 kd_703 (by omega) rfl (Nat.le_of_ble_eq_true rfl) (by omega) rfl (e_X4_failBy (d := d - 1) (v := q30.1) (M' := q30.2) (by omega)  hq30.symm) ?_
      obtain ⟨c31, h⟩ := ck_some h
      cases h
      exact ev_zret (pc := 52) c31 dX4_readClause_52 rfl
  · rw [if_neg b2] at h
    refine ev_aload_n (pc := 27) 1 dX4_readClause_27 rfl rfl ?_
    refine ev_iconst (pc := 28) (x := 1) dX4_readClause_28 ci_1 ?_
    obtain ⟨q32, hq32, h⟩ := lt_some h
    refine ev_cV (pc := 29) [vI 1] [] rfl mkX4_failBy ml4_57 mnX4_failBy dX4_readClause_29 kd_703 (by omega) rfl (Nat.le_of_ble_eq_true rfl) (by omega) rfl (e_X4_failBy (d := d - 1) (v := q32.1) (M' := q32.2) (by omega)  hq32.symm) ?_
    obtain ⟨c33, h⟩ := ck_some h
    cases h
    exact ev_zret (pc := 32) c33 dX4_readClause_32 rfl
def f_X6_empty_L12 : Nat → Int → Int → Mem → Option (Mem)
  | 0, _, _, _ => none
  | n + 1, k, x1, M => if 5 ≤ x1 then (some M) else (ck (0 ≤ x1 ∧ x1 < 5) (lt (upM M (k + 5) x1 0) fun M5 => lt (upM M5 (k + 6) x1 0) fun M6 => f_X6_empty_L12 n k (wI (x1 + 1)) M6))
set_option maxRecDepth 100000 in
set_option maxHeartbeats 4000000 in
theorem e_X6_empty_L12 {g : Gm} {d : Nat} {k : Int} {r : Vv} {σ' : Sg} {N : Mem} (hd : 0 ≤ d) (hk : isTx k) : ∀ (n : Nat) {x1 : Int} {M : Mem} {q : Mem}, f_X6_empty_L12 n k x1 M = some q → Ev g d mtX6_empty 37 [] [] (sg (mx q N)) (0, 0) r σ' → Ev g d mtX6_empty 12 [(0, vR k), (1, vI x1)] [] (sg (mx M N)) (0, 0) r σ' := by
  intro n
  induction n with
  | zero =>
    intro x1 M q h hk0
    rw [f_X6_empty_L12.eq_1] at h
    cases h
  | succ n ih =>
    intro x1 M q h hk0
    rw [f_X6_empty_L12.eq_2] at h
    refine ev_iload_n (pc := 12) 1 dX6_empty_12 rfl rfl ?_
    refine ev_iconst (pc := 13) (x := 5) dX6_empty_13 ci_5 ?_
    refine ev_icmp_ge (pc := 14) (tgt := 37) dX6_empty_14 (by decide) (fun b3 => ?_) (fun b3 => ?_)
    · rw [if_pos b3] at h
      cases h
      refine ev_pick [] rfl ?_
      exact hk0
    · rw [if_neg b3] at h
      refine ev_aload_n (pc := 17) 0 dX6_empty_17 rfl rfl ?_
      refine ev_getR (pc := 18) fl6_24 rfl dX6_empty_18 rfl (tx_k hk) (tx_nz hk) (tx_r6 _ hk) ?_
      refine ev_iload_n (pc := 21) 1 dX6_empty_21 rfl rfl ?_
      refine ev_iconst (pc := 22) (x := 0) dX6_empty_22 ci_0 ?_
      obtain ⟨c4, h⟩ := ck_some h
      obtain ⟨M5, eM5, h⟩ := lt_some h
      refine ev_istc (pc := 23) dX6_empty_23 (tx_ak6 hk) (tx_anz6 hk) (tx_a96 hk) c4.1 c4.2 eM5 ?_
      refine ev_aload_n (pc := 24) 0 dX6_empty_24 rfl rfl ?_
      refine ev_getR (pc := 25) fl6_27 rfl dX6_empty_25 rfl (tx_k hk) (tx_nz hk) (tx_r7 _ hk) ?_
      refine ev_iload_n (pc := 28) 1 dX6_empty_28 rfl rfl ?_
      refine ev_iconst (pc := 29) (x := 0) dX6_empty_29 ci_0 ?_
      obtain ⟨M6, eM6, h⟩ := lt_some h
      refine ev_istc (pc := 30) dX6_empty_30 (tx_ak7 hk) (tx_anz7 hk) (tx_a97 hk) c4.1 c4.2 eM6 ?_
      refine ev_iinc (pc := 31) (il' := [(1, vI (wI (x1 + 1))), (0, vR k)]) 1 dX6_empty_31 rfl (Nat.le_of_ble_eq_true rfl) rfl rfl ?_
      refine ev_goto (pc := 34) (tgt := 12) dX6_empty_34 (by decide) ?_
      refine ev_pick [1, 0] rfl ?_
      exact ih h hk0
def f_X6_empty (n : Nat) (k : Int) (M : Mem) : Option (Mem) := lt (upM M k 0 0) fun M1 => lt (upM M1 k 3 0) fun M2 => (f_X6_empty_L12 n k 0 M2).bind fun q7 => some q7
set_option maxRecDepth 100000 in
set_option maxHeartbeats 4000000 in
theorem e_X6_empty {g : Gm} {d : Nat} {n : Nat} {k : Int} {M N : Mem} {M' : Mem} (hd : 0 ≤ d) (hk : isTx k) (h : f_X6_empty n k M = some M') : EvM g d mtX6_empty [vR k] (sg (mx M N)) (0, 0) vN (sg (mx M' N)) := by
  unfold f_X6_empty at h
  refine EvM.of mkX6_empty.2.2.2.1 (Nat.le_of_ble_eq_true rfl) ?_
  change Ev g d mtX6_empty 0 [(0, vR k)] [] (sg (mx M N)) (0, 0) vN (sg (mx M' N))
  refine ev_aload_n (pc := 0) 0 dX6_empty_0 rfl rfl ?_
  refine ev_iconst (pc := 1) (x := 0) dX6_empty_1 ci_0 ?_
  obtain ⟨M1, eM1, h⟩ := lt_some h
  refine ev_putIc (pc := 2) fl6_30 rfl dX6_empty_2 (tx_k hk) (tx_nz hk) (tx_n9 hk) eM1 ?_
  refine ev_aload_n (pc := 5) 0 dX6_empty_5 rfl rfl ?_
  refine ev_iconst (pc := 6) (x := 0) dX6_empty_6 ci_0 ?_
  obtain ⟨M2, eM2, h⟩ := lt_some h
  refine ev_putIc (pc := 7) fl6_34 rfl dX6_empty_7 (tx_k hk) (tx_nz hk) (tx_n9 hk) eM2 ?_
  refine ev_iconst (pc := 10) (x := 0) dX6_empty_10 ci_0 ?_
  refine ev_istore_n (pc := 11) (il' := [(1, vI 0), (0, vR k)]) dX6_empty_11 rfl (Nat.le_of_ble_eq_true rfl) rfl ?_
  obtain ⟨q7, hq7, h⟩ := bd h
  refine ev_pick [1, 0] rfl ?_
  refine e_X6_empty_L12 hd hk n hq7 ?_
  cases h
  exact ev_vret (pc := 37) dX6_empty_37 rfl
def f_X4_readInto_L35 : Nat → Int → Int → Int → Mem → Option (Int × Mem)
  | 0, _, _, _, _ => none
  | n + 1, p0, x2, x3, M => if 300 < x3 then (some (x2, M)) else (if x2 = 0 then (some (x2, M)) else (if (M 703 6) = 4 then (some (x2, M)) else ((f_X4_readClause n M).bind fun q11 => f_X4_readInto_L35 n p0 q11.1 (wI (x3 + 1)) q11.2)))
set_option maxRecDepth 100000 in
set_option maxHeartbeats 4000000 in
theorem e_X4_readInto_L35 {g : Gm} {d : Nat} {p0 : Int} {r : Vv} {σ' : Sg} {N : Mem} (hd : 112 ≤ d) (hp0 : isTx p0) : ∀ (n : Nat) {x2 x3 : Int} {M : Mem} {q : Int × Mem}, f_X4_readInto_L35 n p0 x2 x3 M = some q → Ev g d mtX4_readInto 65 [(2, vI q.1)] [] (sg (mx q.2 N)) (0, 0) r σ' → Ev g d mtX4_readInto 35 [(0, vR 703), (2, vI x2), (3, vI x3)] [] (sg (mx M N)) (0, 0) r σ' := by
  intro n
  induction n with
  | zero =>
    intro x2 x3 M q h hk0
    rw [f_X4_readInto_L35.eq_1] at h
    cases h
  | succ n ih =>
    intro x2 x3 M q h hk0
    rw [f_X4_readInto_L35.eq_2] at h
    refine ev_iload_n (pc := 35) 2 dX4_readInto_35 rfl rfl ?_
    refine ev_sipush (pc := 36) (x := 300) dX4_readInto_36 cs_300 ?_
    refine ev_icmp_gt (pc := 39) (tgt := 65) dX4_readInto_39 (by decide) (fun b8 => ?_) (fun b8 => ?_)
    · rw [if_pos b8] at h
      cases h
      refine ev_pick [1] rfl ?_
      exact hk0
    · rw [if_neg b8] at h
      refine ev_iload_n (pc := 42) 1 dX4_readInto_42 rfl rfl ?_
      refine ev_if_eq (pc := 43) (tgt := 65) dX4_readInto_43 (by decide) (fun b9 => ?_) (fun b9 => ?_)
      · rw [if_pos b9] at h
        cases h
        refine ev_pick [1] rfl ?_
        exact hk0
      · rw [if_neg b9] at h
        refine ev_aload_n (pc := 46) 0 dX4_readInto_46 rfl rfl ?_
        refine ev_getIc (pc := 47) fl4_40 rfl dX4_readInto_47 rfl kd_703 (by omega) (by omega) 6 rfl ?_
        refine ev_iconst (pc := 50) (x := 4) dX4_readInto_50 ci_4 ?_
        refine ev_icmp_eq (pc := 51) (tgt := 65) dX4_readInto_51 (by decide) (fun b10 => ?_) (fun b10 => ?_)
        · rw [if_pos b10] at h
          cases h
          refine ev_pick [1] rfl ?_
          exact hk0
        · rw [if_neg b10] at h
          refine ev_aload_n (pc := 54) 0 dX4_readInto_54 rfl rfl ?_
          obtain ⟨q11, hq11, h⟩ := bd h
          refine ev_cV (pc := 55) [] [] rfl mkX4_readClause ml4_43 mnX4_readClause dX4_readInto_55 kd_703 (by omega) rfl (Nat.le_of_ble_eq_true rfl) (by omega) rfl (e_X4_readClause (d := d - 1) (v := q11.1) (M' := q11.2) (by omega)  hq11) ?_
          refine ev_istore_n (pc := 58) (il' := [(2, vI q11.1), (0, vR 703), (3, vI x3)]) dX4_readInto_58 rfl (Nat.le_of_ble_eq_true rfl) rfl ?_
          refine ev_iinc (pc := 59) (il' := [(3, vI (wI (x3 + 1))), (2, vI q11.1), (0, vR 703)]) 2 dX4_readInto_59 rfl (Nat.le_of_ble_eq_true rfl) rfl rfl ?_
          refine ev_goto (pc := 62) (tgt := 35) dX4_readInto_62 (by decide) ?_
          refine ev_pick [2, 1, 0] rfl ?_
          exact ih h hk0
def f_X4_readInto (n : Nat) (p0 : Int) (M : Mem) : Option (Int × Mem) := lt (upM M 0 1 p0) fun M1 => ck (isTx (M1 0 1)) ((f_X6_empty n (M1 0 1) M1).bind fun q3 => lt (upM q3 703 2 0) fun M4 => lt (upM M4 703 3 (-1)) fun M5 => lt (upM M5 703 5 0) fun M6 => (f_X4_advance n M6).bind fun q7 => (f_X4_readInto_L35 n p0 1 0 q7).bind fun q12 => ck (q12.1 = 0 ∨ q12.1 = 1) (some (q12.1, q12.2)))
set_option maxRecDepth 100000 in
set_option maxHeartbeats 4000000 in
theorem e_X4_readInto {g : Gm} {d : Nat} {n : Nat} {p0 : Int} {M N : Mem} {v : Int} {M' : Mem} (hd : 112 ≤ d) (hp0 : isTx p0) (h : f_X4_readInto n p0 M = some (v, M')) : EvM g d mtX4_readInto [vR 703, vR p0] (sg (mx M N)) (0, 0) (vI v) (sg (mx M' N)) := by
  unfold f_X4_readInto at h
  refine EvM.of mkX4_readInto.2.2.2.1 (Nat.le_of_ble_eq_true rfl) ?_
  change Ev g d mtX4_readInto 0 [(0, vR 703), (1, vR p0)] [] (sg (mx M N)) (0, 0) (vI v) (sg (mx M' N))
  refine ev_aload_n (pc := 0) 0 dX4_readInto_0 rfl rfl ?_
  refine ev_aload_n (pc := 1) 1 dX4_readInto_1 rfl rfl ?_
  obtain ⟨M1, eM1, h⟩ := lt_some h
  refine ev_putTx (pc := 2) fl4_25 rfl rfl dX4_readInto_2 kd_703 eM1 ?_
  refine ev_aload_n (pc := 5) 0 dX4_readInto_5 rfl rfl ?_
  obtain ⟨c2, h⟩ := ck_some h
  refine ev_getR (pc := 6) fl4_25 rfl dX4_readInto_6 rfl kd_703 (by omega) (rf_703_4 _ _) ?_
  obtain ⟨q3, hq3, h⟩ := bd h
  refine ev_cV0 (pc := 9) [] [] rfl mkX6_empty ml4_29 mnX6_empty dX4_readInto_9 (tx_k c2) (tx_nz c2) rfl (Nat.le_of_ble_eq_true rfl) (by omega) (e_X6_empty (d := d - 1) (M' := q3) (by omega) c2 hq3) ?_
  refine ev_aload_n (pc := 12) 0 dX4_readInto_12 rfl rfl ?_
  refine ev_iconst (pc := 13) (x := 0) dX4_readInto_13 ci_0 ?_
  obtain ⟨M4, eM4, h⟩ := lt_some h
  refine ev_putIc (pc := 14) fl4_15 rfl dX4_readInto_14 kd_703 (by omega) (by omega) eM4 ?_
  refine ev_aload_n (pc := 17) 0 dX4_readInto_17 rfl rfl ?_
  refine ev_iconst (pc := 18) (x := (-1)) dX4_readInto_18 ci_m1 ?_
  obtain ⟨M5, eM5, h⟩ := lt_some h
  refine ev_putIc (pc := 19) fl4_19 rfl dX4_readInto_19 kd_703 (by omega) (by omega) eM5 ?_
  refine ev_aload_n (pc := 22) 0 dX4_readInto_22 rfl rfl ?_
  refine ev_iconst (pc := 23) (x := 0) dX4_readInto_23 ci_0 ?_
  obtain ⟨M6, eM6, h⟩ := lt_some h
  refine ev_putIc (pc := 24) fl4_34 rfl dX4_readInto_24 kd_703 (by omega) (by omega) eM6 ?_
  refine ev_aload_n (pc := 27) 0 dX4_readInto_27 rfl rfl ?_
  obtain ⟨q7, hq7, h⟩ := bd h
  refine ev_cV0 (pc := 28) [] [] rfl mkX4_advance ml4_37 mnX4_advance dX4_readInto_28 kd_703 (by omega) rfl (Nat.le_of_ble_eq_true rfl) (by omega) (e_X4_advance (d := d - 1) (M' := q7) (by omega)  hq7) ?_
  refine ev_iconst (pc := 31) (x := 1) dX4_readInto_31 ci_1 ?_
  refine ev_istore_n (pc := 32) (il' := [(2, vI 1), (0, vR 703), (1, vR p0)]) dX4_readInto_32 rfl (Nat.le_of_ble_eq_true rfl) rfl ?_
  refine ev_iconst (pc := 33) (x := 0) dX4_readInto_33 ci_0 ?_
  refine ev_istore_n (pc := 34) (il' := [(3, vI 0), (2, vI 1), (0, vR 703), (1, vR p0)]) dX4_readInto_34 rfl (Nat.le_of_ble_eq_true rfl) rfl ?_
  obtain ⟨q12, hq12, h⟩ := bd h
  refine ev_pick [2, 1, 0] rfl ?_
  refine e_X4_readInto_L35 hd hp0 n hq12 ?_
  refine ev_iload_n (pc := 65) 0 dX4_readInto_65 rfl rfl ?_
  obtain ⟨c13, h⟩ := ck_some h
  cases h
  exact ev_zret (pc := 66) c13 dX4_readInto_66 rfl
def f_X5_addStep (k p0 p1 p2 p3 : Int) (M : Mem) : Option (Int × Mem) := if (M k 0) < 9 then (ck (0 ≤ (M k 0) ∧ (M k 0) < 9) (lt (upM M (k + 1) (M k 0) p0) fun M3 => ck (0 ≤ (M3 k 0) ∧ (M3 k 0) < 9) (lt (upM M3 (k + 2) (M3 k 0) p1) fun M5 => ck (0 ≤ (M5 k 0) ∧ (M5 k 0) < 9) (lt (upM M5 (k + 3) (M5 k 0) p2) fun M7 => ck (0 ≤ (M7 k 0) ∧ (M7 k 0) < 9) (lt (upM M7 (k + 4) (M7 k 0) p3) fun M9 => ck (0 ≤ (M9 k 0) ∧ (M9 k 0) < 9) (lt (upM M9 (k + 5) (M9 k 0) 0) fun M11 => lt (upM M11 k 0 (wI ((M11 k 0) + 1))) fun M12 => some ((wI ((M12 k 0) - 1)), M12))))))) else (some ((-1), M))
set_option maxRecDepth 100000 in
set_option maxHeartbeats 4000000 in
theorem e_X5_addStep {g : Gm} {d : Nat} {k p0 p1 p2 p3 : Int} {M N : Mem} {v : Int} {M' : Mem} (hd : 0 ≤ d) (hk : isSea k) (h : f_X5_addStep k p0 p1 p2 p3 M = some (v, M')) : EvM g d mtX5_addStep [vR k, vI p0, vI p1, vI p2, vI p3] (sg (mx M N)) (0, 0) (vI v) (sg (mx M' N)) := by
  unfold f_X5_addStep at h
  refine EvM.of mkX5_addStep.2.2.2.1 (Nat.le_of_ble_eq_true rfl) ?_
  change Ev g d mtX5_addStep 0 [(0, vR k), (1, vI p0), (2, vI p1), (3, vI p2), (4, vI p3)] [] (sg (mx M N)) (0, 0) (vI v) (sg (mx M' N))
  refine ev_aload_n (pc := 0) 0 dX5_addStep_0 rfl rfl ?_
  refine ev_getIc (pc := 1) fl5_46 rfl dX5_addStep_1 rfl (sea_k hk) (sea_nz hk) (sea_n9 hk) 0 rfl ?_
  refine ev_bipush (pc := 4) (x := 9) dX5_addStep_4 cb_9 ?_
  refine ev_icmp_lt (pc := 6) (tgt := 11) dX5_addStep_6 (by decide) (fun b1 => ?_) (fun b1 => ?_)
  · rw [if_pos b1] at h
    refine ev_aload_n (pc := 11) 0 dX5_addStep_11 rfl rfl ?_
    refine ev_getR (pc := 12) fl5_9 rfl dX5_addStep_12 rfl (sea_k hk) (sea_nz hk) (sea_r1 _ hk) ?_
    refine ev_aload_n (pc := 15) 0 dX5_addStep_15 rfl rfl ?_
    refine ev_getIc (pc := 16) fl5_46 rfl dX5_addStep_16 rfl (sea_k hk) (sea_nz hk) (sea_n9 hk) 0 rfl ?_
    refine ev_iload_n (pc := 19) 1 dX5_addStep_19 rfl rfl ?_
    obtain ⟨c2, h⟩ := ck_some h
    obtain ⟨M3, eM3, h⟩ := lt_some h
    refine ev_istc (pc := 20) dX5_addStep_20 (sea_ak1 hk) (sea_anz1 hk) (sea_a91 hk) c2.1 c2.2 eM3 ?_
    refine ev_aload_n (pc := 21) 0 dX5_addStep_21 rfl rfl ?_
    refine ev_getR (pc := 22) fl5_15 rfl dX5_addStep_22 rfl (sea_k hk) (sea_nz hk) (sea_r2 _ hk) ?_
    refine ev_aload_n (pc := 25) 0 dX5_addStep_25 rfl rfl ?_
    refine ev_getIc (pc := 26) fl5_46 rfl dX5_addStep_26 rfl (sea_k hk) (sea_nz hk) (sea_n9 hk) 0 rfl ?_
    refine ev_iload_n (pc := 29) 2 dX5_addStep_29 rfl rfl ?_
    obtain ⟨c4, h⟩ := ck_some h
    obtain ⟨M5, eM5, h⟩ := lt_some h
    refine ev_istc (pc := 30) dX5_addStep_30 (sea_ak2 hk) (sea_anz2 hk) (sea_a92 hk) c4.1 c4.2 eM5 ?_
    refine ev_aload_n (pc := 31) 0 dX5_addStep_31 rfl rfl ?_
    refine ev_getR (pc := 32) fl5_18 rfl dX5_addStep_32 rfl (sea_k hk) (sea_nz hk) (sea_r3 _ hk) ?_
    refine ev_aload_n (pc := 35) 0 dX5_addStep_35 rfl rfl ?_
    refine ev_getIc (pc := 36) fl5_46 rfl dX5_addStep_36 rfl (sea_k hk) (sea_nz hk) (sea_n9 hk) 0 rfl ?_
    refine ev_iload_n (pc := 39) 3 dX5_addStep_39 rfl rfl ?_
    obtain ⟨c6, h⟩ := ck_some h
    obtain ⟨M7, eM7, h⟩ := lt_some h
    refine ev_istc (pc := 40) dX5_addStep_40 (sea_ak3 hk) (sea_anz3 hk) (sea_a93 hk) c6.1 c6.2 eM7 ?_
    refine ev_aload_n (pc := 41) 0 dX5_addStep_41 rfl rfl ?_
    refine ev_getR (pc := 42) fl5_21 rfl dX5_addStep_42 rfl (sea_k hk) (sea_nz hk) (sea_r4 _ hk) ?_
    refine ev_aload_n (pc := 45) 0 dX5_addStep_45 rfl rfl ?_
    refine ev_getIc (pc := 46) fl5_46 rfl dX5_addStep_46 rfl (sea_k hk) (sea_nz hk) (sea_n9 hk) 0 rfl ?_
    refine ev_iload (pc := 49) 4 dX5_addStep_49 rfl ?_
    obtain ⟨c8, h⟩ := ck_some h
    obtain ⟨M9, eM9, h⟩ := lt_some h
    refine ev_istc (pc := 51) dX5_addStep_51 (sea_ak4 hk) (sea_anz4 hk) (sea_a94 hk) c8.1 c8.2 eM9 ?_
    refine ev_aload_n (pc := 52) 0 dX5_addStep_52 rfl rfl ?_
    refine ev_getR (pc := 53) fl5_24 rfl dX5_addStep_53 rfl (sea_k hk) (sea_nz hk) (sea_r5 _ hk) ?_
    refine ev_aload_n (pc := 56) 0 dX5_addStep_56 rfl rfl ?_
    refine ev_getIc (pc := 57) fl5_46 rfl dX5_addStep_57 rfl (sea_k hk) (sea_nz hk) (sea_n9 hk) 0 rfl ?_
    refine ev_iconst (pc := 60) (x := 0) dX5_addStep_60 ci_0 ?_
    obtain ⟨c10, h⟩ := ck_some h
    obtain ⟨M11, eM11, h⟩ := lt_some h
    refine ev_istc (pc := 61) dX5_addStep_61 (sea_ak5 hk) (sea_anz5 hk) (sea_a95 hk) c10.1 c10.2 eM11 ?_
    refine ev_aload_n (pc := 62) 0 dX5_addStep_62 rfl rfl ?_
    refine ev_dup (pc := 63) rfl dX5_addStep_63 ?_
    refine ev_getIc (pc := 64) fl5_46 rfl dX5_addStep_64 rfl (sea_k hk) (sea_nz hk) (sea_n9 hk) 0 rfl ?_
    refine ev_iconst (pc := 67) (x := 1) dX5_addStep_67 ci_1 ?_
    refine ev_iadd (pc := 68) dX5_addStep_68 ?_
    obtain ⟨M12, eM12, h⟩ := lt_some h
    refine ev_putIc (pc := 69) fl5_46 rfl dX5_addStep_69 (sea_k hk) (sea_nz hk) (sea_n9 hk) eM12 ?_
    refine ev_aload_n (pc := 72) 0 dX5_addStep_72 rfl rfl ?_
    refine ev_getIc (pc := 73) fl5_46 rfl dX5_addStep_73 rfl (sea_k hk) (sea_nz hk) (sea_n9 hk) 0 rfl ?_
    refine ev_iconst (pc := 76) (x := 1) dX5_addStep_76 ci_1 ?_
    refine ev_isub (pc := 77) dX5_addStep_77 ?_
    cases h
    exact ev_iret (pc := 78) dX5_addStep_78 rfl
  · rw [if_neg b1] at h
    refine ev_iconst (pc := 9) (x := (-1)) dX5_addStep_9 ci_m1 ?_
    cases h
    exact ev_iret (pc := 10) dX5_addStep_10 rfl
def f_X5_addShip (k p0 p1 p2 : Int) (M : Mem) : Option (Int × Mem) := if (M k 6) < 7 then (ck (0 ≤ (M k 6) ∧ (M k 6) < 7) (lt (upM M (k + 6) (M k 6) p0) fun M3 => ck (0 ≤ (M3 k 6) ∧ (M3 k 6) < 7) (lt (upM M3 (k + 7) (M3 k 6) p1) fun M5 => ck (0 ≤ (M5 k 6) ∧ (M5 k 6) < 7) (lt (upM M5 (k + 8) (M5 k 6) p2) fun M7 => ck (0 ≤ (M7 k 6) ∧ (M7 k 6) < 7) (lt (upM M7 (k + 9) (M7 k 6) 0) fun M9 => lt (upM M9 k 6 (wI ((M9 k 6) + 1))) fun M10 => some ((wI ((M10 k 6) - 1)), M10)))))) else (some ((-1), M))
set_option maxRecDepth 100000 in
set_option maxHeartbeats 4000000 in
theorem e_X5_addShip {g : Gm} {d : Nat} {k p0 p1 p2 : Int} {M N : Mem} {v : Int} {M' : Mem} (hd : 0 ≤ d) (hk : isSea k) (h : f_X5_addShip k p0 p1 p2 M = some (v, M')) : EvM g d mtX5_addShip [vR k, vI p0, vI p1, vI p2] (sg (mx M N)) (0, 0) (vI v) (sg (mx M' N)) := by
  unfold f_X5_addShip at h
  refine EvM.of mkX5_addShip.2.2.2.1 (Nat.le_of_ble_eq_true rfl) ?_
  change Ev g d mtX5_addShip 0 [(0, vR k), (1, vI p0), (2, vI p1), (3, vI p2)] [] (sg (mx M N)) (0, 0) (vI v) (sg (mx M' N))
  refine ev_aload_n (pc := 0) 0 dX5_addShip_0 rfl rfl ?_
  refine ev_getIc (pc := 1) fl5_49 rfl dX5_addShip_1 rfl (sea_k hk) (sea_nz hk) (sea_n9 hk) 6 rfl ?_
  refine ev_bipush (pc := 4) (x := 7) dX5_addShip_4 cb_7 ?_
  refine ev_icmp_lt (pc := 6) (tgt := 11) dX5_addShip_6 (by decide) (fun b1 => ?_) (fun b1 => ?_)
  · rw [if_pos b1] at h
    refine ev_aload_n (pc := 11) 0 dX5_addShip_11 rfl rfl ?_
    refine ev_getR (pc := 12) fl5_27 rfl dX5_addShip_12 rfl (sea_k hk) (sea_nz hk) (sea_r7 _ hk) ?_
    refine ev_aload_n (pc := 15) 0 dX5_addShip_15 rfl rfl ?_
    refine ev_getIc (pc := 16) fl5_49 rfl dX5_addShip_16 rfl (sea_k hk) (sea_nz hk) (sea_n9 hk) 6 rfl ?_
    refine ev_iload_n (pc := 19) 1 dX5_addShip_19 rfl rfl ?_
    obtain ⟨c2, h⟩ := ck_some h
    obtain ⟨M3, eM3, h⟩ := lt_some h
    refine ev_istc (pc := 20) dX5_addShip_20 (sea_ak7 hk) (sea_anz7 hk) (sea_a97 hk) c2.1 c2.2 eM3 ?_
    refine ev_aload_n (pc := 21) 0 dX5_addShip_21 rfl rfl ?_
    refine ev_getR (pc := 22) fl5_30 rfl dX5_addShip_22 rfl (sea_k hk) (sea_nz hk) (sea_r8 _ hk) ?_
    refine ev_aload_n (pc := 25) 0 dX5_addShip_25 rfl rfl ?_
    refine ev_getIc (pc := 26) fl5_49 rfl dX5_addShip_26 rfl (sea_k hk) (sea_nz hk) (sea_n9 hk) 6 rfl ?_
    refine ev_iload_n (pc := 29) 2 dX5_addShip_29 rfl rfl ?_
    obtain ⟨c4, h⟩ := ck_some h
    obtain ⟨M5, eM5, h⟩ := lt_some h
    refine ev_istc (pc := 30) dX5_addShip_30 (sea_ak8 hk) (sea_anz8 hk) (sea_a98 hk) c4.1 c4.2 eM5 ?_
    refine ev_aload_n (pc := 31) 0 dX5_addShip_31 rfl rfl ?_
    refine ev_getR (pc := 32) fl5_33 rfl dX5_addShip_32 rfl (sea_k hk) (sea_nz hk) (sea_r9 _ hk) ?_
    refine ev_aload_n (pc := 35) 0 dX5_addShip_35 rfl rfl ?_
    refine ev_getIc (pc := 36) fl5_49 rfl dX5_addShip_36 rfl (sea_k hk) (sea_nz hk) (sea_n9 hk) 6 rfl ?_
    refine ev_iload_n (pc := 39) 3 dX5_addShip_39 rfl rfl ?_
    obtain ⟨c6, h⟩ := ck_some h
    obtain ⟨M7, eM7, h⟩ := lt_some h
    refine ev_istc (pc := 40) dX5_addShip_40 (sea_ak9 hk) (sea_anz9 hk) (sea_a99 hk) c6.1 c6.2 eM7 ?_
    refine ev_aload_n (pc := 41) 0 dX5_addShip_41 rfl rfl ?_
    refine ev_getR (pc := 42) fl5_36 rfl dX5_addShip_42 rfl (sea_k hk) (sea_nz hk) (sea_r10 _ hk) ?_
    refine ev_aload_n (pc := 45) 0 dX5_addShip_45 rfl rfl ?_
    refine ev_getIc (pc := 46) fl5_49 rfl dX5_addShip_46 rfl (sea_k hk) (sea_nz hk) (sea_n9 hk) 6 rfl ?_
    refine ev_iconst (pc := 49) (x := 0) dX5_addShip_49 ci_0 ?_
    obtain ⟨c8, h⟩ := ck_some h
    obtain ⟨M9, eM9, h⟩ := lt_some h
    refine ev_istc (pc := 50) dX5_addShip_50 (sea_ak10 hk) (sea_anz10 hk) (sea_a910 hk) c8.1 c8.2 eM9 ?_
    refine ev_aload_n (pc := 51) 0 dX5_addShip_51 rfl rfl ?_
    refine ev_dup (pc := 52) rfl dX5_addShip_52 ?_
    refine ev_getIc (pc := 53) fl5_49 rfl dX5_addShip_53 rfl (sea_k hk) (sea_nz hk) (sea_n9 hk) 6 rfl ?_
    refine ev_iconst (pc := 56) (x := 1) dX5_addShip_56 ci_1 ?_
    refine ev_iadd (pc := 57) dX5_addShip_57 ?_
    obtain ⟨M10, eM10, h⟩ := lt_some h
    refine ev_putIc (pc := 58) fl5_49 rfl dX5_addShip_58 (sea_k hk) (sea_nz hk) (sea_n9 hk) eM10 ?_
    refine ev_aload_n (pc := 61) 0 dX5_addShip_61 rfl rfl ?_
    refine ev_getIc (pc := 62) fl5_49 rfl dX5_addShip_62 rfl (sea_k hk) (sea_nz hk) (sea_n9 hk) 6 rfl ?_
    refine ev_iconst (pc := 65) (x := 1) dX5_addShip_65 ci_1 ?_
    refine ev_isub (pc := 66) dX5_addShip_66 ?_
    cases h
    exact ev_iret (pc := 67) dX5_addShip_67 rfl
  · rw [if_neg b1] at h
    refine ev_iconst (pc := 9) (x := (-1)) dX5_addShip_9 ci_m1 ?_
    cases h
    exact ev_iret (pc := 10) dX5_addShip_10 rfl
def f_X5_addWater (k p0 p1 : Int) (M : Mem) : Option (Mem) := ck (0 ≤ p0 ∧ p0 < 9) (lt (upM M (k + 3) p0 (min 999 (wI ((M (k + 3) p0) + p1)))) fun M2 => some M2)
set_option maxRecDepth 100000 in
set_option maxHeartbeats 4000000 in
theorem e_X5_addWater {g : Gm} {d : Nat} {k p0 p1 : Int} {M N : Mem} {M' : Mem} (hd : 1 ≤ d) (hk : isSea k) (h : f_X5_addWater k p0 p1 M = some M') : EvM g d mtX5_addWater [vR k, vI p0, vI p1] (sg (mx M N)) (0, 0) vN (sg (mx M' N)) := by
  unfold f_X5_addWater at h
  refine EvM.of mkX5_addWater.2.2.2.1 (Nat.le_of_ble_eq_true rfl) ?_
  change Ev g d mtX5_addWater 0 [(0, vR k), (1, vI p0), (2, vI p1)] [] (sg (mx M N)) (0, 0) vN (sg (mx M' N))
  refine ev_aload_n (pc := 0) 0 dX5_addWater_0 rfl rfl ?_
  refine ev_getR (pc := 1) fl5_18 rfl dX5_addWater_1 rfl (sea_k hk) (sea_nz hk) (sea_r3 _ hk) ?_
  refine ev_iload_n (pc := 4) 1 dX5_addWater_4 rfl rfl ?_
  refine ev_sipush (pc := 5) (x := 999) dX5_addWater_5 cs_999 ?_
  refine ev_aload_n (pc := 8) 0 dX5_addWater_8 rfl rfl ?_
  refine ev_getR (pc := 9) fl5_18 rfl dX5_addWater_9 rfl (sea_k hk) (sea_nz hk) (sea_r3 _ hk) ?_
  refine ev_iload_n (pc := 12) 1 dX5_addWater_12 rfl rfl ?_
  obtain ⟨c1, h⟩ := ck_some h
  refine ev_ildc (pc := 13) dX5_addWater_13 (sea_ak3 hk) (sea_anz3 hk) (sea_a93 hk) c1.1 c1.2 ?_
  refine ev_iload_n (pc := 14) 2 dX5_addWater_14 rfl rfl ?_
  refine ev_iadd (pc := 15) dX5_addWater_15 ?_
  refine ev_min (pc := 16) rfl mm5_74 (Nat.le_of_ble_eq_true rfl) (by omega) dX5_addWater_16 ?_
  obtain ⟨M2, eM2, h⟩ := lt_some h
  refine ev_istc (pc := 19) dX5_addWater_19 (sea_ak3 hk) (sea_anz3 hk) (sea_a93 hk) c1.1 c1.2 eM2 ?_
  cases h
  exact ev_vret (pc := 20) dX5_addWater_20 rfl
def f_X5_shipsOn_L4 : Nat → Int → Int → Int → Int → Mem → Option (Int)
  | 0, _, _, _, _, _ => none
  | n + 1, k, x1, x2, x3, M => if (M k 6) ≤ x3 then (some x2) else (ck (0 ≤ x3 ∧ x3 < 7) (if (M (k + 7) x3) ≠ x1 then (f_X5_shipsOn_L4 n k x1 x2 (wI (x3 + 1)) M) else (f_X5_shipsOn_L4 n k x1 (bOr x2 (bShl 1 x3)) (wI (x3 + 1)) M)))
set_option maxRecDepth 100000 in
set_option maxHeartbeats 4000000 in
theorem e_X5_shipsOn_L4 {g : Gm} {d : Nat} {k : Int} {x1 : Int} {r : Vv} {σ' : Sg} {M N : Mem} (hd : 0 ≤ d) (hk : isSea k) : ∀ (n : Nat) {x2 x3 : Int} {q : Int}, f_X5_shipsOn_L4 n k x1 x2 x3 M = some q → Ev g d mtX5_shipsOn 34 [(2, vI q)] [] (sg (mx M N)) (0, 0) r σ' → Ev g d mtX5_shipsOn 4 [(0, vR k), (1, vI x1), (2, vI x2), (3, vI x3)] [] (sg (mx M N)) (0, 0) r σ' := by
  intro n
  induction n with
  | zero =>
    intro x2 x3 q h hk0
    rw [f_X5_shipsOn_L4.eq_1] at h
    cases h
  | succ n ih =>
    intro x2 x3 q h hk0
    rw [f_X5_shipsOn_L4.eq_2] at h
    refine ev_iload_n (pc := 4) 3 dX5_shipsOn_4 rfl rfl ?_
    refine ev_aload_n (pc := 5) 0 dX5_shipsOn_5 rfl rfl ?_
    refine ev_getIc (pc := 6) fl5_49 rfl dX5_shipsOn_6 rfl (sea_k hk) (sea_nz hk) (sea_n9 hk) 6 rfl ?_
    refine ev_icmp_ge (pc := 9) (tgt := 34) dX5_shipsOn_9 (by decide) (fun b1 => ?_) (fun b1 => ?_)
    · rw [if_pos b1] at h
      cases h
      refine ev_pick [2] rfl ?_
      exact hk0
    · rw [if_neg b1] at h
      refine ev_aload_n (pc := 12) 0 dX5_shipsOn_12 rfl rfl ?_
      refine ev_getR (pc := 13) fl5_30 rfl dX5_shipsOn_13 rfl (sea_k hk) (sea_nz hk) (sea_r8 _ hk) ?_
      refine ev_iload_n (pc := 16) 3 dX5_shipsOn_16 rfl rfl ?_
      obtain ⟨c2, h⟩ := ck_some h
      refine ev_ildc (pc := 17) dX5_shipsOn_17 (sea_ak8 hk) (sea_anz8 hk) (sea_a98 hk) c2.1 c2.2 ?_
      refine ev_iload_n (pc := 18) 1 dX5_shipsOn_18 rfl rfl ?_
      refine ev_icmp_ne (pc := 19) (tgt := 28) dX5_shipsOn_19 (by decide) (fun b3 => ?_) (fun b3 => ?_)
      · rw [if_pos b3] at h
        refine ev_iinc (pc := 28) (il' := [(3, vI (wI (x3 + 1))), (0, vR k), (1, vI x1), (2, vI x2)]) 3 dX5_shipsOn_28 rfl (Nat.le_of_ble_eq_true rfl) rfl rfl ?_
        refine ev_goto (pc := 31) (tgt := 4) dX5_shipsOn_31 (by decide) ?_
        refine ev_pick [1, 2, 3, 0] rfl ?_
        exact ih h hk0
      · rw [if_neg b3] at h
        refine ev_iload_n (pc := 22) 2 dX5_shipsOn_22 rfl rfl ?_
        refine ev_iconst (pc := 23) (x := 1) dX5_shipsOn_23 ci_1 ?_
        refine ev_iload_n (pc := 24) 3 dX5_shipsOn_24 rfl rfl ?_
        refine ev_ishl (pc := 25) dX5_shipsOn_25 ?_
        refine ev_ior (pc := 26) dX5_shipsOn_26 ?_
        refine ev_istore_n (pc := 27) (il' := [(2, vI (bOr x2 (bShl 1 x3))), (0, vR k), (1, vI x1), (3, vI x3)]) dX5_shipsOn_27 rfl (Nat.le_of_ble_eq_true rfl) rfl ?_
        refine ev_iinc (pc := 28) (il' := [(3, vI (wI (x3 + 1))), (2, vI (bOr x2 (bShl 1 x3))), (0, vR k), (1, vI x1)]) 3 dX5_shipsOn_28 rfl (Nat.le_of_ble_eq_true rfl) rfl rfl ?_
        refine ev_goto (pc := 31) (tgt := 4) dX5_shipsOn_31 (by decide) ?_
        refine ev_pick [2, 3, 1, 0] rfl ?_
        exact ih h hk0
def f_X5_shipsOn (n : Nat) (k p0 : Int) (M : Mem) : Option (Int) := (f_X5_shipsOn_L4 n k p0 0 0 M).bind fun q4 => some q4
set_option maxRecDepth 100000 in
set_option maxHeartbeats 4000000 in
theorem e_X5_shipsOn {g : Gm} {d : Nat} {n : Nat} {k p0 : Int} {M N : Mem} {v : Int} (hd : 0 ≤ d) (hk : isSea k) (h : f_X5_shipsOn n k p0 M = some v) : EvM g d mtX5_shipsOn [vR k, vI p0] (sg (mx M N)) (0, 0) (vI v) (sg (mx M N)) := by
  unfold f_X5_shipsOn at h
  refine EvM.of mkX5_shipsOn.2.2.2.1 (Nat.le_of_ble_eq_true rfl) ?_
  change Ev g d mtX5_shipsOn 0 [(0, vR k), (1, vI p0)] [] (sg (mx M N)) (0, 0) (vI v) (sg (mx M N))
  refine ev_iconst (pc := 0) (x := 0) dX5_shipsOn_0 ci_0 ?_
  refine ev_istore_n (pc := 1) (il' := [(2, vI 0), (0, vR k), (1, vI p0)]) dX5_shipsOn_1 rfl (Nat.le_of_ble_eq_true rfl) rfl ?_
  refine ev_iconst (pc := 2) (x := 0) dX5_shipsOn_2 ci_0 ?_
  refine ev_istore_n (pc := 3) (il' := [(3, vI 0), (2, vI 0), (0, vR k), (1, vI p0)]) dX5_shipsOn_3 rfl (Nat.le_of_ble_eq_true rfl) rfl ?_
  obtain ⟨q4, hq4, h⟩ := bd h
  refine ev_pick [2, 3, 1, 0] rfl ?_
  refine e_X5_shipsOn_L4 hd hk n hq4 ?_
  refine ev_iload_n (pc := 34) 0 dX5_shipsOn_34 rfl rfl ?_
  cases h
  exact ev_iret (pc := 35) dX5_shipsOn_35 rfl
def f_X5_onGoals_L4 : Nat → Int → Int → Int → Mem → Option (Int)
  | 0, _, _, _, _ => none
  | n + 1, k, x1, x2, M => if (M k 6) ≤ x2 then (some x1) else (ck (0 ≤ x2 ∧ x2 < 7) (if (M (k + 7) x2) ≠ (M (k + 8) x2) then (f_X5_onGoals_L4 n k x1 (wI (x2 + 1)) M) else (f_X5_onGoals_L4 n k (bOr x1 (bShl 1 x2)) (wI (x2 + 1)) M)))
set_option maxRecDepth 100000 in
set_option maxHeartbeats 4000000 in
theorem e_X5_onGoals_L4 {g : Gm} {d : Nat} {k : Int} {r : Vv} {σ' : Sg} {M N : Mem} (hd : 0 ≤ d) (hk : isSea k) : ∀ (n : Nat) {x1 x2 : Int} {q : Int}, f_X5_onGoals_L4 n k x1 x2 M = some q → Ev g d mtX5_onGoals 39 [(1, vI q)] [] (sg (mx M N)) (0, 0) r σ' → Ev g d mtX5_onGoals 4 [(0, vR k), (1, vI x1), (2, vI x2)] [] (sg (mx M N)) (0, 0) r σ' := by
  intro n
  induction n with
  | zero =>
    intro x1 x2 q h hk0
    rw [f_X5_onGoals_L4.eq_1] at h
    cases h
  | succ n ih =>
    intro x1 x2 q h hk0
    rw [f_X5_onGoals_L4.eq_2] at h
    refine ev_iload_n (pc := 4) 2 dX5_onGoals_4 rfl rfl ?_
    refine ev_aload_n (pc := 5) 0 dX5_onGoals_5 rfl rfl ?_
    refine ev_getIc (pc := 6) fl5_49 rfl dX5_onGoals_6 rfl (sea_k hk) (sea_nz hk) (sea_n9 hk) 6 rfl ?_
    refine ev_icmp_ge (pc := 9) (tgt := 39) dX5_onGoals_9 (by decide) (fun b1 => ?_) (fun b1 => ?_)
    · rw [if_pos b1] at h
      cases h
      refine ev_pick [1] rfl ?_
      exact hk0
    · rw [if_neg b1] at h
      refine ev_aload_n (pc := 12) 0 dX5_onGoals_12 rfl rfl ?_
      refine ev_getR (pc := 13) fl5_30 rfl dX5_onGoals_13 rfl (sea_k hk) (sea_nz hk) (sea_r8 _ hk) ?_
      refine ev_iload_n (pc := 16) 2 dX5_onGoals_16 rfl rfl ?_
      obtain ⟨c2, h⟩ := ck_some h
      refine ev_ildc (pc := 17) dX5_onGoals_17 (sea_ak8 hk) (sea_anz8 hk) (sea_a98 hk) c2.1 c2.2 ?_
      refine ev_aload_n (pc := 18) 0 dX5_onGoals_18 rfl rfl ?_
      refine ev_getR (pc := 19) fl5_33 rfl dX5_onGoals_19 rfl (sea_k hk) (sea_nz hk) (sea_r9 _ hk) ?_
      refine ev_iload_n (pc := 22) 2 dX5_onGoals_22 rfl rfl ?_
      refine ev_ildc (pc := 23) dX5_onGoals_23 (sea_ak9 hk) (sea_anz9 hk) (sea_a99 hk) c2.1 c2.2 ?_
      refine ev_icmp_ne (pc := 24) (tgt := 33) dX5_onGoals_24 (by decide) (fun b3 => ?_) (fun b3 => ?_)
      · rw [if_pos b3] at h
        refine ev_iinc (pc := 33) (il' := [(2, vI (wI (x2 + 1))), (0, vR k), (1, vI x1)]) 2 dX5_onGoals_33 rfl (Nat.le_of_ble_eq_true rfl) rfl rfl ?_
        refine ev_goto (pc := 36) (tgt := 4) dX5_onGoals_36 (by decide) ?_
        refine ev_pick [1, 2, 0] rfl ?_
        exact ih h hk0
      · rw [if_neg b3] at h
        refine ev_iload_n (pc := 27) 1 dX5_onGoals_27 rfl rfl ?_
        refine ev_iconst (pc := 28) (x := 1) dX5_onGoals_28 ci_1 ?_
        refine ev_iload_n (pc := 29) 2 dX5_onGoals_29 rfl rfl ?_
        refine ev_ishl (pc := 30) dX5_onGoals_30 ?_
        refine ev_ior (pc := 31) dX5_onGoals_31 ?_
        refine ev_istore_n (pc := 32) (il' := [(1, vI (bOr x1 (bShl 1 x2))), (0, vR k), (2, vI x2)]) dX5_onGoals_32 rfl (Nat.le_of_ble_eq_true rfl) rfl ?_
        refine ev_iinc (pc := 33) (il' := [(2, vI (wI (x2 + 1))), (1, vI (bOr x1 (bShl 1 x2))), (0, vR k)]) 2 dX5_onGoals_33 rfl (Nat.le_of_ble_eq_true rfl) rfl rfl ?_
        refine ev_goto (pc := 36) (tgt := 4) dX5_onGoals_36 (by decide) ?_
        refine ev_pick [2, 1, 0] rfl ?_
        exact ih h hk0
def f_X5_onGoals (n : Nat) (k : Int) (M : Mem) : Option (Int) := (f_X5_onGoals_L4 n k 0 0 M).bind fun q4 => some q4
set_option maxRecDepth 100000 in
set_option maxHeartbeats 4000000 in
theorem e_X5_onGoals {g : Gm} {d : Nat} {n : Nat} {k : Int} {M N : Mem} {v : Int} (hd : 0 ≤ d) (hk : isSea k) (h : f_X5_onGoals n k M = some v) : EvM g d mtX5_onGoals [vR k] (sg (mx M N)) (0, 0) (vI v) (sg (mx M N)) := by
  unfold f_X5_onGoals at h
  refine EvM.of mkX5_onGoals.2.2.2.1 (Nat.le_of_ble_eq_true rfl) ?_
  change Ev g d mtX5_onGoals 0 [(0, vR k)] [] (sg (mx M N)) (0, 0) (vI v) (sg (mx M N))
  refine ev_iconst (pc := 0) (x := 0) dX5_onGoals_0 ci_0 ?_
  refine ev_istore_n (pc := 1) (il' := [(1, vI 0), (0, vR k)]) dX5_onGoals_1 rfl (Nat.le_of_ble_eq_true rfl) rfl ?_
  refine ev_iconst (pc := 2) (x := 0) dX5_onGoals_2 ci_0 ?_
  refine ev_istore_n (pc := 3) (il' := [(2, vI 0), (1, vI 0), (0, vR k)]) dX5_onGoals_3 rfl (Nat.le_of_ble_eq_true rfl) rfl ?_
  obtain ⟨q4, hq4, h⟩ := bd h
  refine ev_pick [2, 1, 0] rfl ?_
  refine e_X5_onGoals_L4 hd hk n hq4 ?_
  refine ev_iload_n (pc := 39) 0 dX5_onGoals_39 rfl rfl ?_
  cases h
  exact ev_iret (pc := 40) dX5_onGoals_40 rfl
def f_X6_numberOf (k p0 p1 : Int) (M : Mem) : Option (Int) := ck (0 ≤ (wI ((wI (p0 * 4)) + p1)) ∧ (wI ((wI (p0 * 4)) + p1)) < 96) (some (M (k + 2) (wI ((wI (p0 * 4)) + p1))))
set_option maxRecDepth 100000 in
set_option maxHeartbeats 4000000 in
theorem e_X6_numberOf {g : Gm} {d : Nat} {k p0 p1 : Int} {M N : Mem} {v : Int} (hd : 0 ≤ d) (hk : isTx k) (h : f_X6_numberOf k p0 p1 M = some v) : EvM g d mtX6_numberOf [vR k, vI p0, vI p1] (sg (mx M N)) (0, 0) (vI v) (sg (mx M N)) := by
  unfold f_X6_numberOf at h
  refine EvM.of mkX6_numberOf.2.2.2.1 (Nat.le_of_ble_eq_true rfl) ?_
  change Ev g d mtX6_numberOf 0 [(0, vR k), (1, vI p0), (2, vI p1)] [] (sg (mx M N)) (0, 0) (vI v) (sg (mx M N))
  refine ev_aload_n (pc := 0) 0 dX6_numberOf_0 rfl rfl ?_
  refine ev_getR (pc := 1) fl6_15 rfl dX6_numberOf_1 rfl (tx_k hk) (tx_nz hk) (tx_r2 _ hk) ?_
  refine ev_iload_n (pc := 4) 1 dX6_numberOf_4 rfl rfl ?_
  refine ev_iconst (pc := 5) (x := 4) dX6_numberOf_5 ci_4 ?_
  refine ev_imul (pc := 6) dX6_numberOf_6 ?_
  refine ev_iload_n (pc := 7) 2 dX6_numberOf_7 rfl rfl ?_
  refine ev_iadd (pc := 8) dX6_numberOf_8 ?_
  obtain ⟨c1, h⟩ := ck_some h
  refine ev_ildc (pc := 9) dX6_numberOf_9 (tx_ak2 hk) (tx_anz2 hk) (tx_a92 hk) c1.1 c1.2 ?_
  cases h
  exact ev_iret (pc := 10) dX6_numberOf_10 rfl
def f_X7_copyFrom (k p0 : Int) (M : Mem) : Mem := lt (upM M k 0 (M p0 0)) fun M1 => lt (cpM M1 (p0 + 1) 0 (k + 1) 0 8) fun M2 => lt (cpM M2 (p0 + 2) 0 (k + 2) 0 8) fun M3 => lt (upM M3 k 3 (M3 p0 3)) fun M4 => lt (cpM M4 (p0 + 3) 0 (k + 3) 0 10) fun M5 => lt (upM M5 k 6 (M5 p0 6)) fun M6 => lt (cpM M6 (p0 + 5) 0 (k + 5) 0 15) fun M7 => M7
set_option maxRecDepth 100000 in
set_option maxHeartbeats 4000000 in
theorem e_X7_copyFrom {g : Gm} {d : Nat} {k p0 : Int} {M N : Mem} {M' : Mem} (hd : 1 ≤ d) (hk : isTold k) (hp0 : isTold p0) (h : f_X7_copyFrom k p0 M = M') : EvM g d mtX7_copyFrom [vR k, vR p0] (sg (mx M N)) (0, 0) vN (sg (mx M' N)) := by
  unfold f_X7_copyFrom at h
  refine EvM.of mkX7_copyFrom.2.2.2.1 (Nat.le_of_ble_eq_true rfl) ?_
  change Ev g d mtX7_copyFrom 0 [(0, vR k), (1, vR p0)] [] (sg (mx M N)) (0, 0) vN (sg (mx M' N))
  refine ev_aload_n (pc := 0) 0 dX7_copyFrom_0 rfl rfl ?_
  refine ev_aload_n (pc := 1) 1 dX7_copyFrom_1 rfl rfl ?_
  refine ev_getIc (pc := 2) fl7_27 rfl dX7_copyFrom_2 rfl (told_k hp0) (told_nz hp0) (told_n9 hp0) 0 rfl ?_
  obtain ⟨M1, eM1, h⟩ := lt_some h
  refine ev_putIc (pc := 5) fl7_27 rfl dX7_copyFrom_5 (told_k hk) (told_nz hk) (told_n9 hk) eM1 ?_
  refine ev_aload_n (pc := 8) 1 dX7_copyFrom_8 rfl rfl ?_
  refine ev_getR (pc := 9) fl7_9 rfl dX7_copyFrom_9 rfl (told_k hp0) (told_nz hp0) (told_r1 _ hp0) ?_
  refine ev_iconst (pc := 12) (x := 0) dX7_copyFrom_12 ci_0 ?_
  refine ev_aload_n (pc := 13) 0 dX7_copyFrom_13 rfl rfl ?_
  refine ev_getR (pc := 14) fl7_9 rfl dX7_copyFrom_14 rfl (told_k hk) (told_nz hk) (told_r1 _ hk) ?_
  refine ev_iconst (pc := 17) (x := 0) dX7_copyFrom_17 ci_0 ?_
  refine ev_bipush (pc := 18) (x := 8) dX7_copyFrom_18 cb_8 ?_
  obtain ⟨M2, eM2, h⟩ := lt_some h
  refine ev_cpy (pc := 20) cp7_31 rfl dX7_copyFrom_20 (Nat.le_of_ble_eq_true rfl) (by omega) (told_ak1 hp0) (told_anz1 hp0) (told_a91 hp0) (told_ak1 hk) (told_anz1 hk) (told_a91 hk) (by refine ⟨?_, ?_, ?_, ?_, ?_⟩ <;> omega) eM2 ?_
  refine ev_aload_n (pc := 23) 1 dX7_copyFrom_23 rfl rfl ?_
  refine ev_getR (pc := 24) fl7_15 rfl dX7_copyFrom_24 rfl (told_k hp0) (told_nz hp0) (told_r2 _ hp0) ?_
  refine ev_iconst (pc := 27) (x := 0) dX7_copyFrom_27 ci_0 ?_
  refine ev_aload_n (pc := 28) 0 dX7_copyFrom_28 rfl rfl ?_
  refine ev_getR (pc := 29) fl7_15 rfl dX7_copyFrom_29 rfl (told_k hk) (told_nz hk) (told_r2 _ hk) ?_
  refine ev_iconst (pc := 32) (x := 0) dX7_copyFrom_32 ci_0 ?_
  refine ev_bipush (pc := 33) (x := 8) dX7_copyFrom_33 cb_8 ?_
  obtain ⟨M3, eM3, h⟩ := lt_some h
  refine ev_cpy (pc := 35) cp7_31 rfl dX7_copyFrom_35 (Nat.le_of_ble_eq_true rfl) (by omega) (told_ak2 hp0) (told_anz2 hp0) (told_a92 hp0) (told_ak2 hk) (told_anz2 hk) (told_a92 hk) (by refine ⟨?_, ?_, ?_, ?_, ?_⟩ <;> omega) eM3 ?_
  refine ev_aload_n (pc := 38) 0 dX7_copyFrom_38 rfl rfl ?_
  refine ev_aload_n (pc := 39) 1 dX7_copyFrom_39 rfl rfl ?_
  refine ev_getIc (pc := 40) fl7_37 rfl dX7_copyFrom_40 rfl (told_k hp0) (told_nz hp0) (told_n9 hp0) 3 rfl ?_
  obtain ⟨M4, eM4, h⟩ := lt_some h
  refine ev_putIc (pc := 43) fl7_37 rfl dX7_copyFrom_43 (told_k hk) (told_nz hk) (told_n9 hk) eM4 ?_
  refine ev_aload_n (pc := 46) 1 dX7_copyFrom_46 rfl rfl ?_
  refine ev_getR (pc := 47) fl7_18 rfl dX7_copyFrom_47 rfl (told_k hp0) (told_nz hp0) (told_r4 _ hp0) ?_
  refine ev_iconst (pc := 50) (x := 0) dX7_copyFrom_50 ci_0 ?_
  refine ev_aload_n (pc := 51) 0 dX7_copyFrom_51 rfl rfl ?_
  refine ev_getR (pc := 52) fl7_18 rfl dX7_copyFrom_52 rfl (told_k hk) (told_nz hk) (told_r4 _ hk) ?_
  refine ev_iconst (pc := 55) (x := 0) dX7_copyFrom_55 ci_0 ?_
  refine ev_bipush (pc := 56) (x := 10) dX7_copyFrom_56 cb_10 ?_
  obtain ⟨M5, eM5, h⟩ := lt_some h
  refine ev_cpy (pc := 58) cp7_31 rfl dX7_copyFrom_58 (Nat.le_of_ble_eq_true rfl) (by omega) (told_ak4 hp0) (told_anz4 hp0) (told_a94 hp0) (told_ak4 hk) (told_anz4 hk) (told_a94 hk) (by refine ⟨?_, ?_, ?_, ?_, ?_⟩ <;> omega) eM5 ?_
  refine ev_aload_n (pc := 61) 0 dX7_copyFrom_61 rfl rfl ?_
  refine ev_aload_n (pc := 62) 1 dX7_copyFrom_62 rfl rfl ?_
  refine ev_getIc (pc := 63) fl7_40 rfl dX7_copyFrom_63 rfl (told_k hp0) (told_nz hp0) (told_n9 hp0) 6 rfl ?_
  obtain ⟨M6, eM6, h⟩ := lt_some h
  refine ev_putIc (pc := 66) fl7_40 rfl dX7_copyFrom_66 (told_k hk) (told_nz hk) (told_n9 hk) eM6 ?_
  refine ev_aload_n (pc := 69) 1 dX7_copyFrom_69 rfl rfl ?_
  refine ev_getR (pc := 70) fl7_24 rfl dX7_copyFrom_70 rfl (told_k hp0) (told_nz hp0) (told_r7 _ hp0) ?_
  refine ev_iconst (pc := 73) (x := 0) dX7_copyFrom_73 ci_0 ?_
  refine ev_aload_n (pc := 74) 0 dX7_copyFrom_74 rfl rfl ?_
  refine ev_getR (pc := 75) fl7_24 rfl dX7_copyFrom_75 rfl (told_k hk) (told_nz hk) (told_r7 _ hk) ?_
  refine ev_iconst (pc := 78) (x := 0) dX7_copyFrom_78 ci_0 ?_
  refine ev_bipush (pc := 79) (x := 15) dX7_copyFrom_79 cb_15 ?_
  obtain ⟨M7, eM7, h⟩ := lt_some h
  refine ev_cpy (pc := 81) cp7_31 rfl dX7_copyFrom_81 (Nat.le_of_ble_eq_true rfl) (by omega) (told_ak7 hp0) (told_anz7 hp0) (told_a97 hp0) (told_ak7 hk) (told_anz7 hk) (told_a97 hk) (by refine ⟨?_, ?_, ?_, ?_, ?_⟩ <;> omega) eM7 ?_
  cases h
  exact ev_vret (pc := 84) dX7_copyFrom_84 rfl
