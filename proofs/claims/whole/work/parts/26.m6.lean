/-! ===== methods: X12_undoStep, X12_undoShip, X12_undo, X12_arePassed, X12_hour, X12_floodNow, X12_flood, X12_raise, X12_mend, X12_bind, X12_isPlayed, X12_played, X12_happens, X12_centuries, X12_shipsOn, X12_ofStep, X12_ofShip, X12_is, X12_shown, X12_book, X12_waiting, X12_begin, X12_putBack, X12_behindHours, X12_foretoldShip, X12_foretoldStep, X12_comes, X12_leastBy, X12_findGoes, X12_voyage ===== -/
def f_X12_undoStep_L3_J47 (n : Nat) (K : Int → Mem → Option (Mem)) (x1 x2 x3 x4 s1 s2 s3 : Int) (M : Mem) : Option (Mem) := (f_X12_put s1 s2 s3 M).bind fun q4 => K (wI (x4 + 1)) q4
set_option maxRecDepth 100000 in
set_option maxHeartbeats 4000000 in
theorem e_X12_undoStep_L3_J47 {g : Gm} {d : Nat} {n : Nat} {K : Int → Mem → Option (Mem)} {x1 x2 x3 x4 s1 s2 s3 : Int} {M N : Mem} {q : Mem} {r : Vv} {σ' : Sg} (hd : 1 ≤ d) (hK : ∀ {x4 : Int} {M : Mem}, K x4 M = some q → Ev g d mtX12_undoStep 3 [(0, vR 801), (1, vI x1), (2, vI x2), (3, vI x3), (4, vI x4)] [] (sg (mx N M)) (0, 0) r σ') (hk0 : Ev g d mtX12_undoStep 56 [(0, vR 801), (1, vI x1), (2, vI x2), (3, vI x3)] [] (sg (mx N q)) (0, 0) r σ') (h : f_X12_undoStep_L3_J47 n K x1 x2 x3 x4 s1 s2 s3 M = some q) : Ev g d mtX12_undoStep 47 [(0, vR 801), (1, vI x1), (2, vI x2), (3, vI x3), (4, vI x4)] [vI s3, vI s2, vI s1, vR 801] (sg (mx N M)) (0, 0) r σ' := by
  unfold f_X12_undoStep_L3_J47 at h
  obtain ⟨q4, hq4, h⟩ := bd h
  refine ev_cV0 (pc := 47) [vI s1, vI s2, vI s3] [] rfl mkX12_put ml12_94 mnX12_put dX12_undoStep_47 kd_801 (by omega) rfl (Nat.le_of_ble_eq_true rfl) (by omega) (e_X12_put (d := d - 1) (M' := q4) (by omega)  hq4) ?_
  refine ev_iinc (pc := 50) (il' := [(4, vI (wI (x4 + 1))), (0, vR 801), (1, vI x1), (2, vI x2), (3, vI x3)]) 4 dX12_undoStep_50 rfl (Nat.le_of_ble_eq_true rfl) rfl rfl ?_
  refine ev_goto (pc := 53) (tgt := 3) dX12_undoStep_53 (by decide) ?_
  refine ev_pick [1, 2, 3, 4, 0] rfl ?_
  exact hK h
def f_X12_undoStep_L3 : Nat → Int → Int → Int → Int → Mem → Option (Mem)
  | 0, _, _, _, _, _ => none
  | n + 1, x1, x2, x3, x4, M => if 3 ≤ x4 then (some M) else (if x3 = 0 then ((f_X12_at x1 (wI (5 + x4)) M).bind fun q3 => f_X12_undoStep_L3_J47 n (fun x4 M => f_X12_undoStep_L3 n x1 x2 x3 x4 M) x1 x2 x3 x4 x1 (wI (1 + x4)) q3 M) else (ck (0 ≤ (wI ((wI ((wI (x2 + 7)) + (wI (4 * x1)))) + x4)) ∧ (wI ((wI ((wI (x2 + 7)) + (wI (4 * x1)))) + x4)) < 10606) (f_X12_undoStep_L3_J47 n (fun x4 M => f_X12_undoStep_L3 n x1 x2 x3 x4 M) x1 x2 x3 x4 x1 (wI (1 + x4)) (M 802 (wI ((wI ((wI (x2 + 7)) + (wI (4 * x1)))) + x4))) M)))
set_option maxRecDepth 100000 in
set_option maxHeartbeats 4000000 in
theorem e_X12_undoStep_L3 {g : Gm} {d : Nat} {x1 x2 x3 : Int} {r : Vv} {σ' : Sg} {N : Mem} (hd : 1 ≤ d) : ∀ (n : Nat) {x4 : Int} {M : Mem} {q : Mem}, f_X12_undoStep_L3 n x1 x2 x3 x4 M = some q → Ev g d mtX12_undoStep 56 [(0, vR 801), (1, vI x1), (2, vI x2), (3, vI x3)] [] (sg (mx N q)) (0, 0) r σ' → Ev g d mtX12_undoStep 3 [(0, vR 801), (1, vI x1), (2, vI x2), (3, vI x3), (4, vI x4)] [] (sg (mx N M)) (0, 0) r σ' := by
  intro n
  induction n with
  | zero =>
    intro x4 M q h hk0
    rw [f_X12_undoStep_L3.eq_1] at h
    cases h
  | succ n ih =>
    intro x4 M q h hk0
    rw [f_X12_undoStep_L3.eq_2] at h
    refine ev_iload (pc := 3) 4 dX12_undoStep_3 rfl ?_
    refine ev_iconst (pc := 5) (x := 3) dX12_undoStep_5 ci_3 ?_
    refine ev_icmp_ge (pc := 6) (tgt := 56) dX12_undoStep_6 (by decide) (fun b1 => ?_) (fun b1 => ?_)
    · rw [if_pos b1] at h
      cases h
      refine ev_pick [0, 1, 2, 3] rfl ?_
      exact hk0
    · rw [if_neg b1] at h
      refine ev_aload_n (pc := 9) 0 dX12_undoStep_9 rfl rfl ?_
      refine ev_iload_n (pc := 10) 1 dX12_undoStep_10 rfl rfl ?_
      refine ev_iconst (pc := 11) (x := 1) dX12_undoStep_11 ci_1 ?_
      refine ev_iload (pc := 12) 4 dX12_undoStep_12 rfl ?_
      refine ev_iadd (pc := 14) dX12_undoStep_14 ?_
      refine ev_iload_n (pc := 15) 3 dX12_undoStep_15 rfl rfl ?_
      refine ev_if_eq (pc := 16) (tgt := 38) dX12_undoStep_16 (by decide) (fun b2 => ?_) (fun b2 => ?_)
      · rw [if_pos b2] at h
        refine ev_aload_n (pc := 38) 0 dX12_undoStep_38 rfl rfl ?_
        refine ev_iload_n (pc := 39) 1 dX12_undoStep_39 rfl rfl ?_
        refine ev_iconst (pc := 40) (x := 5) dX12_undoStep_40 ci_5 ?_
        refine ev_iload (pc := 41) 4 dX12_undoStep_41 rfl ?_
        refine ev_iadd (pc := 43) dX12_undoStep_43 ?_
        obtain ⟨q3, hq3, h⟩ := bd h
        refine ev_cV (pc := 44) [vI x1, vI (wI (5 + x4))] [vI (wI (1 + x4)), vI x1, vR 801] rfl mkX12_at ml12_98 mnX12_at dX12_undoStep_44 kd_801 (by omega) rfl (Nat.le_of_ble_eq_true rfl) (by omega) rfl (e_X12_at (d := d - 1) (v := q3) (by omega)  hq3) ?_
        refine ev_pick [0, 1, 2, 3, 4] rfl ?_
        exact e_X12_undoStep_L3_J47 hd  (fun h9 => ih h9 hk0) hk0 h
      · rw [if_neg b2] at h
        refine ev_aload_n (pc := 19) 0 dX12_undoStep_19 rfl rfl ?_
        refine ev_getR (pc := 20) fl12_7 rfl dX12_undoStep_20 rfl kd_801 (by omega) (rf_801_0 _) ?_
        refine ev_iload_n (pc := 23) 2 dX12_undoStep_23 rfl rfl ?_
        refine ev_bipush (pc := 24) (x := 7) dX12_undoStep_24 cb_7 ?_
        refine ev_iadd (pc := 26) dX12_undoStep_26 ?_
        refine ev_iconst (pc := 27) (x := 4) dX12_undoStep_27 ci_4 ?_
        refine ev_iload_n (pc := 28) 1 dX12_undoStep_28 rfl rfl ?_
        refine ev_imul (pc := 29) dX12_undoStep_29 ?_
        refine ev_iadd (pc := 30) dX12_undoStep_30 ?_
        refine ev_iload (pc := 31) 4 dX12_undoStep_31 rfl ?_
        refine ev_iadd (pc := 33) dX12_undoStep_33 ?_
        obtain ⟨c5, h⟩ := ck_some h
        refine ev_ildr (pc := 34) dX12_undoStep_34 kd_802 (by omega) (by omega) c5.1 c5.2 ?_
        refine ev_goto (pc := 35) (tgt := 47) dX12_undoStep_35 (by decide) ?_
        refine ev_pick [0, 1, 2, 3, 4] rfl ?_
        exact e_X12_undoStep_L3_J47 hd  (fun h9 => ih h9 hk0) hk0 h
def f_X12_undoStep_J80 (n : Nat) (s1 s2 s3 : Int) (M : Mem) : Option (Mem) := (f_X12_put s1 s2 s3 M).bind fun q8 => some q8
set_option maxRecDepth 100000 in
set_option maxHeartbeats 4000000 in
theorem e_X12_undoStep_J80 {g : Gm} {d : Nat} {n : Nat} {s1 s2 s3 : Int} {M N : Mem} {M' : Mem} (hd : 1 ≤ d) (h : f_X12_undoStep_J80 n s1 s2 s3 M = some M') : Ev g d mtX12_undoStep 80 [] [vI s3, vI s2, vI s1, vR 801] (sg (mx N M)) (0, 0) vN (sg (mx N M')) := by
  unfold f_X12_undoStep_J80 at h
  obtain ⟨q8, hq8, h⟩ := bd h
  refine ev_cV0 (pc := 80) [vI s1, vI s2, vI s3] [] rfl mkX12_put ml12_94 mnX12_put dX12_undoStep_80 kd_801 (by omega) rfl (Nat.le_of_ble_eq_true rfl) (by omega) (e_X12_put (d := d - 1) (M' := q8) (by omega)  hq8) ?_
  cases h
  exact ev_vret (pc := 83) dX12_undoStep_83 rfl
def f_X12_undoStep (n : Nat) (p0 p1 p2 : Int) (M : Mem) : Option (Mem) := (f_X12_undoStep_L3 n p0 p1 p2 0 M).bind fun q6 => if p2 = 0 then (f_X12_undoStep_J80 n p0 4 0 q6) else (ck (0 ≤ (wI ((wI (p1 + 10)) + (wI (4 * p0)))) ∧ (wI ((wI (p1 + 10)) + (wI (4 * p0)))) < 10606) (f_X12_undoStep_J80 n p0 4 (q6 802 (wI ((wI (p1 + 10)) + (wI (4 * p0))))) q6))
set_option maxRecDepth 100000 in
set_option maxHeartbeats 4000000 in
theorem e_X12_undoStep {g : Gm} {d : Nat} {n : Nat} {p0 p1 p2 : Int} {M N : Mem} {M' : Mem} (hd : 1 ≤ d) (h : f_X12_undoStep n p0 p1 p2 M = some M') : EvM g d mtX12_undoStep [vR 801, vI p0, vI p1, vI p2] (sg (mx N M)) (0, 0) vN (sg (mx N M')) := by
  unfold f_X12_undoStep at h
  refine EvM.of mkX12_undoStep.2.2.2.1 (Nat.le_of_ble_eq_true rfl) ?_
  change Ev g d mtX12_undoStep 0 [(0, vR 801), (1, vI p0), (2, vI p1), (3, vI p2)] [] (sg (mx N M)) (0, 0) vN (sg (mx N M'))
  refine ev_iconst (pc := 0) (x := 0) dX12_undoStep_0 ci_0 ?_
  refine ev_istore (pc := 1) (il' := [(4, vI 0), (0, vR 801), (1, vI p0), (2, vI p1), (3, vI p2)]) dX12_undoStep_1 (Nat.le_of_ble_eq_true rfl) rfl ?_
  obtain ⟨q6, hq6, h⟩ := bd h
  refine ev_pick [1, 2, 3, 4, 0] rfl ?_
  refine e_X12_undoStep_L3 hd  n hq6 ?_
  refine ev_aload_n (pc := 56) 0 dX12_undoStep_56 rfl rfl ?_
  refine ev_iload_n (pc := 57) 1 dX12_undoStep_57 rfl rfl ?_
  refine ev_iconst (pc := 58) (x := 4) dX12_undoStep_58 ci_4 ?_
  refine ev_iload_n (pc := 59) 3 dX12_undoStep_59 rfl rfl ?_
  refine ev_if_eq (pc := 60) (tgt := 79) dX12_undoStep_60 (by decide) (fun b7 => ?_) (fun b7 => ?_)
  · rw [if_pos b7] at h
    refine ev_iconst (pc := 79) (x := 0) dX12_undoStep_79 ci_0 ?_
    refine ev_pick [] rfl ?_
    exact e_X12_undoStep_J80 hd  h
  · rw [if_neg b7] at h
    refine ev_aload_n (pc := 63) 0 dX12_undoStep_63 rfl rfl ?_
    refine ev_getR (pc := 64) fl12_7 rfl dX12_undoStep_64 rfl kd_801 (by omega) (rf_801_0 _) ?_
    refine ev_iload_n (pc := 67) 2 dX12_undoStep_67 rfl rfl ?_
    refine ev_bipush (pc := 68) (x := 10) dX12_undoStep_68 cb_10 ?_
    refine ev_iadd (pc := 70) dX12_undoStep_70 ?_
    refine ev_iconst (pc := 71) (x := 4) dX12_undoStep_71 ci_4 ?_
    refine ev_iload_n (pc := 72) 1 dX12_undoStep_72 rfl rfl ?_
    refine ev_imul (pc := 73) dX12_undoStep_73 ?_
    refine ev_iadd (pc := 74) dX12_undoStep_74 ?_
    obtain ⟨c9, h⟩ := ck_some h
    refine ev_ildr (pc := 75) dX12_undoStep_75 kd_802 (by omega) (by omega) c9.1 c9.2 ?_
    refine ev_goto (pc := 76) (tgt := 80) dX12_undoStep_76 (by decide) ?_
    refine ev_pick [] rfl ?_
    exact e_X12_undoStep_J80 hd  h
def f_X12_undoShip_L3_J47 (n : Nat) (K : Int → Mem → Option (Mem)) (x1 x2 x3 x4 s1 s2 s3 : Int) (M : Mem) : Option (Mem) := (f_X12_set s1 s2 s3 M).bind fun q4 => K (wI (x4 + 1)) q4
set_option maxRecDepth 100000 in
set_option maxHeartbeats 4000000 in
theorem e_X12_undoShip_L3_J47 {g : Gm} {d : Nat} {n : Nat} {K : Int → Mem → Option (Mem)} {x1 x2 x3 x4 s1 s2 s3 : Int} {M N : Mem} {q : Mem} {r : Vv} {σ' : Sg} (hd : 1 ≤ d) (hK : ∀ {x4 : Int} {M : Mem}, K x4 M = some q → Ev g d mtX12_undoShip 3 [(0, vR 801), (1, vI x1), (2, vI x2), (3, vI x3), (4, vI x4)] [] (sg (mx N M)) (0, 0) r σ') (hk0 : Ev g d mtX12_undoShip 56 [(0, vR 801), (1, vI x1), (2, vI x2), (3, vI x3)] [] (sg (mx N q)) (0, 0) r σ') (h : f_X12_undoShip_L3_J47 n K x1 x2 x3 x4 s1 s2 s3 M = some q) : Ev g d mtX12_undoShip 47 [(0, vR 801), (1, vI x1), (2, vI x2), (3, vI x3), (4, vI x4)] [vI s3, vI s2, vI s1, vR 801] (sg (mx N M)) (0, 0) r σ' := by
  unfold f_X12_undoShip_L3_J47 at h
  obtain ⟨q4, hq4, h⟩ := bd h
  refine ev_cV0 (pc := 47) [vI s1, vI s2, vI s3] [] rfl mkX12_set ml12_106 mnX12_set dX12_undoShip_47 kd_801 (by omega) rfl (Nat.le_of_ble_eq_true rfl) (by omega) (e_X12_set (d := d - 1) (M' := q4) (by omega)  hq4) ?_
  refine ev_iinc (pc := 50) (il' := [(4, vI (wI (x4 + 1))), (0, vR 801), (1, vI x1), (2, vI x2), (3, vI x3)]) 4 dX12_undoShip_50 rfl (Nat.le_of_ble_eq_true rfl) rfl rfl ?_
  refine ev_goto (pc := 53) (tgt := 3) dX12_undoShip_53 (by decide) ?_
  refine ev_pick [1, 2, 3, 4, 0] rfl ?_
  exact hK h
def f_X12_undoShip_L3 : Nat → Int → Int → Int → Int → Mem → Option (Mem)
  | 0, _, _, _, _, _ => none
  | n + 1, x1, x2, x3, x4, M => if 2 ≤ x4 then (some M) else (if x3 = 0 then ((f_X12_get x1 (wI (4 + x4)) M).bind fun q3 => f_X12_undoShip_L3_J47 n (fun x4 M => f_X12_undoShip_L3 n x1 x2 x3 x4 M) x1 x2 x3 x4 x1 (wI (1 + x4)) q3 M) else (ck (0 ≤ (wI ((wI ((wI (x2 + 43)) + (wI (3 * x1)))) + x4)) ∧ (wI ((wI ((wI (x2 + 43)) + (wI (3 * x1)))) + x4)) < 10606) (f_X12_undoShip_L3_J47 n (fun x4 M => f_X12_undoShip_L3 n x1 x2 x3 x4 M) x1 x2 x3 x4 x1 (wI (1 + x4)) (M 802 (wI ((wI ((wI (x2 + 43)) + (wI (3 * x1)))) + x4))) M)))
set_option maxRecDepth 100000 in
set_option maxHeartbeats 4000000 in
theorem e_X12_undoShip_L3 {g : Gm} {d : Nat} {x1 x2 x3 : Int} {r : Vv} {σ' : Sg} {N : Mem} (hd : 1 ≤ d) : ∀ (n : Nat) {x4 : Int} {M : Mem} {q : Mem}, f_X12_undoShip_L3 n x1 x2 x3 x4 M = some q → Ev g d mtX12_undoShip 56 [(0, vR 801), (1, vI x1), (2, vI x2), (3, vI x3)] [] (sg (mx N q)) (0, 0) r σ' → Ev g d mtX12_undoShip 3 [(0, vR 801), (1, vI x1), (2, vI x2), (3, vI x3), (4, vI x4)] [] (sg (mx N M)) (0, 0) r σ' := by
  intro n
  induction n with
  | zero =>
    intro x4 M q h hk0
    rw [f_X12_undoShip_L3.eq_1] at h
    cases h
  | succ n ih =>
    intro x4 M q h hk0
    rw [f_X12_undoShip_L3.eq_2] at h
    refine ev_iload (pc := 3) 4 dX12_undoShip_3 rfl ?_
    refine ev_iconst (pc := 5) (x := 2) dX12_undoShip_5 ci_2 ?_
    refine ev_icmp_ge (pc := 6) (tgt := 56) dX12_undoShip_6 (by decide) (fun b1 => ?_) (fun b1 => ?_)
    · rw [if_pos b1] at h
      cases h
      refine ev_pick [0, 1, 2, 3] rfl ?_
      exact hk0
    · rw [if_neg b1] at h
      refine ev_aload_n (pc := 9) 0 dX12_undoShip_9 rfl rfl ?_
      refine ev_iload_n (pc := 10) 1 dX12_undoShip_10 rfl rfl ?_
      refine ev_iconst (pc := 11) (x := 1) dX12_undoShip_11 ci_1 ?_
      refine ev_iload (pc := 12) 4 dX12_undoShip_12 rfl ?_
      refine ev_iadd (pc := 14) dX12_undoShip_14 ?_
      refine ev_iload_n (pc := 15) 3 dX12_undoShip_15 rfl rfl ?_
      refine ev_if_eq (pc := 16) (tgt := 38) dX12_undoShip_16 (by decide) (fun b2 => ?_) (fun b2 => ?_)
      · rw [if_pos b2] at h
        refine ev_aload_n (pc := 38) 0 dX12_undoShip_38 rfl rfl ?_
        refine ev_iload_n (pc := 39) 1 dX12_undoShip_39 rfl rfl ?_
        refine ev_iconst (pc := 40) (x := 4) dX12_undoShip_40 ci_4 ?_
        refine ev_iload (pc := 41) 4 dX12_undoShip_41 rfl ?_
        refine ev_iadd (pc := 43) dX12_undoShip_43 ?_
        obtain ⟨q3, hq3, h⟩ := bd h
        refine ev_cV (pc := 44) [vI x1, vI (wI (4 + x4))] [vI (wI (1 + x4)), vI x1, vR 801] rfl mkX12_get ml12_340 mnX12_get dX12_undoShip_44 kd_801 (by omega) rfl (Nat.le_of_ble_eq_true rfl) (by omega) rfl (e_X12_get (d := d - 1) (v := q3) (by omega)  hq3) ?_
        refine ev_pick [0, 1, 2, 3, 4] rfl ?_
        exact e_X12_undoShip_L3_J47 hd  (fun h9 => ih h9 hk0) hk0 h
      · rw [if_neg b2] at h
        refine ev_aload_n (pc := 19) 0 dX12_undoShip_19 rfl rfl ?_
        refine ev_getR (pc := 20) fl12_7 rfl dX12_undoShip_20 rfl kd_801 (by omega) (rf_801_0 _) ?_
        refine ev_iload_n (pc := 23) 2 dX12_undoShip_23 rfl rfl ?_
        refine ev_bipush (pc := 24) (x := 43) dX12_undoShip_24 cb_43 ?_
        refine ev_iadd (pc := 26) dX12_undoShip_26 ?_
        refine ev_iconst (pc := 27) (x := 3) dX12_undoShip_27 ci_3 ?_
        refine ev_iload_n (pc := 28) 1 dX12_undoShip_28 rfl rfl ?_
        refine ev_imul (pc := 29) dX12_undoShip_29 ?_
        refine ev_iadd (pc := 30) dX12_undoShip_30 ?_
        refine ev_iload (pc := 31) 4 dX12_undoShip_31 rfl ?_
        refine ev_iadd (pc := 33) dX12_undoShip_33 ?_
        obtain ⟨c5, h⟩ := ck_some h
        refine ev_ildr (pc := 34) dX12_undoShip_34 kd_802 (by omega) (by omega) c5.1 c5.2 ?_
        refine ev_goto (pc := 35) (tgt := 47) dX12_undoShip_35 (by decide) ?_
        refine ev_pick [0, 1, 2, 3, 4] rfl ?_
        exact e_X12_undoShip_L3_J47 hd  (fun h9 => ih h9 hk0) hk0 h
def f_X12_undoShip_J80 (n : Nat) (s1 s2 s3 : Int) (M : Mem) : Option (Mem) := (f_X12_set s1 s2 s3 M).bind fun q8 => some q8
set_option maxRecDepth 100000 in
set_option maxHeartbeats 4000000 in
theorem e_X12_undoShip_J80 {g : Gm} {d : Nat} {n : Nat} {s1 s2 s3 : Int} {M N : Mem} {M' : Mem} (hd : 1 ≤ d) (h : f_X12_undoShip_J80 n s1 s2 s3 M = some M') : Ev g d mtX12_undoShip 80 [] [vI s3, vI s2, vI s1, vR 801] (sg (mx N M)) (0, 0) vN (sg (mx N M')) := by
  unfold f_X12_undoShip_J80 at h
  obtain ⟨q8, hq8, h⟩ := bd h
  refine ev_cV0 (pc := 80) [vI s1, vI s2, vI s3] [] rfl mkX12_set ml12_106 mnX12_set dX12_undoShip_80 kd_801 (by omega) rfl (Nat.le_of_ble_eq_true rfl) (by omega) (e_X12_set (d := d - 1) (M' := q8) (by omega)  hq8) ?_
  cases h
  exact ev_vret (pc := 83) dX12_undoShip_83 rfl
def f_X12_undoShip (n : Nat) (p0 p1 p2 : Int) (M : Mem) : Option (Mem) := (f_X12_undoShip_L3 n p0 p1 p2 0 M).bind fun q6 => if p2 = 0 then (f_X12_undoShip_J80 n p0 3 0 q6) else (ck (0 ≤ (wI ((wI (p1 + 45)) + (wI (3 * p0)))) ∧ (wI ((wI (p1 + 45)) + (wI (3 * p0)))) < 10606) (f_X12_undoShip_J80 n p0 3 (q6 802 (wI ((wI (p1 + 45)) + (wI (3 * p0))))) q6))
set_option maxRecDepth 100000 in
set_option maxHeartbeats 4000000 in
theorem e_X12_undoShip {g : Gm} {d : Nat} {n : Nat} {p0 p1 p2 : Int} {M N : Mem} {M' : Mem} (hd : 1 ≤ d) (h : f_X12_undoShip n p0 p1 p2 M = some M') : EvM g d mtX12_undoShip [vR 801, vI p0, vI p1, vI p2] (sg (mx N M)) (0, 0) vN (sg (mx N M')) := by
  unfold f_X12_undoShip at h
  refine EvM.of mkX12_undoShip.2.2.2.1 (Nat.le_of_ble_eq_true rfl) ?_
  change Ev g d mtX12_undoShip 0 [(0, vR 801), (1, vI p0), (2, vI p1), (3, vI p2)] [] (sg (mx N M)) (0, 0) vN (sg (mx N M'))
  refine ev_iconst (pc := 0) (x := 0) dX12_undoShip_0 ci_0 ?_
  refine ev_istore (pc := 1) (il' := [(4, vI 0), (0, vR 801), (1, vI p0), (2, vI p1), (3, vI p2)]) dX12_undoShip_1 (Nat.le_of_ble_eq_true rfl) rfl ?_
  obtain ⟨q6, hq6, h⟩ := bd h
  refine ev_pick [1, 2, 3, 4, 0] rfl ?_
  refine e_X12_undoShip_L3 hd  n hq6 ?_
  refine ev_aload_n (pc := 56) 0 dX12_undoShip_56 rfl rfl ?_
  refine ev_iload_n (pc := 57) 1 dX12_undoShip_57 rfl rfl ?_
  refine ev_iconst (pc := 58) (x := 3) dX12_undoShip_58 ci_3 ?_
  refine ev_iload_n (pc := 59) 3 dX12_undoShip_59 rfl rfl ?_
  refine ev_if_eq (pc := 60) (tgt := 79) dX12_undoShip_60 (by decide) (fun b7 => ?_) (fun b7 => ?_)
  · rw [if_pos b7] at h
    refine ev_iconst (pc := 79) (x := 0) dX12_undoShip_79 ci_0 ?_
    refine ev_pick [] rfl ?_
    exact e_X12_undoShip_J80 hd  h
  · rw [if_neg b7] at h
    refine ev_aload_n (pc := 63) 0 dX12_undoShip_63 rfl rfl ?_
    refine ev_getR (pc := 64) fl12_7 rfl dX12_undoShip_64 rfl kd_801 (by omega) (rf_801_0 _) ?_
    refine ev_iload_n (pc := 67) 2 dX12_undoShip_67 rfl rfl ?_
    refine ev_bipush (pc := 68) (x := 45) dX12_undoShip_68 cb_45 ?_
    refine ev_iadd (pc := 70) dX12_undoShip_70 ?_
    refine ev_iconst (pc := 71) (x := 3) dX12_undoShip_71 ci_3 ?_
    refine ev_iload_n (pc := 72) 1 dX12_undoShip_72 rfl rfl ?_
    refine ev_imul (pc := 73) dX12_undoShip_73 ?_
    refine ev_iadd (pc := 74) dX12_undoShip_74 ?_
    obtain ⟨c9, h⟩ := ck_some h
    refine ev_ildr (pc := 75) dX12_undoShip_75 kd_802 (by omega) (by omega) c9.1 c9.2 ?_
    refine ev_goto (pc := 76) (tgt := 80) dX12_undoShip_76 (by decide) ?_
    refine ev_pick [] rfl ?_
    exact e_X12_undoShip_J80 hd  h
def f_X12_undo_L37 : Nat → Int → Int → Mem → Option (Mem)
  | 0, _, _, _ => none
  | n + 1, x1, x2, M => if 5 ≤ x2 then (some M) else (ck (0 ≤ (wI ((wI (x1 + 2)) + x2)) ∧ (wI ((wI (x1 + 2)) + x2)) < 10606) (ck (0 ≤ (wI (8 + x2)) ∧ (wI (8 + x2)) < 10606) (lt (upM M 802 (wI (8 + x2)) (M 802 (wI ((wI (x1 + 2)) + x2)))) fun M6 => f_X12_undo_L37 n x1 (wI (x2 + 1)) M6)))
set_option maxRecDepth 100000 in
set_option maxHeartbeats 4000000 in
theorem e_X12_undo_L37 {g : Gm} {d : Nat} {x1 : Int} {r : Vv} {σ' : Sg} {N : Mem} (hd : 2 ≤ d) : ∀ (n : Nat) {x2 : Int} {M : Mem} {q : Mem}, f_X12_undo_L37 n x1 x2 M = some q → Ev g d mtX12_undo 67 [(0, vR 801), (1, vI x1)] [] (sg (mx N q)) (0, 0) r σ' → Ev g d mtX12_undo 37 [(0, vR 801), (1, vI x1), (2, vI x2)] [] (sg (mx N M)) (0, 0) r σ' := by
  intro n
  induction n with
  | zero =>
    intro x2 M q h hk0
    rw [f_X12_undo_L37.eq_1] at h
    cases h
  | succ n ih =>
    intro x2 M q h hk0
    rw [f_X12_undo_L37.eq_2] at h
    refine ev_iload_n (pc := 37) 2 dX12_undo_37 rfl rfl ?_
    refine ev_iconst (pc := 38) (x := 5) dX12_undo_38 ci_5 ?_
    refine ev_icmp_ge (pc := 39) (tgt := 67) dX12_undo_39 (by decide) (fun b3 => ?_) (fun b3 => ?_)
    · rw [if_pos b3] at h
      cases h
      refine ev_pick [0, 1] rfl ?_
      exact hk0
    · rw [if_neg b3] at h
      refine ev_aload_n (pc := 42) 0 dX12_undo_42 rfl rfl ?_
      refine ev_getR (pc := 43) fl12_7 rfl dX12_undo_43 rfl kd_801 (by omega) (rf_801_0 _) ?_
      refine ev_bipush (pc := 46) (x := 8) dX12_undo_46 cb_8 ?_
      refine ev_iload_n (pc := 48) 2 dX12_undo_48 rfl rfl ?_
      refine ev_iadd (pc := 49) dX12_undo_49 ?_
      refine ev_aload_n (pc := 50) 0 dX12_undo_50 rfl rfl ?_
      refine ev_getR (pc := 51) fl12_7 rfl dX12_undo_51 rfl kd_801 (by omega) (rf_801_0 _) ?_
      refine ev_iload_n (pc := 54) 1 dX12_undo_54 rfl rfl ?_
      refine ev_iconst (pc := 55) (x := 2) dX12_undo_55 ci_2 ?_
      refine ev_iadd (pc := 56) dX12_undo_56 ?_
      refine ev_iload_n (pc := 57) 2 dX12_undo_57 rfl rfl ?_
      refine ev_iadd (pc := 58) dX12_undo_58 ?_
      obtain ⟨c4, h⟩ := ck_some h
      refine ev_ildr (pc := 59) dX12_undo_59 kd_802 (by omega) (by omega) c4.1 c4.2 ?_
      obtain ⟨c5, h⟩ := ck_some h
      obtain ⟨M6, eM6, h⟩ := lt_some h
      refine ev_istr (pc := 60) dX12_undo_60 kd_802 (by omega) (by omega) c5.1 c5.2 eM6 ?_
      refine ev_iinc (pc := 61) (il' := [(2, vI (wI (x2 + 1))), (0, vR 801), (1, vI x1)]) 2 dX12_undo_61 rfl (Nat.le_of_ble_eq_true rfl) rfl rfl ?_
      refine ev_goto (pc := 64) (tgt := 37) dX12_undo_64 (by decide) ?_
      refine ev_pick [1, 2, 0] rfl ?_
      exact ih h hk0
def f_X12_undo_L69_J97 (n : Nat) (K : Int → Mem → Option (Mem)) (x1 x2 s1 s2 s3 : Int) (M : Mem) : Option (Mem) := (f_X12_undoStep n s1 s2 s3 M).bind fun q11 => K (wI (x2 + 1)) q11
set_option maxRecDepth 100000 in
set_option maxHeartbeats 4000000 in
theorem e_X12_undo_L69_J97 {g : Gm} {d : Nat} {n : Nat} {K : Int → Mem → Option (Mem)} {x1 x2 s1 s2 s3 : Int} {M N : Mem} {q : Mem} {r : Vv} {σ' : Sg} (hd : 2 ≤ d) (hK : ∀ {x2 : Int} {M : Mem}, K x2 M = some q → Ev g d mtX12_undo 69 [(0, vR 801), (1, vI x1), (2, vI x2)] [] (sg (mx N M)) (0, 0) r σ') (hk0 : Ev g d mtX12_undo 106 [(0, vR 801), (1, vI x1)] [] (sg (mx N q)) (0, 0) r σ') (h : f_X12_undo_L69_J97 n K x1 x2 s1 s2 s3 M = some q) : Ev g d mtX12_undo 97 [(0, vR 801), (1, vI x1), (2, vI x2)] [vI s3, vI s2, vI s1, vR 801] (sg (mx N M)) (0, 0) r σ' := by
  unfold f_X12_undo_L69_J97 at h
  obtain ⟨q11, hq11, h⟩ := bd h
  refine ev_cV0 (pc := 97) [vI s1, vI s2, vI s3] [] rfl mkX12_undoStep ml12_371 mnX12_undoStep dX12_undo_97 kd_801 (by omega) rfl (Nat.le_of_ble_eq_true rfl) (by omega) (e_X12_undoStep (d := d - 1) (M' := q11) (by omega)  hq11) ?_
  refine ev_iinc (pc := 100) (il' := [(2, vI (wI (x2 + 1))), (0, vR 801), (1, vI x1)]) 2 dX12_undo_100 rfl (Nat.le_of_ble_eq_true rfl) rfl rfl ?_
  refine ev_goto (pc := 103) (tgt := 69) dX12_undo_103 (by decide) ?_
  refine ev_pick [1, 2, 0] rfl ?_
  exact hK h
def f_X12_undo_L69 : Nat → Int → Int → Mem → Option (Mem)
  | 0, _, _, _ => none
  | n + 1, x1, x2, M => if (M 802 0) ≤ x2 then (some M) else (ck (0 ≤ x1 ∧ x1 < 10606) (if (M 802 x1) ≤ x2 then (f_X12_undo_L69_J97 n (fun x2 M => f_X12_undo_L69 n x1 x2 M) x1 x2 x2 x1 0 M) else (f_X12_undo_L69_J97 n (fun x2 M => f_X12_undo_L69 n x1 x2 M) x1 x2 x2 x1 1 M)))
set_option maxRecDepth 100000 in
set_option maxHeartbeats 4000000 in
theorem e_X12_undo_L69 {g : Gm} {d : Nat} {x1 : Int} {r : Vv} {σ' : Sg} {N : Mem} (hd : 2 ≤ d) : ∀ (n : Nat) {x2 : Int} {M : Mem} {q : Mem}, f_X12_undo_L69 n x1 x2 M = some q → Ev g d mtX12_undo 106 [(0, vR 801), (1, vI x1)] [] (sg (mx N q)) (0, 0) r σ' → Ev g d mtX12_undo 69 [(0, vR 801), (1, vI x1), (2, vI x2)] [] (sg (mx N M)) (0, 0) r σ' := by
  intro n
  induction n with
  | zero =>
    intro x2 M q h hk0
    rw [f_X12_undo_L69.eq_1] at h
    cases h
  | succ n ih =>
    intro x2 M q h hk0
    rw [f_X12_undo_L69.eq_2] at h
    refine ev_iload_n (pc := 69) 2 dX12_undo_69 rfl rfl ?_
    refine ev_aload_n (pc := 70) 0 dX12_undo_70 rfl rfl ?_
    refine ev_getR (pc := 71) fl12_7 rfl dX12_undo_71 rfl kd_801 (by omega) (rf_801_0 _) ?_
    refine ev_iconst (pc := 74) (x := 0) dX12_undo_74 ci_0 ?_
    refine ev_ildr (pc := 75) dX12_undo_75 kd_802 (by omega) (by omega) (by omega) (by omega) ?_
    refine ev_icmp_ge (pc := 76) (tgt := 106) dX12_undo_76 (by decide) (fun b8 => ?_) (fun b8 => ?_)
    · rw [if_pos b8] at h
      cases h
      refine ev_pick [0, 1] rfl ?_
      exact hk0
    · rw [if_neg b8] at h
      refine ev_aload_n (pc := 79) 0 dX12_undo_79 rfl rfl ?_
      refine ev_iload_n (pc := 80) 2 dX12_undo_80 rfl rfl ?_
      refine ev_iload_n (pc := 81) 1 dX12_undo_81 rfl rfl ?_
      refine ev_iload_n (pc := 82) 2 dX12_undo_82 rfl rfl ?_
      refine ev_aload_n (pc := 83) 0 dX12_undo_83 rfl rfl ?_
      refine ev_getR (pc := 84) fl12_7 rfl dX12_undo_84 rfl kd_801 (by omega) (rf_801_0 _) ?_
      refine ev_iload_n (pc := 87) 1 dX12_undo_87 rfl rfl ?_
      obtain ⟨c9, h⟩ := ck_some h
      refine ev_ildr (pc := 88) dX12_undo_88 kd_802 (by omega) (by omega) c9.1 c9.2 ?_
      refine ev_icmp_ge (pc := 89) (tgt := 96) dX12_undo_89 (by decide) (fun b10 => ?_) (fun b10 => ?_)
      · rw [if_pos b10] at h
        refine ev_iconst (pc := 96) (x := 0) dX12_undo_96 ci_0 ?_
        refine ev_pick [0, 1, 2] rfl ?_
        exact e_X12_undo_L69_J97 hd  (fun h9 => ih h9 hk0) hk0 h
      · rw [if_neg b10] at h
        refine ev_iconst (pc := 92) (x := 1) dX12_undo_92 ci_1 ?_
        refine ev_goto (pc := 93) (tgt := 97) dX12_undo_93 (by decide) ?_
        refine ev_pick [0, 1, 2] rfl ?_
        exact e_X12_undo_L69_J97 hd  (fun h9 => ih h9 hk0) hk0 h
def f_X12_undo_L108_J138 (n : Nat) (K : Int → Mem → Option (Mem)) (x1 x2 s1 s2 s3 : Int) (M : Mem) : Option (Mem) := (f_X12_undoShip n s1 s2 s3 M).bind fun q16 => K (wI (x2 + 1)) q16
set_option maxRecDepth 100000 in
set_option maxHeartbeats 4000000 in
theorem e_X12_undo_L108_J138 {g : Gm} {d : Nat} {n : Nat} {K : Int → Mem → Option (Mem)} {x1 x2 s1 s2 s3 : Int} {M N : Mem} {q : Mem} {r : Vv} {σ' : Sg} (hd : 2 ≤ d) (hK : ∀ {x2 : Int} {M : Mem}, K x2 M = some q → Ev g d mtX12_undo 108 [(0, vR 801), (1, vI x1), (2, vI x2)] [] (sg (mx N M)) (0, 0) r σ') (hk0 : Ev g d mtX12_undo 147 [(0, vR 801)] [] (sg (mx N q)) (0, 0) r σ') (h : f_X12_undo_L108_J138 n K x1 x2 s1 s2 s3 M = some q) : Ev g d mtX12_undo 138 [(0, vR 801), (1, vI x1), (2, vI x2)] [vI s3, vI s2, vI s1, vR 801] (sg (mx N M)) (0, 0) r σ' := by
  unfold f_X12_undo_L108_J138 at h
  obtain ⟨q16, hq16, h⟩ := bd h
  refine ev_cV0 (pc := 138) [vI s1, vI s2, vI s3] [] rfl mkX12_undoShip ml12_375 mnX12_undoShip dX12_undo_138 kd_801 (by omega) rfl (Nat.le_of_ble_eq_true rfl) (by omega) (e_X12_undoShip (d := d - 1) (M' := q16) (by omega)  hq16) ?_
  refine ev_iinc (pc := 141) (il' := [(2, vI (wI (x2 + 1))), (0, vR 801), (1, vI x1)]) 2 dX12_undo_141 rfl (Nat.le_of_ble_eq_true rfl) rfl rfl ?_
  refine ev_goto (pc := 144) (tgt := 108) dX12_undo_144 (by decide) ?_
  refine ev_pick [1, 2, 0] rfl ?_
  exact hK h
def f_X12_undo_L108 : Nat → Int → Int → Mem → Option (Mem)
  | 0, _, _, _ => none
  | n + 1, x1, x2, M => if (M 802 1) ≤ x2 then (some M) else (ck (0 ≤ (wI (x1 + 1)) ∧ (wI (x1 + 1)) < 10606) (if (M 802 (wI (x1 + 1))) ≤ x2 then (f_X12_undo_L108_J138 n (fun x2 M => f_X12_undo_L108 n x1 x2 M) x1 x2 x2 x1 0 M) else (f_X12_undo_L108_J138 n (fun x2 M => f_X12_undo_L108 n x1 x2 M) x1 x2 x2 x1 1 M)))
set_option maxRecDepth 100000 in
set_option maxHeartbeats 4000000 in
theorem e_X12_undo_L108 {g : Gm} {d : Nat} {x1 : Int} {r : Vv} {σ' : Sg} {N : Mem} (hd : 2 ≤ d) : ∀ (n : Nat) {x2 : Int} {M : Mem} {q : Mem}, f_X12_undo_L108 n x1 x2 M = some q → Ev g d mtX12_undo 147 [(0, vR 801)] [] (sg (mx N q)) (0, 0) r σ' → Ev g d mtX12_undo 108 [(0, vR 801), (1, vI x1), (2, vI x2)] [] (sg (mx N M)) (0, 0) r σ' := by
  intro n
  induction n with
  | zero =>
    intro x2 M q h hk0
    rw [f_X12_undo_L108.eq_1] at h
    cases h
  | succ n ih =>
    intro x2 M q h hk0
    rw [f_X12_undo_L108.eq_2] at h
    refine ev_iload_n (pc := 108) 2 dX12_undo_108 rfl rfl ?_
    refine ev_aload_n (pc := 109) 0 dX12_undo_109 rfl rfl ?_
    refine ev_getR (pc := 110) fl12_7 rfl dX12_undo_110 rfl kd_801 (by omega) (rf_801_0 _) ?_
    refine ev_iconst (pc := 113) (x := 1) dX12_undo_113 ci_1 ?_
    refine ev_ildr (pc := 114) dX12_undo_114 kd_802 (by omega) (by omega) (by omega) (by omega) ?_
    refine ev_icmp_ge (pc := 115) (tgt := 147) dX12_undo_115 (by decide) (fun b13 => ?_) (fun b13 => ?_)
    · rw [if_pos b13] at h
      cases h
      refine ev_pick [0] rfl ?_
      exact hk0
    · rw [if_neg b13] at h
      refine ev_aload_n (pc := 118) 0 dX12_undo_118 rfl rfl ?_
      refine ev_iload_n (pc := 119) 2 dX12_undo_119 rfl rfl ?_
      refine ev_iload_n (pc := 120) 1 dX12_undo_120 rfl rfl ?_
      refine ev_iload_n (pc := 121) 2 dX12_undo_121 rfl rfl ?_
      refine ev_aload_n (pc := 122) 0 dX12_undo_122 rfl rfl ?_
      refine ev_getR (pc := 123) fl12_7 rfl dX12_undo_123 rfl kd_801 (by omega) (rf_801_0 _) ?_
      refine ev_iload_n (pc := 126) 1 dX12_undo_126 rfl rfl ?_
      refine ev_iconst (pc := 127) (x := 1) dX12_undo_127 ci_1 ?_
      refine ev_iadd (pc := 128) dX12_undo_128 ?_
      obtain ⟨c14, h⟩ := ck_some h
      refine ev_ildr (pc := 129) dX12_undo_129 kd_802 (by omega) (by omega) c14.1 c14.2 ?_
      refine ev_icmp_ge (pc := 130) (tgt := 137) dX12_undo_130 (by decide) (fun b15 => ?_) (fun b15 => ?_)
      · rw [if_pos b15] at h
        refine ev_iconst (pc := 137) (x := 0) dX12_undo_137 ci_0 ?_
        refine ev_pick [0, 1, 2] rfl ?_
        exact e_X12_undo_L108_J138 hd  (fun h9 => ih h9 hk0) hk0 h
      · rw [if_neg b15] at h
        refine ev_iconst (pc := 133) (x := 1) dX12_undo_133 ci_1 ?_
        refine ev_goto (pc := 134) (tgt := 138) dX12_undo_134 (by decide) ?_
        refine ev_pick [0, 1, 2] rfl ?_
        exact e_X12_undo_L108_J138 hd  (fun h9 => ih h9 hk0) hk0 h
def f_X12_undo (n : Nat) (M : Mem) : Option (Int × Mem) := if (M 802 4) ≠ 0 then (lt (upM M 802 4 (wI ((M 802 4) - 1))) fun M2 => (f_X12_undo_L37 n (wI (186 + (wI (64 * (M2 802 4))))) 0 M2).bind fun q7 => (f_X12_undo_L69 n (wI (186 + (wI (64 * (M2 802 4))))) 0 q7).bind fun q12 => (f_X12_undo_L108 n (wI (186 + (wI (64 * (M2 802 4))))) 0 q12).bind fun q17 => some ((q17 802 4), q17)) else (some ((-1), M))
set_option maxRecDepth 100000 in
set_option maxHeartbeats 4000000 in
theorem e_X12_undo {g : Gm} {d : Nat} {n : Nat} {M N : Mem} {v : Int} {M' : Mem} (hd : 2 ≤ d) (h : f_X12_undo n M = some (v, M')) : EvM g d mtX12_undo [vR 801] (sg (mx N M)) (0, 0) (vI v) (sg (mx N M')) := by
  unfold f_X12_undo at h
  refine EvM.of mkX12_undo.2.2.2.1 (Nat.le_of_ble_eq_true rfl) ?_
  change Ev g d mtX12_undo 0 [(0, vR 801)] [] (sg (mx N M)) (0, 0) (vI v) (sg (mx N M'))
  refine ev_aload_n (pc := 0) 0 dX12_undo_0 rfl rfl ?_
  refine ev_getR (pc := 1) fl12_7 rfl dX12_undo_1 rfl kd_801 (by omega) (rf_801_0 _) ?_
  refine ev_iconst (pc := 4) (x := 4) dX12_undo_4 ci_4 ?_
  refine ev_ildr (pc := 5) dX12_undo_5 kd_802 (by omega) (by omega) (by omega) (by omega) ?_
  refine ev_if_ne (pc := 6) (tgt := 11) dX12_undo_6 (by decide) (fun b1 => ?_) (fun b1 => ?_)
  · rw [if_pos b1] at h
    refine ev_aload_n (pc := 11) 0 dX12_undo_11 rfl rfl ?_
    refine ev_getR (pc := 12) fl12_7 rfl dX12_undo_12 rfl kd_801 (by omega) (rf_801_0 _) ?_
    refine ev_iconst (pc := 15) (x := 4) dX12_undo_15 ci_4 ?_
    refine ev_dup2 (pc := 16) rfl rfl dX12_undo_16 ?_
    refine ev_ildr (pc := 17) dX12_undo_17 kd_802 (by omega) (by omega) (by omega) (by omega) ?_
    refine ev_iconst (pc := 18) (x := 1) dX12_undo_18 ci_1 ?_
    refine ev_isub (pc := 19) dX12_undo_19 ?_
    obtain ⟨M2, eM2, h⟩ := lt_some h
    refine ev_istr (pc := 20) dX12_undo_20 kd_802 (by omega) (by omega) (by omega) (by omega) eM2 ?_
    refine ev_sipush (pc := 21) (x := 186) dX12_undo_21 cs_186 ?_
    refine ev_bipush (pc := 24) (x := 64) dX12_undo_24 cb_64 ?_
    refine ev_aload_n (pc := 26) 0 dX12_undo_26 rfl rfl ?_
    refine ev_getR (pc := 27) fl12_7 rfl dX12_undo_27 rfl kd_801 (by omega) (rf_801_0 _) ?_
    refine ev_iconst (pc := 30) (x := 4) dX12_undo_30 ci_4 ?_
    refine ev_ildr (pc := 31) dX12_undo_31 kd_802 (by omega) (by omega) (by omega) (by omega) ?_
    refine ev_imul (pc := 32) dX12_undo_32 ?_
    refine ev_iadd (pc := 33) dX12_undo_33 ?_
    refine ev_istore_n (pc := 34) (il' := [(1, vI (wI (186 + (wI (64 * (M2 802 4)))))), (0, vR 801)]) dX12_undo_34 rfl (Nat.le_of_ble_eq_true rfl) rfl ?_
    refine ev_iconst (pc := 35) (x := 0) dX12_undo_35 ci_0 ?_
    refine ev_istore_n (pc := 36) (il' := [(2, vI 0), (1, vI (wI (186 + (wI (64 * (M2 802 4)))))), (0, vR 801)]) dX12_undo_36 rfl (Nat.le_of_ble_eq_true rfl) rfl ?_
    obtain ⟨q7, hq7, h⟩ := bd h
    refine ev_pick [2, 1, 0] rfl ?_
    refine e_X12_undo_L37 hd  n hq7 ?_
    refine ev_iconst (pc := 67) (x := 0) dX12_undo_67 ci_0 ?_
    refine ev_istore_n (pc := 68) (il' := [(2, vI 0), (0, vR 801), (1, vI (wI (186 + (wI (64 * (M2 802 4))))))]) dX12_undo_68 rfl (Nat.le_of_ble_eq_true rfl) rfl ?_
    obtain ⟨q12, hq12, h⟩ := bd h
    refine ev_pick [1, 2, 0] rfl ?_
    refine e_X12_undo_L69 hd  n hq12 ?_
    refine ev_iconst (pc := 106) (x := 0) dX12_undo_106 ci_0 ?_
    refine ev_istore_n (pc := 107) (il' := [(2, vI 0), (0, vR 801), (1, vI (wI (186 + (wI (64 * (M2 802 4))))))]) dX12_undo_107 rfl (Nat.le_of_ble_eq_true rfl) rfl ?_
    obtain ⟨q17, hq17, h⟩ := bd h
    refine ev_pick [1, 2, 0] rfl ?_
    refine e_X12_undo_L108 hd  n hq17 ?_
    refine ev_aload_n (pc := 147) 0 dX12_undo_147 rfl rfl ?_
    refine ev_getR (pc := 148) fl12_7 rfl dX12_undo_148 rfl kd_801 (by omega) (rf_801_0 _) ?_
    refine ev_iconst (pc := 151) (x := 4) dX12_undo_151 ci_4 ?_
    refine ev_ildr (pc := 152) dX12_undo_152 kd_802 (by omega) (by omega) (by omega) (by omega) ?_
    cases h
    exact ev_iret (pc := 153) dX12_undo_153 rfl
  · rw [if_neg b1] at h
    refine ev_iconst (pc := 9) (x := (-1)) dX12_undo_9 ci_m1 ?_
    cases h
    exact ev_iret (pc := 10) dX12_undo_10 rfl
def f_X12_arePassed_L2 : Nat → Int → Int → Mem → Option (Int × Mem)
  | 0, _, _, _ => none
  | n + 1, x1, x2, M => if x1 ≤ x2 then (some (1, M)) else (if (M 802 8) ≠ 9999 then ((f_X12_keep n M).bind fun q3 => (f_X12_pass n q3).bind fun q4 => f_X12_arePassed_L2 n x1 (wI (x2 + 1)) q4) else (some (0, M)))
set_option maxRecDepth 100000 in
set_option maxHeartbeats 4000000 in
theorem e_X12_arePassed_L2 {g : Gm} {d : Nat} {x1 : Int} {N : Mem} (hd : 8 ≤ d) : ∀ (n : Nat) {x2 : Int} {M : Mem} {v : Int} {M' : Mem}, f_X12_arePassed_L2 n x1 x2 M = some (v, M') → Ev g d mtX12_arePassed 2 [(0, vR 801), (1, vI x1), (2, vI x2)] [] (sg (mx N M)) (0, 0) (vI v) (sg (mx N M')) := by
  intro n
  induction n with
  | zero =>
    intro x2 M v M' h
    rw [f_X12_arePassed_L2.eq_1] at h
    cases h
  | succ n ih =>
    intro x2 M v M' h
    rw [f_X12_arePassed_L2.eq_2] at h
    refine ev_iload_n (pc := 2) 2 dX12_arePassed_2 rfl rfl ?_
    refine ev_iload_n (pc := 3) 1 dX12_arePassed_3 rfl rfl ?_
    refine ev_icmp_ge (pc := 4) (tgt := 36) dX12_arePassed_4 (by decide) (fun b1 => ?_) (fun b1 => ?_)
    · rw [if_pos b1] at h
      refine ev_iconst (pc := 36) (x := 1) dX12_arePassed_36 ci_1 ?_
      cases h
      exact ev_zret (pc := 37) (Or.inr rfl) dX12_arePassed_37 rfl
    · rw [if_neg b1] at h
      refine ev_aload_n (pc := 7) 0 dX12_arePassed_7 rfl rfl ?_
      refine ev_getR (pc := 8) fl12_7 rfl dX12_arePassed_8 rfl kd_801 (by omega) (rf_801_0 _) ?_
      refine ev_bipush (pc := 11) (x := 8) dX12_arePassed_11 cb_8 ?_
      refine ev_ildr (pc := 13) dX12_arePassed_13 kd_802 (by omega) (by omega) (by omega) (by omega) ?_
      refine ev_sipush (pc := 14) (x := 9999) dX12_arePassed_14 cs_9999 ?_
      refine ev_icmp_ne (pc := 17) (tgt := 22) dX12_arePassed_17 (by decide) (fun b2 => ?_) (fun b2 => ?_)
      · rw [if_pos b2] at h
        refine ev_aload_n (pc := 22) 0 dX12_arePassed_22 rfl rfl ?_
        obtain ⟨q3, hq3, h⟩ := bd h
        refine ev_cV0 (pc := 23) [] [] rfl mkX12_keep ml12_378 mnX12_keep dX12_arePassed_23 kd_801 (by omega) rfl (Nat.le_of_ble_eq_true rfl) (by omega) (e_X12_keep (d := d - 1) (M' := q3) (by omega)  hq3) ?_
        refine ev_aload_n (pc := 26) 0 dX12_arePassed_26 rfl rfl ?_
        obtain ⟨q4, hq4, h⟩ := bd h
        refine ev_cV0 (pc := 27) [] [] rfl mkX12_pass ml12_381 mnX12_pass dX12_arePassed_27 kd_801 (by omega) rfl (Nat.le_of_ble_eq_true rfl) (by omega) (e_X12_pass (d := d - 1) (M' := q4) (by omega)  hq4) ?_
        refine ev_iinc (pc := 30) (il' := [(2, vI (wI (x2 + 1))), (0, vR 801), (1, vI x1)]) 2 dX12_arePassed_30 rfl (Nat.le_of_ble_eq_true rfl) rfl rfl ?_
        refine ev_goto (pc := 33) (tgt := 2) dX12_arePassed_33 (by decide) ?_
        refine ev_pick [1, 2, 0] rfl ?_
        exact ih h
      · rw [if_neg b2] at h
        refine ev_iconst (pc := 20) (x := 0) dX12_arePassed_20 ci_0 ?_
        cases h
        exact ev_zret (pc := 21) (Or.inl rfl) dX12_arePassed_21 rfl
def f_X12_arePassed (n : Nat) (p0 : Int) (M : Mem) : Option (Int × Mem) := f_X12_arePassed_L2 n p0 0 M
set_option maxRecDepth 100000 in
set_option maxHeartbeats 4000000 in
theorem e_X12_arePassed {g : Gm} {d : Nat} {n : Nat} {p0 : Int} {M N : Mem} {v : Int} {M' : Mem} (hd : 8 ≤ d) (h : f_X12_arePassed n p0 M = some (v, M')) : EvM g d mtX12_arePassed [vR 801, vI p0] (sg (mx N M)) (0, 0) (vI v) (sg (mx N M')) := by
  unfold f_X12_arePassed at h
  refine EvM.of mkX12_arePassed.2.2.2.1 (Nat.le_of_ble_eq_true rfl) ?_
  change Ev g d mtX12_arePassed 0 [(0, vR 801), (1, vI p0)] [] (sg (mx N M)) (0, 0) (vI v) (sg (mx N M'))
  refine ev_iconst (pc := 0) (x := 0) dX12_arePassed_0 ci_0 ?_
  refine ev_istore_n (pc := 1) (il' := [(2, vI 0), (0, vR 801), (1, vI p0)]) dX12_arePassed_1 rfl (Nat.le_of_ble_eq_true rfl) rfl ?_
  refine ev_pick [1, 2, 0] rfl ?_
  exact e_X12_arePassed_L2 hd  n h
def f_X12_hour (n : Nat) (p0 : Int) (M : Mem) : Option (Int × Mem) := if (f_X12_isIn p0 1 60) = 0 then (some ((-1), M)) else (if (wI ((M 802 8) + p0)) ≤ 9999 then (lt (upM M 801 29 0) fun M3 => (f_X12_arePassed n p0 M3).bind fun q4 => if q4.1 = 0 then (some ((-1), q4.2)) else (some ((q4.2 801 29), q4.2))) else (some ((-1), M)))
set_option maxRecDepth 100000 in
set_option maxHeartbeats 4000000 in
theorem e_X12_hour {g : Gm} {d : Nat} {n : Nat} {p0 : Int} {M N : Mem} {v : Int} {M' : Mem} (hd : 9 ≤ d) (h : f_X12_hour n p0 M = some (v, M')) : EvM g d mtX12_hour [vR 801, vI p0] (sg (mx N M)) (0, 0) (vI v) (sg (mx N M')) := by
  unfold f_X12_hour at h
  refine EvM.of mkX12_hour.2.2.2.1 (Nat.le_of_ble_eq_true rfl) ?_
  change Ev g d mtX12_hour 0 [(0, vR 801), (1, vI p0)] [] (sg (mx N M)) (0, 0) (vI v) (sg (mx N M'))
  refine ev_iload_n (pc := 0) 1 dX12_hour_0 rfl rfl ?_
  refine ev_iconst (pc := 1) (x := 1) dX12_hour_1 ci_1 ?_
  refine ev_bipush (pc := 2) (x := 60) dX12_hour_2 cb_60 ?_
  refine ev_cS (pc := 4) [vI p0, vI 1, vI 60] [] rfl mkX12_isIn ml12_90 msX12_isIn dX12_hour_4 rfl (Nat.le_of_ble_eq_true rfl) (by omega) rfl (e_X12_isIn (d := d - 1) (v := (f_X12_isIn p0 1 60)) (by omega)  rfl) ?_
  refine ev_if_eq (pc := 7) (tgt := 25) dX12_hour_7 (by decide) (fun b1 => ?_) (fun b1 => ?_)
  · rw [if_pos b1] at h
    refine ev_iconst (pc := 25) (x := (-1)) dX12_hour_25 ci_m1 ?_
    cases h
    exact ev_iret (pc := 26) dX12_hour_26 rfl
  · rw [if_neg b1] at h
    refine ev_aload_n (pc := 10) 0 dX12_hour_10 rfl rfl ?_
    refine ev_getR (pc := 11) fl12_7 rfl dX12_hour_11 rfl kd_801 (by omega) (rf_801_0 _) ?_
    refine ev_bipush (pc := 14) (x := 8) dX12_hour_14 cb_8 ?_
    refine ev_ildr (pc := 16) dX12_hour_16 kd_802 (by omega) (by omega) (by omega) (by omega) ?_
    refine ev_iload_n (pc := 17) 1 dX12_hour_17 rfl rfl ?_
    refine ev_iadd (pc := 18) dX12_hour_18 ?_
    refine ev_sipush (pc := 19) (x := 9999) dX12_hour_19 cs_9999 ?_
    refine ev_icmp_le (pc := 22) (tgt := 27) dX12_hour_22 (by decide) (fun b2 => ?_) (fun b2 => ?_)
    · rw [if_pos b2] at h
      refine ev_aload_n (pc := 27) 0 dX12_hour_27 rfl rfl ?_
      refine ev_iconst (pc := 28) (x := 0) dX12_hour_28 ci_0 ?_
      obtain ⟨M3, eM3, h⟩ := lt_some h
      refine ev_putIr (pc := 29) fl12_343 rfl dX12_hour_29 kd_801 (by omega) (by omega) eM3 ?_
      refine ev_aload_n (pc := 32) 0 dX12_hour_32 rfl rfl ?_
      refine ev_iload_n (pc := 33) 1 dX12_hour_33 rfl rfl ?_
      obtain ⟨q4, hq4, h⟩ := bd h
      refine ev_cV (pc := 34) [vI p0] [] rfl mkX12_arePassed ml12_384 mnX12_arePassed dX12_hour_34 kd_801 (by omega) rfl (Nat.le_of_ble_eq_true rfl) (by omega) rfl (e_X12_arePassed (d := d - 1) (v := q4.1) (M' := q4.2) (by omega)  hq4) ?_
      refine ev_if_eq (pc := 37) (tgt := 47) dX12_hour_37 (by decide) (fun b5 => ?_) (fun b5 => ?_)
      · rw [if_pos b5] at h
        refine ev_iconst (pc := 47) (x := (-1)) dX12_hour_47 ci_m1 ?_
        cases h
        exact ev_iret (pc := 48) dX12_hour_48 rfl
      · rw [if_neg b5] at h
        refine ev_aload_n (pc := 40) 0 dX12_hour_40 rfl rfl ?_
        refine ev_getIr (pc := 41) fl12_343 rfl dX12_hour_41 rfl kd_801 (by omega) (by omega) 29 rfl ?_
        refine ev_goto (pc := 44) (tgt := 48) dX12_hour_44 (by decide) ?_
        cases h
        exact ev_iret (pc := 48) dX12_hour_48 rfl
    · rw [if_neg b2] at h
      refine ev_iconst (pc := 25) (x := (-1)) dX12_hour_25 ci_m1 ?_
      cases h
      exact ev_iret (pc := 26) dX12_hour_26 rfl
def f_X12_floodNow (p0 p1 : Int) (M : Mem) : Option (Mem) := (f_X12_at p0 2 M).bind fun q1 => (f_X12_put p0 2 (f_X12_cut (wI (q1 + p1)) 0 999) M).bind fun q2 => some q2
set_option maxRecDepth 100000 in
set_option maxHeartbeats 4000000 in
theorem e_X12_floodNow {g : Gm} {d : Nat} {p0 p1 : Int} {M N : Mem} {M' : Mem} (hd : 1 ≤ d) (h : f_X12_floodNow p0 p1 M = some M') : EvM g d mtX12_floodNow [vR 801, vI p0, vI p1] (sg (mx N M)) (0, 0) vN (sg (mx N M')) := by
  unfold f_X12_floodNow at h
  refine EvM.of mkX12_floodNow.2.2.2.1 (Nat.le_of_ble_eq_true rfl) ?_
  change Ev g d mtX12_floodNow 0 [(0, vR 801), (1, vI p0), (2, vI p1)] [] (sg (mx N M)) (0, 0) vN (sg (mx N M'))
  refine ev_aload_n (pc := 0) 0 dX12_floodNow_0 rfl rfl ?_
  refine ev_iload_n (pc := 1) 1 dX12_floodNow_1 rfl rfl ?_
  refine ev_iconst (pc := 2) (x := 2) dX12_floodNow_2 ci_2 ?_
  refine ev_aload_n (pc := 3) 0 dX12_floodNow_3 rfl rfl ?_
  refine ev_iload_n (pc := 4) 1 dX12_floodNow_4 rfl rfl ?_
  refine ev_iconst (pc := 5) (x := 2) dX12_floodNow_5 ci_2 ?_
  obtain ⟨q1, hq1, h⟩ := bd h
  refine ev_cV (pc := 6) [vI p0, vI 2] [vI 2, vI p0, vR 801] rfl mkX12_at ml12_98 mnX12_at dX12_floodNow_6 kd_801 (by omega) rfl (Nat.le_of_ble_eq_true rfl) (by omega) rfl (e_X12_at (d := d - 1) (v := q1) (by omega)  hq1) ?_
  refine ev_iload_n (pc := 9) 2 dX12_floodNow_9 rfl rfl ?_
  refine ev_iadd (pc := 10) dX12_floodNow_10 ?_
  refine ev_i2l (pc := 11) dX12_floodNow_11 ?_
  refine ev_iconst (pc := 12) (x := 0) dX12_floodNow_12 ci_0 ?_
  refine ev_sipush (pc := 13) (x := 999) dX12_floodNow_13 cs_999 ?_
  refine ev_cS (pc := 16) [vL (wI (q1 + p1)), vI 0, vI 999] [vI 2, vI p0, vR 801] rfl mkX12_cut ml12_326 msX12_cut dX12_floodNow_16 rfl (Nat.le_of_ble_eq_true rfl) (by omega) rfl (e_X12_cut (d := d - 1) (v := (f_X12_cut (wI (q1 + p1)) 0 999)) (by omega)  rfl) ?_
  obtain ⟨q2, hq2, h⟩ := bd h
  refine ev_cV0 (pc := 19) [vI p0, vI 2, vI (f_X12_cut (wI (q1 + p1)) 0 999)] [] rfl mkX12_put ml12_94 mnX12_put dX12_floodNow_19 kd_801 (by omega) rfl (Nat.le_of_ble_eq_true rfl) (by omega) (e_X12_put (d := d - 1) (M' := q2) (by omega)  hq2) ?_
  cases h
  exact ev_vret (pc := 22) dX12_floodNow_22 rfl
def f_X12_flood (n : Nat) (p0 p1 : Int) (M : Mem) : Option (Int × Mem) := if (f_X12_isStep p0 M) = 0 then (some ((-1), M)) else (if (f_X12_isIn p1 1 999) ≠ 0 then ((f_X12_keep n M).bind fun q3 => (f_X12_floodNow p0 p1 q3).bind fun q4 => (f_X12_at p0 2 q4).bind fun q5 => some (q5, q4)) else (some ((-1), M)))
set_option maxRecDepth 100000 in
set_option maxHeartbeats 4000000 in
theorem e_X12_flood {g : Gm} {d : Nat} {n : Nat} {p0 p1 : Int} {M N : Mem} {v : Int} {M' : Mem} (hd : 2 ≤ d) (h : f_X12_flood n p0 p1 M = some (v, M')) : EvM g d mtX12_flood [vR 801, vI p0, vI p1] (sg (mx N M)) (0, 0) (vI v) (sg (mx N M')) := by
  unfold f_X12_flood at h
  refine EvM.of mkX12_flood.2.2.2.1 (Nat.le_of_ble_eq_true rfl) ?_
  change Ev g d mtX12_flood 0 [(0, vR 801), (1, vI p0), (2, vI p1)] [] (sg (mx N M)) (0, 0) (vI v) (sg (mx N M'))
  refine ev_aload_n (pc := 0) 0 dX12_flood_0 rfl rfl ?_
  refine ev_iload_n (pc := 1) 1 dX12_flood_1 rfl rfl ?_
  refine ev_cV (pc := 2) [vI p0] [] rfl mkX12_isStep ml12_102 mnX12_isStep dX12_flood_2 kd_801 (by omega) rfl (Nat.le_of_ble_eq_true rfl) (by omega) rfl (e_X12_isStep (d := d - 1) (v := (f_X12_isStep p0 M)) (by omega)  rfl) ?_
  refine ev_if_eq (pc := 5) (tgt := 19) dX12_flood_5 (by decide) (fun b1 => ?_) (fun b1 => ?_)
  · rw [if_pos b1] at h
    refine ev_iconst (pc := 19) (x := (-1)) dX12_flood_19 ci_m1 ?_
    cases h
    exact ev_iret (pc := 20) dX12_flood_20 rfl
  · rw [if_neg b1] at h
    refine ev_iload_n (pc := 8) 2 dX12_flood_8 rfl rfl ?_
    refine ev_iconst (pc := 9) (x := 1) dX12_flood_9 ci_1 ?_
    refine ev_sipush (pc := 10) (x := 999) dX12_flood_10 cs_999 ?_
    refine ev_cS (pc := 13) [vI p1, vI 1, vI 999] [] rfl mkX12_isIn ml12_90 msX12_isIn dX12_flood_13 rfl (Nat.le_of_ble_eq_true rfl) (by omega) rfl (e_X12_isIn (d := d - 1) (v := (f_X12_isIn p1 1 999)) (by omega)  rfl) ?_
    refine ev_if_ne (pc := 16) (tgt := 21) dX12_flood_16 (by decide) (fun b2 => ?_) (fun b2 => ?_)
    · rw [if_pos b2] at h
      refine ev_aload_n (pc := 21) 0 dX12_flood_21 rfl rfl ?_
      obtain ⟨q3, hq3, h⟩ := bd h
      refine ev_cV0 (pc := 22) [] [] rfl mkX12_keep ml12_378 mnX12_keep dX12_flood_22 kd_801 (by omega) rfl (Nat.le_of_ble_eq_true rfl) (by omega) (e_X12_keep (d := d - 1) (M' := q3) (by omega)  hq3) ?_
      refine ev_aload_n (pc := 25) 0 dX12_flood_25 rfl rfl ?_
      refine ev_iload_n (pc := 26) 1 dX12_flood_26 rfl rfl ?_
      refine ev_iload_n (pc := 27) 2 dX12_flood_27 rfl rfl ?_
      obtain ⟨q4, hq4, h⟩ := bd h
      refine ev_cV0 (pc := 28) [vI p0, vI p1] [] rfl mkX12_floodNow ml12_387 mnX12_floodNow dX12_flood_28 kd_801 (by omega) rfl (Nat.le_of_ble_eq_true rfl) (by omega) (e_X12_floodNow (d := d - 1) (M' := q4) (by omega)  hq4) ?_
      refine ev_aload_n (pc := 31) 0 dX12_flood_31 rfl rfl ?_
      refine ev_iload_n (pc := 32) 1 dX12_flood_32 rfl rfl ?_
      refine ev_iconst (pc := 33) (x := 2) dX12_flood_33 ci_2 ?_
      obtain ⟨q5, hq5, h⟩ := bd h
      refine ev_cV (pc := 34) [vI p0, vI 2] [] rfl mkX12_at ml12_98 mnX12_at dX12_flood_34 kd_801 (by omega) rfl (Nat.le_of_ble_eq_true rfl) (by omega) rfl (e_X12_at (d := d - 1) (v := q5) (by omega)  hq5) ?_
      cases h
      exact ev_iret (pc := 37) dX12_flood_37 rfl
    · rw [if_neg b2] at h
      refine ev_iconst (pc := 19) (x := (-1)) dX12_flood_19 ci_m1 ?_
      cases h
      exact ev_iret (pc := 20) dX12_flood_20 rfl
def f_X12_raise (n : Nat) (p0 p1 : Int) (M : Mem) : Option (Int × Mem) := if (f_X12_isStep p0 M) = 0 then (some (0, M)) else (if (f_X12_isIn p1 0 99) = 0 then (some (0, M)) else ((f_X12_at p0 1 M).bind fun q3 => if q3 ≠ p1 then ((f_X12_keep n M).bind fun q5 => (f_X12_put p0 1 p1 q5).bind fun q6 => some (1, q6)) else (some (0, M))))
set_option maxRecDepth 100000 in
set_option maxHeartbeats 4000000 in
theorem e_X12_raise {g : Gm} {d : Nat} {n : Nat} {p0 p1 : Int} {M N : Mem} {v : Int} {M' : Mem} (hd : 2 ≤ d) (h : f_X12_raise n p0 p1 M = some (v, M')) : EvM g d mtX12_raise [vR 801, vI p0, vI p1] (sg (mx N M)) (0, 0) (vI v) (sg (mx N M')) := by
  unfold f_X12_raise at h
  refine EvM.of mkX12_raise.2.2.2.1 (Nat.le_of_ble_eq_true rfl) ?_
  change Ev g d mtX12_raise 0 [(0, vR 801), (1, vI p0), (2, vI p1)] [] (sg (mx N M)) (0, 0) (vI v) (sg (mx N M'))
  refine ev_aload_n (pc := 0) 0 dX12_raise_0 rfl rfl ?_
  refine ev_iload_n (pc := 1) 1 dX12_raise_1 rfl rfl ?_
  refine ev_cV (pc := 2) [vI p0] [] rfl mkX12_isStep ml12_102 mnX12_isStep dX12_raise_2 kd_801 (by omega) rfl (Nat.le_of_ble_eq_true rfl) (by omega) rfl (e_X12_isStep (d := d - 1) (v := (f_X12_isStep p0 M)) (by omega)  rfl) ?_
  refine ev_if_eq (pc := 5) (tgt := 28) dX12_raise_5 (by decide) (fun b1 => ?_) (fun b1 => ?_)
  · rw [if_pos b1] at h
    refine ev_iconst (pc := 28) (x := 0) dX12_raise_28 ci_0 ?_
    cases h
    exact ev_zret (pc := 29) (Or.inl rfl) dX12_raise_29 rfl
  · rw [if_neg b1] at h
    refine ev_iload_n (pc := 8) 2 dX12_raise_8 rfl rfl ?_
    refine ev_iconst (pc := 9) (x := 0) dX12_raise_9 ci_0 ?_
    refine ev_bipush (pc := 10) (x := 99) dX12_raise_10 cb_99 ?_
    refine ev_cS (pc := 12) [vI p1, vI 0, vI 99] [] rfl mkX12_isIn ml12_90 msX12_isIn dX12_raise_12 rfl (Nat.le_of_ble_eq_true rfl) (by omega) rfl (e_X12_isIn (d := d - 1) (v := (f_X12_isIn p1 0 99)) (by omega)  rfl) ?_
    refine ev_if_eq (pc := 15) (tgt := 28) dX12_raise_15 (by decide) (fun b2 => ?_) (fun b2 => ?_)
    · rw [if_pos b2] at h
      refine ev_iconst (pc := 28) (x := 0) dX12_raise_28 ci_0 ?_
      cases h
      exact ev_zret (pc := 29) (Or.inl rfl) dX12_raise_29 rfl
    · rw [if_neg b2] at h
      refine ev_aload_n (pc := 18) 0 dX12_raise_18 rfl rfl ?_
      refine ev_iload_n (pc := 19) 1 dX12_raise_19 rfl rfl ?_
      refine ev_iconst (pc := 20) (x := 1) dX12_raise_20 ci_1 ?_
      obtain ⟨q3, hq3, h⟩ := bd h
      refine ev_cV (pc := 21) [vI p0, vI 1] [] rfl mkX12_at ml12_98 mnX12_at dX12_raise_21 kd_801 (by omega) rfl (Nat.le_of_ble_eq_true rfl) (by omega) rfl (e_X12_at (d := d - 1) (v := q3) (by omega)  hq3) ?_
      refine ev_iload_n (pc := 24) 2 dX12_raise_24 rfl rfl ?_
      refine ev_icmp_ne (pc := 25) (tgt := 30) dX12_raise_25 (by decide) (fun b4 => ?_) (fun b4 => ?_)
      · rw [if_pos b4] at h
        refine ev_aload_n (pc := 30) 0 dX12_raise_30 rfl rfl ?_
        obtain ⟨q5, hq5, h⟩ := bd h
        refine ev_cV0 (pc := 31) [] [] rfl mkX12_keep ml12_378 mnX12_keep dX12_raise_31 kd_801 (by omega) rfl (Nat.le_of_ble_eq_true rfl) (by omega) (e_X12_keep (d := d - 1) (M' := q5) (by omega)  hq5) ?_
        refine ev_aload_n (pc := 34) 0 dX12_raise_34 rfl rfl ?_
        refine ev_iload_n (pc := 35) 1 dX12_raise_35 rfl rfl ?_
        refine ev_iconst (pc := 36) (x := 1) dX12_raise_36 ci_1 ?_
        refine ev_iload_n (pc := 37) 2 dX12_raise_37 rfl rfl ?_
        obtain ⟨q6, hq6, h⟩ := bd h
        refine ev_cV0 (pc := 38) [vI p0, vI 1, vI p1] [] rfl mkX12_put ml12_94 mnX12_put dX12_raise_38 kd_801 (by omega) rfl (Nat.le_of_ble_eq_true rfl) (by omega) (e_X12_put (d := d - 1) (M' := q6) (by omega)  hq6) ?_
        refine ev_iconst (pc := 41) (x := 1) dX12_raise_41 ci_1 ?_
        cases h
        exact ev_zret (pc := 42) (Or.inr rfl) dX12_raise_42 rfl
      · rw [if_neg b4] at h
        refine ev_iconst (pc := 28) (x := 0) dX12_raise_28 ci_0 ?_
        cases h
        exact ev_zret (pc := 29) (Or.inl rfl) dX12_raise_29 rfl
def f_X12_mend (n : Nat) (p0 : Int) (M : Mem) : Option (Int × Mem) := if (f_X12_isRiser p0 M) ≠ 0 then ((f_X12_keep n M).bind fun q2 => (f_X12_at p0 4 q2).bind fun q3 => (f_X12_put p0 4 0 q2).bind fun q4 => some (q3, q4)) else (some ((-1), M))
set_option maxRecDepth 100000 in
set_option maxHeartbeats 4000000 in
theorem e_X12_mend {g : Gm} {d : Nat} {n : Nat} {p0 : Int} {M N : Mem} {v : Int} {M' : Mem} (hd : 2 ≤ d) (h : f_X12_mend n p0 M = some (v, M')) : EvM g d mtX12_mend [vR 801, vI p0] (sg (mx N M)) (0, 0) (vI v) (sg (mx N M')) := by
  unfold f_X12_mend at h
  refine EvM.of mkX12_mend.2.2.2.1 (Nat.le_of_ble_eq_true rfl) ?_
  change Ev g d mtX12_mend 0 [(0, vR 801), (1, vI p0)] [] (sg (mx N M)) (0, 0) (vI v) (sg (mx N M'))
  refine ev_aload_n (pc := 0) 0 dX12_mend_0 rfl rfl ?_
  refine ev_iload_n (pc := 1) 1 dX12_mend_1 rfl rfl ?_
  refine ev_cV (pc := 2) [vI p0] [] rfl mkX12_isRiser ml12_390 mnX12_isRiser dX12_mend_2 kd_801 (by omega) rfl (Nat.le_of_ble_eq_true rfl) (by omega) rfl (e_X12_isRiser (d := d - 1) (v := (f_X12_isRiser p0 M)) (by omega)  rfl) ?_
  refine ev_if_ne (pc := 5) (tgt := 10) dX12_mend_5 (by decide) (fun b1 => ?_) (fun b1 => ?_)
  · rw [if_pos b1] at h
    refine ev_aload_n (pc := 10) 0 dX12_mend_10 rfl rfl ?_
    obtain ⟨q2, hq2, h⟩ := bd h
    refine ev_cV0 (pc := 11) [] [] rfl mkX12_keep ml12_378 mnX12_keep dX12_mend_11 kd_801 (by omega) rfl (Nat.le_of_ble_eq_true rfl) (by omega) (e_X12_keep (d := d - 1) (M' := q2) (by omega)  hq2) ?_
    refine ev_aload_n (pc := 14) 0 dX12_mend_14 rfl rfl ?_
    refine ev_iload_n (pc := 15) 1 dX12_mend_15 rfl rfl ?_
    refine ev_iconst (pc := 16) (x := 4) dX12_mend_16 ci_4 ?_
    obtain ⟨q3, hq3, h⟩ := bd h
    refine ev_cV (pc := 17) [vI p0, vI 4] [] rfl mkX12_at ml12_98 mnX12_at dX12_mend_17 kd_801 (by omega) rfl (Nat.le_of_ble_eq_true rfl) (by omega) rfl (e_X12_at (d := d - 1) (v := q3) (by omega)  hq3) ?_
    refine ev_istore_n (pc := 20) (il' := [(2, vI q3), (0, vR 801), (1, vI p0)]) dX12_mend_20 rfl (Nat.le_of_ble_eq_true rfl) rfl ?_
    refine ev_aload_n (pc := 21) 1 dX12_mend_21 rfl rfl ?_
    refine ev_iload_n (pc := 22) 2 dX12_mend_22 rfl rfl ?_
    refine ev_iconst (pc := 23) (x := 4) dX12_mend_23 ci_4 ?_
    refine ev_iconst (pc := 24) (x := 0) dX12_mend_24 ci_0 ?_
    obtain ⟨q4, hq4, h⟩ := bd h
    refine ev_cV0 (pc := 25) [vI p0, vI 4, vI 0] [] rfl mkX12_put ml12_94 mnX12_put dX12_mend_25 kd_801 (by omega) rfl (Nat.le_of_ble_eq_true rfl) (by omega) (e_X12_put (d := d - 1) (M' := q4) (by omega)  hq4) ?_
    refine ev_iload_n (pc := 28) 0 dX12_mend_28 rfl rfl ?_
    cases h
    exact ev_iret (pc := 29) dX12_mend_29 rfl
  · rw [if_neg b1] at h
    refine ev_iconst (pc := 8) (x := (-1)) dX12_mend_8 ci_m1 ?_
    cases h
    exact ev_iret (pc := 9) dX12_mend_9 rfl
def f_X12_bind (n : Nat) (p0 p1 : Int) (M : Mem) : Option (Int × Mem) := if (f_X12_isShip p0 M) = 0 then (some (0, M)) else (if (f_X12_isStep p1 M) = 0 then (some (0, M)) else ((f_X12_get p0 2 M).bind fun q3 => if q3 ≠ p1 then ((f_X12_keep n M).bind fun q5 => (f_X12_set p0 2 p1 q5).bind fun q6 => some (1, q6)) else (some (0, M))))
set_option maxRecDepth 100000 in
set_option maxHeartbeats 4000000 in
theorem e_X12_bind {g : Gm} {d : Nat} {n : Nat} {p0 p1 : Int} {M N : Mem} {v : Int} {M' : Mem} (hd : 2 ≤ d) (h : f_X12_bind n p0 p1 M = some (v, M')) : EvM g d mtX12_bind [vR 801, vI p0, vI p1] (sg (mx N M)) (0, 0) (vI v) (sg (mx N M')) := by
  unfold f_X12_bind at h
  refine EvM.of mkX12_bind.2.2.2.1 (Nat.le_of_ble_eq_true rfl) ?_
  change Ev g d mtX12_bind 0 [(0, vR 801), (1, vI p0), (2, vI p1)] [] (sg (mx N M)) (0, 0) (vI v) (sg (mx N M'))
  refine ev_aload_n (pc := 0) 0 dX12_bind_0 rfl rfl ?_
  refine ev_iload_n (pc := 1) 1 dX12_bind_1 rfl rfl ?_
  refine ev_cV (pc := 2) [vI p0] [] rfl mkX12_isShip ml12_393 mnX12_isShip dX12_bind_2 kd_801 (by omega) rfl (Nat.le_of_ble_eq_true rfl) (by omega) rfl (e_X12_isShip (d := d - 1) (v := (f_X12_isShip p0 M)) (by omega)  rfl) ?_
  refine ev_if_eq (pc := 5) (tgt := 26) dX12_bind_5 (by decide) (fun b1 => ?_) (fun b1 => ?_)
  · rw [if_pos b1] at h
    refine ev_iconst (pc := 26) (x := 0) dX12_bind_26 ci_0 ?_
    cases h
    exact ev_zret (pc := 27) (Or.inl rfl) dX12_bind_27 rfl
  · rw [if_neg b1] at h
    refine ev_aload_n (pc := 8) 0 dX12_bind_8 rfl rfl ?_
    refine ev_iload_n (pc := 9) 2 dX12_bind_9 rfl rfl ?_
    refine ev_cV (pc := 10) [vI p1] [] rfl mkX12_isStep ml12_102 mnX12_isStep dX12_bind_10 kd_801 (by omega) rfl (Nat.le_of_ble_eq_true rfl) (by omega) rfl (e_X12_isStep (d := d - 1) (v := (f_X12_isStep p1 M)) (by omega)  rfl) ?_
    refine ev_if_eq (pc := 13) (tgt := 26) dX12_bind_13 (by decide) (fun b2 => ?_) (fun b2 => ?_)
    · rw [if_pos b2] at h
      refine ev_iconst (pc := 26) (x := 0) dX12_bind_26 ci_0 ?_
      cases h
      exact ev_zret (pc := 27) (Or.inl rfl) dX12_bind_27 rfl
    · rw [if_neg b2] at h
      refine ev_aload_n (pc := 16) 0 dX12_bind_16 rfl rfl ?_
      refine ev_iload_n (pc := 17) 1 dX12_bind_17 rfl rfl ?_
      refine ev_iconst (pc := 18) (x := 2) dX12_bind_18 ci_2 ?_
      obtain ⟨q3, hq3, h⟩ := bd h
      refine ev_cV (pc := 19) [vI p0, vI 2] [] rfl mkX12_get ml12_340 mnX12_get dX12_bind_19 kd_801 (by omega) rfl (Nat.le_of_ble_eq_true rfl) (by omega) rfl (e_X12_get (d := d - 1) (v := q3) (by omega)  hq3) ?_
      refine ev_iload_n (pc := 22) 2 dX12_bind_22 rfl rfl ?_
      refine ev_icmp_ne (pc := 23) (tgt := 28) dX12_bind_23 (by decide) (fun b4 => ?_) (fun b4 => ?_)
      · rw [if_pos b4] at h
        refine ev_aload_n (pc := 28) 0 dX12_bind_28 rfl rfl ?_
        obtain ⟨q5, hq5, h⟩ := bd h
        refine ev_cV0 (pc := 29) [] [] rfl mkX12_keep ml12_378 mnX12_keep dX12_bind_29 kd_801 (by omega) rfl (Nat.le_of_ble_eq_true rfl) (by omega) (e_X12_keep (d := d - 1) (M' := q5) (by omega)  hq5) ?_
        refine ev_aload_n (pc := 32) 0 dX12_bind_32 rfl rfl ?_
        refine ev_iload_n (pc := 33) 1 dX12_bind_33 rfl rfl ?_
        refine ev_iconst (pc := 34) (x := 2) dX12_bind_34 ci_2 ?_
        refine ev_iload_n (pc := 35) 2 dX12_bind_35 rfl rfl ?_
        obtain ⟨q6, hq6, h⟩ := bd h
        refine ev_cV0 (pc := 36) [vI p0, vI 2, vI p1] [] rfl mkX12_set ml12_106 mnX12_set dX12_bind_36 kd_801 (by omega) rfl (Nat.le_of_ble_eq_true rfl) (by omega) (e_X12_set (d := d - 1) (M' := q6) (by omega)  hq6) ?_
        refine ev_iconst (pc := 39) (x := 1) dX12_bind_39 ci_1 ?_
        cases h
        exact ev_zret (pc := 40) (Or.inr rfl) dX12_bind_40 rfl
      · rw [if_neg b4] at h
        refine ev_iconst (pc := 26) (x := 0) dX12_bind_26 ci_0 ?_
        cases h
        exact ev_zret (pc := 27) (Or.inl rfl) dX12_bind_27 rfl
def f_X12_isPlayed (n : Nat) (p0 : Int) (M : Mem) : Option (Int × Mem) := ck (0 ≤ (wI (p0 + 1)) ∧ (wI (p0 + 1)) < 2916) (ck (0 ≤ (wI (p0 + 2)) ∧ (wI (p0 + 2)) < 2916) (ck (0 ≤ p0 ∧ p0 < 2916) ((if (M 804 p0) = 5 then (ck (0 ≤ (wI (p0 + 3)) ∧ (wI (p0 + 3)) < 2916) (ck (0 ≤ (wI (p0 + 4)) ∧ (wI (p0 + 4)) < 2916) ((f_X12_step n (M 804 (wI (p0 + 1))) (M 804 (wI (p0 + 2))) (M 804 (wI (p0 + 3))) (M 804 (wI (p0 + 4))) M).bind fun q7 => if q7.1 < 0 then (some (0, q7.2)) else (some (1, q7.2))))) else (if (M 804 p0) = 6 then (ck (0 ≤ (wI (p0 + 3)) ∧ (wI (p0 + 3)) < 2916) ((f_X12_ship (M 804 (wI (p0 + 1))) (M 804 (wI (p0 + 2))) (M 804 (wI (p0 + 3))) M).bind fun q11 => if q11.1 < 0 then (some (0, q11.2)) else (some (1, q11.2)))) else (if (M 804 p0) = 7 then ((f_X12_arePassed n (M 804 (wI (p0 + 1))) M).bind fun q14 => ck (q14.1 = 0 ∨ q14.1 = 1) (some (q14.1, q14.2))) else (if (M 804 p0) = 8 then ((f_X12_flood n (M 804 (wI (p0 + 1))) (M 804 (wI (p0 + 2))) M).bind fun q17 => if q17.1 < 0 then (some (0, q17.2)) else (some (1, q17.2))) else (if (M 804 p0) = 9 then ((f_X12_raise n (M 804 (wI (p0 + 1))) (M 804 (wI (p0 + 2))) M).bind fun q20 => ck (q20.1 = 0 ∨ q20.1 = 1) (some (q20.1, q20.2))) else (if (M 804 p0) = 10 then ((f_X12_mend n (M 804 (wI (p0 + 1))) M).bind fun q23 => if q23.1 < 0 then (some (0, q23.2)) else (some (1, q23.2))) else (if (M 804 p0) = 11 then ((f_X12_bind n (M 804 (wI (p0 + 1))) (M 804 (wI (p0 + 2))) M).bind fun q26 => ck (q26.1 = 0 ∨ q26.1 = 1) (some (q26.1, q26.2))) else (some (1, M))))))))))))
set_option maxRecDepth 100000 in
set_option maxHeartbeats 4000000 in
theorem e_X12_isPlayed {g : Gm} {d : Nat} {n : Nat} {p0 : Int} {M N : Mem} {v : Int} {M' : Mem} (hd : 9 ≤ d) (h : f_X12_isPlayed n p0 M = some (v, M')) : EvM g d mtX12_isPlayed [vR 801, vI p0] (sg (mx N M)) (0, 0) (vI v) (sg (mx N M')) := by
  unfold f_X12_isPlayed at h
  refine EvM.of mkX12_isPlayed.2.2.2.1 (Nat.le_of_ble_eq_true rfl) ?_
  change Ev g d mtX12_isPlayed 0 [(0, vR 801), (1, vI p0)] [] (sg (mx N M)) (0, 0) (vI v) (sg (mx N M'))
  refine ev_aload_n (pc := 0) 0 dX12_isPlayed_0 rfl rfl ?_
  refine ev_getR (pc := 1) fl12_16 rfl dX12_isPlayed_1 rfl kd_801 (by omega) (rf_801_2 _) ?_
  refine ev_iload_n (pc := 4) 1 dX12_isPlayed_4 rfl rfl ?_
  refine ev_iconst (pc := 5) (x := 1) dX12_isPlayed_5 ci_1 ?_
  refine ev_iadd (pc := 6) dX12_isPlayed_6 ?_
  obtain ⟨c1, h⟩ := ck_some h
  refine ev_ildr (pc := 7) dX12_isPlayed_7 kd_804 (by omega) (by omega) c1.1 c1.2 ?_
  refine ev_istore_n (pc := 8) (il' := [(2, vI (M 804 (wI (p0 + 1)))), (0, vR 801), (1, vI p0)]) dX12_isPlayed_8 rfl (Nat.le_of_ble_eq_true rfl) rfl ?_
  refine ev_aload_n (pc := 9) 1 dX12_isPlayed_9 rfl rfl ?_
  refine ev_getR (pc := 10) fl12_16 rfl dX12_isPlayed_10 rfl kd_801 (by omega) (rf_801_2 _) ?_
  refine ev_iload_n (pc := 13) 2 dX12_isPlayed_13 rfl rfl ?_
  refine ev_iconst (pc := 14) (x := 2) dX12_isPlayed_14 ci_2 ?_
  refine ev_iadd (pc := 15) dX12_isPlayed_15 ?_
  obtain ⟨c2, h⟩ := ck_some h
  refine ev_ildr (pc := 16) dX12_isPlayed_16 kd_804 (by omega) (by omega) c2.1 c2.2 ?_
  refine ev_istore_n (pc := 17) (il' := [(3, vI (M 804 (wI (p0 + 2)))), (2, vI (M 804 (wI (p0 + 1)))), (0, vR 801), (1, vI p0)]) dX12_isPlayed_17 rfl (Nat.le_of_ble_eq_true rfl) rfl ?_
  refine ev_aload_n (pc := 18) 2 dX12_isPlayed_18 rfl rfl ?_
  refine ev_getR (pc := 19) fl12_16 rfl dX12_isPlayed_19 rfl kd_801 (by omega) (rf_801_2 _) ?_
  refine ev_iload_n (pc := 22) 3 dX12_isPlayed_22 rfl rfl ?_
  obtain ⟨c3, h⟩ := ck_some h
  refine ev_ildr (pc := 23) dX12_isPlayed_23 kd_804 (by omega) (by omega) c3.1 c3.2 ?_
  by_cases b4 : (M 804 p0) = 5
  · rw [if_pos b4] at h
    refine ev_tswIn (pc := 24) (tgt := 68) dX12_isPlayed_24 (by omega) (by omega) (by rw [b4] <;> rfl) (by decide) ?_
    refine ev_aload_n (pc := 68) 2 dX12_isPlayed_68 rfl rfl ?_
    refine ev_iload_n (pc := 69) 1 dX12_isPlayed_69 rfl rfl ?_
    refine ev_iload_n (pc := 70) 0 dX12_isPlayed_70 rfl rfl ?_
    refine ev_aload_n (pc := 71) 2 dX12_isPlayed_71 rfl rfl ?_
    refine ev_getR (pc := 72) fl12_16 rfl dX12_isPlayed_72 rfl kd_801 (by omega) (rf_801_2 _) ?_
    refine ev_iload_n (pc := 75) 3 dX12_isPlayed_75 rfl rfl ?_
    refine ev_iconst (pc := 76) (x := 3) dX12_isPlayed_76 ci_3 ?_
    refine ev_iadd (pc := 77) dX12_isPlayed_77 ?_
    obtain ⟨c5, h⟩ := ck_some h
    refine ev_ildr (pc := 78) dX12_isPlayed_78 kd_804 (by omega) (by omega) c5.1 c5.2 ?_
    refine ev_aload_n (pc := 79) 2 dX12_isPlayed_79 rfl rfl ?_
    refine ev_getR (pc := 80) fl12_16 rfl dX12_isPlayed_80 rfl kd_801 (by omega) (rf_801_2 _) ?_
    refine ev_iload_n (pc := 83) 3 dX12_isPlayed_83 rfl rfl ?_
    refine ev_iconst (pc := 84) (x := 4) dX12_isPlayed_84 ci_4 ?_
    refine ev_iadd (pc := 85) dX12_isPlayed_85 ?_
    obtain ⟨c6, h⟩ := ck_some h
    refine ev_ildr (pc := 86) dX12_isPlayed_86 kd_804 (by omega) (by omega) c6.1 c6.2 ?_
    obtain ⟨q7, hq7, h⟩ := bd h
    refine ev_cV (pc := 87) [vI (M 804 (wI (p0 + 1))), vI (M 804 (wI (p0 + 2))), vI (M 804 (wI (p0 + 3))), vI (M 804 (wI (p0 + 4)))] [] rfl mkX12_step ml12_396 mnX12_step dX12_isPlayed_87 kd_801 (by omega) rfl (Nat.le_of_ble_eq_true rfl) (by omega) rfl (e_X12_step (d := d - 1) (v := q7.1) (M' := q7.2) (by omega)  hq7) ?_
    refine ev_if_lt (pc := 90) (tgt := 97) dX12_isPlayed_90 (by decide) (fun b8 => ?_) (fun b8 => ?_)
    · rw [if_pos b8] at h
      refine ev_iconst (pc := 97) (x := 0) dX12_isPlayed_97 ci_0 ?_
      cases h
      exact ev_zret (pc := 98) (Or.inl rfl) dX12_isPlayed_98 rfl
    · rw [if_neg b8] at h
      refine ev_iconst (pc := 93) (x := 1) dX12_isPlayed_93 ci_1 ?_
      refine ev_goto (pc := 94) (tgt := 98) dX12_isPlayed_94 (by decide) ?_
      cases h
      exact ev_zret (pc := 98) (Or.inr rfl) dX12_isPlayed_98 rfl
  · rw [if_neg b4] at h
    by_cases b9 : (M 804 p0) = 6
    · rw [if_pos b9] at h
      refine ev_tswIn (pc := 24) (tgt := 99) dX12_isPlayed_24 (by omega) (by omega) (by rw [b9] <;> rfl) (by decide) ?_
      refine ev_aload_n (pc := 99) 2 dX12_isPlayed_99 rfl rfl ?_
      refine ev_iload_n (pc := 100) 1 dX12_isPlayed_100 rfl rfl ?_
      refine ev_iload_n (pc := 101) 0 dX12_isPlayed_101 rfl rfl ?_
      refine ev_aload_n (pc := 102) 2 dX12_isPlayed_102 rfl rfl ?_
      refine ev_getR (pc := 103) fl12_16 rfl dX12_isPlayed_103 rfl kd_801 (by omega) (rf_801_2 _) ?_
      refine ev_iload_n (pc := 106) 3 dX12_isPlayed_106 rfl rfl ?_
      refine ev_iconst (pc := 107) (x := 3) dX12_isPlayed_107 ci_3 ?_
      refine ev_iadd (pc := 108) dX12_isPlayed_108 ?_
      obtain ⟨c10, h⟩ := ck_some h
      refine ev_ildr (pc := 109) dX12_isPlayed_109 kd_804 (by omega) (by omega) c10.1 c10.2 ?_
      obtain ⟨q11, hq11, h⟩ := bd h
      refine ev_cV (pc := 110) [vI (M 804 (wI (p0 + 1))), vI (M 804 (wI (p0 + 2))), vI (M 804 (wI (p0 + 3)))] [] rfl mkX12_ship ml12_400 mnX12_ship dX12_isPlayed_110 kd_801 (by omega) rfl (Nat.le_of_ble_eq_true rfl) (by omega) rfl (e_X12_ship (d := d - 1) (v := q11.1) (M' := q11.2) (by omega)  hq11) ?_
      refine ev_if_lt (pc := 113) (tgt := 120) dX12_isPlayed_113 (by decide) (fun b12 => ?_) (fun b12 => ?_)
      · rw [if_pos b12] at h
        refine ev_iconst (pc := 120) (x := 0) dX12_isPlayed_120 ci_0 ?_
        cases h
        exact ev_zret (pc := 121) (Or.inl rfl) dX12_isPlayed_121 rfl
      · rw [if_neg b12] at h
        refine ev_iconst (pc := 116) (x := 1) dX12_isPlayed_116 ci_1 ?_
        refine ev_goto (pc := 117) (tgt := 121) dX12_isPlayed_117 (by decide) ?_
        cases h
        exact ev_zret (pc := 121) (Or.inr rfl) dX12_isPlayed_121 rfl
    · rw [if_neg b9] at h
      by_cases b13 : (M 804 p0) = 7
      · rw [if_pos b13] at h
        refine ev_tswIn (pc := 24) (tgt := 122) dX12_isPlayed_24 (by omega) (by omega) (by rw [b13] <;> rfl) (by decide) ?_
        refine ev_aload_n (pc := 122) 2 dX12_isPlayed_122 rfl rfl ?_
        refine ev_iload_n (pc := 123) 1 dX12_isPlayed_123 rfl rfl ?_
        obtain ⟨q14, hq14, h⟩ := bd h
        refine ev_cV (pc := 124) [vI (M 804 (wI (p0 + 1)))] [] rfl mkX12_arePassed ml12_384 mnX12_arePassed dX12_isPlayed_124 kd_801 (by omega) rfl (Nat.le_of_ble_eq_true rfl) (by omega) rfl (e_X12_arePassed (d := d - 1) (v := q14.1) (M' := q14.2) (by omega)  hq14) ?_
        obtain ⟨c15, h⟩ := ck_some h
        cases h
        exact ev_zret (pc := 127) c15 dX12_isPlayed_127 rfl
      · rw [if_neg b13] at h
        by_cases b16 : (M 804 p0) = 8
        · rw [if_pos b16] at h
          refine ev_tswIn (pc := 24) (tgt := 128) dX12_isPlayed_24 (by omega) (by omega) (by rw [b16] <;> rfl) (by decide) ?_
          refine ev_aload_n (pc := 128) 2 dX12_isPlayed_128 rfl rfl ?_
          refine ev_iload_n (pc := 129) 1 dX12_isPlayed_129 rfl rfl ?_
          refine ev_iload_n (pc := 130) 0 dX12_isPlayed_130 rfl rfl ?_
          obtain ⟨q17, hq17, h⟩ := bd h
          refine ev_cV (pc := 131) [vI (M 804 (wI (p0 + 1))), vI (M 804 (wI (p0 + 2)))] [] rfl mkX12_flood ml12_403 mnX12_flood dX12_isPlayed_131 kd_801 (by omega) rfl (Nat.le_of_ble_eq_true rfl) (by omega) rfl (e_X12_flood (d := d - 1) (v := q17.1) (M' := q17.2) (by omega)  hq17) ?_
          refine ev_if_lt (pc := 134) (tgt := 141) dX12_isPlayed_134 (by decide) (fun b18 => ?_) (fun b18 => ?_)
          · rw [if_pos b18] at h
            refine ev_iconst (pc := 141) (x := 0) dX12_isPlayed_141 ci_0 ?_
            cases h
            exact ev_zret (pc := 142) (Or.inl rfl) dX12_isPlayed_142 rfl
          · rw [if_neg b18] at h
            refine ev_iconst (pc := 137) (x := 1) dX12_isPlayed_137 ci_1 ?_
            refine ev_goto (pc := 138) (tgt := 142) dX12_isPlayed_138 (by decide) ?_
            cases h
            exact ev_zret (pc := 142) (Or.inr rfl) dX12_isPlayed_142 rfl
        · rw [if_neg b16] at h
          by_cases b19 : (M 804 p0) = 9
          · rw [if_pos b19] at h
            refine ev_tswIn (pc := 24) (tgt := 143) dX12_isPlayed_24 (by omega) (by omega) (by rw [b19] <;> rfl) (by decide) ?_
            refine ev_aload_n (pc := 143) 2 dX12_isPlayed_143 rfl rfl ?_
            refine ev_iload_n (pc := 144) 1 dX12_isPlayed_144 rfl rfl ?_
            refine ev_iload_n (pc := 145) 0 dX12_isPlayed_145 rfl rfl ?_
            obtain ⟨q20, hq20, h⟩ := bd h
            refine ev_cV (pc := 146) [vI (M 804 (wI (p0 + 1))), vI (M 804 (wI (p0 + 2)))] [] rfl mkX12_raise ml12_406 mnX12_raise dX12_isPlayed_146 kd_801 (by omega) rfl (Nat.le_of_ble_eq_true rfl) (by omega) rfl (e_X12_raise (d := d - 1) (v := q20.1) (M' := q20.2) (by omega)  hq20) ?_
            obtain ⟨c21, h⟩ := ck_some h
            cases h
            exact ev_zret (pc := 149) c21 dX12_isPlayed_149 rfl
          · rw [if_neg b19] at h
            by_cases b22 : (M 804 p0) = 10
            · rw [if_pos b22] at h
              refine ev_tswIn (pc := 24) (tgt := 150) dX12_isPlayed_24 (by omega) (by omega) (by rw [b22] <;> rfl) (by decide) ?_
              refine ev_aload_n (pc := 150) 2 dX12_isPlayed_150 rfl rfl ?_
              refine ev_iload_n (pc := 151) 1 dX12_isPlayed_151 rfl rfl ?_
              obtain ⟨q23, hq23, h⟩ := bd h
              refine ev_cV (pc := 152) [vI (M 804 (wI (p0 + 1)))] [] rfl mkX12_mend ml12_409 mnX12_mend dX12_isPlayed_152 kd_801 (by omega) rfl (Nat.le_of_ble_eq_true rfl) (by omega) rfl (e_X12_mend (d := d - 1) (v := q23.1) (M' := q23.2) (by omega)  hq23) ?_
              refine ev_if_lt (pc := 155) (tgt := 162) dX12_isPlayed_155 (by decide) (fun b24 => ?_) (fun b24 => ?_)
              · rw [if_pos b24] at h
                refine ev_iconst (pc := 162) (x := 0) dX12_isPlayed_162 ci_0 ?_
                cases h
                exact ev_zret (pc := 163) (Or.inl rfl) dX12_isPlayed_163 rfl
              · rw [if_neg b24] at h
                refine ev_iconst (pc := 158) (x := 1) dX12_isPlayed_158 ci_1 ?_
                refine ev_goto (pc := 159) (tgt := 163) dX12_isPlayed_159 (by decide) ?_
                cases h
                exact ev_zret (pc := 163) (Or.inr rfl) dX12_isPlayed_163 rfl
            · rw [if_neg b22] at h
              by_cases b25 : (M 804 p0) = 11
              · rw [if_pos b25] at h
                refine ev_tswIn (pc := 24) (tgt := 164) dX12_isPlayed_24 (by omega) (by omega) (by rw [b25] <;> rfl) (by decide) ?_
                refine ev_aload_n (pc := 164) 2 dX12_isPlayed_164 rfl rfl ?_
                refine ev_iload_n (pc := 165) 1 dX12_isPlayed_165 rfl rfl ?_
                refine ev_iload_n (pc := 166) 0 dX12_isPlayed_166 rfl rfl ?_
                obtain ⟨q26, hq26, h⟩ := bd h
                refine ev_cV (pc := 167) [vI (M 804 (wI (p0 + 1))), vI (M 804 (wI (p0 + 2)))] [] rfl mkX12_bind ml12_412 mnX12_bind dX12_isPlayed_167 kd_801 (by omega) rfl (Nat.le_of_ble_eq_true rfl) (by omega) rfl (e_X12_bind (d := d - 1) (v := q26.1) (M' := q26.2) (by omega)  hq26) ?_
                obtain ⟨c27, h⟩ := ck_some h
                cases h
                exact ev_zret (pc := 170) c27 dX12_isPlayed_170 rfl
              · rw [if_neg b25] at h
                refine ev_tswOut (pc := 24) (tgt := 171) dX12_isPlayed_24 (by omega) (by decide) ?_
                refine ev_iconst (pc := 171) (x := 1) dX12_isPlayed_171 ci_1 ?_
                cases h
                exact ev_zret (pc := 172) (Or.inr rfl) dX12_isPlayed_172 rfl
def f_X12_played_L21 : Nat → Int → Int → Mem → Option (Int × Mem)
  | 0, _, _, _ => none
  | n + 1, x1, x2, M => ck (0 ≤ (wI (729 * x1)) ∧ (wI (729 * x1)) < 2916) (if (M 804 (wI (729 * x1))) ≤ x2 then (some ((-1), M)) else ((f_X12_isPlayed n (wI ((wI ((wI (729 * x1)) + 1)) + (wI (5 * x2)))) M).bind fun q4 => if q4.1 ≠ 0 then (f_X12_played_L21 n x1 (wI (x2 + 1)) q4.2) else (some (x2, q4.2))))
set_option maxRecDepth 100000 in
set_option maxHeartbeats 4000000 in
theorem e_X12_played_L21 {g : Gm} {d : Nat} {x1 : Int} {N : Mem} (hd : 10 ≤ d) : ∀ (n : Nat) {x2 : Int} {M : Mem} {v : Int} {M' : Mem}, f_X12_played_L21 n x1 x2 M = some (v, M') → Ev g d mtX12_played 21 [(0, vR 801), (1, vI x1), (2, vI x2)] [] (sg (mx N M)) (0, 0) (vI v) (sg (mx N M')) := by
  intro n
  induction n with
  | zero =>
    intro x2 M v M' h
    rw [f_X12_played_L21.eq_1] at h
    cases h
  | succ n ih =>
    intro x2 M v M' h
    rw [f_X12_played_L21.eq_2] at h
    refine ev_iload_n (pc := 21) 2 dX12_played_21 rfl rfl ?_
    refine ev_aload_n (pc := 22) 0 dX12_played_22 rfl rfl ?_
    refine ev_getR (pc := 23) fl12_16 rfl dX12_played_23 rfl kd_801 (by omega) (rf_801_2 _) ?_
    refine ev_sipush (pc := 26) (x := 729) dX12_played_26 cs_729 ?_
    refine ev_iload_n (pc := 29) 1 dX12_played_29 rfl rfl ?_
    refine ev_imul (pc := 30) dX12_played_30 ?_
    obtain ⟨c2, h⟩ := ck_some h
    refine ev_ildr (pc := 31) dX12_played_31 kd_804 (by omega) (by omega) c2.1 c2.2 ?_
    refine ev_icmp_ge (pc := 32) (tgt := 61) dX12_played_32 (by decide) (fun b3 => ?_) (fun b3 => ?_)
    · rw [if_pos b3] at h
      refine ev_iconst (pc := 61) (x := (-1)) dX12_played_61 ci_m1 ?_
      cases h
      exact ev_iret (pc := 62) dX12_played_62 rfl
    · rw [if_neg b3] at h
      refine ev_aload_n (pc := 35) 0 dX12_played_35 rfl rfl ?_
      refine ev_sipush (pc := 36) (x := 729) dX12_played_36 cs_729 ?_
      refine ev_iload_n (pc := 39) 1 dX12_played_39 rfl rfl ?_
      refine ev_imul (pc := 40) dX12_played_40 ?_
      refine ev_iconst (pc := 41) (x := 1) dX12_played_41 ci_1 ?_
      refine ev_iadd (pc := 42) dX12_played_42 ?_
      refine ev_iconst (pc := 43) (x := 5) dX12_played_43 ci_5 ?_
      refine ev_iload_n (pc := 44) 2 dX12_played_44 rfl rfl ?_
      refine ev_imul (pc := 45) dX12_played_45 ?_
      refine ev_iadd (pc := 46) dX12_played_46 ?_
      obtain ⟨q4, hq4, h⟩ := bd h
      refine ev_cV (pc := 47) [vI (wI ((wI ((wI (729 * x1)) + 1)) + (wI (5 * x2))))] [] rfl mkX12_isPlayed ml12_415 mnX12_isPlayed dX12_played_47 kd_801 (by omega) rfl (Nat.le_of_ble_eq_true rfl) (by omega) rfl (e_X12_isPlayed (d := d - 1) (v := q4.1) (M' := q4.2) (by omega)  hq4) ?_
      refine ev_if_ne (pc := 50) (tgt := 55) dX12_played_50 (by decide) (fun b5 => ?_) (fun b5 => ?_)
      · rw [if_pos b5] at h
        refine ev_iinc (pc := 55) (il' := [(2, vI (wI (x2 + 1))), (0, vR 801), (1, vI x1)]) 2 dX12_played_55 rfl (Nat.le_of_ble_eq_true rfl) rfl rfl ?_
        refine ev_goto (pc := 58) (tgt := 21) dX12_played_58 (by decide) ?_
        refine ev_pick [1, 2, 0] rfl ?_
        exact ih h
      · rw [if_neg b5] at h
        refine ev_iload_n (pc := 53) 2 dX12_played_53 rfl rfl ?_
        cases h
        exact ev_iret (pc := 54) dX12_played_54 rfl
def f_X12_played (n : Nat) (p0 : Int) (M : Mem) : Option (Int × Mem) := if (f_X12_isIn p0 0 (wI ((M 802 2) - 1))) ≠ 0 then (f_X12_played_L21 n p0 0 M) else (some ((-2), M))
set_option maxRecDepth 100000 in
set_option maxHeartbeats 4000000 in
theorem e_X12_played {g : Gm} {d : Nat} {n : Nat} {p0 : Int} {M N : Mem} {v : Int} {M' : Mem} (hd : 10 ≤ d) (h : f_X12_played n p0 M = some (v, M')) : EvM g d mtX12_played [vR 801, vI p0] (sg (mx N M)) (0, 0) (vI v) (sg (mx N M')) := by
  unfold f_X12_played at h
  refine EvM.of mkX12_played.2.2.2.1 (Nat.le_of_ble_eq_true rfl) ?_
  change Ev g d mtX12_played 0 [(0, vR 801), (1, vI p0)] [] (sg (mx N M)) (0, 0) (vI v) (sg (mx N M'))
  refine ev_iload_n (pc := 0) 1 dX12_played_0 rfl rfl ?_
  refine ev_iconst (pc := 1) (x := 0) dX12_played_1 ci_0 ?_
  refine ev_aload_n (pc := 2) 0 dX12_played_2 rfl rfl ?_
  refine ev_getR (pc := 3) fl12_7 rfl dX12_played_3 rfl kd_801 (by omega) (rf_801_0 _) ?_
  refine ev_iconst (pc := 6) (x := 2) dX12_played_6 ci_2 ?_
  refine ev_ildr (pc := 7) dX12_played_7 kd_802 (by omega) (by omega) (by omega) (by omega) ?_
  refine ev_iconst (pc := 8) (x := 1) dX12_played_8 ci_1 ?_
  refine ev_isub (pc := 9) dX12_played_9 ?_
  refine ev_cS (pc := 10) [vI p0, vI 0, vI (wI ((M 802 2) - 1))] [] rfl mkX12_isIn ml12_90 msX12_isIn dX12_played_10 rfl (Nat.le_of_ble_eq_true rfl) (by omega) rfl (e_X12_isIn (d := d - 1) (v := (f_X12_isIn p0 0 (wI ((M 802 2) - 1)))) (by omega)  rfl) ?_
  refine ev_if_ne (pc := 13) (tgt := 19) dX12_played_13 (by decide) (fun b1 => ?_) (fun b1 => ?_)
  · rw [if_pos b1] at h
    refine ev_iconst (pc := 19) (x := 0) dX12_played_19 ci_0 ?_
    refine ev_istore_n (pc := 20) (il' := [(2, vI 0), (0, vR 801), (1, vI p0)]) dX12_played_20 rfl (Nat.le_of_ble_eq_true rfl) rfl ?_
    refine ev_pick [1, 2, 0] rfl ?_
    exact e_X12_played_L21 hd  n h
  · rw [if_neg b1] at h
    refine ev_bipush (pc := 16) (x := (-2)) dX12_played_16 cb_m2 ?_
    cases h
    exact ev_iret (pc := 18) dX12_played_18 rfl
def f_X12_happens (n : Nat) (p0 : Int) (M : Mem) : Option (Mem) := ck ((M 802 0) ≠ 0) ((if (iRem p0 6) = 0 then ((f_X12_floodNow (iRem p0 (M 802 0)) (wI (1 + (iRem p0 200))) M).bind fun q5 => some q5) else (if (iRem p0 6) = 1 then ((f_X12_put (iRem p0 (M 802 0)) 1 (iRem p0 30) M).bind fun q7 => some q7) else (if (iRem p0 6) = 2 then ((f_X12_put (iRem p0 (M 802 0)) 4 0 M).bind fun q9 => some q9) else (if (iRem p0 6) = 3 then (ck ((M 802 1) ≠ 0) ((f_X12_set (iRem p0 (M 802 1)) 2 (iRem p0 (M 802 0)) M).bind fun q12 => some q12)) else (if 9999 ≤ (M 802 8) then (some M) else ((f_X12_pass n M).bind fun q3 => some q3)))))))
set_option maxRecDepth 100000 in
set_option maxHeartbeats 4000000 in
theorem e_X12_happens {g : Gm} {d : Nat} {n : Nat} {p0 : Int} {M N : Mem} {M' : Mem} (hd : 8 ≤ d) (h : f_X12_happens n p0 M = some M') : EvM g d mtX12_happens [vR 801, vI p0] (sg (mx N M)) (0, 0) vN (sg (mx N M')) := by
  unfold f_X12_happens at h
  refine EvM.of mkX12_happens.2.2.2.1 (Nat.le_of_ble_eq_true rfl) ?_
  change Ev g d mtX12_happens 0 [(0, vR 801), (1, vI p0)] [] (sg (mx N M)) (0, 0) vN (sg (mx N M'))
  refine ev_iload_n (pc := 0) 1 dX12_happens_0 rfl rfl ?_
  refine ev_aload_n (pc := 1) 0 dX12_happens_1 rfl rfl ?_
  refine ev_getR (pc := 2) fl12_7 rfl dX12_happens_2 rfl kd_801 (by omega) (rf_801_0 _) ?_
  refine ev_iconst (pc := 5) (x := 0) dX12_happens_5 ci_0 ?_
  refine ev_ildr (pc := 6) dX12_happens_6 kd_802 (by omega) (by omega) (by omega) (by omega) ?_
  obtain ⟨c1, h⟩ := ck_some h
  refine ev_irem (pc := 7) dX12_happens_7 c1 ?_
  refine ev_istore_n (pc := 8) (il' := [(2, vI (iRem p0 (M 802 0))), (0, vR 801), (1, vI p0)]) dX12_happens_8 rfl (Nat.le_of_ble_eq_true rfl) rfl ?_
  refine ev_iload_n (pc := 9) 2 dX12_happens_9 rfl rfl ?_
  refine ev_bipush (pc := 10) (x := 6) dX12_happens_10 cb_6 ?_
  refine ev_irem (pc := 12) dX12_happens_12 (by omega) ?_
  by_cases b4 : (iRem p0 6) = 0
  · rw [if_pos b4] at h
    refine ev_tswIn (pc := 13) (tgt := 44) dX12_happens_13 (by omega) (by omega) (by rw [b4] <;> rfl) (by decide) ?_
    refine ev_aload_n (pc := 44) 1 dX12_happens_44 rfl rfl ?_
    refine ev_iload_n (pc := 45) 0 dX12_happens_45 rfl rfl ?_
    refine ev_iconst (pc := 46) (x := 1) dX12_happens_46 ci_1 ?_
    refine ev_iload_n (pc := 47) 2 dX12_happens_47 rfl rfl ?_
    refine ev_sipush (pc := 48) (x := 200) dX12_happens_48 cs_200 ?_
    refine ev_irem (pc := 51) dX12_happens_51 (by omega) ?_
    refine ev_iadd (pc := 52) dX12_happens_52 ?_
    obtain ⟨q5, hq5, h⟩ := bd h
    refine ev_cV0 (pc := 53) [vI (iRem p0 (M 802 0)), vI (wI (1 + (iRem p0 200)))] [] rfl mkX12_floodNow ml12_387 mnX12_floodNow dX12_happens_53 kd_801 (by omega) rfl (Nat.le_of_ble_eq_true rfl) (by omega) (e_X12_floodNow (d := d - 1) (M' := q5) (by omega)  hq5) ?_
    refine ev_goto (pc := 56) (tgt := 116) dX12_happens_56 (by decide) ?_
    cases h
    exact ev_vret (pc := 116) dX12_happens_116 rfl
  · rw [if_neg b4] at h
    by_cases b6 : (iRem p0 6) = 1
    · rw [if_pos b6] at h
      refine ev_tswIn (pc := 13) (tgt := 59) dX12_happens_13 (by omega) (by omega) (by rw [b6] <;> rfl) (by decide) ?_
      refine ev_aload_n (pc := 59) 1 dX12_happens_59 rfl rfl ?_
      refine ev_iload_n (pc := 60) 0 dX12_happens_60 rfl rfl ?_
      refine ev_iconst (pc := 61) (x := 1) dX12_happens_61 ci_1 ?_
      refine ev_iload_n (pc := 62) 2 dX12_happens_62 rfl rfl ?_
      refine ev_bipush (pc := 63) (x := 30) dX12_happens_63 cb_30 ?_
      refine ev_irem (pc := 65) dX12_happens_65 (by omega) ?_
      obtain ⟨q7, hq7, h⟩ := bd h
      refine ev_cV0 (pc := 66) [vI (iRem p0 (M 802 0)), vI 1, vI (iRem p0 30)] [] rfl mkX12_put ml12_94 mnX12_put dX12_happens_66 kd_801 (by omega) rfl (Nat.le_of_ble_eq_true rfl) (by omega) (e_X12_put (d := d - 1) (M' := q7) (by omega)  hq7) ?_
      refine ev_goto (pc := 69) (tgt := 116) dX12_happens_69 (by decide) ?_
      cases h
      exact ev_vret (pc := 116) dX12_happens_116 rfl
    · rw [if_neg b6] at h
      by_cases b8 : (iRem p0 6) = 2
      · rw [if_pos b8] at h
        refine ev_tswIn (pc := 13) (tgt := 72) dX12_happens_13 (by omega) (by omega) (by rw [b8] <;> rfl) (by decide) ?_
        refine ev_aload_n (pc := 72) 1 dX12_happens_72 rfl rfl ?_
        refine ev_iload_n (pc := 73) 0 dX12_happens_73 rfl rfl ?_
        refine ev_iconst (pc := 74) (x := 4) dX12_happens_74 ci_4 ?_
        refine ev_iconst (pc := 75) (x := 0) dX12_happens_75 ci_0 ?_
        obtain ⟨q9, hq9, h⟩ := bd h
        refine ev_cV0 (pc := 76) [vI (iRem p0 (M 802 0)), vI 4, vI 0] [] rfl mkX12_put ml12_94 mnX12_put dX12_happens_76 kd_801 (by omega) rfl (Nat.le_of_ble_eq_true rfl) (by omega) (e_X12_put (d := d - 1) (M' := q9) (by omega)  hq9) ?_
        refine ev_goto (pc := 79) (tgt := 116) dX12_happens_79 (by decide) ?_
        cases h
        exact ev_vret (pc := 116) dX12_happens_116 rfl
      · rw [if_neg b8] at h
        by_cases b10 : (iRem p0 6) = 3
        · rw [if_pos b10] at h
          refine ev_tswIn (pc := 13) (tgt := 82) dX12_happens_13 (by omega) (by omega) (by rw [b10] <;> rfl) (by decide) ?_
          refine ev_aload_n (pc := 82) 1 dX12_happens_82 rfl rfl ?_
          refine ev_iload_n (pc := 83) 2 dX12_happens_83 rfl rfl ?_
          refine ev_aload_n (pc := 84) 1 dX12_happens_84 rfl rfl ?_
          refine ev_getR (pc := 85) fl12_7 rfl dX12_happens_85 rfl kd_801 (by omega) (rf_801_0 _) ?_
          refine ev_iconst (pc := 88) (x := 1) dX12_happens_88 ci_1 ?_
          refine ev_ildr (pc := 89) dX12_happens_89 kd_802 (by omega) (by omega) (by omega) (by omega) ?_
          obtain ⟨c11, h⟩ := ck_some h
          refine ev_irem (pc := 90) dX12_happens_90 c11 ?_
          refine ev_iconst (pc := 91) (x := 2) dX12_happens_91 ci_2 ?_
          refine ev_iload_n (pc := 92) 0 dX12_happens_92 rfl rfl ?_
          obtain ⟨q12, hq12, h⟩ := bd h
          refine ev_cV0 (pc := 93) [vI (iRem p0 (M 802 1)), vI 2, vI (iRem p0 (M 802 0))] [] rfl mkX12_set ml12_106 mnX12_set dX12_happens_93 kd_801 (by omega) rfl (Nat.le_of_ble_eq_true rfl) (by omega) (e_X12_set (d := d - 1) (M' := q12) (by omega)  hq12) ?_
          refine ev_goto (pc := 96) (tgt := 116) dX12_happens_96 (by decide) ?_
          cases h
          exact ev_vret (pc := 116) dX12_happens_116 rfl
        · rw [if_neg b10] at h
          refine ev_tswOut (pc := 13) (tgt := 99) dX12_happens_13 (by omega) (by decide) ?_
          refine ev_aload_n (pc := 99) 1 dX12_happens_99 rfl rfl ?_
          refine ev_getR (pc := 100) fl12_7 rfl dX12_happens_100 rfl kd_801 (by omega) (rf_801_0 _) ?_
          refine ev_bipush (pc := 103) (x := 8) dX12_happens_103 cb_8 ?_
          refine ev_ildr (pc := 105) dX12_happens_105 kd_802 (by omega) (by omega) (by omega) (by omega) ?_
          refine ev_sipush (pc := 106) (x := 9999) dX12_happens_106 cs_9999 ?_
          refine ev_icmp_ge (pc := 109) (tgt := 116) dX12_happens_109 (by decide) (fun b2 => ?_) (fun b2 => ?_)
          · rw [if_pos b2] at h
            cases h
            exact ev_vret (pc := 116) dX12_happens_116 rfl
          · rw [if_neg b2] at h
            refine ev_aload_n (pc := 112) 1 dX12_happens_112 rfl rfl ?_
            obtain ⟨q3, hq3, h⟩ := bd h
            refine ev_cV0 (pc := 113) [] [] rfl mkX12_pass ml12_381 mnX12_pass dX12_happens_113 kd_801 (by omega) rfl (Nat.le_of_ble_eq_true rfl) (by omega) (e_X12_pass (d := d - 1) (M' := q3) (by omega)  hq3) ?_
            cases h
            exact ev_vret (pc := 116) dX12_happens_116 rfl
def f_X12_centuries_L60 : Nat → Int → Int → Mem → Option (Mem)
  | 0, _, _, _ => none
  | n + 1, x2, x3, M => if x2 ≤ x3 then (some M) else (lt (upM M 802 11 (iRem (wI ((wI ((M 802 11) * 293)) + 191)) 30313)) fun M8 => (f_X12_happens n (M 802 11) M8).bind fun q9 => f_X12_centuries_L60 n x2 (wI (x3 + 1)) q9)
set_option maxRecDepth 100000 in
set_option maxHeartbeats 4000000 in
theorem e_X12_centuries_L60 {g : Gm} {d : Nat} {x2 : Int} {r : Vv} {σ' : Sg} {N : Mem} (hd : 9 ≤ d) : ∀ (n : Nat) {x3 : Int} {M : Mem} {q : Mem}, f_X12_centuries_L60 n x2 x3 M = some q → Ev g d mtX12_centuries 107 [(0, vR 801)] [] (sg (mx N q)) (0, 0) r σ' → Ev g d mtX12_centuries 60 [(0, vR 801), (2, vI x2), (3, vI x3)] [] (sg (mx N M)) (0, 0) r σ' := by
  intro n
  induction n with
  | zero =>
    intro x3 M q h hk0
    rw [f_X12_centuries_L60.eq_1] at h
    cases h
  | succ n ih =>
    intro x3 M q h hk0
    rw [f_X12_centuries_L60.eq_2] at h
    refine ev_iload_n (pc := 60) 2 dX12_centuries_60 rfl rfl ?_
    refine ev_iload_n (pc := 61) 1 dX12_centuries_61 rfl rfl ?_
    refine ev_icmp_ge (pc := 62) (tgt := 107) dX12_centuries_62 (by decide) (fun b7 => ?_) (fun b7 => ?_)
    · rw [if_pos b7] at h
      cases h
      refine ev_pick [0] rfl ?_
      exact hk0
    · rw [if_neg b7] at h
      refine ev_aload_n (pc := 65) 0 dX12_centuries_65 rfl rfl ?_
      refine ev_getR (pc := 66) fl12_7 rfl dX12_centuries_66 rfl kd_801 (by omega) (rf_801_0 _) ?_
      refine ev_bipush (pc := 69) (x := 11) dX12_centuries_69 cb_11 ?_
      refine ev_ildr (pc := 71) dX12_centuries_71 kd_802 (by omega) (by omega) (by omega) (by omega) ?_
      refine ev_istore (pc := 72) (il' := [(4, vI (M 802 11)), (0, vR 801), (2, vI x2), (3, vI x3)]) dX12_centuries_72 (Nat.le_of_ble_eq_true rfl) rfl ?_
      refine ev_aload_n (pc := 74) 1 dX12_centuries_74 rfl rfl ?_
      refine ev_getR (pc := 75) fl12_7 rfl dX12_centuries_75 rfl kd_801 (by omega) (rf_801_0 _) ?_
      refine ev_bipush (pc := 78) (x := 11) dX12_centuries_78 cb_11 ?_
      refine ev_iload (pc := 80) 0 dX12_centuries_80 rfl ?_
      refine ev_sipush (pc := 82) (x := 293) dX12_centuries_82 cs_293 ?_
      refine ev_imul (pc := 85) dX12_centuries_85 ?_
      refine ev_sipush (pc := 86) (x := 191) dX12_centuries_86 cs_191 ?_
      refine ev_iadd (pc := 89) dX12_centuries_89 ?_
      refine ev_sipush (pc := 90) (x := 30313) dX12_centuries_90 cs_30313 ?_
      refine ev_irem (pc := 93) dX12_centuries_93 (by omega) ?_
      obtain ⟨M8, eM8, h⟩ := lt_some h
      refine ev_istr (pc := 94) dX12_centuries_94 kd_802 (by omega) (by omega) (by omega) (by omega) eM8 ?_
      refine ev_aload_n (pc := 95) 1 dX12_centuries_95 rfl rfl ?_
      refine ev_iload (pc := 96) 0 dX12_centuries_96 rfl ?_
      obtain ⟨q9, hq9, h⟩ := bd h
      refine ev_cV0 (pc := 98) [vI (M 802 11)] [] rfl mkX12_happens ml12_418 mnX12_happens dX12_centuries_98 kd_801 (by omega) rfl (Nat.le_of_ble_eq_true rfl) (by omega) (e_X12_happens (d := d - 1) (M' := q9) (by omega)  hq9) ?_
      refine ev_iinc (pc := 101) (il' := [(3, vI (wI (x3 + 1))), (4, vI (M 802 11)), (0, vR 801), (2, vI x2)]) 3 dX12_centuries_101 rfl (Nat.le_of_ble_eq_true rfl) rfl rfl ?_
      refine ev_goto (pc := 104) (tgt := 60) dX12_centuries_104 (by decide) ?_
      refine ev_pick [2, 3, 0] rfl ?_
      exact ih h hk0
def f_X12_centuries (n : Nat) (p0 p1 : Int) (M : Mem) : Option (Int × Mem) := if (f_X12_isIn p0 0 9999) = 0 then (some ((-1), M)) else (if (f_X12_isIn p1 1 40) = 0 then (some ((-1), M)) else (if (M 802 0) = 0 then (some ((-1), M)) else (if (M 802 1) ≠ 0 then ((f_X12_keep n M).bind fun q5 => lt (upM q5 802 11 (wI ((wI (p0 * 2)) + 83))) fun M6 => (f_X12_centuries_L60 n p1 0 M6).bind fun q10 => some ((q10 802 8), q10)) else (some ((-1), M)))))
set_option maxRecDepth 100000 in
set_option maxHeartbeats 4000000 in
theorem e_X12_centuries {g : Gm} {d : Nat} {n : Nat} {p0 p1 : Int} {M N : Mem} {v : Int} {M' : Mem} (hd : 9 ≤ d) (h : f_X12_centuries n p0 p1 M = some (v, M')) : EvM g d mtX12_centuries [vR 801, vI p0, vI p1] (sg (mx N M)) (0, 0) (vI v) (sg (mx N M')) := by
  unfold f_X12_centuries at h
  refine EvM.of mkX12_centuries.2.2.2.1 (Nat.le_of_ble_eq_true rfl) ?_
  change Ev g d mtX12_centuries 0 [(0, vR 801), (1, vI p0), (2, vI p1)] [] (sg (mx N M)) (0, 0) (vI v) (sg (mx N M'))
  refine ev_iload_n (pc := 0) 1 dX12_centuries_0 rfl rfl ?_
  refine ev_iconst (pc := 1) (x := 0) dX12_centuries_1 ci_0 ?_
  refine ev_sipush (pc := 2) (x := 9999) dX12_centuries_2 cs_9999 ?_
  refine ev_cS (pc := 5) [vI p0, vI 0, vI 9999] [] rfl mkX12_isIn ml12_90 msX12_isIn dX12_centuries_5 rfl (Nat.le_of_ble_eq_true rfl) (by omega) rfl (e_X12_isIn (d := d - 1) (v := (f_X12_isIn p0 0 9999)) (by omega)  rfl) ?_
  refine ev_if_eq (pc := 8) (tgt := 39) dX12_centuries_8 (by decide) (fun b1 => ?_) (fun b1 => ?_)
  · rw [if_pos b1] at h
    refine ev_iconst (pc := 39) (x := (-1)) dX12_centuries_39 ci_m1 ?_
    cases h
    exact ev_iret (pc := 40) dX12_centuries_40 rfl
  · rw [if_neg b1] at h
    refine ev_iload_n (pc := 11) 2 dX12_centuries_11 rfl rfl ?_
    refine ev_iconst (pc := 12) (x := 1) dX12_centuries_12 ci_1 ?_
    refine ev_bipush (pc := 13) (x := 40) dX12_centuries_13 cb_40 ?_
    refine ev_cS (pc := 15) [vI p1, vI 1, vI 40] [] rfl mkX12_isIn ml12_90 msX12_isIn dX12_centuries_15 rfl (Nat.le_of_ble_eq_true rfl) (by omega) rfl (e_X12_isIn (d := d - 1) (v := (f_X12_isIn p1 1 40)) (by omega)  rfl) ?_
    refine ev_if_eq (pc := 18) (tgt := 39) dX12_centuries_18 (by decide) (fun b2 => ?_) (fun b2 => ?_)
    · rw [if_pos b2] at h
      refine ev_iconst (pc := 39) (x := (-1)) dX12_centuries_39 ci_m1 ?_
      cases h
      exact ev_iret (pc := 40) dX12_centuries_40 rfl
    · rw [if_neg b2] at h
      refine ev_aload_n (pc := 21) 0 dX12_centuries_21 rfl rfl ?_
      refine ev_getR (pc := 22) fl12_7 rfl dX12_centuries_22 rfl kd_801 (by omega) (rf_801_0 _) ?_
      refine ev_iconst (pc := 25) (x := 0) dX12_centuries_25 ci_0 ?_
      refine ev_ildr (pc := 26) dX12_centuries_26 kd_802 (by omega) (by omega) (by omega) (by omega) ?_
      refine ev_if_eq (pc := 27) (tgt := 39) dX12_centuries_27 (by decide) (fun b3 => ?_) (fun b3 => ?_)
      · rw [if_pos b3] at h
        refine ev_iconst (pc := 39) (x := (-1)) dX12_centuries_39 ci_m1 ?_
        cases h
        exact ev_iret (pc := 40) dX12_centuries_40 rfl
      · rw [if_neg b3] at h
        refine ev_aload_n (pc := 30) 0 dX12_centuries_30 rfl rfl ?_
        refine ev_getR (pc := 31) fl12_7 rfl dX12_centuries_31 rfl kd_801 (by omega) (rf_801_0 _) ?_
        refine ev_iconst (pc := 34) (x := 1) dX12_centuries_34 ci_1 ?_
        refine ev_ildr (pc := 35) dX12_centuries_35 kd_802 (by omega) (by omega) (by omega) (by omega) ?_
        refine ev_if_ne (pc := 36) (tgt := 41) dX12_centuries_36 (by decide) (fun b4 => ?_) (fun b4 => ?_)
        · rw [if_pos b4] at h
          refine ev_aload_n (pc := 41) 0 dX12_centuries_41 rfl rfl ?_
          obtain ⟨q5, hq5, h⟩ := bd h
          refine ev_cV0 (pc := 42) [] [] rfl mkX12_keep ml12_378 mnX12_keep dX12_centuries_42 kd_801 (by omega) rfl (Nat.le_of_ble_eq_true rfl) (by omega) (e_X12_keep (d := d - 1) (M' := q5) (by omega)  hq5) ?_
          refine ev_aload_n (pc := 45) 0 dX12_centuries_45 rfl rfl ?_
          refine ev_getR (pc := 46) fl12_7 rfl dX12_centuries_46 rfl kd_801 (by omega) (rf_801_0 _) ?_
          refine ev_bipush (pc := 49) (x := 11) dX12_centuries_49 cb_11 ?_
          refine ev_iload_n (pc := 51) 1 dX12_centuries_51 rfl rfl ?_
          refine ev_iconst (pc := 52) (x := 2) dX12_centuries_52 ci_2 ?_
          refine ev_imul (pc := 53) dX12_centuries_53 ?_
          refine ev_bipush (pc := 54) (x := 83) dX12_centuries_54 cb_83 ?_
          refine ev_iadd (pc := 56) dX12_centuries_56 ?_
          obtain ⟨M6, eM6, h⟩ := lt_some h
          refine ev_istr (pc := 57) dX12_centuries_57 kd_802 (by omega) (by omega) (by omega) (by omega) eM6 ?_
          refine ev_iconst (pc := 58) (x := 0) dX12_centuries_58 ci_0 ?_
          refine ev_istore_n (pc := 59) (il' := [(3, vI 0), (0, vR 801), (1, vI p0), (2, vI p1)]) dX12_centuries_59 rfl (Nat.le_of_ble_eq_true rfl) rfl ?_
          obtain ⟨q10, hq10, h⟩ := bd h
          refine ev_pick [1, 3, 0] rfl ?_
          refine e_X12_centuries_L60 hd  n hq10 ?_
          refine ev_aload_n (pc := 107) 0 dX12_centuries_107 rfl rfl ?_
          refine ev_getR (pc := 108) fl12_7 rfl dX12_centuries_108 rfl kd_801 (by omega) (rf_801_0 _) ?_
          refine ev_bipush (pc := 111) (x := 8) dX12_centuries_111 cb_8 ?_
          refine ev_ildr (pc := 113) dX12_centuries_113 kd_802 (by omega) (by omega) (by omega) (by omega) ?_
          cases h
          exact ev_iret (pc := 114) dX12_centuries_114 rfl
        · rw [if_neg b4] at h
          refine ev_iconst (pc := 39) (x := (-1)) dX12_centuries_39 ci_m1 ?_
          cases h
          exact ev_iret (pc := 40) dX12_centuries_40 rfl
def f_X12_shipsOn_L4 : Nat → Int → Int → Int → Mem → Option (Int)
  | 0, _, _, _, _ => none
  | n + 1, x1, x2, x3, M => if (M 802 1) ≤ x3 then (some x2) else ((f_X12_get x3 1 M).bind fun q2 => if q2 ≠ x1 then (f_X12_shipsOn_L4 n x1 (bOr x2 0) (wI (x3 + 1)) M) else (f_X12_shipsOn_L4 n x1 (bOr x2 (bShl 1 x3)) (wI (x3 + 1)) M))
set_option maxRecDepth 100000 in
set_option maxHeartbeats 4000000 in
theorem e_X12_shipsOn_L4 {g : Gm} {d : Nat} {x1 : Int} {r : Vv} {σ' : Sg} {M N : Mem} (hd : 1 ≤ d) : ∀ (n : Nat) {x2 x3 : Int} {q : Int}, f_X12_shipsOn_L4 n x1 x2 x3 M = some q → Ev g d mtX12_shipsOn 40 [(2, vI q)] [] (sg (mx N M)) (0, 0) r σ' → Ev g d mtX12_shipsOn 4 [(0, vR 801), (1, vI x1), (2, vI x2), (3, vI x3)] [] (sg (mx N M)) (0, 0) r σ' := by
  intro n
  induction n with
  | zero =>
    intro x2 x3 q h hk0
    rw [f_X12_shipsOn_L4.eq_1] at h
    cases h
  | succ n ih =>
    intro x2 x3 q h hk0
    rw [f_X12_shipsOn_L4.eq_2] at h
    refine ev_iload_n (pc := 4) 3 dX12_shipsOn_4 rfl rfl ?_
    refine ev_aload_n (pc := 5) 0 dX12_shipsOn_5 rfl rfl ?_
    refine ev_getR (pc := 6) fl12_7 rfl dX12_shipsOn_6 rfl kd_801 (by omega) (rf_801_0 _) ?_
    refine ev_iconst (pc := 9) (x := 1) dX12_shipsOn_9 ci_1 ?_
    refine ev_ildr (pc := 10) dX12_shipsOn_10 kd_802 (by omega) (by omega) (by omega) (by omega) ?_
    refine ev_icmp_ge (pc := 11) (tgt := 40) dX12_shipsOn_11 (by decide) (fun b1 => ?_) (fun b1 => ?_)
    · rw [if_pos b1] at h
      cases h
      refine ev_pick [2] rfl ?_
      exact hk0
    · rw [if_neg b1] at h
      refine ev_iload_n (pc := 14) 2 dX12_shipsOn_14 rfl rfl ?_
      refine ev_aload_n (pc := 15) 0 dX12_shipsOn_15 rfl rfl ?_
      refine ev_iload_n (pc := 16) 3 dX12_shipsOn_16 rfl rfl ?_
      refine ev_iconst (pc := 17) (x := 1) dX12_shipsOn_17 ci_1 ?_
      obtain ⟨q2, hq2, h⟩ := bd h
      refine ev_cV (pc := 18) [vI x3, vI 1] [vI x2] rfl mkX12_get ml12_340 mnX12_get dX12_shipsOn_18 kd_801 (by omega) rfl (Nat.le_of_ble_eq_true rfl) (by omega) rfl (e_X12_get (d := d - 1) (v := q2) (by omega)  hq2) ?_
      refine ev_iload_n (pc := 21) 1 dX12_shipsOn_21 rfl rfl ?_
      refine ev_icmp_ne (pc := 22) (tgt := 31) dX12_shipsOn_22 (by decide) (fun b3 => ?_) (fun b3 => ?_)
      · rw [if_pos b3] at h
        refine ev_iconst (pc := 31) (x := 0) dX12_shipsOn_31 ci_0 ?_
        refine ev_ior (pc := 32) dX12_shipsOn_32 ?_
        refine ev_istore_n (pc := 33) (il' := [(2, vI (bOr x2 0)), (0, vR 801), (1, vI x1), (3, vI x3)]) dX12_shipsOn_33 rfl (Nat.le_of_ble_eq_true rfl) rfl ?_
        refine ev_iinc (pc := 34) (il' := [(3, vI (wI (x3 + 1))), (2, vI (bOr x2 0)), (0, vR 801), (1, vI x1)]) 3 dX12_shipsOn_34 rfl (Nat.le_of_ble_eq_true rfl) rfl rfl ?_
        refine ev_goto (pc := 37) (tgt := 4) dX12_shipsOn_37 (by decide) ?_
        refine ev_pick [2, 3, 1, 0] rfl ?_
        exact ih h hk0
      · rw [if_neg b3] at h
        refine ev_iconst (pc := 25) (x := 1) dX12_shipsOn_25 ci_1 ?_
        refine ev_iload_n (pc := 26) 3 dX12_shipsOn_26 rfl rfl ?_
        refine ev_ishl (pc := 27) dX12_shipsOn_27 ?_
        refine ev_goto (pc := 28) (tgt := 32) dX12_shipsOn_28 (by decide) ?_
        refine ev_ior (pc := 32) dX12_shipsOn_32 ?_
        refine ev_istore_n (pc := 33) (il' := [(2, vI (bOr x2 (bShl 1 x3))), (0, vR 801), (1, vI x1), (3, vI x3)]) dX12_shipsOn_33 rfl (Nat.le_of_ble_eq_true rfl) rfl ?_
        refine ev_iinc (pc := 34) (il' := [(3, vI (wI (x3 + 1))), (2, vI (bOr x2 (bShl 1 x3))), (0, vR 801), (1, vI x1)]) 3 dX12_shipsOn_34 rfl (Nat.le_of_ble_eq_true rfl) rfl rfl ?_
        refine ev_goto (pc := 37) (tgt := 4) dX12_shipsOn_37 (by decide) ?_
        refine ev_pick [2, 3, 1, 0] rfl ?_
        exact ih h hk0
def f_X12_shipsOn (n : Nat) (p0 : Int) (M : Mem) : Option (Int) := (f_X12_shipsOn_L4 n p0 0 0 M).bind fun q4 => some q4
set_option maxRecDepth 100000 in
set_option maxHeartbeats 4000000 in
theorem e_X12_shipsOn {g : Gm} {d : Nat} {n : Nat} {p0 : Int} {M N : Mem} {v : Int} (hd : 1 ≤ d) (h : f_X12_shipsOn n p0 M = some v) : EvM g d mtX12_shipsOn [vR 801, vI p0] (sg (mx N M)) (0, 0) (vI v) (sg (mx N M)) := by
  unfold f_X12_shipsOn at h
  refine EvM.of mkX12_shipsOn.2.2.2.1 (Nat.le_of_ble_eq_true rfl) ?_
  change Ev g d mtX12_shipsOn 0 [(0, vR 801), (1, vI p0)] [] (sg (mx N M)) (0, 0) (vI v) (sg (mx N M))
  refine ev_iconst (pc := 0) (x := 0) dX12_shipsOn_0 ci_0 ?_
  refine ev_istore_n (pc := 1) (il' := [(2, vI 0), (0, vR 801), (1, vI p0)]) dX12_shipsOn_1 rfl (Nat.le_of_ble_eq_true rfl) rfl ?_
  refine ev_iconst (pc := 2) (x := 0) dX12_shipsOn_2 ci_0 ?_
  refine ev_istore_n (pc := 3) (il' := [(3, vI 0), (2, vI 0), (0, vR 801), (1, vI p0)]) dX12_shipsOn_3 rfl (Nat.le_of_ble_eq_true rfl) rfl ?_
  obtain ⟨q4, hq4, h⟩ := bd h
  refine ev_pick [2, 3, 1, 0] rfl ?_
  refine e_X12_shipsOn_L4 hd  n hq4 ?_
  refine ev_iload_n (pc := 40) 0 dX12_shipsOn_40 rfl rfl ?_
  cases h
  exact ev_iret (pc := 41) dX12_shipsOn_41 rfl
def f_X12_ofStep (n : Nat) (p0 p1 : Int) (M : Mem) : Option (Int × Mem) := if (f_X12_isStep p0 M) = 0 then (some ((-1), M)) else (if (f_X12_isIn p1 0 6) ≠ 0 then (if p1 ≠ 5 then (if p1 ≠ 6 then ((f_X12_at p0 p1 M).bind fun q5 => some (q5, M)) else ((f_X12_flowsOf n p0 M).bind fun q6 => some (q6.1, q6.2))) else ((f_X12_shipsOn n p0 M).bind fun q7 => some (q7, M))) else (some ((-1), M)))
set_option maxRecDepth 100000 in
set_option maxHeartbeats 4000000 in
theorem e_X12_ofStep {g : Gm} {d : Nat} {n : Nat} {p0 p1 : Int} {M N : Mem} {v : Int} {M' : Mem} (hd : 6 ≤ d) (h : f_X12_ofStep n p0 p1 M = some (v, M')) : EvM g d mtX12_ofStep [vR 801, vI p0, vI p1] (sg (mx N M)) (0, 0) (vI v) (sg (mx N M')) := by
  unfold f_X12_ofStep at h
  refine EvM.of mkX12_ofStep.2.2.2.1 (Nat.le_of_ble_eq_true rfl) ?_
  change Ev g d mtX12_ofStep 0 [(0, vR 801), (1, vI p0), (2, vI p1)] [] (sg (mx N M)) (0, 0) (vI v) (sg (mx N M'))
  refine ev_aload_n (pc := 0) 0 dX12_ofStep_0 rfl rfl ?_
  refine ev_iload_n (pc := 1) 1 dX12_ofStep_1 rfl rfl ?_
  refine ev_cV (pc := 2) [vI p0] [] rfl mkX12_isStep ml12_102 mnX12_isStep dX12_ofStep_2 kd_801 (by omega) rfl (Nat.le_of_ble_eq_true rfl) (by omega) rfl (e_X12_isStep (d := d - 1) (v := (f_X12_isStep p0 M)) (by omega)  rfl) ?_
  refine ev_if_eq (pc := 5) (tgt := 18) dX12_ofStep_5 (by decide) (fun b1 => ?_) (fun b1 => ?_)
  · rw [if_pos b1] at h
    refine ev_iconst (pc := 18) (x := (-1)) dX12_ofStep_18 ci_m1 ?_
    cases h
    exact ev_iret (pc := 19) dX12_ofStep_19 rfl
  · rw [if_neg b1] at h
    refine ev_iload_n (pc := 8) 2 dX12_ofStep_8 rfl rfl ?_
    refine ev_iconst (pc := 9) (x := 0) dX12_ofStep_9 ci_0 ?_
    refine ev_bipush (pc := 10) (x := 6) dX12_ofStep_10 cb_6 ?_
    refine ev_cS (pc := 12) [vI p1, vI 0, vI 6] [] rfl mkX12_isIn ml12_90 msX12_isIn dX12_ofStep_12 rfl (Nat.le_of_ble_eq_true rfl) (by omega) rfl (e_X12_isIn (d := d - 1) (v := (f_X12_isIn p1 0 6)) (by omega)  rfl) ?_
    refine ev_if_ne (pc := 15) (tgt := 20) dX12_ofStep_15 (by decide) (fun b2 => ?_) (fun b2 => ?_)
    · rw [if_pos b2] at h
      refine ev_iload_n (pc := 20) 2 dX12_ofStep_20 rfl rfl ?_
      refine ev_iconst (pc := 21) (x := 5) dX12_ofStep_21 ci_5 ?_
      refine ev_icmp_ne (pc := 22) (tgt := 33) dX12_ofStep_22 (by decide) (fun b3 => ?_) (fun b3 => ?_)
      · rw [if_pos b3] at h
        refine ev_iload_n (pc := 33) 2 dX12_ofStep_33 rfl rfl ?_
        refine ev_bipush (pc := 34) (x := 6) dX12_ofStep_34 cb_6 ?_
        refine ev_icmp_ne (pc := 36) (tgt := 47) dX12_ofStep_36 (by decide) (fun b4 => ?_) (fun b4 => ?_)
        · rw [if_pos b4] at h
          refine ev_aload_n (pc := 47) 0 dX12_ofStep_47 rfl rfl ?_
          refine ev_iload_n (pc := 48) 1 dX12_ofStep_48 rfl rfl ?_
          refine ev_iload_n (pc := 49) 2 dX12_ofStep_49 rfl rfl ?_
          obtain ⟨q5, hq5, h⟩ := bd h
          refine ev_cV (pc := 50) [vI p0, vI p1] [] rfl mkX12_at ml12_98 mnX12_at dX12_ofStep_50 kd_801 (by omega) rfl (Nat.le_of_ble_eq_true rfl) (by omega) rfl (e_X12_at (d := d - 1) (v := q5) (by omega)  hq5) ?_
          cases h
          exact ev_iret (pc := 53) dX12_ofStep_53 rfl
        · rw [if_neg b4] at h
          refine ev_aload_n (pc := 39) 0 dX12_ofStep_39 rfl rfl ?_
          refine ev_iload_n (pc := 40) 1 dX12_ofStep_40 rfl rfl ?_
          obtain ⟨q6, hq6, h⟩ := bd h
          refine ev_cV (pc := 41) [vI p0] [] rfl mkX12_flowsOf ml12_361 mnX12_flowsOf dX12_ofStep_41 kd_801 (by omega) rfl (Nat.le_of_ble_eq_true rfl) (by omega) rfl (e_X12_flowsOf (d := d - 1) (v := q6.1) (M' := q6.2) (by omega)  hq6) ?_
          refine ev_goto (pc := 44) (tgt := 53) dX12_ofStep_44 (by decide) ?_
          cases h
          exact ev_iret (pc := 53) dX12_ofStep_53 rfl
      · rw [if_neg b3] at h
        refine ev_aload_n (pc := 25) 0 dX12_ofStep_25 rfl rfl ?_
        refine ev_iload_n (pc := 26) 1 dX12_ofStep_26 rfl rfl ?_
        obtain ⟨q7, hq7, h⟩ := bd h
        refine ev_cV (pc := 27) [vI p0] [] rfl mkX12_shipsOn ml12_421 mnX12_shipsOn dX12_ofStep_27 kd_801 (by omega) rfl (Nat.le_of_ble_eq_true rfl) (by omega) rfl (e_X12_shipsOn (d := d - 1) (v := q7) (by omega)  hq7) ?_
        refine ev_goto (pc := 30) (tgt := 53) dX12_ofStep_30 (by decide) ?_
        cases h
        exact ev_iret (pc := 53) dX12_ofStep_53 rfl
    · rw [if_neg b2] at h
      refine ev_iconst (pc := 18) (x := (-1)) dX12_ofStep_18 ci_m1 ?_
      cases h
      exact ev_iret (pc := 19) dX12_ofStep_19 rfl
def f_X12_ofShip (p0 p1 : Int) (M : Mem) : Option (Int) := if (f_X12_isShip p0 M) = 0 then (some (-1)) else (if (f_X12_isIn p1 0 3) = 0 then (some (-1)) else ((f_X12_get p0 p1 M).bind fun q3 => some q3))
set_option maxRecDepth 100000 in
set_option maxHeartbeats 4000000 in
theorem e_X12_ofShip {g : Gm} {d : Nat} {p0 p1 : Int} {M N : Mem} {v : Int} (hd : 2 ≤ d) (h : f_X12_ofShip p0 p1 M = some v) : EvM g d mtX12_ofShip [vR 801, vI p0, vI p1] (sg (mx N M)) (0, 0) (vI v) (sg (mx N M)) := by
  unfold f_X12_ofShip at h
  refine EvM.of mkX12_ofShip.2.2.2.1 (Nat.le_of_ble_eq_true rfl) ?_
  change Ev g d mtX12_ofShip 0 [(0, vR 801), (1, vI p0), (2, vI p1)] [] (sg (mx N M)) (0, 0) (vI v) (sg (mx N M))
  refine ev_aload_n (pc := 0) 0 dX12_ofShip_0 rfl rfl ?_
  refine ev_iload_n (pc := 1) 1 dX12_ofShip_1 rfl rfl ?_
  refine ev_cV (pc := 2) [vI p0] [] rfl mkX12_isShip ml12_393 mnX12_isShip dX12_ofShip_2 kd_801 (by omega) rfl (Nat.le_of_ble_eq_true rfl) (by omega) rfl (e_X12_isShip (d := d - 1) (v := (f_X12_isShip p0 M)) (by omega)  rfl) ?_
  refine ev_if_eq (pc := 5) (tgt := 26) dX12_ofShip_5 (by decide) (fun b1 => ?_) (fun b1 => ?_)
  · rw [if_pos b1] at h
    refine ev_iconst (pc := 26) (x := (-1)) dX12_ofShip_26 ci_m1 ?_
    cases h
    exact ev_iret (pc := 27) dX12_ofShip_27 rfl
  · rw [if_neg b1] at h
    refine ev_iload_n (pc := 8) 2 dX12_ofShip_8 rfl rfl ?_
    refine ev_iconst (pc := 9) (x := 0) dX12_ofShip_9 ci_0 ?_
    refine ev_iconst (pc := 10) (x := 3) dX12_ofShip_10 ci_3 ?_
    refine ev_cS (pc := 11) [vI p1, vI 0, vI 3] [] rfl mkX12_isIn ml12_90 msX12_isIn dX12_ofShip_11 rfl (Nat.le_of_ble_eq_true rfl) (by omega) rfl (e_X12_isIn (d := d - 1) (v := (f_X12_isIn p1 0 3)) (by omega)  rfl) ?_
    refine ev_if_eq (pc := 14) (tgt := 26) dX12_ofShip_14 (by decide) (fun b2 => ?_) (fun b2 => ?_)
    · rw [if_pos b2] at h
      refine ev_iconst (pc := 26) (x := (-1)) dX12_ofShip_26 ci_m1 ?_
      cases h
      exact ev_iret (pc := 27) dX12_ofShip_27 rfl
    · rw [if_neg b2] at h
      refine ev_aload_n (pc := 17) 0 dX12_ofShip_17 rfl rfl ?_
      refine ev_iload_n (pc := 18) 1 dX12_ofShip_18 rfl rfl ?_
      refine ev_iload_n (pc := 19) 2 dX12_ofShip_19 rfl rfl ?_
      obtain ⟨q3, hq3, h⟩ := bd h
      refine ev_cV (pc := 20) [vI p0, vI p1] [] rfl mkX12_get ml12_340 mnX12_get dX12_ofShip_20 kd_801 (by omega) rfl (Nat.le_of_ble_eq_true rfl) (by omega) rfl (e_X12_get (d := d - 1) (v := q3) (by omega)  hq3) ?_
      refine ev_goto (pc := 23) (tgt := 27) dX12_ofShip_23 (by decide) ?_
      cases h
      exact ev_iret (pc := 27) dX12_ofShip_27 rfl
def f_X12_is (p0 : Int) (M : Mem) : Option (Int) := if (f_X12_isIn p0 0 3) = 0 then (some (-2)) else (ck (0 ≤ (wI (8 + p0)) ∧ (wI (8 + p0)) < 10606) (some (M 802 (wI (8 + p0)))))
set_option maxRecDepth 100000 in
set_option maxHeartbeats 4000000 in
theorem e_X12_is {g : Gm} {d : Nat} {p0 : Int} {M N : Mem} {v : Int} (hd : 1 ≤ d) (h : f_X12_is p0 M = some v) : EvM g d mtX12_is [vR 801, vI p0] (sg (mx N M)) (0, 0) (vI v) (sg (mx N M)) := by
  unfold f_X12_is at h
  refine EvM.of mkX12_is.2.2.2.1 (Nat.le_of_ble_eq_true rfl) ?_
  change Ev g d mtX12_is 0 [(0, vR 801), (1, vI p0)] [] (sg (mx N M)) (0, 0) (vI v) (sg (mx N M))
  refine ev_iload_n (pc := 0) 1 dX12_is_0 rfl rfl ?_
  refine ev_iconst (pc := 1) (x := 0) dX12_is_1 ci_0 ?_
  refine ev_iconst (pc := 2) (x := 3) dX12_is_2 ci_3 ?_
  refine ev_cS (pc := 3) [vI p0, vI 0, vI 3] [] rfl mkX12_isIn ml12_90 msX12_isIn dX12_is_3 rfl (Nat.le_of_ble_eq_true rfl) (by omega) rfl (e_X12_isIn (d := d - 1) (v := (f_X12_isIn p0 0 3)) (by omega)  rfl) ?_
  refine ev_if_eq (pc := 6) (tgt := 21) dX12_is_6 (by decide) (fun b1 => ?_) (fun b1 => ?_)
  · rw [if_pos b1] at h
    refine ev_bipush (pc := 21) (x := (-2)) dX12_is_21 cb_m2 ?_
    cases h
    exact ev_iret (pc := 23) dX12_is_23 rfl
  · rw [if_neg b1] at h
    refine ev_aload_n (pc := 9) 0 dX12_is_9 rfl rfl ?_
    refine ev_getR (pc := 10) fl12_7 rfl dX12_is_10 rfl kd_801 (by omega) (rf_801_0 _) ?_
    refine ev_bipush (pc := 13) (x := 8) dX12_is_13 cb_8 ?_
    refine ev_iload_n (pc := 15) 1 dX12_is_15 rfl rfl ?_
    refine ev_iadd (pc := 16) dX12_is_16 ?_
    obtain ⟨c2, h⟩ := ck_some h
    refine ev_ildr (pc := 17) dX12_is_17 kd_802 (by omega) (by omega) c2.1 c2.2 ?_
    refine ev_goto (pc := 18) (tgt := 23) dX12_is_18 (by decide) ?_
    cases h
    exact ev_iret (pc := 23) dX12_is_23 rfl
def f_X12_shown (M : Mem) : Int := if 40 ≤ (M 802 12) then 40 else (M 802 12)
set_option maxRecDepth 100000 in
set_option maxHeartbeats 4000000 in
theorem e_X12_shown {g : Gm} {d : Nat} {M N : Mem} {v : Int} (hd : 0 ≤ d) (h : f_X12_shown M = v) : EvM g d mtX12_shown [vR 801] (sg (mx N M)) (0, 0) (vI v) (sg (mx N M)) := by
  unfold f_X12_shown at h
  refine EvM.of mkX12_shown.2.2.2.1 (Nat.le_of_ble_eq_true rfl) ?_
  change Ev g d mtX12_shown 0 [(0, vR 801)] [] (sg (mx N M)) (0, 0) (vI v) (sg (mx N M))
  refine ev_aload_n (pc := 0) 0 dX12_shown_0 rfl rfl ?_
  refine ev_getR (pc := 1) fl12_7 rfl dX12_shown_1 rfl kd_801 (by omega) (rf_801_0 _) ?_
  refine ev_bipush (pc := 4) (x := 12) dX12_shown_4 cb_12 ?_
  refine ev_ildr (pc := 6) dX12_shown_6 kd_802 (by omega) (by omega) (by omega) (by omega) ?_
  refine ev_bipush (pc := 7) (x := 40) dX12_shown_7 cb_40 ?_
  refine ev_icmp_ge (pc := 9) (tgt := 22) dX12_shown_9 (by decide) (fun b1 => ?_) (fun b1 => ?_)
  · rw [if_pos b1] at h
    refine ev_bipush (pc := 22) (x := 40) dX12_shown_22 cb_40 ?_
    cases h
    exact ev_iret (pc := 24) dX12_shown_24 rfl
  · rw [if_neg b1] at h
    refine ev_aload_n (pc := 12) 0 dX12_shown_12 rfl rfl ?_
    refine ev_getR (pc := 13) fl12_7 rfl dX12_shown_13 rfl kd_801 (by omega) (rf_801_0 _) ?_
    refine ev_bipush (pc := 16) (x := 12) dX12_shown_16 cb_12 ?_
    refine ev_ildr (pc := 18) dX12_shown_18 kd_802 (by omega) (by omega) (by omega) (by omega) ?_
    refine ev_goto (pc := 19) (tgt := 24) dX12_shown_19 (by decide) ?_
    cases h
    exact ev_iret (pc := 24) dX12_shown_24 rfl
def f_X12_book (p0 p1 : Int) (M : Mem) : Option (Int) := if p0 ≠ (-1) then (if (f_X12_isIn p0 0 (wI ((f_X12_shown M) - 1))) ≠ 0 then (ck (0 ≤ (wI (2106 + (iRem (wI ((wI ((M 802 12) - (f_X12_shown M))) + p0)) 8500))) ∧ (wI (2106 + (iRem (wI ((wI ((M 802 12) - (f_X12_shown M))) + p0)) 8500))) < 10606) (lt ((M 802 (wI (2106 + (iRem (wI ((wI ((M 802 12) - (f_X12_shown M))) + p0)) 8500))))) fun y4 => if p1 ≠ 0 then (if p1 ≠ 1 then (if p1 ≠ 2 then (some (-2)) else (some (iRem y4 9))) else (some (iRem (iDiv y4 9) 7))) else (some (iDiv y4 63)))) else (some (-2))) else (some (f_X12_shown M))
set_option maxRecDepth 100000 in
set_option maxHeartbeats 4000000 in
theorem e_X12_book {g : Gm} {d : Nat} {p0 p1 : Int} {M N : Mem} {v : Int} (hd : 1 ≤ d) (h : f_X12_book p0 p1 M = some v) : EvM g d mtX12_book [vR 801, vI p0, vI p1] (sg (mx N M)) (0, 0) (vI v) (sg (mx N M)) := by
  unfold f_X12_book at h
  refine EvM.of mkX12_book.2.2.2.1 (Nat.le_of_ble_eq_true rfl) ?_
  change Ev g d mtX12_book 0 [(0, vR 801), (1, vI p0), (2, vI p1)] [] (sg (mx N M)) (0, 0) (vI v) (sg (mx N M))
  refine ev_iload_n (pc := 0) 1 dX12_book_0 rfl rfl ?_
  refine ev_iconst (pc := 1) (x := (-1)) dX12_book_1 ci_m1 ?_
  refine ev_icmp_ne (pc := 2) (tgt := 10) dX12_book_2 (by decide) (fun b1 => ?_) (fun b1 => ?_)
  · rw [if_pos b1] at h
    refine ev_iload_n (pc := 10) 1 dX12_book_10 rfl rfl ?_
    refine ev_iconst (pc := 11) (x := 0) dX12_book_11 ci_0 ?_
    refine ev_aload_n (pc := 12) 0 dX12_book_12 rfl rfl ?_
    refine ev_cV (pc := 13) [] [vI 0, vI p0] rfl mkX12_shown ml12_424 mnX12_shown dX12_book_13 kd_801 (by omega) rfl (Nat.le_of_ble_eq_true rfl) (by omega) rfl (e_X12_shown (d := d - 1) (v := (f_X12_shown M)) (by omega)  rfl) ?_
    refine ev_iconst (pc := 16) (x := 1) dX12_book_16 ci_1 ?_
    refine ev_isub (pc := 17) dX12_book_17 ?_
    refine ev_cS (pc := 18) [vI p0, vI 0, vI (wI ((f_X12_shown M) - 1))] [] rfl mkX12_isIn ml12_90 msX12_isIn dX12_book_18 rfl (Nat.le_of_ble_eq_true rfl) (by omega) rfl (e_X12_isIn (d := d - 1) (v := (f_X12_isIn p0 0 (wI ((f_X12_shown M) - 1)))) (by omega)  rfl) ?_
    refine ev_if_ne (pc := 21) (tgt := 27) dX12_book_21 (by decide) (fun b2 => ?_) (fun b2 => ?_)
    · rw [if_pos b2] at h
      refine ev_aload_n (pc := 27) 0 dX12_book_27 rfl rfl ?_
      refine ev_getR (pc := 28) fl12_7 rfl dX12_book_28 rfl kd_801 (by omega) (rf_801_0 _) ?_
      refine ev_sipush (pc := 31) (x := 2106) dX12_book_31 cs_2106 ?_
      refine ev_aload_n (pc := 34) 0 dX12_book_34 rfl rfl ?_
      refine ev_getR (pc := 35) fl12_7 rfl dX12_book_35 rfl kd_801 (by omega) (rf_801_0 _) ?_
      refine ev_bipush (pc := 38) (x := 12) dX12_book_38 cb_12 ?_
      refine ev_ildr (pc := 40) dX12_book_40 kd_802 (by omega) (by omega) (by omega) (by omega) ?_
      refine ev_aload_n (pc := 41) 0 dX12_book_41 rfl rfl ?_
      refine ev_cV (pc := 42) [] [vI (M 802 12), vI 2106, vR 802] rfl mkX12_shown ml12_424 mnX12_shown dX12_book_42 kd_801 (by omega) rfl (Nat.le_of_ble_eq_true rfl) (by omega) rfl (e_X12_shown (d := d - 1) (v := (f_X12_shown M)) (by omega)  rfl) ?_
      refine ev_isub (pc := 45) dX12_book_45 ?_
      refine ev_iload_n (pc := 46) 1 dX12_book_46 rfl rfl ?_
      refine ev_iadd (pc := 47) dX12_book_47 ?_
      refine ev_sipush (pc := 48) (x := 8500) dX12_book_48 cs_8500 ?_
      refine ev_irem (pc := 51) dX12_book_51 (by omega) ?_
      refine ev_iadd (pc := 52) dX12_book_52 ?_
      obtain ⟨c3, h⟩ := ck_some h
      refine ev_ildr (pc := 53) dX12_book_53 kd_802 (by omega) (by omega) c3.1 c3.2 ?_
      obtain ⟨y4, ey4, h⟩ := lt_some h
      refine ev_istore_n (pc := 54) (il' := [(3, vI y4), (0, vR 801), (1, vI p0), (2, vI p1)]) dX12_book_54 rfl (Nat.le_of_ble_eq_true rfl) (by rw [ey4] <;> rfl) ?_
      refine ev_iload_n (pc := 55) 3 dX12_book_55 rfl rfl ?_
      refine ev_if_ne (pc := 56) (tgt := 66) dX12_book_56 (by decide) (fun b5 => ?_) (fun b5 => ?_)
      · rw [if_pos b5] at h
        refine ev_iload_n (pc := 66) 3 dX12_book_66 rfl rfl ?_
        refine ev_iconst (pc := 67) (x := 1) dX12_book_67 ci_1 ?_
        refine ev_icmp_ne (pc := 68) (tgt := 81) dX12_book_68 (by decide) (fun b6 => ?_) (fun b6 => ?_)
        · rw [if_pos b6] at h
          refine ev_iload_n (pc := 81) 3 dX12_book_81 rfl rfl ?_
          refine ev_iconst (pc := 82) (x := 2) dX12_book_82 ci_2 ?_
          refine ev_icmp_ne (pc := 83) (tgt := 93) dX12_book_83 (by decide) (fun b7 => ?_) (fun b7 => ?_)
          · rw [if_pos b7] at h
            refine ev_bipush (pc := 93) (x := (-2)) dX12_book_93 cb_m2 ?_
            cases h
            exact ev_iret (pc := 95) dX12_book_95 rfl
          · rw [if_neg b7] at h
            refine ev_iload_n (pc := 86) 0 dX12_book_86 rfl rfl ?_
            refine ev_bipush (pc := 87) (x := 9) dX12_book_87 cb_9 ?_
            refine ev_irem (pc := 89) dX12_book_89 (by omega) ?_
            refine ev_goto (pc := 90) (tgt := 95) dX12_book_90 (by decide) ?_
            cases h
            exact ev_iret (pc := 95) dX12_book_95 rfl
        · rw [if_neg b6] at h
          refine ev_iload_n (pc := 71) 0 dX12_book_71 rfl rfl ?_
          refine ev_bipush (pc := 72) (x := 9) dX12_book_72 cb_9 ?_
          refine ev_idiv (pc := 74) dX12_book_74 (by omega) ?_
          refine ev_bipush (pc := 75) (x := 7) dX12_book_75 cb_7 ?_
          refine ev_irem (pc := 77) dX12_book_77 (by omega) ?_
          refine ev_goto (pc := 78) (tgt := 95) dX12_book_78 (by decide) ?_
          cases h
          exact ev_iret (pc := 95) dX12_book_95 rfl
      · rw [if_neg b5] at h
        refine ev_iload_n (pc := 59) 0 dX12_book_59 rfl rfl ?_
        refine ev_bipush (pc := 60) (x := 63) dX12_book_60 cb_63 ?_
        refine ev_idiv (pc := 62) dX12_book_62 (by omega) ?_
        refine ev_goto (pc := 63) (tgt := 95) dX12_book_63 (by decide) ?_
        cases h
        exact ev_iret (pc := 95) dX12_book_95 rfl
    · rw [if_neg b2] at h
      refine ev_bipush (pc := 24) (x := (-2)) dX12_book_24 cb_m2 ?_
      cases h
      exact ev_iret (pc := 26) dX12_book_26 rfl
  · rw [if_neg b1] at h
    refine ev_aload_n (pc := 5) 0 dX12_book_5 rfl rfl ?_
    refine ev_cV (pc := 6) [] [] rfl mkX12_shown ml12_424 mnX12_shown dX12_book_6 kd_801 (by omega) rfl (Nat.le_of_ble_eq_true rfl) (by omega) rfl (e_X12_shown (d := d - 1) (v := (f_X12_shown M)) (by omega)  rfl) ?_
    cases h
    exact ev_iret (pc := 9) dX12_book_9 rfl
def f_X12_waiting_L15_J67 (n : Nat) (K : Int → Int → Option (Int)) (x1 x2 x4 s0 : Int) (M : Mem) : Option (Int) := K (bOr s0 (bShl 1 x4)) (wI (x4 + 1))
set_option maxRecDepth 100000 in
set_option maxHeartbeats 4000000 in
theorem e_X12_waiting_L15_J67 {g : Gm} {d : Nat} {n : Nat} {K : Int → Int → Option (Int)} {x1 x2 x4 s0 : Int} {M N : Mem} {q : Int} {r : Vv} {σ' : Sg} (hd : 2 ≤ d) (hK : ∀ {x3 x4 : Int}, K x3 x4 = some q → Ev g d mtX12_waiting 15 [(0, vR 801), (1, vI x1), (2, vI x2), (3, vI x3), (4, vI x4)] [] (sg (mx N M)) (0, 0) r σ') (hk0 : Ev g d mtX12_waiting 83 [(3, vI q)] [] (sg (mx N M)) (0, 0) r σ') (h : f_X12_waiting_L15_J67 n K x1 x2 x4 s0 M = some q) : Ev g d mtX12_waiting 67 [(0, vR 801), (1, vI x1), (2, vI x2), (4, vI x4)] [vI s0] (sg (mx N M)) (0, 0) r σ' := by
  unfold f_X12_waiting_L15_J67 at h
  refine ev_iconst (pc := 67) (x := 1) dX12_waiting_67 ci_1 ?_
  refine ev_iload (pc := 68) 3 dX12_waiting_68 rfl ?_
  refine ev_ishl (pc := 70) dX12_waiting_70 ?_
  refine ev_goto (pc := 71) (tgt := 75) dX12_waiting_71 (by decide) ?_
  refine ev_ior (pc := 75) dX12_waiting_75 ?_
  refine ev_istore_n (pc := 76) (il' := [(3, vI (bOr s0 (bShl 1 x4))), (0, vR 801), (1, vI x1), (2, vI x2), (4, vI x4)]) dX12_waiting_76 rfl (Nat.le_of_ble_eq_true rfl) rfl ?_
  refine ev_iinc (pc := 77) (il' := [(4, vI (wI (x4 + 1))), (3, vI (bOr s0 (bShl 1 x4))), (0, vR 801), (1, vI x1), (2, vI x2)]) 4 dX12_waiting_77 rfl (Nat.le_of_ble_eq_true rfl) rfl rfl ?_
  refine ev_goto (pc := 80) (tgt := 15) dX12_waiting_80 (by decide) ?_
  refine ev_pick [2, 3, 4, 1, 0] rfl ?_
  exact hK h
def f_X12_waiting_L15 : Nat → Int → Int → Int → Int → Mem → Option (Int)
  | 0, _, _, _, _, _ => none
  | n + 1, x1, x2, x3, x4, M => if (M 802 1) ≤ x4 then (some x3) else ((f_X12_get x4 1 M).bind fun q3 => if q3 ≠ x1 then (f_X12_waiting_L15 n x1 x2 (bOr x3 0) (wI (x4 + 1)) M) else (if x2 = 0 then ((f_X12_get x4 2 M).bind fun q6 => if x1 ≤ q6 then (f_X12_waiting_L15 n x1 x2 (bOr x3 0) (wI (x4 + 1)) M) else (f_X12_waiting_L15_J67 n (fun x3 x4 => f_X12_waiting_L15 n x1 x2 x3 x4 M) x1 x2 x4 x3 M)) else ((f_X12_get x4 2 M).bind fun q8 => if q8 ≤ x1 then (f_X12_waiting_L15 n x1 x2 (bOr x3 0) (wI (x4 + 1)) M) else (f_X12_waiting_L15_J67 n (fun x3 x4 => f_X12_waiting_L15 n x1 x2 x3 x4 M) x1 x2 x4 x3 M))))
set_option maxRecDepth 100000 in
set_option maxHeartbeats 4000000 in
theorem e_X12_waiting_L15 {g : Gm} {d : Nat} {x1 x2 : Int} {r : Vv} {σ' : Sg} {M N : Mem} (hd : 2 ≤ d) : ∀ (n : Nat) {x3 x4 : Int} {q : Int}, f_X12_waiting_L15 n x1 x2 x3 x4 M = some q → Ev g d mtX12_waiting 83 [(3, vI q)] [] (sg (mx N M)) (0, 0) r σ' → Ev g d mtX12_waiting 15 [(0, vR 801), (1, vI x1), (2, vI x2), (3, vI x3), (4, vI x4)] [] (sg (mx N M)) (0, 0) r σ' := by
  intro n
  induction n with
  | zero =>
    intro x3 x4 q h hk0
    rw [f_X12_waiting_L15.eq_1] at h
    cases h
  | succ n ih =>
    intro x3 x4 q h hk0
    rw [f_X12_waiting_L15.eq_2] at h
    refine ev_iload (pc := 15) 4 dX12_waiting_15 rfl ?_
    refine ev_aload_n (pc := 17) 0 dX12_waiting_17 rfl rfl ?_
    refine ev_getR (pc := 18) fl12_7 rfl dX12_waiting_18 rfl kd_801 (by omega) (rf_801_0 _) ?_
    refine ev_iconst (pc := 21) (x := 1) dX12_waiting_21 ci_1 ?_
    refine ev_ildr (pc := 22) dX12_waiting_22 kd_802 (by omega) (by omega) (by omega) (by omega) ?_
    refine ev_icmp_ge (pc := 23) (tgt := 83) dX12_waiting_23 (by decide) (fun b2 => ?_) (fun b2 => ?_)
    · rw [if_pos b2] at h
      cases h
      refine ev_pick [3] rfl ?_
      exact hk0
    · rw [if_neg b2] at h
      refine ev_iload_n (pc := 26) 3 dX12_waiting_26 rfl rfl ?_
      refine ev_aload_n (pc := 27) 0 dX12_waiting_27 rfl rfl ?_
      refine ev_iload (pc := 28) 4 dX12_waiting_28 rfl ?_
      refine ev_iconst (pc := 30) (x := 1) dX12_waiting_30 ci_1 ?_
      obtain ⟨q3, hq3, h⟩ := bd h
      refine ev_cV (pc := 31) [vI x4, vI 1] [vI x3] rfl mkX12_get ml12_340 mnX12_get dX12_waiting_31 kd_801 (by omega) rfl (Nat.le_of_ble_eq_true rfl) (by omega) rfl (e_X12_get (d := d - 1) (v := q3) (by omega)  hq3) ?_
      refine ev_iload_n (pc := 34) 1 dX12_waiting_34 rfl rfl ?_
      refine ev_icmp_ne (pc := 35) (tgt := 74) dX12_waiting_35 (by decide) (fun b4 => ?_) (fun b4 => ?_)
      · rw [if_pos b4] at h
        refine ev_iconst (pc := 74) (x := 0) dX12_waiting_74 ci_0 ?_
        refine ev_ior (pc := 75) dX12_waiting_75 ?_
        refine ev_istore_n (pc := 76) (il' := [(3, vI (bOr x3 0)), (0, vR 801), (1, vI x1), (2, vI x2), (4, vI x4)]) dX12_waiting_76 rfl (Nat.le_of_ble_eq_true rfl) rfl ?_
        refine ev_iinc (pc := 77) (il' := [(4, vI (wI (x4 + 1))), (3, vI (bOr x3 0)), (0, vR 801), (1, vI x1), (2, vI x2)]) 4 dX12_waiting_77 rfl (Nat.le_of_ble_eq_true rfl) rfl rfl ?_
        refine ev_goto (pc := 80) (tgt := 15) dX12_waiting_80 (by decide) ?_
        refine ev_pick [2, 3, 4, 1, 0] rfl ?_
        exact ih h hk0
      · rw [if_neg b4] at h
        refine ev_iload_n (pc := 38) 2 dX12_waiting_38 rfl rfl ?_
        refine ev_if_eq (pc := 39) (tgt := 56) dX12_waiting_39 (by decide) (fun b5 => ?_) (fun b5 => ?_)
        · rw [if_pos b5] at h
          refine ev_aload_n (pc := 56) 0 dX12_waiting_56 rfl rfl ?_
          refine ev_iload (pc := 57) 4 dX12_waiting_57 rfl ?_
          refine ev_iconst (pc := 59) (x := 2) dX12_waiting_59 ci_2 ?_
          obtain ⟨q6, hq6, h⟩ := bd h
          refine ev_cV (pc := 60) [vI x4, vI 2] [vI x3] rfl mkX12_get ml12_340 mnX12_get dX12_waiting_60 kd_801 (by omega) rfl (Nat.le_of_ble_eq_true rfl) (by omega) rfl (e_X12_get (d := d - 1) (v := q6) (by omega)  hq6) ?_
          refine ev_iload_n (pc := 63) 1 dX12_waiting_63 rfl rfl ?_
          refine ev_icmp_ge (pc := 64) (tgt := 74) dX12_waiting_64 (by decide) (fun b7 => ?_) (fun b7 => ?_)
          · rw [if_pos b7] at h
            refine ev_iconst (pc := 74) (x := 0) dX12_waiting_74 ci_0 ?_
            refine ev_ior (pc := 75) dX12_waiting_75 ?_
            refine ev_istore_n (pc := 76) (il' := [(3, vI (bOr x3 0)), (0, vR 801), (1, vI x1), (2, vI x2), (4, vI x4)]) dX12_waiting_76 rfl (Nat.le_of_ble_eq_true rfl) rfl ?_
            refine ev_iinc (pc := 77) (il' := [(4, vI (wI (x4 + 1))), (3, vI (bOr x3 0)), (0, vR 801), (1, vI x1), (2, vI x2)]) 4 dX12_waiting_77 rfl (Nat.le_of_ble_eq_true rfl) rfl rfl ?_
            refine ev_goto (pc := 80) (tgt := 15) dX12_waiting_80 (by decide) ?_
            refine ev_pick [2, 3, 4, 1, 0] rfl ?_
            exact ih h hk0
          · rw [if_neg b7] at h
            refine ev_pick [0, 1, 2, 4] rfl ?_
            exact e_X12_waiting_L15_J67 hd  (fun h9 => ih h9 hk0) hk0 h
        · rw [if_neg b5] at h
          refine ev_aload_n (pc := 42) 0 dX12_waiting_42 rfl rfl ?_
          refine ev_iload (pc := 43) 4 dX12_waiting_43 rfl ?_
          refine ev_iconst (pc := 45) (x := 2) dX12_waiting_45 ci_2 ?_
          obtain ⟨q8, hq8, h⟩ := bd h
          refine ev_cV (pc := 46) [vI x4, vI 2] [vI x3] rfl mkX12_get ml12_340 mnX12_get dX12_waiting_46 kd_801 (by omega) rfl (Nat.le_of_ble_eq_true rfl) (by omega) rfl (e_X12_get (d := d - 1) (v := q8) (by omega)  hq8) ?_
          refine ev_iload_n (pc := 49) 1 dX12_waiting_49 rfl rfl ?_
          refine ev_icmp_le (pc := 50) (tgt := 74) dX12_waiting_50 (by decide) (fun b9 => ?_) (fun b9 => ?_)
          · rw [if_pos b9] at h
            refine ev_iconst (pc := 74) (x := 0) dX12_waiting_74 ci_0 ?_
            refine ev_ior (pc := 75) dX12_waiting_75 ?_
            refine ev_istore_n (pc := 76) (il' := [(3, vI (bOr x3 0)), (0, vR 801), (1, vI x1), (2, vI x2), (4, vI x4)]) dX12_waiting_76 rfl (Nat.le_of_ble_eq_true rfl) rfl ?_
            refine ev_iinc (pc := 77) (il' := [(4, vI (wI (x4 + 1))), (3, vI (bOr x3 0)), (0, vR 801), (1, vI x1), (2, vI x2)]) 4 dX12_waiting_77 rfl (Nat.le_of_ble_eq_true rfl) rfl rfl ?_
            refine ev_goto (pc := 80) (tgt := 15) dX12_waiting_80 (by decide) ?_
            refine ev_pick [2, 3, 4, 1, 0] rfl ?_
            exact ih h hk0
          · rw [if_neg b9] at h
            refine ev_goto (pc := 53) (tgt := 67) dX12_waiting_53 (by decide) ?_
            refine ev_pick [0, 1, 2, 4] rfl ?_
            exact e_X12_waiting_L15_J67 hd  (fun h9 => ih h9 hk0) hk0 h
def f_X12_waiting (n : Nat) (p0 p1 : Int) (M : Mem) : Option (Int) := if (f_X12_isStep p0 M) ≠ 0 then ((f_X12_waiting_L15 n p0 p1 0 0 M).bind fun q10 => some q10) else (some (-1))
set_option maxRecDepth 100000 in
set_option maxHeartbeats 4000000 in
theorem e_X12_waiting {g : Gm} {d : Nat} {n : Nat} {p0 p1 : Int} {M N : Mem} {v : Int} (hd : 2 ≤ d) (h : f_X12_waiting n p0 p1 M = some v) : EvM g d mtX12_waiting [vR 801, vI p0, vI p1] (sg (mx N M)) (0, 0) (vI v) (sg (mx N M)) := by
  unfold f_X12_waiting at h
  refine EvM.of mkX12_waiting.2.2.2.1 (Nat.le_of_ble_eq_true rfl) ?_
  change Ev g d mtX12_waiting 0 [(0, vR 801), (1, vI p0), (2, vI p1)] [] (sg (mx N M)) (0, 0) (vI v) (sg (mx N M))
  refine ev_aload_n (pc := 0) 0 dX12_waiting_0 rfl rfl ?_
  refine ev_iload_n (pc := 1) 1 dX12_waiting_1 rfl rfl ?_
  refine ev_cV (pc := 2) [vI p0] [] rfl mkX12_isStep ml12_102 mnX12_isStep dX12_waiting_2 kd_801 (by omega) rfl (Nat.le_of_ble_eq_true rfl) (by omega) rfl (e_X12_isStep (d := d - 1) (v := (f_X12_isStep p0 M)) (by omega)  rfl) ?_
  refine ev_if_ne (pc := 5) (tgt := 10) dX12_waiting_5 (by decide) (fun b1 => ?_) (fun b1 => ?_)
  · rw [if_pos b1] at h
    refine ev_iconst (pc := 10) (x := 0) dX12_waiting_10 ci_0 ?_
    refine ev_istore_n (pc := 11) (il' := [(3, vI 0), (0, vR 801), (1, vI p0), (2, vI p1)]) dX12_waiting_11 rfl (Nat.le_of_ble_eq_true rfl) rfl ?_
    refine ev_iconst (pc := 12) (x := 0) dX12_waiting_12 ci_0 ?_
    refine ev_istore (pc := 13) (il' := [(4, vI 0), (3, vI 0), (0, vR 801), (1, vI p0), (2, vI p1)]) dX12_waiting_13 (Nat.le_of_ble_eq_true rfl) rfl ?_
    obtain ⟨q10, hq10, h⟩ := bd h
    refine ev_pick [2, 3, 4, 1, 0] rfl ?_
    refine e_X12_waiting_L15 hd  n hq10 ?_
    refine ev_iload_n (pc := 83) 0 dX12_waiting_83 rfl rfl ?_
    cases h
    exact ev_iret (pc := 84) dX12_waiting_84 rfl
  · rw [if_neg b1] at h
    refine ev_iconst (pc := 8) (x := (-1)) dX12_waiting_8 ci_m1 ?_
    cases h
    exact ev_iret (pc := 9) dX12_waiting_9 rfl
def f_X12_begin_L3 : Nat → Int → Mem → Option (Mem)
  | 0, _, _ => none
  | n + 1, x1, M => if 130 ≤ x1 then (some M) else (ck (0 ≤ x1 ∧ x1 < 10606) (ck (0 ≤ x1 ∧ x1 < 130) (lt (upM M 812 x1 (M 802 x1)) fun M4 => f_X12_begin_L3 n (wI (x1 + 1)) M4)))
set_option maxRecDepth 100000 in
set_option maxHeartbeats 4000000 in
theorem e_X12_begin_L3 {g : Gm} {d : Nat} {r : Vv} {σ' : Sg} {N : Mem} (hd : 0 ≤ d) : ∀ (n : Nat) {x1 : Int} {M : Mem} {q : Mem}, f_X12_begin_L3 n x1 M = some q → Ev g d mtX12_begin 28 [(0, vR 801)] [] (sg (mx N q)) (0, 0) r σ' → Ev g d mtX12_begin 3 [(0, vR 801), (1, vI x1)] [] (sg (mx N M)) (0, 0) r σ' := by
  intro n
  induction n with
  | zero =>
    intro x1 M q h hk0
    rw [f_X12_begin_L3.eq_1] at h
    cases h
  | succ n ih =>
    intro x1 M q h hk0
    rw [f_X12_begin_L3.eq_2] at h
    refine ev_iload_n (pc := 3) 1 dX12_begin_3 rfl rfl ?_
    refine ev_sipush (pc := 4) (x := 130) dX12_begin_4 cs_130 ?_
    refine ev_icmp_ge (pc := 7) (tgt := 28) dX12_begin_7 (by decide) (fun b1 => ?_) (fun b1 => ?_)
    · rw [if_pos b1] at h
      cases h
      refine ev_pick [0] rfl ?_
      exact hk0
    · rw [if_neg b1] at h
      refine ev_aload_n (pc := 10) 0 dX12_begin_10 rfl rfl ?_
      refine ev_getR (pc := 11) fl12_53 rfl dX12_begin_11 rfl kd_801 (by omega) (rf_801_32 _) ?_
      refine ev_iload_n (pc := 14) 1 dX12_begin_14 rfl rfl ?_
      refine ev_aload_n (pc := 15) 0 dX12_begin_15 rfl rfl ?_
      refine ev_getR (pc := 16) fl12_7 rfl dX12_begin_16 rfl kd_801 (by omega) (rf_801_0 _) ?_
      refine ev_iload_n (pc := 19) 1 dX12_begin_19 rfl rfl ?_
      obtain ⟨c2, h⟩ := ck_some h
      refine ev_ildr (pc := 20) dX12_begin_20 kd_802 (by omega) (by omega) c2.1 c2.2 ?_
      obtain ⟨c3, h⟩ := ck_some h
      obtain ⟨M4, eM4, h⟩ := lt_some h
      refine ev_istr (pc := 21) dX12_begin_21 kd_812 (by omega) (by omega) c3.1 c3.2 eM4 ?_
      refine ev_iinc (pc := 22) (il' := [(1, vI (wI (x1 + 1))), (0, vR 801)]) 1 dX12_begin_22 rfl (Nat.le_of_ble_eq_true rfl) rfl rfl ?_
      refine ev_goto (pc := 25) (tgt := 3) dX12_begin_25 (by decide) ?_
      refine ev_pick [1, 0] rfl ?_
      exact ih h hk0
def f_X12_begin (n : Nat) (M : Mem) : Option (Mem) := (f_X12_begin_L3 n 8 M).bind fun q5 => lt (upM q5 801 28 0) fun M6 => some M6
set_option maxRecDepth 100000 in
set_option maxHeartbeats 4000000 in
theorem e_X12_begin {g : Gm} {d : Nat} {n : Nat} {M N : Mem} {M' : Mem} (hd : 0 ≤ d) (h : f_X12_begin n M = some M') : EvM g d mtX12_begin [vR 801] (sg (mx N M)) (0, 0) vN (sg (mx N M')) := by
  unfold f_X12_begin at h
  refine EvM.of mkX12_begin.2.2.2.1 (Nat.le_of_ble_eq_true rfl) ?_
  change Ev g d mtX12_begin 0 [(0, vR 801)] [] (sg (mx N M)) (0, 0) vN (sg (mx N M'))
  refine ev_bipush (pc := 0) (x := 8) dX12_begin_0 cb_8 ?_
  refine ev_istore_n (pc := 2) (il' := [(1, vI 8), (0, vR 801)]) dX12_begin_2 rfl (Nat.le_of_ble_eq_true rfl) rfl ?_
  obtain ⟨q5, hq5, h⟩ := bd h
  refine ev_pick [1, 0] rfl ?_
  refine e_X12_begin_L3 hd  n hq5 ?_
  refine ev_aload_n (pc := 28) 0 dX12_begin_28 rfl rfl ?_
  refine ev_iconst (pc := 29) (x := 0) dX12_begin_29 ci_0 ?_
  obtain ⟨M6, eM6, h⟩ := lt_some h
  refine ev_putZr (pc := 30) fl12_43 rfl dX12_begin_30 kd_801 (by omega) (by omega) (Or.inl rfl) eM6 ?_
  cases h
  exact ev_vret (pc := 33) dX12_begin_33 rfl
def f_X12_putBack_L3 : Nat → Int → Mem → Option (Mem)
  | 0, _, _ => none
  | n + 1, x1, M => if 130 ≤ x1 then (some M) else (ck (0 ≤ x1 ∧ x1 < 130) (ck (0 ≤ x1 ∧ x1 < 10606) (lt (upM M 802 x1 (M 812 x1)) fun M4 => f_X12_putBack_L3 n (wI (x1 + 1)) M4)))
set_option maxRecDepth 100000 in
set_option maxHeartbeats 4000000 in
theorem e_X12_putBack_L3 {g : Gm} {d : Nat} {r : Vv} {σ' : Sg} {N : Mem} (hd : 0 ≤ d) : ∀ (n : Nat) {x1 : Int} {M : Mem} {q : Mem}, f_X12_putBack_L3 n x1 M = some q → Ev g d mtX12_putBack 28 [(0, vR 801)] [] (sg (mx N q)) (0, 0) r σ' → Ev g d mtX12_putBack 3 [(0, vR 801), (1, vI x1)] [] (sg (mx N M)) (0, 0) r σ' := by
  intro n
  induction n with
  | zero =>
    intro x1 M q h hk0
    rw [f_X12_putBack_L3.eq_1] at h
    cases h
  | succ n ih =>
    intro x1 M q h hk0
    rw [f_X12_putBack_L3.eq_2] at h
    refine ev_iload_n (pc := 3) 1 dX12_putBack_3 rfl rfl ?_
    refine ev_sipush (pc := 4) (x := 130) dX12_putBack_4 cs_130 ?_
    refine ev_icmp_ge (pc := 7) (tgt := 28) dX12_putBack_7 (by decide) (fun b1 => ?_) (fun b1 => ?_)
    · rw [if_pos b1] at h
      cases h
      refine ev_pick [0] rfl ?_
      exact hk0
    · rw [if_neg b1] at h
      refine ev_aload_n (pc := 10) 0 dX12_putBack_10 rfl rfl ?_
      refine ev_getR (pc := 11) fl12_7 rfl dX12_putBack_11 rfl kd_801 (by omega) (rf_801_0 _) ?_
      refine ev_iload_n (pc := 14) 1 dX12_putBack_14 rfl rfl ?_
      refine ev_aload_n (pc := 15) 0 dX12_putBack_15 rfl rfl ?_
      refine ev_getR (pc := 16) fl12_53 rfl dX12_putBack_16 rfl kd_801 (by omega) (rf_801_32 _) ?_
      refine ev_iload_n (pc := 19) 1 dX12_putBack_19 rfl rfl ?_
      obtain ⟨c2, h⟩ := ck_some h
      refine ev_ildr (pc := 20) dX12_putBack_20 kd_812 (by omega) (by omega) c2.1 c2.2 ?_
      obtain ⟨c3, h⟩ := ck_some h
      obtain ⟨M4, eM4, h⟩ := lt_some h
      refine ev_istr (pc := 21) dX12_putBack_21 kd_802 (by omega) (by omega) c3.1 c3.2 eM4 ?_
      refine ev_iinc (pc := 22) (il' := [(1, vI (wI (x1 + 1))), (0, vR 801)]) 1 dX12_putBack_22 rfl (Nat.le_of_ble_eq_true rfl) rfl rfl ?_
      refine ev_goto (pc := 25) (tgt := 3) dX12_putBack_25 (by decide) ?_
      refine ev_pick [1, 0] rfl ?_
      exact ih h hk0
def f_X12_putBack (n : Nat) (M : Mem) : Option (Mem) := (f_X12_putBack_L3 n 8 M).bind fun q5 => lt (upM q5 801 28 1) fun M6 => some M6
set_option maxRecDepth 100000 in
set_option maxHeartbeats 4000000 in
theorem e_X12_putBack {g : Gm} {d : Nat} {n : Nat} {M N : Mem} {M' : Mem} (hd : 0 ≤ d) (h : f_X12_putBack n M = some M') : EvM g d mtX12_putBack [vR 801] (sg (mx N M)) (0, 0) vN (sg (mx N M')) := by
  unfold f_X12_putBack at h
  refine EvM.of mkX12_putBack.2.2.2.1 (Nat.le_of_ble_eq_true rfl) ?_
  change Ev g d mtX12_putBack 0 [(0, vR 801)] [] (sg (mx N M)) (0, 0) vN (sg (mx N M'))
  refine ev_bipush (pc := 0) (x := 8) dX12_putBack_0 cb_8 ?_
  refine ev_istore_n (pc := 2) (il' := [(1, vI 8), (0, vR 801)]) dX12_putBack_2 rfl (Nat.le_of_ble_eq_true rfl) rfl ?_
  obtain ⟨q5, hq5, h⟩ := bd h
  refine ev_pick [1, 0] rfl ?_
  refine e_X12_putBack_L3 hd  n hq5 ?_
  refine ev_aload_n (pc := 28) 0 dX12_putBack_28 rfl rfl ?_
  refine ev_iconst (pc := 29) (x := 1) dX12_putBack_29 ci_1 ?_
  obtain ⟨M6, eM6, h⟩ := lt_some h
  refine ev_putZr (pc := 30) fl12_43 rfl dX12_putBack_30 kd_801 (by omega) (by omega) (Or.inr rfl) eM6 ?_
  cases h
  exact ev_vret (pc := 33) dX12_putBack_33 rfl
def f_X12_behindHours_L6 : Nat → Int → Int → Int → Mem → Option (Mem)
  | 0, _, _, _, _ => none
  | n + 1, x1, x2, x3, M => if x1 ≤ x3 then (some M) else ((f_X12_pass n M).bind fun q3 => f_X12_behindHours_L6 n x1 x2 (wI (x3 + 1)) q3)
set_option maxRecDepth 100000 in
set_option maxHeartbeats 4000000 in
theorem e_X12_behindHours_L6 {g : Gm} {d : Nat} {x1 x2 : Int} {r : Vv} {σ' : Sg} {N : Mem} (hd : 8 ≤ d) : ∀ (n : Nat) {x3 : Int} {M : Mem} {q : Mem}, f_X12_behindHours_L6 n x1 x2 x3 M = some q → Ev g d mtX12_behindHours 21 [(0, vR 801), (2, vI x2)] [] (sg (mx N q)) (0, 0) r σ' → Ev g d mtX12_behindHours 6 [(0, vR 801), (1, vI x1), (2, vI x2), (3, vI x3)] [] (sg (mx N M)) (0, 0) r σ' := by
  intro n
  induction n with
  | zero =>
    intro x3 M q h hk0
    rw [f_X12_behindHours_L6.eq_1] at h
    cases h
  | succ n ih =>
    intro x3 M q h hk0
    rw [f_X12_behindHours_L6.eq_2] at h
    refine ev_iload_n (pc := 6) 3 dX12_behindHours_6 rfl rfl ?_
    refine ev_iload_n (pc := 7) 1 dX12_behindHours_7 rfl rfl ?_
    refine ev_icmp_ge (pc := 8) (tgt := 21) dX12_behindHours_8 (by decide) (fun b2 => ?_) (fun b2 => ?_)
    · rw [if_pos b2] at h
      cases h
      refine ev_pick [0, 2] rfl ?_
      exact hk0
    · rw [if_neg b2] at h
      refine ev_aload_n (pc := 11) 0 dX12_behindHours_11 rfl rfl ?_
      obtain ⟨q3, hq3, h⟩ := bd h
      refine ev_cV0 (pc := 12) [] [] rfl mkX12_pass ml12_381 mnX12_pass dX12_behindHours_12 kd_801 (by omega) rfl (Nat.le_of_ble_eq_true rfl) (by omega) (e_X12_pass (d := d - 1) (M' := q3) (by omega)  hq3) ?_
      refine ev_iinc (pc := 15) (il' := [(3, vI (wI (x3 + 1))), (0, vR 801), (1, vI x1), (2, vI x2)]) 3 dX12_behindHours_15 rfl (Nat.le_of_ble_eq_true rfl) rfl rfl ?_
      refine ev_goto (pc := 18) (tgt := 6) dX12_behindHours_18 (by decide) ?_
      refine ev_pick [1, 2, 3, 0] rfl ?_
      exact ih h hk0
def f_X12_behindHours (n : Nat) (p0 p1 : Int) (M : Mem) : Option (Int × Mem) := (f_X12_begin n M).bind fun q1 => (f_X12_behindHours_L6 n p0 p1 0 q1).bind fun q4 => ck (0 ≤ p1 ∧ p1 < 10606) ((f_X12_putBack n q4).bind fun q6 => some ((q4 802 p1), q6))
set_option maxRecDepth 100000 in
set_option maxHeartbeats 4000000 in
theorem e_X12_behindHours {g : Gm} {d : Nat} {n : Nat} {p0 p1 : Int} {M N : Mem} {v : Int} {M' : Mem} (hd : 8 ≤ d) (h : f_X12_behindHours n p0 p1 M = some (v, M')) : EvM g d mtX12_behindHours [vR 801, vI p0, vI p1] (sg (mx N M)) (0, 0) (vI v) (sg (mx N M')) := by
  unfold f_X12_behindHours at h
  refine EvM.of mkX12_behindHours.2.2.2.1 (Nat.le_of_ble_eq_true rfl) ?_
  change Ev g d mtX12_behindHours 0 [(0, vR 801), (1, vI p0), (2, vI p1)] [] (sg (mx N M)) (0, 0) (vI v) (sg (mx N M'))
  refine ev_aload_n (pc := 0) 0 dX12_behindHours_0 rfl rfl ?_
  obtain ⟨q1, hq1, h⟩ := bd h
  refine ev_cV0 (pc := 1) [] [] rfl mkX12_begin ml12_427 mnX12_begin dX12_behindHours_1 kd_801 (by omega) rfl (Nat.le_of_ble_eq_true rfl) (by omega) (e_X12_begin (d := d - 1) (M' := q1) (by omega)  hq1) ?_
  refine ev_iconst (pc := 4) (x := 0) dX12_behindHours_4 ci_0 ?_
  refine ev_istore_n (pc := 5) (il' := [(3, vI 0), (0, vR 801), (1, vI p0), (2, vI p1)]) dX12_behindHours_5 rfl (Nat.le_of_ble_eq_true rfl) rfl ?_
  obtain ⟨q4, hq4, h⟩ := bd h
  refine ev_pick [1, 2, 3, 0] rfl ?_
  refine e_X12_behindHours_L6 hd  n hq4 ?_
  refine ev_aload_n (pc := 21) 0 dX12_behindHours_21 rfl rfl ?_
  refine ev_getR (pc := 22) fl12_7 rfl dX12_behindHours_22 rfl kd_801 (by omega) (rf_801_0 _) ?_
  refine ev_iload_n (pc := 25) 1 dX12_behindHours_25 rfl rfl ?_
  obtain ⟨c5, h⟩ := ck_some h
  refine ev_ildr (pc := 26) dX12_behindHours_26 kd_802 (by omega) (by omega) c5.1 c5.2 ?_
  refine ev_istore_n (pc := 27) (il' := [(3, vI (q4 802 p1)), (0, vR 801), (2, vI p1)]) dX12_behindHours_27 rfl (Nat.le_of_ble_eq_true rfl) rfl ?_
  refine ev_aload_n (pc := 28) 1 dX12_behindHours_28 rfl rfl ?_
  obtain ⟨q6, hq6, h⟩ := bd h
  refine ev_cV0 (pc := 29) [] [] rfl mkX12_putBack ml12_430 mnX12_putBack dX12_behindHours_29 kd_801 (by omega) rfl (Nat.le_of_ble_eq_true rfl) (by omega) (e_X12_putBack (d := d - 1) (M' := q6) (by omega)  hq6) ?_
  refine ev_iload_n (pc := 32) 0 dX12_behindHours_32 rfl rfl ?_
  cases h
  exact ev_iret (pc := 33) dX12_behindHours_33 rfl
def f_X12_foretoldShip_J45 (n : Nat) (s1 s2 s3 : Int) (M : Mem) : Option (Int × Mem) := (f_X12_behindHours n s1 (wI (s2 + s3)) M).bind fun q5 => some (q5.1, q5.2)
set_option maxRecDepth 100000 in
set_option maxHeartbeats 4000000 in
theorem e_X12_foretoldShip_J45 {g : Gm} {d : Nat} {n : Nat} {s1 s2 s3 : Int} {M N : Mem} {v : Int} {M' : Mem} (hd : 9 ≤ d) (h : f_X12_foretoldShip_J45 n s1 s2 s3 M = some (v, M')) : Ev g d mtX12_foretoldShip 45 [] [vI s3, vI s2, vI s1, vR 801] (sg (mx N M)) (0, 0) (vI v) (sg (mx N M')) := by
  unfold f_X12_foretoldShip_J45 at h
  refine ev_iadd (pc := 45) dX12_foretoldShip_45 ?_
  obtain ⟨q5, hq5, h⟩ := bd h
  refine ev_cV (pc := 46) [vI s1, vI (wI (s2 + s3))] [] rfl mkX12_behindHours ml12_433 mnX12_behindHours dX12_foretoldShip_46 kd_801 (by omega) rfl (Nat.le_of_ble_eq_true rfl) (by omega) rfl (e_X12_behindHours (d := d - 1) (v := q5.1) (M' := q5.2) (by omega)  hq5) ?_
  refine ev_goto (pc := 49) (tgt := 53) dX12_foretoldShip_49 (by decide) ?_
  cases h
  exact ev_iret (pc := 53) dX12_foretoldShip_53 rfl
def f_X12_foretoldShip (n : Nat) (p0 p1 p2 : Int) (M : Mem) : Option (Int × Mem) := if (f_X12_isIn p0 1 60) = 0 then (some ((-1), M)) else (if (f_X12_isShip p1 M) = 0 then (some ((-1), M)) else (if (f_X12_isIn p2 0 1) = 0 then (some ((-1), M)) else (if p2 ≠ 0 then (f_X12_foretoldShip_J45 n p0 (wI (88 + (wI (6 * p1)))) 3 M) else (f_X12_foretoldShip_J45 n p0 (wI (88 + (wI (6 * p1)))) 1 M))))
set_option maxRecDepth 100000 in
set_option maxHeartbeats 4000000 in
theorem e_X12_foretoldShip {g : Gm} {d : Nat} {n : Nat} {p0 p1 p2 : Int} {M N : Mem} {v : Int} {M' : Mem} (hd : 9 ≤ d) (h : f_X12_foretoldShip n p0 p1 p2 M = some (v, M')) : EvM g d mtX12_foretoldShip [vR 801, vI p0, vI p1, vI p2] (sg (mx N M)) (0, 0) (vI v) (sg (mx N M')) := by
  unfold f_X12_foretoldShip at h
  refine EvM.of mkX12_foretoldShip.2.2.2.1 (Nat.le_of_ble_eq_true rfl) ?_
  change Ev g d mtX12_foretoldShip 0 [(0, vR 801), (1, vI p0), (2, vI p1), (3, vI p2)] [] (sg (mx N M)) (0, 0) (vI v) (sg (mx N M'))
  refine ev_iload_n (pc := 0) 1 dX12_foretoldShip_0 rfl rfl ?_
  refine ev_iconst (pc := 1) (x := 1) dX12_foretoldShip_1 ci_1 ?_
  refine ev_bipush (pc := 2) (x := 60) dX12_foretoldShip_2 cb_60 ?_
  refine ev_cS (pc := 4) [vI p0, vI 1, vI 60] [] rfl mkX12_isIn ml12_90 msX12_isIn dX12_foretoldShip_4 rfl (Nat.le_of_ble_eq_true rfl) (by omega) rfl (e_X12_isIn (d := d - 1) (v := (f_X12_isIn p0 1 60)) (by omega)  rfl) ?_
  refine ev_if_eq (pc := 7) (tgt := 52) dX12_foretoldShip_7 (by decide) (fun b1 => ?_) (fun b1 => ?_)
  · rw [if_pos b1] at h
    refine ev_iconst (pc := 52) (x := (-1)) dX12_foretoldShip_52 ci_m1 ?_
    cases h
    exact ev_iret (pc := 53) dX12_foretoldShip_53 rfl
  · rw [if_neg b1] at h
    refine ev_aload_n (pc := 10) 0 dX12_foretoldShip_10 rfl rfl ?_
    refine ev_iload_n (pc := 11) 2 dX12_foretoldShip_11 rfl rfl ?_
    refine ev_cV (pc := 12) [vI p1] [] rfl mkX12_isShip ml12_393 mnX12_isShip dX12_foretoldShip_12 kd_801 (by omega) rfl (Nat.le_of_ble_eq_true rfl) (by omega) rfl (e_X12_isShip (d := d - 1) (v := (f_X12_isShip p1 M)) (by omega)  rfl) ?_
    refine ev_if_eq (pc := 15) (tgt := 52) dX12_foretoldShip_15 (by decide) (fun b2 => ?_) (fun b2 => ?_)
    · rw [if_pos b2] at h
      refine ev_iconst (pc := 52) (x := (-1)) dX12_foretoldShip_52 ci_m1 ?_
      cases h
      exact ev_iret (pc := 53) dX12_foretoldShip_53 rfl
    · rw [if_neg b2] at h
      refine ev_iload_n (pc := 18) 3 dX12_foretoldShip_18 rfl rfl ?_
      refine ev_iconst (pc := 19) (x := 0) dX12_foretoldShip_19 ci_0 ?_
      refine ev_iconst (pc := 20) (x := 1) dX12_foretoldShip_20 ci_1 ?_
      refine ev_cS (pc := 21) [vI p2, vI 0, vI 1] [] rfl mkX12_isIn ml12_90 msX12_isIn dX12_foretoldShip_21 rfl (Nat.le_of_ble_eq_true rfl) (by omega) rfl (e_X12_isIn (d := d - 1) (v := (f_X12_isIn p2 0 1)) (by omega)  rfl) ?_
      refine ev_if_eq (pc := 24) (tgt := 52) dX12_foretoldShip_24 (by decide) (fun b3 => ?_) (fun b3 => ?_)
      · rw [if_pos b3] at h
        refine ev_iconst (pc := 52) (x := (-1)) dX12_foretoldShip_52 ci_m1 ?_
        cases h
        exact ev_iret (pc := 53) dX12_foretoldShip_53 rfl
      · rw [if_neg b3] at h
        refine ev_aload_n (pc := 27) 0 dX12_foretoldShip_27 rfl rfl ?_
        refine ev_iload_n (pc := 28) 1 dX12_foretoldShip_28 rfl rfl ?_
        refine ev_bipush (pc := 29) (x := 88) dX12_foretoldShip_29 cb_88 ?_
        refine ev_bipush (pc := 31) (x := 6) dX12_foretoldShip_31 cb_6 ?_
        refine ev_iload_n (pc := 33) 2 dX12_foretoldShip_33 rfl rfl ?_
        refine ev_imul (pc := 34) dX12_foretoldShip_34 ?_
        refine ev_iadd (pc := 35) dX12_foretoldShip_35 ?_
        refine ev_iload_n (pc := 36) 3 dX12_foretoldShip_36 rfl rfl ?_
        refine ev_if_ne (pc := 37) (tgt := 44) dX12_foretoldShip_37 (by decide) (fun b4 => ?_) (fun b4 => ?_)
        · rw [if_pos b4] at h
          refine ev_iconst (pc := 44) (x := 3) dX12_foretoldShip_44 ci_3 ?_
          refine ev_pick [] rfl ?_
          exact e_X12_foretoldShip_J45 hd  h
        · rw [if_neg b4] at h
          refine ev_iconst (pc := 40) (x := 1) dX12_foretoldShip_40 ci_1 ?_
          refine ev_goto (pc := 41) (tgt := 45) dX12_foretoldShip_41 (by decide) ?_
          refine ev_pick [] rfl ?_
          exact e_X12_foretoldShip_J45 hd  h
def f_X12_foretoldStep (n : Nat) (p0 p1 p2 : Int) (M : Mem) : Option (Int × Mem) := if (f_X12_isIn p0 1 60) = 0 then (some ((-1), M)) else (if (f_X12_isStep p1 M) = 0 then (some ((-1), M)) else (if (f_X12_isIn p2 0 1) = 0 then (some ((-1), M)) else ((f_X12_behindHours n p0 (wI ((wI ((wI (16 + (wI (8 * p1)))) + 2)) + p2)) M).bind fun q4 => some (q4.1, q4.2))))
set_option maxRecDepth 100000 in
set_option maxHeartbeats 4000000 in
theorem e_X12_foretoldStep {g : Gm} {d : Nat} {n : Nat} {p0 p1 p2 : Int} {M N : Mem} {v : Int} {M' : Mem} (hd : 9 ≤ d) (h : f_X12_foretoldStep n p0 p1 p2 M = some (v, M')) : EvM g d mtX12_foretoldStep [vR 801, vI p0, vI p1, vI p2] (sg (mx N M)) (0, 0) (vI v) (sg (mx N M')) := by
  unfold f_X12_foretoldStep at h
  refine EvM.of mkX12_foretoldStep.2.2.2.1 (Nat.le_of_ble_eq_true rfl) ?_
  change Ev g d mtX12_foretoldStep 0 [(0, vR 801), (1, vI p0), (2, vI p1), (3, vI p2)] [] (sg (mx N M)) (0, 0) (vI v) (sg (mx N M'))
  refine ev_iload_n (pc := 0) 1 dX12_foretoldStep_0 rfl rfl ?_
  refine ev_iconst (pc := 1) (x := 1) dX12_foretoldStep_1 ci_1 ?_
  refine ev_bipush (pc := 2) (x := 60) dX12_foretoldStep_2 cb_60 ?_
  refine ev_cS (pc := 4) [vI p0, vI 1, vI 60] [] rfl mkX12_isIn ml12_90 msX12_isIn dX12_foretoldStep_4 rfl (Nat.le_of_ble_eq_true rfl) (by omega) rfl (e_X12_isIn (d := d - 1) (v := (f_X12_isIn p0 1 60)) (by omega)  rfl) ?_
  refine ev_if_eq (pc := 7) (tgt := 46) dX12_foretoldStep_7 (by decide) (fun b1 => ?_) (fun b1 => ?_)
  · rw [if_pos b1] at h
    refine ev_iconst (pc := 46) (x := (-1)) dX12_foretoldStep_46 ci_m1 ?_
    cases h
    exact ev_iret (pc := 47) dX12_foretoldStep_47 rfl
  · rw [if_neg b1] at h
    refine ev_aload_n (pc := 10) 0 dX12_foretoldStep_10 rfl rfl ?_
    refine ev_iload_n (pc := 11) 2 dX12_foretoldStep_11 rfl rfl ?_
    refine ev_cV (pc := 12) [vI p1] [] rfl mkX12_isStep ml12_102 mnX12_isStep dX12_foretoldStep_12 kd_801 (by omega) rfl (Nat.le_of_ble_eq_true rfl) (by omega) rfl (e_X12_isStep (d := d - 1) (v := (f_X12_isStep p1 M)) (by omega)  rfl) ?_
    refine ev_if_eq (pc := 15) (tgt := 46) dX12_foretoldStep_15 (by decide) (fun b2 => ?_) (fun b2 => ?_)
    · rw [if_pos b2] at h
      refine ev_iconst (pc := 46) (x := (-1)) dX12_foretoldStep_46 ci_m1 ?_
      cases h
      exact ev_iret (pc := 47) dX12_foretoldStep_47 rfl
    · rw [if_neg b2] at h
      refine ev_iload_n (pc := 18) 3 dX12_foretoldStep_18 rfl rfl ?_
      refine ev_iconst (pc := 19) (x := 0) dX12_foretoldStep_19 ci_0 ?_
      refine ev_iconst (pc := 20) (x := 1) dX12_foretoldStep_20 ci_1 ?_
      refine ev_cS (pc := 21) [vI p2, vI 0, vI 1] [] rfl mkX12_isIn ml12_90 msX12_isIn dX12_foretoldStep_21 rfl (Nat.le_of_ble_eq_true rfl) (by omega) rfl (e_X12_isIn (d := d - 1) (v := (f_X12_isIn p2 0 1)) (by omega)  rfl) ?_
      refine ev_if_eq (pc := 24) (tgt := 46) dX12_foretoldStep_24 (by decide) (fun b3 => ?_) (fun b3 => ?_)
      · rw [if_pos b3] at h
        refine ev_iconst (pc := 46) (x := (-1)) dX12_foretoldStep_46 ci_m1 ?_
        cases h
        exact ev_iret (pc := 47) dX12_foretoldStep_47 rfl
      · rw [if_neg b3] at h
        refine ev_aload_n (pc := 27) 0 dX12_foretoldStep_27 rfl rfl ?_
        refine ev_iload_n (pc := 28) 1 dX12_foretoldStep_28 rfl rfl ?_
        refine ev_bipush (pc := 29) (x := 16) dX12_foretoldStep_29 cb_16 ?_
        refine ev_bipush (pc := 31) (x := 8) dX12_foretoldStep_31 cb_8 ?_
        refine ev_iload_n (pc := 33) 2 dX12_foretoldStep_33 rfl rfl ?_
        refine ev_imul (pc := 34) dX12_foretoldStep_34 ?_
        refine ev_iadd (pc := 35) dX12_foretoldStep_35 ?_
        refine ev_iconst (pc := 36) (x := 2) dX12_foretoldStep_36 ci_2 ?_
        refine ev_iadd (pc := 37) dX12_foretoldStep_37 ?_
        refine ev_iload_n (pc := 38) 3 dX12_foretoldStep_38 rfl rfl ?_
        refine ev_iadd (pc := 39) dX12_foretoldStep_39 ?_
        obtain ⟨q4, hq4, h⟩ := bd h
        refine ev_cV (pc := 40) [vI p0, vI (wI ((wI ((wI (16 + (wI (8 * p1)))) + 2)) + p2))] [] rfl mkX12_behindHours ml12_433 mnX12_behindHours dX12_foretoldStep_40 kd_801 (by omega) rfl (Nat.le_of_ble_eq_true rfl) (by omega) rfl (e_X12_behindHours (d := d - 1) (v := q4.1) (M' := q4.2) (by omega)  hq4) ?_
        refine ev_goto (pc := 43) (tgt := 47) dX12_foretoldStep_43 (by decide) ?_
        cases h
        exact ev_iret (pc := 47) dX12_foretoldStep_47 rfl
def f_X12_comes_L18_J46 (n : Nat) (K : Int → Int → Mem → Option (Int × Mem)) (x1 x2 x3 : Int) (M : Mem) : Option (Int × Mem) := (f_X12_pass n M).bind fun q8 => K x2 (wI (x3 + 1)) q8
set_option maxRecDepth 100000 in
set_option maxHeartbeats 4000000 in
theorem e_X12_comes_L18_J46 {g : Gm} {d : Nat} {n : Nat} {K : Int → Int → Mem → Option (Int × Mem)} {x1 x2 x3 : Int} {M N : Mem} {q : Int × Mem} {r : Vv} {σ' : Sg} (hd : 8 ≤ d) (hK : ∀ {x2 x3 : Int} {M : Mem}, K x2 x3 M = some q → Ev g d mtX12_comes 18 [(0, vR 801), (1, vI x1), (2, vI x2), (3, vI x3)] [] (sg (mx N M)) (0, 0) r σ') (hk0 : Ev g d mtX12_comes 56 [(0, vR 801), (2, vI q.1)] [] (sg (mx N q.2)) (0, 0) r σ') (h : f_X12_comes_L18_J46 n K x1 x2 x3 M = some q) : Ev g d mtX12_comes 46 [(0, vR 801), (1, vI x1), (2, vI x2), (3, vI x3)] [] (sg (mx N M)) (0, 0) r σ' := by
  unfold f_X12_comes_L18_J46 at h
  refine ev_aload_n (pc := 46) 0 dX12_comes_46 rfl rfl ?_
  obtain ⟨q8, hq8, h⟩ := bd h
  refine ev_cV0 (pc := 47) [] [] rfl mkX12_pass ml12_381 mnX12_pass dX12_comes_47 kd_801 (by omega) rfl (Nat.le_of_ble_eq_true rfl) (by omega) (e_X12_pass (d := d - 1) (M' := q8) (by omega)  hq8) ?_
  refine ev_iinc (pc := 50) (il' := [(3, vI (wI (x3 + 1))), (0, vR 801), (1, vI x1), (2, vI x2)]) 3 dX12_comes_50 rfl (Nat.le_of_ble_eq_true rfl) rfl rfl ?_
  refine ev_goto (pc := 53) (tgt := 18) dX12_comes_53 (by decide) ?_
  refine ev_pick [1, 2, 3, 0] rfl ?_
  exact hK h
def f_X12_comes_L18 : Nat → Int → Int → Int → Mem → Option (Int × Mem)
  | 0, _, _, _, _ => none
  | n + 1, x1, x2, x3, M => if 60 < x3 then (some (x2, M)) else (if x2 ≠ (-1) then (some (x2, M)) else ((f_X12_get x1 1 M).bind fun q5 => (f_X12_get x1 2 M).bind fun q6 => if q5 ≠ q6 then (f_X12_comes_L18_J46 n (fun x2 x3 M => f_X12_comes_L18 n x1 x2 x3 M) x1 x2 x3 M) else (f_X12_comes_L18_J46 n (fun x2 x3 M => f_X12_comes_L18 n x1 x2 x3 M) x1 x3 x3 M)))
set_option maxRecDepth 100000 in
set_option maxHeartbeats 4000000 in
theorem e_X12_comes_L18 {g : Gm} {d : Nat} {x1 : Int} {r : Vv} {σ' : Sg} {N : Mem} (hd : 8 ≤ d) : ∀ (n : Nat) {x2 x3 : Int} {M : Mem} {q : Int × Mem}, f_X12_comes_L18 n x1 x2 x3 M = some q → Ev g d mtX12_comes 56 [(0, vR 801), (2, vI q.1)] [] (sg (mx N q.2)) (0, 0) r σ' → Ev g d mtX12_comes 18 [(0, vR 801), (1, vI x1), (2, vI x2), (3, vI x3)] [] (sg (mx N M)) (0, 0) r σ' := by
  intro n
  induction n with
  | zero =>
    intro x2 x3 M q h hk0
    rw [f_X12_comes_L18.eq_1] at h
    cases h
  | succ n ih =>
    intro x2 x3 M q h hk0
    rw [f_X12_comes_L18.eq_2] at h
    refine ev_iload_n (pc := 18) 3 dX12_comes_18 rfl rfl ?_
    refine ev_bipush (pc := 19) (x := 60) dX12_comes_19 cb_60 ?_
    refine ev_icmp_gt (pc := 21) (tgt := 56) dX12_comes_21 (by decide) (fun b3 => ?_) (fun b3 => ?_)
    · rw [if_pos b3] at h
      cases h
      refine ev_pick [0, 2] rfl ?_
      exact hk0
    · rw [if_neg b3] at h
      refine ev_iload_n (pc := 24) 2 dX12_comes_24 rfl rfl ?_
      refine ev_iconst (pc := 25) (x := (-1)) dX12_comes_25 ci_m1 ?_
      refine ev_icmp_ne (pc := 26) (tgt := 56) dX12_comes_26 (by decide) (fun b4 => ?_) (fun b4 => ?_)
      · rw [if_pos b4] at h
        cases h
        refine ev_pick [0, 2] rfl ?_
        exact hk0
      · rw [if_neg b4] at h
        refine ev_aload_n (pc := 29) 0 dX12_comes_29 rfl rfl ?_
        refine ev_iload_n (pc := 30) 1 dX12_comes_30 rfl rfl ?_
        refine ev_iconst (pc := 31) (x := 1) dX12_comes_31 ci_1 ?_
        obtain ⟨q5, hq5, h⟩ := bd h
        refine ev_cV (pc := 32) [vI x1, vI 1] [] rfl mkX12_get ml12_340 mnX12_get dX12_comes_32 kd_801 (by omega) rfl (Nat.le_of_ble_eq_true rfl) (by omega) rfl (e_X12_get (d := d - 1) (v := q5) (by omega)  hq5) ?_
        refine ev_aload_n (pc := 35) 0 dX12_comes_35 rfl rfl ?_
        refine ev_iload_n (pc := 36) 1 dX12_comes_36 rfl rfl ?_
        refine ev_iconst (pc := 37) (x := 2) dX12_comes_37 ci_2 ?_
        obtain ⟨q6, hq6, h⟩ := bd h
        refine ev_cV (pc := 38) [vI x1, vI 2] [vI q5] rfl mkX12_get ml12_340 mnX12_get dX12_comes_38 kd_801 (by omega) rfl (Nat.le_of_ble_eq_true rfl) (by omega) rfl (e_X12_get (d := d - 1) (v := q6) (by omega)  hq6) ?_
        refine ev_icmp_ne (pc := 41) (tgt := 46) dX12_comes_41 (by decide) (fun b7 => ?_) (fun b7 => ?_)
        · rw [if_pos b7] at h
          refine ev_pick [0, 1, 2, 3] rfl ?_
          exact e_X12_comes_L18_J46 hd  (fun h9 => ih h9 hk0) hk0 h
        · rw [if_neg b7] at h
          refine ev_iload_n (pc := 44) 3 dX12_comes_44 rfl rfl ?_
          refine ev_istore_n (pc := 45) (il' := [(2, vI x3), (0, vR 801), (1, vI x1), (3, vI x3)]) dX12_comes_45 rfl (Nat.le_of_ble_eq_true rfl) rfl ?_
          refine ev_pick [1, 2, 0, 3] rfl ?_
          exact e_X12_comes_L18_J46 hd  (fun h9 => ih h9 hk0) hk0 h
def f_X12_comes_J56 (n : Nat) (x2 : Int) (M : Mem) : Option (Int × Mem) := (f_X12_putBack n M).bind fun q10 => some (x2, q10)
set_option maxRecDepth 100000 in
set_option maxHeartbeats 4000000 in
theorem e_X12_comes_J56 {g : Gm} {d : Nat} {n : Nat} {x2 : Int} {M N : Mem} {v : Int} {M' : Mem} (hd : 8 ≤ d) (h : f_X12_comes_J56 n x2 M = some (v, M')) : Ev g d mtX12_comes 56 [(0, vR 801), (2, vI x2)] [] (sg (mx N M)) (0, 0) (vI v) (sg (mx N M')) := by
  unfold f_X12_comes_J56 at h
  refine ev_aload_n (pc := 56) 0 dX12_comes_56 rfl rfl ?_
  obtain ⟨q10, hq10, h⟩ := bd h
  refine ev_cV0 (pc := 57) [] [] rfl mkX12_putBack ml12_430 mnX12_putBack dX12_comes_57 kd_801 (by omega) rfl (Nat.le_of_ble_eq_true rfl) (by omega) (e_X12_putBack (d := d - 1) (M' := q10) (by omega)  hq10) ?_
  refine ev_iload_n (pc := 60) 1 dX12_comes_60 rfl rfl ?_
  cases h
  exact ev_iret (pc := 61) dX12_comes_61 rfl
def f_X12_comes (n : Nat) (p0 : Int) (M : Mem) : Option (Int × Mem) := if (f_X12_isShip p0 M) ≠ 0 then ((f_X12_begin n M).bind fun q2 => (f_X12_comes_L18 n p0 (-1) 0 q2).bind fun q9 => f_X12_comes_J56 n q9.1 q9.2) else (some ((-1), M))
set_option maxRecDepth 100000 in
set_option maxHeartbeats 4000000 in
theorem e_X12_comes {g : Gm} {d : Nat} {n : Nat} {p0 : Int} {M N : Mem} {v : Int} {M' : Mem} (hd : 8 ≤ d) (h : f_X12_comes n p0 M = some (v, M')) : EvM g d mtX12_comes [vR 801, vI p0] (sg (mx N M)) (0, 0) (vI v) (sg (mx N M')) := by
  unfold f_X12_comes at h
  refine EvM.of mkX12_comes.2.2.2.1 (Nat.le_of_ble_eq_true rfl) ?_
  change Ev g d mtX12_comes 0 [(0, vR 801), (1, vI p0)] [] (sg (mx N M)) (0, 0) (vI v) (sg (mx N M'))
  refine ev_aload_n (pc := 0) 0 dX12_comes_0 rfl rfl ?_
  refine ev_iload_n (pc := 1) 1 dX12_comes_1 rfl rfl ?_
  refine ev_cV (pc := 2) [vI p0] [] rfl mkX12_isShip ml12_393 mnX12_isShip dX12_comes_2 kd_801 (by omega) rfl (Nat.le_of_ble_eq_true rfl) (by omega) rfl (e_X12_isShip (d := d - 1) (v := (f_X12_isShip p0 M)) (by omega)  rfl) ?_
  refine ev_if_ne (pc := 5) (tgt := 10) dX12_comes_5 (by decide) (fun b1 => ?_) (fun b1 => ?_)
  · rw [if_pos b1] at h
    refine ev_aload_n (pc := 10) 0 dX12_comes_10 rfl rfl ?_
    obtain ⟨q2, hq2, h⟩ := bd h
    refine ev_cV0 (pc := 11) [] [] rfl mkX12_begin ml12_427 mnX12_begin dX12_comes_11 kd_801 (by omega) rfl (Nat.le_of_ble_eq_true rfl) (by omega) (e_X12_begin (d := d - 1) (M' := q2) (by omega)  hq2) ?_
    refine ev_iconst (pc := 14) (x := (-1)) dX12_comes_14 ci_m1 ?_
    refine ev_istore_n (pc := 15) (il' := [(2, vI (-1)), (0, vR 801), (1, vI p0)]) dX12_comes_15 rfl (Nat.le_of_ble_eq_true rfl) rfl ?_
    refine ev_iconst (pc := 16) (x := 0) dX12_comes_16 ci_0 ?_
    refine ev_istore_n (pc := 17) (il' := [(3, vI 0), (2, vI (-1)), (0, vR 801), (1, vI p0)]) dX12_comes_17 rfl (Nat.le_of_ble_eq_true rfl) rfl ?_
    obtain ⟨q9, hq9, h⟩ := bd h
    refine ev_pick [2, 3, 1, 0] rfl ?_
    refine e_X12_comes_L18 hd  n hq9 ?_
    refine ev_pick [0, 1] rfl ?_
    exact e_X12_comes_J56 hd  h
  · rw [if_neg b1] at h
    refine ev_iconst (pc := 8) (x := (-1)) dX12_comes_8 ci_m1 ?_
    cases h
    exact ev_iret (pc := 9) dX12_comes_9 rfl
def f_X12_leastBy_L2 : Nat → Int → Int → Int → Mem → Option (Mem)
  | 0, _, _, _, _ => none
  | n + 1, x1, x2, x3, M => if 49 ≤ x3 then (some M) else (if x2 ≤ x3 then (ck (0 ≤ (wI ((wI (49 * (wI (x1 - 1)))) + x3)) ∧ (wI ((wI (49 * (wI (x1 - 1)))) + x3)) < 441) (lt (upM M 814 (wI ((wI (49 * (wI (x1 - 1)))) + x3)) 100000000) fun M4 => f_X12_leastBy_L2 n x1 x2 (wI (x3 + 1)) M4)) else (ck (0 ≤ (wI ((wI ((wI (48 * (wI (x1 - 1)))) + x2)) - 1)) ∧ (wI ((wI ((wI (48 * (wI (x1 - 1)))) + x2)) - 1)) < 384) (ck (0 ≤ (wI ((wI (49 * (wI (x1 - 1)))) + x3)) ∧ (wI ((wI (49 * (wI (x1 - 1)))) + x3)) < 441) (lt (upM M 814 (wI ((wI (49 * (wI (x1 - 1)))) + x3)) (M 813 (wI ((wI ((wI (48 * (wI (x1 - 1)))) + x2)) - 1)))) fun M7 => f_X12_leastBy_L2 n x1 x2 (wI (x3 + 1)) M7))))
set_option maxRecDepth 100000 in
set_option maxHeartbeats 4000000 in
theorem e_X12_leastBy_L2 {g : Gm} {d : Nat} {x1 x2 : Int} {r : Vv} {σ' : Sg} {N : Mem} (hd : 0 ≤ d) : ∀ (n : Nat) {x3 : Int} {M : Mem} {q : Mem}, f_X12_leastBy_L2 n x1 x2 x3 M = some q → Ev g d mtX12_leastBy 53 [(0, vR 801), (1, vI x1)] [] (sg (mx N q)) (0, 0) r σ' → Ev g d mtX12_leastBy 2 [(0, vR 801), (1, vI x1), (2, vI x2), (3, vI x3)] [] (sg (mx N M)) (0, 0) r σ' := by
  intro n
  induction n with
  | zero =>
    intro x3 M q h hk0
    rw [f_X12_leastBy_L2.eq_1] at h
    cases h
  | succ n ih =>
    intro x3 M q h hk0
    rw [f_X12_leastBy_L2.eq_2] at h
    refine ev_iload_n (pc := 2) 3 dX12_leastBy_2 rfl rfl ?_
    refine ev_bipush (pc := 3) (x := 49) dX12_leastBy_3 cb_49 ?_
    refine ev_icmp_ge (pc := 5) (tgt := 53) dX12_leastBy_5 (by decide) (fun b1 => ?_) (fun b1 => ?_)
    · rw [if_pos b1] at h
      cases h
      refine ev_pick [0, 1] rfl ?_
      exact hk0
    · rw [if_neg b1] at h
      refine ev_aload_n (pc := 8) 0 dX12_leastBy_8 rfl rfl ?_
      refine ev_getR (pc := 9) fl12_59 rfl dX12_leastBy_9 rfl kd_801 (by omega) (rf_801_34 _) ?_
      refine ev_bipush (pc := 12) (x := 49) dX12_leastBy_12 cb_49 ?_
      refine ev_iload_n (pc := 14) 1 dX12_leastBy_14 rfl rfl ?_
      refine ev_iconst (pc := 15) (x := 1) dX12_leastBy_15 ci_1 ?_
      refine ev_isub (pc := 16) dX12_leastBy_16 ?_
      refine ev_imul (pc := 17) dX12_leastBy_17 ?_
      refine ev_iload_n (pc := 18) 3 dX12_leastBy_18 rfl rfl ?_
      refine ev_iadd (pc := 19) dX12_leastBy_19 ?_
      refine ev_iload_n (pc := 20) 3 dX12_leastBy_20 rfl rfl ?_
      refine ev_iload_n (pc := 21) 2 dX12_leastBy_21 rfl rfl ?_
      refine ev_icmp_ge (pc := 22) (tgt := 43) dX12_leastBy_22 (by decide) (fun b2 => ?_) (fun b2 => ?_)
      · rw [if_pos b2] at h
        refine ev_ldcw (pc := 43) (x := 100000000) rfl kc12_436 cc_100000000 dX12_leastBy_43 ?_
        obtain ⟨c3, h⟩ := ck_some h
        obtain ⟨M4, eM4, h⟩ := lt_some h
        refine ev_istr (pc := 46) dX12_leastBy_46 kd_814 (by omega) (by omega) c3.1 c3.2 eM4 ?_
        refine ev_iinc (pc := 47) (il' := [(3, vI (wI (x3 + 1))), (0, vR 801), (1, vI x1), (2, vI x2)]) 3 dX12_leastBy_47 rfl (Nat.le_of_ble_eq_true rfl) rfl rfl ?_
        refine ev_goto (pc := 50) (tgt := 2) dX12_leastBy_50 (by decide) ?_
        refine ev_pick [1, 2, 3, 0] rfl ?_
        exact ih h hk0
      · rw [if_neg b2] at h
        refine ev_aload_n (pc := 25) 0 dX12_leastBy_25 rfl rfl ?_
        refine ev_getR (pc := 26) fl12_56 rfl dX12_leastBy_26 rfl kd_801 (by omega) (rf_801_33 _) ?_
        refine ev_bipush (pc := 29) (x := 48) dX12_leastBy_29 cb_48 ?_
        refine ev_iload_n (pc := 31) 1 dX12_leastBy_31 rfl rfl ?_
        refine ev_iconst (pc := 32) (x := 1) dX12_leastBy_32 ci_1 ?_
        refine ev_isub (pc := 33) dX12_leastBy_33 ?_
        refine ev_imul (pc := 34) dX12_leastBy_34 ?_
        refine ev_iload_n (pc := 35) 2 dX12_leastBy_35 rfl rfl ?_
        refine ev_iadd (pc := 36) dX12_leastBy_36 ?_
        refine ev_iconst (pc := 37) (x := 1) dX12_leastBy_37 ci_1 ?_
        refine ev_isub (pc := 38) dX12_leastBy_38 ?_
        obtain ⟨c5, h⟩ := ck_some h
        refine ev_ildr (pc := 39) dX12_leastBy_39 kd_813 (by omega) (by omega) c5.1 c5.2 ?_
        refine ev_goto (pc := 40) (tgt := 46) dX12_leastBy_40 (by decide) ?_
        obtain ⟨c6, h⟩ := ck_some h
        obtain ⟨M7, eM7, h⟩ := lt_some h
        refine ev_istr (pc := 46) dX12_leastBy_46 kd_814 (by omega) (by omega) c6.1 c6.2 eM7 ?_
        refine ev_iinc (pc := 47) (il' := [(3, vI (wI (x3 + 1))), (0, vR 801), (1, vI x1), (2, vI x2)]) 3 dX12_leastBy_47 rfl (Nat.le_of_ble_eq_true rfl) rfl rfl ?_
        refine ev_goto (pc := 50) (tgt := 2) dX12_leastBy_50 (by decide) ?_
        refine ev_pick [1, 2, 3, 0] rfl ?_
        exact ih h hk0
def f_X12_leastBy_L80 : Nat → Int → Int → Mem → Option (Mem)
  | 0, _, _, _ => none
  | n + 1, x3, x4, M => if x4 < 0 then (some M) else (ck (0 ≤ (wI ((wI (48 * x3)) + x4)) ∧ (wI ((wI (48 * x3)) + x4)) < 384) (ck (0 ≤ (wI ((wI ((wI (49 * (wI (x3 + 1)))) + x4)) + 1)) ∧ (wI ((wI ((wI (49 * (wI (x3 + 1)))) + x4)) + 1)) < 441) (lt ((wI ((M 813 (wI ((wI (48 * x3)) + x4))) + (M 814 (wI ((wI ((wI (49 * (wI (x3 + 1)))) + x4)) + 1)))))) fun y15 => ck (0 ≤ (wI ((wI ((wI (49 * x3)) + x4)) + 1)) ∧ (wI ((wI ((wI (49 * x3)) + x4)) + 1)) < 441) (if (M 814 (wI ((wI ((wI (49 * x3)) + x4)) + 1))) ≤ y15 then (ck (0 ≤ (wI ((wI (49 * x3)) + x4)) ∧ (wI ((wI (49 * x3)) + x4)) < 441) (lt (upM M 814 (wI ((wI (49 * x3)) + x4)) (M 814 (wI ((wI ((wI (49 * x3)) + x4)) + 1)))) fun M19 => f_X12_leastBy_L80 n x3 (wI (x4 + (-1))) M19)) else (ck (0 ≤ (wI ((wI (49 * x3)) + x4)) ∧ (wI ((wI (49 * x3)) + x4)) < 441) (lt (upM M 814 (wI ((wI (49 * x3)) + x4)) y15) fun M21 => f_X12_leastBy_L80 n x3 (wI (x4 + (-1))) M21))))))
set_option maxRecDepth 100000 in
set_option maxHeartbeats 4000000 in
theorem e_X12_leastBy_L80 {g : Gm} {d : Nat} {x3 : Int} {r : Vv} {σ' : Sg} {N : Mem} (hd : 0 ≤ d) : ∀ (n : Nat) {x4 : Int} {M : Mem} {q : Mem}, f_X12_leastBy_L80 n x3 x4 M = some q → Ev g d mtX12_leastBy 172 [(0, vR 801), (3, vI x3)] [] (sg (mx N q)) (0, 0) r σ' → Ev g d mtX12_leastBy 80 [(0, vR 801), (3, vI x3), (4, vI x4)] [] (sg (mx N M)) (0, 0) r σ' := by
  intro n
  induction n with
  | zero =>
    intro x4 M q h hk0
    rw [f_X12_leastBy_L80.eq_1] at h
    cases h
  | succ n ih =>
    intro x4 M q h hk0
    rw [f_X12_leastBy_L80.eq_2] at h
    refine ev_iload (pc := 80) 2 dX12_leastBy_80 rfl ?_
    refine ev_if_lt (pc := 82) (tgt := 172) dX12_leastBy_82 (by decide) (fun b12 => ?_) (fun b12 => ?_)
    · rw [if_pos b12] at h
      cases h
      refine ev_pick [0, 1] rfl ?_
      exact hk0
    · rw [if_neg b12] at h
      refine ev_aload_n (pc := 85) 0 dX12_leastBy_85 rfl rfl ?_
      refine ev_getR (pc := 86) fl12_56 rfl dX12_leastBy_86 rfl kd_801 (by omega) (rf_801_33 _) ?_
      refine ev_bipush (pc := 89) (x := 48) dX12_leastBy_89 cb_48 ?_
      refine ev_iload_n (pc := 91) 1 dX12_leastBy_91 rfl rfl ?_
      refine ev_imul (pc := 92) dX12_leastBy_92 ?_
      refine ev_iload (pc := 93) 2 dX12_leastBy_93 rfl ?_
      refine ev_iadd (pc := 95) dX12_leastBy_95 ?_
      obtain ⟨c13, h⟩ := ck_some h
      refine ev_ildr (pc := 96) dX12_leastBy_96 kd_813 (by omega) (by omega) c13.1 c13.2 ?_
      refine ev_aload_n (pc := 97) 0 dX12_leastBy_97 rfl rfl ?_
      refine ev_getR (pc := 98) fl12_59 rfl dX12_leastBy_98 rfl kd_801 (by omega) (rf_801_34 _) ?_
      refine ev_bipush (pc := 101) (x := 49) dX12_leastBy_101 cb_49 ?_
      refine ev_iload_n (pc := 103) 1 dX12_leastBy_103 rfl rfl ?_
      refine ev_iconst (pc := 104) (x := 1) dX12_leastBy_104 ci_1 ?_
      refine ev_iadd (pc := 105) dX12_leastBy_105 ?_
      refine ev_imul (pc := 106) dX12_leastBy_106 ?_
      refine ev_iload (pc := 107) 2 dX12_leastBy_107 rfl ?_
      refine ev_iadd (pc := 109) dX12_leastBy_109 ?_
      refine ev_iconst (pc := 110) (x := 1) dX12_leastBy_110 ci_1 ?_
      refine ev_iadd (pc := 111) dX12_leastBy_111 ?_
      obtain ⟨c14, h⟩ := ck_some h
      refine ev_ildr (pc := 112) dX12_leastBy_112 kd_814 (by omega) (by omega) c14.1 c14.2 ?_
      refine ev_iadd (pc := 113) dX12_leastBy_113 ?_
      obtain ⟨y15, ey15, h⟩ := lt_some h
      refine ev_istore (pc := 114) (il' := [(5, vI y15), (0, vR 801), (3, vI x3), (4, vI x4)]) dX12_leastBy_114 (Nat.le_of_ble_eq_true rfl) (by rw [ey15] <;> rfl) ?_
      refine ev_aload_n (pc := 116) 1 dX12_leastBy_116 rfl rfl ?_
      refine ev_getR (pc := 117) fl12_59 rfl dX12_leastBy_117 rfl kd_801 (by omega) (rf_801_34 _) ?_
      refine ev_bipush (pc := 120) (x := 49) dX12_leastBy_120 cb_49 ?_
      refine ev_iload_n (pc := 122) 2 dX12_leastBy_122 rfl rfl ?_
      refine ev_imul (pc := 123) dX12_leastBy_123 ?_
      refine ev_iload (pc := 124) 3 dX12_leastBy_124 rfl ?_
      refine ev_iadd (pc := 126) dX12_leastBy_126 ?_
      refine ev_iload (pc := 127) 0 dX12_leastBy_127 rfl ?_
      refine ev_aload_n (pc := 129) 1 dX12_leastBy_129 rfl rfl ?_
      refine ev_getR (pc := 130) fl12_59 rfl dX12_leastBy_130 rfl kd_801 (by omega) (rf_801_34 _) ?_
      refine ev_bipush (pc := 133) (x := 49) dX12_leastBy_133 cb_49 ?_
      refine ev_iload_n (pc := 135) 2 dX12_leastBy_135 rfl rfl ?_
      refine ev_imul (pc := 136) dX12_leastBy_136 ?_
      refine ev_iload (pc := 137) 3 dX12_leastBy_137 rfl ?_
      refine ev_iadd (pc := 139) dX12_leastBy_139 ?_
      refine ev_iconst (pc := 140) (x := 1) dX12_leastBy_140 ci_1 ?_
      refine ev_iadd (pc := 141) dX12_leastBy_141 ?_
      obtain ⟨c16, h⟩ := ck_some h
      refine ev_ildr (pc := 142) dX12_leastBy_142 kd_814 (by omega) (by omega) c16.1 c16.2 ?_
      refine ev_icmp_ge (pc := 143) (tgt := 151) dX12_leastBy_143 (by decide) (fun b17 => ?_) (fun b17 => ?_)
      · rw [if_pos b17] at h
        refine ev_aload_n (pc := 151) 1 dX12_leastBy_151 rfl rfl ?_
        refine ev_getR (pc := 152) fl12_59 rfl dX12_leastBy_152 rfl kd_801 (by omega) (rf_801_34 _) ?_
        refine ev_bipush (pc := 155) (x := 49) dX12_leastBy_155 cb_49 ?_
        refine ev_iload_n (pc := 157) 2 dX12_leastBy_157 rfl rfl ?_
        refine ev_imul (pc := 158) dX12_leastBy_158 ?_
        refine ev_iload (pc := 159) 3 dX12_leastBy_159 rfl ?_
        refine ev_iadd (pc := 161) dX12_leastBy_161 ?_
        refine ev_iconst (pc := 162) (x := 1) dX12_leastBy_162 ci_1 ?_
        refine ev_iadd (pc := 163) dX12_leastBy_163 ?_
        refine ev_ildr (pc := 164) dX12_leastBy_164 kd_814 (by omega) (by omega) c16.1 c16.2 ?_
        obtain ⟨c18, h⟩ := ck_some h
        obtain ⟨M19, eM19, h⟩ := lt_some h
        refine ev_istr (pc := 165) dX12_leastBy_165 kd_814 (by omega) (by omega) c18.1 c18.2 eM19 ?_
        refine ev_iinc (pc := 166) (il' := [(4, vI (wI (x4 + (-1)))), (5, vI y15), (0, vR 801), (3, vI x3)]) 3 dX12_leastBy_166 rfl (Nat.le_of_ble_eq_true rfl) rfl rfl ?_
        refine ev_goto (pc := 169) (tgt := 80) dX12_leastBy_169 (by decide) ?_
        refine ev_pick [2, 3, 0] rfl ?_
        exact ih h hk0
      · rw [if_neg b17] at h
        refine ev_iload (pc := 146) 0 dX12_leastBy_146 rfl ?_
        refine ev_goto (pc := 148) (tgt := 165) dX12_leastBy_148 (by decide) ?_
        obtain ⟨c20, h⟩ := ck_some h
        obtain ⟨M21, eM21, h⟩ := lt_some h
        refine ev_istr (pc := 165) dX12_leastBy_165 kd_814 (by omega) (by omega) c20.1 c20.2 eM21 ?_
        refine ev_iinc (pc := 166) (il' := [(4, vI (wI (x4 + (-1)))), (5, vI y15), (0, vR 801), (3, vI x3)]) 3 dX12_leastBy_166 rfl (Nat.le_of_ble_eq_true rfl) rfl rfl ?_
        refine ev_goto (pc := 169) (tgt := 80) dX12_leastBy_169 (by decide) ?_
        refine ev_pick [2, 3, 0] rfl ?_
        exact ih h hk0
def f_X12_leastBy_L57 : Nat → Int → Mem → Option (Mem)
  | 0, _, _ => none
  | n + 1, x3, M => if x3 < 0 then (some M) else (ck (0 ≤ (wI ((wI (49 * x3)) + 48)) ∧ (wI ((wI (49 * x3)) + 48)) < 441) (lt (upM M 814 (wI ((wI (49 * x3)) + 48)) 100000000) fun M11 => (f_X12_leastBy_L80 n x3 47 M11).bind fun q22 => f_X12_leastBy_L57 n (wI (x3 + (-1))) q22))
set_option maxRecDepth 100000 in
set_option maxHeartbeats 4000000 in
theorem e_X12_leastBy_L57 {g : Gm} {d : Nat} {r : Vv} {σ' : Sg} {N : Mem} (hd : 0 ≤ d) : ∀ (n : Nat) {x3 : Int} {M : Mem} {q : Mem}, f_X12_leastBy_L57 n x3 M = some q → Ev g d mtX12_leastBy 178 [(0, vR 801)] [] (sg (mx N q)) (0, 0) r σ' → Ev g d mtX12_leastBy 57 [(0, vR 801), (3, vI x3)] [] (sg (mx N M)) (0, 0) r σ' := by
  intro n
  induction n with
  | zero =>
    intro x3 M q h hk0
    rw [f_X12_leastBy_L57.eq_1] at h
    cases h
  | succ n ih =>
    intro x3 M q h hk0
    rw [f_X12_leastBy_L57.eq_2] at h
    refine ev_iload_n (pc := 57) 1 dX12_leastBy_57 rfl rfl ?_
    refine ev_if_lt (pc := 58) (tgt := 178) dX12_leastBy_58 (by decide) (fun b9 => ?_) (fun b9 => ?_)
    · rw [if_pos b9] at h
      cases h
      refine ev_pick [0] rfl ?_
      exact hk0
    · rw [if_neg b9] at h
      refine ev_aload_n (pc := 61) 0 dX12_leastBy_61 rfl rfl ?_
      refine ev_getR (pc := 62) fl12_59 rfl dX12_leastBy_62 rfl kd_801 (by omega) (rf_801_34 _) ?_
      refine ev_bipush (pc := 65) (x := 49) dX12_leastBy_65 cb_49 ?_
      refine ev_iload_n (pc := 67) 1 dX12_leastBy_67 rfl rfl ?_
      refine ev_imul (pc := 68) dX12_leastBy_68 ?_
      refine ev_bipush (pc := 69) (x := 48) dX12_leastBy_69 cb_48 ?_
      refine ev_iadd (pc := 71) dX12_leastBy_71 ?_
      refine ev_ldcw (pc := 72) (x := 100000000) rfl kc12_436 cc_100000000 dX12_leastBy_72 ?_
      obtain ⟨c10, h⟩ := ck_some h
      obtain ⟨M11, eM11, h⟩ := lt_some h
      refine ev_istr (pc := 75) dX12_leastBy_75 kd_814 (by omega) (by omega) c10.1 c10.2 eM11 ?_
      refine ev_bipush (pc := 76) (x := 47) dX12_leastBy_76 cb_47 ?_
      refine ev_istore (pc := 78) (il' := [(4, vI 47), (0, vR 801), (3, vI x3)]) dX12_leastBy_78 (Nat.le_of_ble_eq_true rfl) rfl ?_
      obtain ⟨q22, hq22, h⟩ := bd h
      refine ev_pick [1, 2, 0] rfl ?_
      refine e_X12_leastBy_L80 hd  n hq22 ?_
      refine ev_iinc (pc := 172) (il' := [(3, vI (wI (x3 + (-1)))), (0, vR 801)]) 1 dX12_leastBy_172 rfl (Nat.le_of_ble_eq_true rfl) rfl rfl ?_
      refine ev_goto (pc := 175) (tgt := 57) dX12_leastBy_175 (by decide) ?_
      refine ev_pick [1, 0] rfl ?_
      exact ih h hk0
def f_X12_leastBy (n : Nat) (p0 p1 : Int) (M : Mem) : Option (Int × Mem) := (f_X12_leastBy_L2 n p0 p1 0 M).bind fun q8 => (f_X12_leastBy_L57 n (wI (p0 - 2)) q8).bind fun q23 => some ((q23 814 0), q23)
set_option maxRecDepth 100000 in
set_option maxHeartbeats 4000000 in
theorem e_X12_leastBy {g : Gm} {d : Nat} {n : Nat} {p0 p1 : Int} {M N : Mem} {v : Int} {M' : Mem} (hd : 0 ≤ d) (h : f_X12_leastBy n p0 p1 M = some (v, M')) : EvM g d mtX12_leastBy [vR 801, vI p0, vI p1] (sg (mx N M)) (0, 0) (vI v) (sg (mx N M')) := by
  unfold f_X12_leastBy at h
  refine EvM.of mkX12_leastBy.2.2.2.1 (Nat.le_of_ble_eq_true rfl) ?_
  change Ev g d mtX12_leastBy 0 [(0, vR 801), (1, vI p0), (2, vI p1)] [] (sg (mx N M)) (0, 0) (vI v) (sg (mx N M'))
  refine ev_iconst (pc := 0) (x := 0) dX12_leastBy_0 ci_0 ?_
  refine ev_istore_n (pc := 1) (il' := [(3, vI 0), (0, vR 801), (1, vI p0), (2, vI p1)]) dX12_leastBy_1 rfl (Nat.le_of_ble_eq_true rfl) rfl ?_
  obtain ⟨q8, hq8, h⟩ := bd h
  refine ev_pick [1, 2, 3, 0] rfl ?_
  refine e_X12_leastBy_L2 hd  n hq8 ?_
  refine ev_iload_n (pc := 53) 1 dX12_leastBy_53 rfl rfl ?_
  refine ev_iconst (pc := 54) (x := 2) dX12_leastBy_54 ci_2 ?_
  refine ev_isub (pc := 55) dX12_leastBy_55 ?_
  refine ev_istore_n (pc := 56) (il' := [(3, vI (wI (p0 - 2))), (0, vR 801), (1, vI p0)]) dX12_leastBy_56 rfl (Nat.le_of_ble_eq_true rfl) rfl ?_
  obtain ⟨q23, hq23, h⟩ := bd h
  refine ev_pick [1, 0] rfl ?_
  refine e_X12_leastBy_L57 hd  n hq23 ?_
  refine ev_aload_n (pc := 178) 0 dX12_leastBy_178 rfl rfl ?_
  refine ev_getR (pc := 179) fl12_59 rfl dX12_leastBy_179 rfl kd_801 (by omega) (rf_801_34 _) ?_
  refine ev_iconst (pc := 182) (x := 0) dX12_leastBy_182 ci_0 ?_
  refine ev_ildr (pc := 183) dX12_leastBy_183 kd_814 (by omega) (by omega) (by omega) (by omega) ?_
  cases h
  exact ev_iret (pc := 184) dX12_leastBy_184 rfl
def f_X12_findGoes_L27 : Nat → Int → Int → Int → Int → Int → Mem → Option (Int)
  | 0, _, _, _, _, _, _ => none
  | n + 1, x1, x2, x3, x4, x5, M => ck (0 ≤ (wI ((wI (48 * x4)) + x3)) ∧ (wI ((wI (48 * x4)) + x3)) < 384) (ck (0 ≤ (wI ((wI ((wI (49 * (wI (x4 + 1)))) + x3)) + 1)) ∧ (wI ((wI ((wI (49 * (wI (x4 + 1)))) + x3)) + 1)) < 441) (if (wI ((M 813 (wI ((wI (48 * x4)) + x3))) + (M 814 (wI ((wI ((wI (49 * (wI (x4 + 1)))) + x3)) + 1))))) = x5 then (some x3) else (f_X12_findGoes_L27 n x1 x2 (wI (x3 + 1)) x4 x5 M)))
set_option maxRecDepth 100000 in
set_option maxHeartbeats 4000000 in
theorem e_X12_findGoes_L27 {g : Gm} {d : Nat} {x1 x2 x4 x5 : Int} {r : Vv} {σ' : Sg} {M N : Mem} (hd : 0 ≤ d) : ∀ (n : Nat) {x3 : Int} {q : Int}, f_X12_findGoes_L27 n x1 x2 x3 x4 x5 M = some q → Ev g d mtX12_findGoes 67 [(0, vR 801), (1, vI x1), (2, vI x2), (3, vI q), (4, vI x4)] [] (sg (mx N M)) (0, 0) r σ' → Ev g d mtX12_findGoes 27 [(0, vR 801), (1, vI x1), (2, vI x2), (3, vI x3), (4, vI x4), (5, vI x5)] [] (sg (mx N M)) (0, 0) r σ' := by
  intro n
  induction n with
  | zero =>
    intro x3 q h hk0
    rw [f_X12_findGoes_L27.eq_1] at h
    cases h
  | succ n ih =>
    intro x3 q h hk0
    rw [f_X12_findGoes_L27.eq_2] at h
    refine ev_aload_n (pc := 27) 0 dX12_findGoes_27 rfl rfl ?_
    refine ev_getR (pc := 28) fl12_56 rfl dX12_findGoes_28 rfl kd_801 (by omega) (rf_801_33 _) ?_
    refine ev_bipush (pc := 31) (x := 48) dX12_findGoes_31 cb_48 ?_
    refine ev_iload (pc := 33) 4 dX12_findGoes_33 rfl ?_
    refine ev_imul (pc := 35) dX12_findGoes_35 ?_
    refine ev_iload_n (pc := 36) 3 dX12_findGoes_36 rfl rfl ?_
    refine ev_iadd (pc := 37) dX12_findGoes_37 ?_
    obtain ⟨c3, h⟩ := ck_some h
    refine ev_ildr (pc := 38) dX12_findGoes_38 kd_813 (by omega) (by omega) c3.1 c3.2 ?_
    refine ev_aload_n (pc := 39) 0 dX12_findGoes_39 rfl rfl ?_
    refine ev_getR (pc := 40) fl12_59 rfl dX12_findGoes_40 rfl kd_801 (by omega) (rf_801_34 _) ?_
    refine ev_bipush (pc := 43) (x := 49) dX12_findGoes_43 cb_49 ?_
    refine ev_iload (pc := 45) 4 dX12_findGoes_45 rfl ?_
    refine ev_iconst (pc := 47) (x := 1) dX12_findGoes_47 ci_1 ?_
    refine ev_iadd (pc := 48) dX12_findGoes_48 ?_
    refine ev_imul (pc := 49) dX12_findGoes_49 ?_
    refine ev_iload_n (pc := 50) 3 dX12_findGoes_50 rfl rfl ?_
    refine ev_iadd (pc := 51) dX12_findGoes_51 ?_
    refine ev_iconst (pc := 52) (x := 1) dX12_findGoes_52 ci_1 ?_
    refine ev_iadd (pc := 53) dX12_findGoes_53 ?_
    obtain ⟨c4, h⟩ := ck_some h
    refine ev_ildr (pc := 54) dX12_findGoes_54 kd_814 (by omega) (by omega) c4.1 c4.2 ?_
    refine ev_iadd (pc := 55) dX12_findGoes_55 ?_
    refine ev_iload (pc := 56) 5 dX12_findGoes_56 rfl ?_
    refine ev_icmp_eq (pc := 58) (tgt := 67) dX12_findGoes_58 (by decide) (fun b5 => ?_) (fun b5 => ?_)
    · rw [if_pos b5] at h
      cases h
      refine ev_pick [0, 1, 2, 3, 4] rfl ?_
      exact hk0
    · rw [if_neg b5] at h
      refine ev_iinc (pc := 61) (il' := [(3, vI (wI (x3 + 1))), (0, vR 801), (1, vI x1), (2, vI x2), (4, vI x4), (5, vI x5)]) 3 dX12_findGoes_61 rfl (Nat.le_of_ble_eq_true rfl) rfl rfl ?_
      refine ev_goto (pc := 64) (tgt := 27) dX12_findGoes_64 (by decide) ?_
      refine ev_pick [1, 2, 3, 0, 4, 5] rfl ?_
      exact ih h hk0
def f_X12_findGoes_L5 : Nat → Int → Int → Int → Int → Mem → Option (Mem)
  | 0, _, _, _, _, _ => none
  | n + 1, x1, x2, x3, x4, M => if (wI (x1 - 1)) ≤ x4 then (some M) else (ck (0 ≤ (wI ((wI (49 * x4)) + x3)) ∧ (wI ((wI (49 * x4)) + x3)) < 441) ((f_X12_findGoes_L27 n x1 x2 x3 x4 (M 814 (wI ((wI (49 * x4)) + x3))) M).bind fun q6 => ck (0 ≤ x4 ∧ x4 < 8) (lt (upM M 815 x4 q6) fun M8 => f_X12_findGoes_L5 n x1 x2 (wI (q6 + 1)) (wI (x4 + 1)) M8)))
set_option maxRecDepth 100000 in
set_option maxHeartbeats 4000000 in
theorem e_X12_findGoes_L5 {g : Gm} {d : Nat} {x1 x2 : Int} {r : Vv} {σ' : Sg} {N : Mem} (hd : 0 ≤ d) : ∀ (n : Nat) {x3 x4 : Int} {M : Mem} {q : Mem}, f_X12_findGoes_L5 n x1 x2 x3 x4 M = some q → Ev g d mtX12_findGoes 84 [(0, vR 801), (1, vI x1), (2, vI x2)] [] (sg (mx N q)) (0, 0) r σ' → Ev g d mtX12_findGoes 5 [(0, vR 801), (1, vI x1), (2, vI x2), (3, vI x3), (4, vI x4)] [] (sg (mx N M)) (0, 0) r σ' := by
  intro n
  induction n with
  | zero =>
    intro x3 x4 M q h hk0
    rw [f_X12_findGoes_L5.eq_1] at h
    cases h
  | succ n ih =>
    intro x3 x4 M q h hk0
    rw [f_X12_findGoes_L5.eq_2] at h
    refine ev_iload (pc := 5) 4 dX12_findGoes_5 rfl ?_
    refine ev_iload_n (pc := 7) 1 dX12_findGoes_7 rfl rfl ?_
    refine ev_iconst (pc := 8) (x := 1) dX12_findGoes_8 ci_1 ?_
    refine ev_isub (pc := 9) dX12_findGoes_9 ?_
    refine ev_icmp_ge (pc := 10) (tgt := 84) dX12_findGoes_10 (by decide) (fun b1 => ?_) (fun b1 => ?_)
    · rw [if_pos b1] at h
      cases h
      refine ev_pick [0, 1, 2] rfl ?_
      exact hk0
    · rw [if_neg b1] at h
      refine ev_aload_n (pc := 13) 0 dX12_findGoes_13 rfl rfl ?_
      refine ev_getR (pc := 14) fl12_59 rfl dX12_findGoes_14 rfl kd_801 (by omega) (rf_801_34 _) ?_
      refine ev_bipush (pc := 17) (x := 49) dX12_findGoes_17 cb_49 ?_
      refine ev_iload (pc := 19) 4 dX12_findGoes_19 rfl ?_
      refine ev_imul (pc := 21) dX12_findGoes_21 ?_
      refine ev_iload_n (pc := 22) 3 dX12_findGoes_22 rfl rfl ?_
      refine ev_iadd (pc := 23) dX12_findGoes_23 ?_
      obtain ⟨c2, h⟩ := ck_some h
      refine ev_ildr (pc := 24) dX12_findGoes_24 kd_814 (by omega) (by omega) c2.1 c2.2 ?_
      refine ev_istore (pc := 25) (il' := [(5, vI (M 814 (wI ((wI (49 * x4)) + x3)))), (0, vR 801), (1, vI x1), (2, vI x2), (3, vI x3), (4, vI x4)]) dX12_findGoes_25 (Nat.le_of_ble_eq_true rfl) rfl ?_
      obtain ⟨q6, hq6, h⟩ := bd h
      refine ev_pick [1, 2, 3, 4, 5, 0] rfl ?_
      refine e_X12_findGoes_L27 hd  n hq6 ?_
      refine ev_aload_n (pc := 67) 0 dX12_findGoes_67 rfl rfl ?_
      refine ev_getR (pc := 68) fl12_62 rfl dX12_findGoes_68 rfl kd_801 (by omega) (rf_801_35 _) ?_
      refine ev_iload (pc := 71) 4 dX12_findGoes_71 rfl ?_
      refine ev_iload_n (pc := 73) 3 dX12_findGoes_73 rfl rfl ?_
      obtain ⟨c7, h⟩ := ck_some h
      obtain ⟨M8, eM8, h⟩ := lt_some h
      refine ev_istr (pc := 74) dX12_findGoes_74 kd_815 (by omega) (by omega) c7.1 c7.2 eM8 ?_
      refine ev_iinc (pc := 75) (il' := [(3, vI (wI (q6 + 1))), (0, vR 801), (1, vI x1), (2, vI x2), (4, vI x4)]) 3 dX12_findGoes_75 rfl (Nat.le_of_ble_eq_true rfl) rfl rfl ?_
      refine ev_iinc (pc := 78) (il' := [(4, vI (wI (x4 + 1))), (3, vI (wI (q6 + 1))), (0, vR 801), (1, vI x1), (2, vI x2)]) 4 dX12_findGoes_78 rfl (Nat.le_of_ble_eq_true rfl) rfl rfl ?_
      refine ev_goto (pc := 81) (tgt := 5) dX12_findGoes_81 (by decide) ?_
      refine ev_pick [2, 3, 4, 1, 0] rfl ?_
      exact ih h hk0
def f_X12_findGoes (n : Nat) (p0 p1 : Int) (M : Mem) : Option (Mem) := (f_X12_findGoes_L5 n p0 p1 0 0 M).bind fun q9 => ck (0 ≤ (wI (p0 - 1)) ∧ (wI (p0 - 1)) < 8) (lt (upM q9 815 (wI (p0 - 1)) (wI (p1 - 1))) fun M11 => some M11)
set_option maxRecDepth 100000 in
set_option maxHeartbeats 4000000 in
theorem e_X12_findGoes {g : Gm} {d : Nat} {n : Nat} {p0 p1 : Int} {M N : Mem} {M' : Mem} (hd : 0 ≤ d) (h : f_X12_findGoes n p0 p1 M = some M') : EvM g d mtX12_findGoes [vR 801, vI p0, vI p1] (sg (mx N M)) (0, 0) vN (sg (mx N M')) := by
  unfold f_X12_findGoes at h
  refine EvM.of mkX12_findGoes.2.2.2.1 (Nat.le_of_ble_eq_true rfl) ?_
  change Ev g d mtX12_findGoes 0 [(0, vR 801), (1, vI p0), (2, vI p1)] [] (sg (mx N M)) (0, 0) vN (sg (mx N M'))
  refine ev_iconst (pc := 0) (x := 0) dX12_findGoes_0 ci_0 ?_
  refine ev_istore_n (pc := 1) (il' := [(3, vI 0), (0, vR 801), (1, vI p0), (2, vI p1)]) dX12_findGoes_1 rfl (Nat.le_of_ble_eq_true rfl) rfl ?_
  refine ev_iconst (pc := 2) (x := 0) dX12_findGoes_2 ci_0 ?_
  refine ev_istore (pc := 3) (il' := [(4, vI 0), (3, vI 0), (0, vR 801), (1, vI p0), (2, vI p1)]) dX12_findGoes_3 (Nat.le_of_ble_eq_true rfl) rfl ?_
  obtain ⟨q9, hq9, h⟩ := bd h
  refine ev_pick [2, 3, 4, 1, 0] rfl ?_
  refine e_X12_findGoes_L5 hd  n hq9 ?_
  refine ev_aload_n (pc := 84) 0 dX12_findGoes_84 rfl rfl ?_
  refine ev_getR (pc := 85) fl12_62 rfl dX12_findGoes_85 rfl kd_801 (by omega) (rf_801_35 _) ?_
  refine ev_iload_n (pc := 88) 1 dX12_findGoes_88 rfl rfl ?_
  refine ev_iconst (pc := 89) (x := 1) dX12_findGoes_89 ci_1 ?_
  refine ev_isub (pc := 90) dX12_findGoes_90 ?_
  refine ev_iload_n (pc := 91) 2 dX12_findGoes_91 rfl rfl ?_
  refine ev_iconst (pc := 92) (x := 1) dX12_findGoes_92 ci_1 ?_
  refine ev_isub (pc := 93) dX12_findGoes_93 ?_
  obtain ⟨c10, h⟩ := ck_some h
  obtain ⟨M11, eM11, h⟩ := lt_some h
  refine ev_istr (pc := 94) dX12_findGoes_94 kd_815 (by omega) (by omega) c10.1 c10.2 eM11 ?_
  cases h
  exact ev_vret (pc := 95) dX12_findGoes_95 rfl
def f_X12_voyage_L87 : Nat → Int → Int → Int → Int → Int → Int → Int → Mem → Option (Mem)
  | 0, _, _, _, _, _, _, _, _ => none
  | n + 1, x1, x2, x4, x5, x6, x7, x8, M => if 48 ≤ x8 then (some M) else ((f_X12_takesOf n (wI (x2 + x7)) (wI ((M 802 8) + x8)) x1 M).bind fun q11 => ck (0 ≤ (wI ((wI (48 * x7)) + x8)) ∧ (wI ((wI (48 * x7)) + x8)) < 384) (lt (upM q11.2 813 (wI ((wI (48 * x7)) + x8)) q11.1) fun M13 => f_X12_voyage_L87 n x1 x2 x4 x5 x6 x7 (wI (x8 + 1)) M13))
set_option maxRecDepth 100000 in
set_option maxHeartbeats 4000000 in
theorem e_X12_voyage_L87 {g : Gm} {d : Nat} {x1 x2 x4 x5 x6 x7 : Int} {r : Vv} {σ' : Sg} {N : Mem} (hd : 6 ≤ d) : ∀ (n : Nat) {x8 : Int} {M : Mem} {q : Mem}, f_X12_voyage_L87 n x1 x2 x4 x5 x6 x7 x8 M = some q → Ev g d mtX12_voyage 132 [(0, vR 801), (1, vI x1), (2, vI x2), (4, vI x4), (5, vI x5), (6, vI x6), (7, vI x7)] [] (sg (mx N q)) (0, 0) r σ' → Ev g d mtX12_voyage 87 [(0, vR 801), (1, vI x1), (2, vI x2), (4, vI x4), (5, vI x5), (6, vI x6), (7, vI x7), (8, vI x8)] [] (sg (mx N M)) (0, 0) r σ' := by
  intro n
  induction n with
  | zero =>
    intro x8 M q h hk0
    rw [f_X12_voyage_L87.eq_1] at h
    cases h
  | succ n ih =>
    intro x8 M q h hk0
    rw [f_X12_voyage_L87.eq_2] at h
    refine ev_iload (pc := 87) 7 dX12_voyage_87 rfl ?_
    refine ev_bipush (pc := 89) (x := 48) dX12_voyage_89 cb_48 ?_
    refine ev_icmp_ge (pc := 91) (tgt := 132) dX12_voyage_91 (by decide) (fun b10 => ?_) (fun b10 => ?_)
    · rw [if_pos b10] at h
      cases h
      refine ev_pick [0, 1, 2, 3, 4, 5, 6] rfl ?_
      exact hk0
    · rw [if_neg b10] at h
      refine ev_aload_n (pc := 94) 0 dX12_voyage_94 rfl rfl ?_
      refine ev_getR (pc := 95) fl12_56 rfl dX12_voyage_95 rfl kd_801 (by omega) (rf_801_33 _) ?_
      refine ev_bipush (pc := 98) (x := 48) dX12_voyage_98 cb_48 ?_
      refine ev_iload (pc := 100) 6 dX12_voyage_100 rfl ?_
      refine ev_imul (pc := 102) dX12_voyage_102 ?_
      refine ev_iload (pc := 103) 7 dX12_voyage_103 rfl ?_
      refine ev_iadd (pc := 105) dX12_voyage_105 ?_
      refine ev_aload_n (pc := 106) 0 dX12_voyage_106 rfl rfl ?_
      refine ev_iload_n (pc := 107) 2 dX12_voyage_107 rfl rfl ?_
      refine ev_iload (pc := 108) 6 dX12_voyage_108 rfl ?_
      refine ev_iadd (pc := 110) dX12_voyage_110 ?_
      refine ev_aload_n (pc := 111) 0 dX12_voyage_111 rfl rfl ?_
      refine ev_getR (pc := 112) fl12_7 rfl dX12_voyage_112 rfl kd_801 (by omega) (rf_801_0 _) ?_
      refine ev_bipush (pc := 115) (x := 8) dX12_voyage_115 cb_8 ?_
      refine ev_ildr (pc := 117) dX12_voyage_117 kd_802 (by omega) (by omega) (by omega) (by omega) ?_
      refine ev_iload (pc := 118) 7 dX12_voyage_118 rfl ?_
      refine ev_iadd (pc := 120) dX12_voyage_120 ?_
      refine ev_iload_n (pc := 121) 1 dX12_voyage_121 rfl rfl ?_
      obtain ⟨q11, hq11, h⟩ := bd h
      refine ev_cV (pc := 122) [vI (wI (x2 + x7)), vI (wI ((M 802 8) + x8)), vI x1] [vI (wI ((wI (48 * x7)) + x8)), vR 813] rfl mkX12_takesOf ml12_349 mnX12_takesOf dX12_voyage_122 kd_801 (by omega) rfl (Nat.le_of_ble_eq_true rfl) (by omega) rfl (e_X12_takesOf (d := d - 1) (v := q11.1) (M' := q11.2) (by omega)  hq11) ?_
      obtain ⟨c12, h⟩ := ck_some h
      obtain ⟨M13, eM13, h⟩ := lt_some h
      refine ev_istr (pc := 125) dX12_voyage_125 kd_813 (by omega) (by omega) c12.1 c12.2 eM13 ?_
      refine ev_iinc (pc := 126) (il' := [(8, vI (wI (x8 + 1))), (0, vR 801), (1, vI x1), (2, vI x2), (4, vI x4), (5, vI x5), (6, vI x6), (7, vI x7)]) 7 dX12_voyage_126 rfl (Nat.le_of_ble_eq_true rfl) rfl rfl ?_
      refine ev_goto (pc := 129) (tgt := 87) dX12_voyage_129 (by decide) ?_
      refine ev_pick [1, 2, 3, 4, 5, 6, 7, 0] rfl ?_
      exact ih h hk0
def f_X12_voyage_L77 : Nat → Int → Int → Int → Int → Int → Int → Mem → Option (Mem)
  | 0, _, _, _, _, _, _, _ => none
  | n + 1, x1, x2, x4, x5, x6, x7, M => if x6 ≤ x7 then (some M) else ((f_X12_voyage_L87 n x1 x2 x4 x5 x6 x7 0 M).bind fun q14 => f_X12_voyage_L77 n x1 x2 x4 x5 x6 (wI (x7 + 1)) q14)
set_option maxRecDepth 100000 in
set_option maxHeartbeats 4000000 in
theorem e_X12_voyage_L77 {g : Gm} {d : Nat} {x1 x2 x4 x5 x6 : Int} {r : Vv} {σ' : Sg} {N : Mem} (hd : 6 ≤ d) : ∀ (n : Nat) {x7 : Int} {M : Mem} {q : Mem}, f_X12_voyage_L77 n x1 x2 x4 x5 x6 x7 M = some q → Ev g d mtX12_voyage 138 [(0, vR 801), (4, vI x4), (5, vI x5), (6, vI x6)] [] (sg (mx N q)) (0, 0) r σ' → Ev g d mtX12_voyage 77 [(0, vR 801), (1, vI x1), (2, vI x2), (4, vI x4), (5, vI x5), (6, vI x6), (7, vI x7)] [] (sg (mx N M)) (0, 0) r σ' := by
  intro n
  induction n with
  | zero =>
    intro x7 M q h hk0
    rw [f_X12_voyage_L77.eq_1] at h
    cases h
  | succ n ih =>
    intro x7 M q h hk0
    rw [f_X12_voyage_L77.eq_2] at h
    refine ev_iload (pc := 77) 6 dX12_voyage_77 rfl ?_
    refine ev_iload (pc := 79) 5 dX12_voyage_79 rfl ?_
    refine ev_icmp_ge (pc := 81) (tgt := 138) dX12_voyage_81 (by decide) (fun b9 => ?_) (fun b9 => ?_)
    · rw [if_pos b9] at h
      cases h
      refine ev_pick [0, 3, 4, 5] rfl ?_
      exact hk0
    · rw [if_neg b9] at h
      refine ev_iconst (pc := 84) (x := 0) dX12_voyage_84 ci_0 ?_
      refine ev_istore (pc := 85) (il' := [(8, vI 0), (0, vR 801), (1, vI x1), (2, vI x2), (4, vI x4), (5, vI x5), (6, vI x6), (7, vI x7)]) dX12_voyage_85 (Nat.le_of_ble_eq_true rfl) rfl ?_
      obtain ⟨q14, hq14, h⟩ := bd h
      refine ev_pick [1, 2, 3, 4, 5, 6, 7, 0] rfl ?_
      refine e_X12_voyage_L87 hd  n hq14 ?_
      refine ev_iinc (pc := 132) (il' := [(7, vI (wI (x7 + 1))), (0, vR 801), (1, vI x1), (2, vI x2), (4, vI x4), (5, vI x5), (6, vI x6)]) 6 dX12_voyage_132 rfl (Nat.le_of_ble_eq_true rfl) rfl rfl ?_
      refine ev_goto (pc := 135) (tgt := 77) dX12_voyage_135 (by decide) ?_
      refine ev_pick [1, 2, 3, 4, 5, 6, 0] rfl ?_
      exact ih h hk0
def f_X12_voyage_L158 : Nat → Int → Int → Int → Int → Int → Int → Mem → Option (Int × Int × Mem)
  | 0, _, _, _, _, _, _, _ => none
  | n + 1, x4, x5, x6, x7, x8, x9, M => if x4 < x9 then (some (x7, x8, M)) else ((f_X12_leastBy n x6 x9 M).bind fun q18 => if q18.1 < x8 then (f_X12_voyage_L158 n x4 x5 x6 x9 q18.1 (wI (x9 + 1)) q18.2) else (f_X12_voyage_L158 n x4 x5 x6 x7 x8 (wI (x9 + 1)) q18.2))
set_option maxRecDepth 100000 in
set_option maxHeartbeats 4000000 in
theorem e_X12_voyage_L158 {g : Gm} {d : Nat} {x4 x5 x6 : Int} {r : Vv} {σ' : Sg} {N : Mem} (hd : 6 ≤ d) : ∀ (n : Nat) {x7 x8 x9 : Int} {M : Mem} {q : Int × Int × Mem}, f_X12_voyage_L158 n x4 x5 x6 x7 x8 x9 M = some q → Ev g d mtX12_voyage 199 [(0, vR 801), (5, vI x5), (6, vI x6), (7, vI q.1), (8, vI q.2.1)] [] (sg (mx N q.2.2)) (0, 0) r σ' → Ev g d mtX12_voyage 158 [(0, vR 801), (4, vI x4), (5, vI x5), (6, vI x6), (7, vI x7), (8, vI x8), (9, vI x9)] [] (sg (mx N M)) (0, 0) r σ' := by
  intro n
  induction n with
  | zero =>
    intro x7 x8 x9 M q h hk0
    rw [f_X12_voyage_L158.eq_1] at h
    cases h
  | succ n ih =>
    intro x7 x8 x9 M q h hk0
    rw [f_X12_voyage_L158.eq_2] at h
    refine ev_iload (pc := 158) 6 dX12_voyage_158 rfl ?_
    refine ev_iload (pc := 160) 1 dX12_voyage_160 rfl ?_
    refine ev_icmp_gt (pc := 162) (tgt := 199) dX12_voyage_162 (by decide) (fun b17 => ?_) (fun b17 => ?_)
    · rw [if_pos b17] at h
      cases h
      refine ev_pick [0, 2, 3, 4, 5] rfl ?_
      exact hk0
    · rw [if_neg b17] at h
      refine ev_aload_n (pc := 165) 0 dX12_voyage_165 rfl rfl ?_
      refine ev_iload (pc := 166) 3 dX12_voyage_166 rfl ?_
      refine ev_iload (pc := 168) 6 dX12_voyage_168 rfl ?_
      obtain ⟨q18, hq18, h⟩ := bd h
      refine ev_cV (pc := 170) [vI x6, vI x9] [] rfl mkX12_leastBy ml12_437 mnX12_leastBy dX12_voyage_170 kd_801 (by omega) rfl (Nat.le_of_ble_eq_true rfl) (by omega) rfl (e_X12_leastBy (d := d - 1) (v := q18.1) (M' := q18.2) (by omega)  hq18) ?_
      refine ev_istore (pc := 173) (il' := [(10, vI q18.1), (0, vR 801), (4, vI x4), (5, vI x5), (6, vI x6), (7, vI x7), (8, vI x8), (9, vI x9)]) dX12_voyage_173 (Nat.le_of_ble_eq_true rfl) rfl ?_
      refine ev_iload (pc := 175) 0 dX12_voyage_175 rfl ?_
      refine ev_iload (pc := 177) 6 dX12_voyage_177 rfl ?_
      refine ev_icmp_lt (pc := 179) (tgt := 185) dX12_voyage_179 (by decide) (fun b19 => ?_) (fun b19 => ?_)
      · rw [if_pos b19] at h
        refine ev_iload (pc := 185) 0 dX12_voyage_185 rfl ?_
        refine ev_istore (pc := 187) (il' := [(8, vI q18.1), (10, vI q18.1), (0, vR 801), (4, vI x4), (5, vI x5), (6, vI x6), (7, vI x7), (9, vI x9)]) dX12_voyage_187 (Nat.le_of_ble_eq_true rfl) rfl ?_
        refine ev_iload (pc := 189) 7 dX12_voyage_189 rfl ?_
        refine ev_istore (pc := 191) (il' := [(7, vI x9), (8, vI q18.1), (10, vI q18.1), (0, vR 801), (4, vI x4), (5, vI x5), (6, vI x6), (9, vI x9)]) dX12_voyage_191 (Nat.le_of_ble_eq_true rfl) rfl ?_
        refine ev_iinc (pc := 193) (il' := [(9, vI (wI (x9 + 1))), (7, vI x9), (8, vI q18.1), (10, vI q18.1), (0, vR 801), (4, vI x4), (5, vI x5), (6, vI x6)]) 7 dX12_voyage_193 rfl (Nat.le_of_ble_eq_true rfl) rfl rfl ?_
        refine ev_goto (pc := 196) (tgt := 158) dX12_voyage_196 (by decide) ?_
        refine ev_pick [4, 5, 6, 7, 1, 2, 0] rfl ?_
        exact ih h hk0
      · rw [if_neg b19] at h
        refine ev_goto (pc := 182) (tgt := 193) dX12_voyage_182 (by decide) ?_
        refine ev_iinc (pc := 193) (il' := [(9, vI (wI (x9 + 1))), (10, vI q18.1), (0, vR 801), (4, vI x4), (5, vI x5), (6, vI x6), (7, vI x7), (8, vI x8)]) 7 dX12_voyage_193 rfl (Nat.le_of_ble_eq_true rfl) rfl rfl ?_
        refine ev_goto (pc := 196) (tgt := 158) dX12_voyage_196 (by decide) ?_
        refine ev_pick [2, 3, 4, 5, 6, 7, 0] rfl ?_
        exact ih h hk0
def f_X12_voyage (n : Nat) (p0 p1 p2 p3 p4 : Int) (M : Mem) : Option (Int × Mem) := if (f_X12_isIn p0 1 99) = 0 then (some ((-100), M)) else (if (f_X12_isStep p1 M) = 0 then (some ((-100), M)) else (if (f_X12_isStep p2 M) = 0 then (some ((-100), M)) else (if p2 ≤ p1 then (some ((-100), M)) else (if (f_X12_isIn p3 1 48) ≠ 0 then (if p4 < (-2) then (some ((-100), M)) else (if (wI (p2 - p1)) ≤ p4 then (some ((-100), M)) else (if (wI (p2 - p1)) ≤ p3 then ((f_X12_voyage_L77 n p0 p1 p3 p4 (wI (p2 - p1)) 0 M).bind fun q15 => (f_X12_leastBy n (wI (p2 - p1)) (wI (p2 - p1)) q15).bind fun q16 => (f_X12_voyage_L158 n p3 p4 (wI (p2 - p1)) (wI (p2 - p1)) q16.1 (wI ((wI (p2 - p1)) + 1)) q16.2).bind fun q20 => (f_X12_leastBy n (wI (p2 - p1)) q20.1 q20.2.2).bind fun q21 => (f_X12_findGoes n (wI (p2 - p1)) q20.1 q21.2).bind fun q22 => if p4 ≠ (-2) then (if p4 ≠ (-1) then (ck (0 ≤ p4 ∧ p4 < 8) (some ((q22 815 p4), q22))) else (some (q20.1, q22))) else (some (q20.2.1, q22))) else (some ((-100), M))))) else (some ((-100), M))))))
set_option maxRecDepth 100000 in
set_option maxHeartbeats 4000000 in
theorem e_X12_voyage {g : Gm} {d : Nat} {n : Nat} {p0 p1 p2 p3 p4 : Int} {M N : Mem} {v : Int} {M' : Mem} (hd : 6 ≤ d) (h : f_X12_voyage n p0 p1 p2 p3 p4 M = some (v, M')) : EvM g d mtX12_voyage [vR 801, vI p0, vI p1, vI p2, vI p3, vI p4] (sg (mx N M)) (0, 0) (vI v) (sg (mx N M')) := by
  unfold f_X12_voyage at h
  refine EvM.of mkX12_voyage.2.2.2.1 (Nat.le_of_ble_eq_true rfl) ?_
  change Ev g d mtX12_voyage 0 [(0, vR 801), (1, vI p0), (2, vI p1), (3, vI p2), (4, vI p3), (5, vI p4)] [] (sg (mx N M)) (0, 0) (vI v) (sg (mx N M'))
  refine ev_iload_n (pc := 0) 1 dX12_voyage_0 rfl rfl ?_
  refine ev_iconst (pc := 1) (x := 1) dX12_voyage_1 ci_1 ?_
  refine ev_bipush (pc := 2) (x := 99) dX12_voyage_2 cb_99 ?_
  refine ev_cS (pc := 4) [vI p0, vI 1, vI 99] [] rfl mkX12_isIn ml12_90 msX12_isIn dX12_voyage_4 rfl (Nat.le_of_ble_eq_true rfl) (by omega) rfl (e_X12_isIn (d := d - 1) (v := (f_X12_isIn p0 1 99)) (by omega)  rfl) ?_
  refine ev_if_eq (pc := 7) (tgt := 42) dX12_voyage_7 (by decide) (fun b1 => ?_) (fun b1 => ?_)
  · rw [if_pos b1] at h
    refine ev_bipush (pc := 42) (x := (-100)) dX12_voyage_42 cb_m100 ?_
    cases h
    exact ev_iret (pc := 44) dX12_voyage_44 rfl
  · rw [if_neg b1] at h
    refine ev_aload_n (pc := 10) 0 dX12_voyage_10 rfl rfl ?_
    refine ev_iload_n (pc := 11) 2 dX12_voyage_11 rfl rfl ?_
    refine ev_cV (pc := 12) [vI p1] [] rfl mkX12_isStep ml12_102 mnX12_isStep dX12_voyage_12 kd_801 (by omega) rfl (Nat.le_of_ble_eq_true rfl) (by omega) rfl (e_X12_isStep (d := d - 1) (v := (f_X12_isStep p1 M)) (by omega)  rfl) ?_
    refine ev_if_eq (pc := 15) (tgt := 42) dX12_voyage_15 (by decide) (fun b2 => ?_) (fun b2 => ?_)
    · rw [if_pos b2] at h
      refine ev_bipush (pc := 42) (x := (-100)) dX12_voyage_42 cb_m100 ?_
      cases h
      exact ev_iret (pc := 44) dX12_voyage_44 rfl
    · rw [if_neg b2] at h
      refine ev_aload_n (pc := 18) 0 dX12_voyage_18 rfl rfl ?_
      refine ev_iload_n (pc := 19) 3 dX12_voyage_19 rfl rfl ?_
      refine ev_cV (pc := 20) [vI p2] [] rfl mkX12_isStep ml12_102 mnX12_isStep dX12_voyage_20 kd_801 (by omega) rfl (Nat.le_of_ble_eq_true rfl) (by omega) rfl (e_X12_isStep (d := d - 1) (v := (f_X12_isStep p2 M)) (by omega)  rfl) ?_
      refine ev_if_eq (pc := 23) (tgt := 42) dX12_voyage_23 (by decide) (fun b3 => ?_) (fun b3 => ?_)
      · rw [if_pos b3] at h
        refine ev_bipush (pc := 42) (x := (-100)) dX12_voyage_42 cb_m100 ?_
        cases h
        exact ev_iret (pc := 44) dX12_voyage_44 rfl
      · rw [if_neg b3] at h
        refine ev_iload_n (pc := 26) 2 dX12_voyage_26 rfl rfl ?_
        refine ev_iload_n (pc := 27) 3 dX12_voyage_27 rfl rfl ?_
        refine ev_icmp_ge (pc := 28) (tgt := 42) dX12_voyage_28 (by decide) (fun b4 => ?_) (fun b4 => ?_)
        · rw [if_pos b4] at h
          refine ev_bipush (pc := 42) (x := (-100)) dX12_voyage_42 cb_m100 ?_
          cases h
          exact ev_iret (pc := 44) dX12_voyage_44 rfl
        · rw [if_neg b4] at h
          refine ev_iload (pc := 31) 4 dX12_voyage_31 rfl ?_
          refine ev_iconst (pc := 33) (x := 1) dX12_voyage_33 ci_1 ?_
          refine ev_bipush (pc := 34) (x := 48) dX12_voyage_34 cb_48 ?_
          refine ev_cS (pc := 36) [vI p3, vI 1, vI 48] [] rfl mkX12_isIn ml12_90 msX12_isIn dX12_voyage_36 rfl (Nat.le_of_ble_eq_true rfl) (by omega) rfl (e_X12_isIn (d := d - 1) (v := (f_X12_isIn p3 1 48)) (by omega)  rfl) ?_
          refine ev_if_ne (pc := 39) (tgt := 45) dX12_voyage_39 (by decide) (fun b5 => ?_) (fun b5 => ?_)
          · rw [if_pos b5] at h
            refine ev_iload_n (pc := 45) 3 dX12_voyage_45 rfl rfl ?_
            refine ev_iload_n (pc := 46) 2 dX12_voyage_46 rfl rfl ?_
            refine ev_isub (pc := 47) dX12_voyage_47 ?_
            refine ev_istore (pc := 48) (il' := [(6, vI (wI (p2 - p1))), (0, vR 801), (1, vI p0), (2, vI p1), (3, vI p2), (4, vI p3), (5, vI p4)]) dX12_voyage_48 (Nat.le_of_ble_eq_true rfl) rfl ?_
            refine ev_iload (pc := 50) 6 dX12_voyage_50 rfl ?_
            refine ev_bipush (pc := 52) (x := (-2)) dX12_voyage_52 cb_m2 ?_
            refine ev_icmp_lt (pc := 54) (tgt := 71) dX12_voyage_54 (by decide) (fun b6 => ?_) (fun b6 => ?_)
            · rw [if_pos b6] at h
              refine ev_bipush (pc := 71) (x := (-100)) dX12_voyage_71 cb_m100 ?_
              cases h
              exact ev_iret (pc := 73) dX12_voyage_73 rfl
            · rw [if_neg b6] at h
              refine ev_iload (pc := 57) 6 dX12_voyage_57 rfl ?_
              refine ev_iload (pc := 59) 0 dX12_voyage_59 rfl ?_
              refine ev_icmp_ge (pc := 61) (tgt := 71) dX12_voyage_61 (by decide) (fun b7 => ?_) (fun b7 => ?_)
              · rw [if_pos b7] at h
                refine ev_bipush (pc := 71) (x := (-100)) dX12_voyage_71 cb_m100 ?_
                cases h
                exact ev_iret (pc := 73) dX12_voyage_73 rfl
              · rw [if_neg b7] at h
                refine ev_iload (pc := 64) 5 dX12_voyage_64 rfl ?_
                refine ev_iload (pc := 66) 0 dX12_voyage_66 rfl ?_
                refine ev_icmp_ge (pc := 68) (tgt := 74) dX12_voyage_68 (by decide) (fun b8 => ?_) (fun b8 => ?_)
                · rw [if_pos b8] at h
                  refine ev_iconst (pc := 74) (x := 0) dX12_voyage_74 ci_0 ?_
                  refine ev_istore (pc := 75) (il' := [(7, vI 0), (6, vI (wI (p2 - p1))), (0, vR 801), (1, vI p0), (2, vI p1), (3, vI p2), (4, vI p3), (5, vI p4)]) dX12_voyage_75 (Nat.le_of_ble_eq_true rfl) rfl ?_
                  obtain ⟨q15, hq15, h⟩ := bd h
                  refine ev_pick [2, 3, 4, 6, 7, 1, 0] rfl ?_
                  refine e_X12_voyage_L77 hd  n hq15 ?_
                  refine ev_iload (pc := 138) 3 dX12_voyage_138 rfl ?_
                  refine ev_istore (pc := 140) (il' := [(7, vI (wI (p2 - p1))), (0, vR 801), (4, vI p3), (5, vI p4), (6, vI (wI (p2 - p1)))]) dX12_voyage_140 (Nat.le_of_ble_eq_true rfl) rfl ?_
                  refine ev_aload_n (pc := 142) 1 dX12_voyage_142 rfl rfl ?_
                  refine ev_iload (pc := 143) 4 dX12_voyage_143 rfl ?_
                  refine ev_iload (pc := 145) 4 dX12_voyage_145 rfl ?_
                  obtain ⟨q16, hq16, h⟩ := bd h
                  refine ev_cV (pc := 147) [vI (wI (p2 - p1)), vI (wI (p2 - p1))] [] rfl mkX12_leastBy ml12_437 mnX12_leastBy dX12_voyage_147 kd_801 (by omega) rfl (Nat.le_of_ble_eq_true rfl) (by omega) rfl (e_X12_leastBy (d := d - 1) (v := q16.1) (M' := q16.2) (by omega)  hq16) ?_
                  refine ev_istore (pc := 150) (il' := [(8, vI q16.1), (7, vI (wI (p2 - p1))), (0, vR 801), (4, vI p3), (5, vI p4), (6, vI (wI (p2 - p1)))]) dX12_voyage_150 (Nat.le_of_ble_eq_true rfl) rfl ?_
                  refine ev_iload (pc := 152) 5 dX12_voyage_152 rfl ?_
                  refine ev_iconst (pc := 154) (x := 1) dX12_voyage_154 ci_1 ?_
                  refine ev_iadd (pc := 155) dX12_voyage_155 ?_
                  refine ev_istore (pc := 156) (il' := [(9, vI (wI ((wI (p2 - p1)) + 1))), (8, vI q16.1), (7, vI (wI (p2 - p1))), (0, vR 801), (4, vI p3), (5, vI p4), (6, vI (wI (p2 - p1)))]) dX12_voyage_156 (Nat.le_of_ble_eq_true rfl) rfl ?_
                  obtain ⟨q20, hq20, h⟩ := bd h
                  refine ev_pick [3, 4, 5, 6, 2, 1, 0] rfl ?_
                  refine e_X12_voyage_L158 hd  n hq20 ?_
                  refine ev_aload_n (pc := 199) 0 dX12_voyage_199 rfl rfl ?_
                  refine ev_iload (pc := 200) 2 dX12_voyage_200 rfl ?_
                  refine ev_iload (pc := 202) 3 dX12_voyage_202 rfl ?_
                  obtain ⟨q21, hq21, h⟩ := bd h
                  refine ev_cV (pc := 204) [vI (wI (p2 - p1)), vI q20.1] [] rfl mkX12_leastBy ml12_437 mnX12_leastBy dX12_voyage_204 kd_801 (by omega) rfl (Nat.le_of_ble_eq_true rfl) (by omega) rfl (e_X12_leastBy (d := d - 1) (v := q21.1) (M' := q21.2) (by omega)  hq21) ?_
                  refine ev_pop (pc := 207) rfl dX12_voyage_207 ?_
                  refine ev_aload_n (pc := 208) 0 dX12_voyage_208 rfl rfl ?_
                  refine ev_iload (pc := 209) 2 dX12_voyage_209 rfl ?_
                  refine ev_iload (pc := 211) 3 dX12_voyage_211 rfl ?_
                  obtain ⟨q22, hq22, h⟩ := bd h
                  refine ev_cV0 (pc := 213) [vI (wI (p2 - p1)), vI q20.1] [] rfl mkX12_findGoes ml12_440 mnX12_findGoes dX12_voyage_213 kd_801 (by omega) rfl (Nat.le_of_ble_eq_true rfl) (by omega) (e_X12_findGoes (d := d - 1) (M' := q22) (by omega)  hq22) ?_
                  refine ev_iload (pc := 216) 1 dX12_voyage_216 rfl ?_
                  refine ev_bipush (pc := 218) (x := (-2)) dX12_voyage_218 cb_m2 ?_
                  refine ev_icmp_ne (pc := 220) (tgt := 228) dX12_voyage_220 (by decide) (fun b23 => ?_) (fun b23 => ?_)
                  · rw [if_pos b23] at h
                    refine ev_iload (pc := 228) 1 dX12_voyage_228 rfl ?_
                    refine ev_iconst (pc := 230) (x := (-1)) dX12_voyage_230 ci_m1 ?_
                    refine ev_icmp_ne (pc := 231) (tgt := 239) dX12_voyage_231 (by decide) (fun b24 => ?_) (fun b24 => ?_)
                    · rw [if_pos b24] at h
                      refine ev_aload_n (pc := 239) 0 dX12_voyage_239 rfl rfl ?_
                      refine ev_getR (pc := 240) fl12_62 rfl dX12_voyage_240 rfl kd_801 (by omega) (rf_801_35 _) ?_
                      refine ev_iload (pc := 243) 1 dX12_voyage_243 rfl ?_
                      obtain ⟨c25, h⟩ := ck_some h
                      refine ev_ildr (pc := 245) dX12_voyage_245 kd_815 (by omega) (by omega) c25.1 c25.2 ?_
                      cases h
                      exact ev_iret (pc := 246) dX12_voyage_246 rfl
                    · rw [if_neg b24] at h
                      refine ev_iload (pc := 234) 3 dX12_voyage_234 rfl ?_
                      refine ev_goto (pc := 236) (tgt := 246) dX12_voyage_236 (by decide) ?_
                      cases h
                      exact ev_iret (pc := 246) dX12_voyage_246 rfl
                  · rw [if_neg b23] at h
                    refine ev_iload (pc := 223) 4 dX12_voyage_223 rfl ?_
                    refine ev_goto (pc := 225) (tgt := 246) dX12_voyage_225 (by decide) ?_
                    cases h
                    exact ev_iret (pc := 246) dX12_voyage_246 rfl
                · rw [if_neg b8] at h
                  refine ev_bipush (pc := 71) (x := (-100)) dX12_voyage_71 cb_m100 ?_
                  cases h
                  exact ev_iret (pc := 73) dX12_voyage_73 rfl
          · rw [if_neg b5] at h
            refine ev_bipush (pc := 42) (x := (-100)) dX12_voyage_42 cb_m100 ?_
            cases h
            exact ev_iret (pc := 44) dX12_voyage_44 rfl
