/-! ===== methods: X7_addSound, X7_addWreck, X7_addMisheard, X7_mayBeHigh, X7_measureRows, X7_reignInOrder, X7_areApart, X7_chainOf, X8_worthOf, X8_unite, X8_unionOf, X9_isWaitBetter, X9_plan, X9_hoursAheadOf, X10_copyFrom, X11_step, X11_isStep, X11_isWeight, X11_ship, X11_feed, X11_end, X11_text, X11_fault, X11_isText, X11_chooseRuler, X11_by, X11_passHours, X11_hour, X11_flood, X11_raise, X11_hasRiser, X11_mend, X11_isShip, X11_bind, X11_playClause, X11_played, X11_doDrawn ===== -/
def f_X7_addSound (k p0 p1 : Int) (M : Mem) : Option (Mem) := if 8 ≤ (M k 0) then (some M) else (ck (0 ≤ (M k 0) ∧ (M k 0) < 8) (lt (upM M (k + 1) (M k 0) p0) fun M3 => ck (0 ≤ (M3 k 0) ∧ (M3 k 0) < 8) (lt (upM M3 (k + 2) (M3 k 0) p1) fun M5 => lt (upM M5 k 0 (wI ((M5 k 0) + 1))) fun M6 => some M6)))
set_option maxRecDepth 100000 in
set_option maxHeartbeats 4000000 in
theorem e_X7_addSound {g : Gm} {d : Nat} {k p0 p1 : Int} {M N : Mem} {M' : Mem} (hd : 0 ≤ d) (hk : isTold k) (h : f_X7_addSound k p0 p1 M = some M') : EvM g d mtX7_addSound [vR k, vI p0, vI p1] (sg (mx M N)) (0, 0) vN (sg (mx M' N)) := by
  unfold f_X7_addSound at h
  refine EvM.of mkX7_addSound.2.2.2.1 (Nat.le_of_ble_eq_true rfl) ?_
  change Ev g d mtX7_addSound 0 [(0, vR k), (1, vI p0), (2, vI p1)] [] (sg (mx M N)) (0, 0) vN (sg (mx M' N))
  refine ev_aload_n (pc := 0) 0 dX7_addSound_0 rfl rfl ?_
  refine ev_getIc (pc := 1) fl7_27 rfl dX7_addSound_1 rfl (told_k hk) (told_nz hk) (told_n9 hk) 0 rfl ?_
  refine ev_bipush (pc := 4) (x := 8) dX7_addSound_4 cb_8 ?_
  refine ev_icmp_ge (pc := 6) (tgt := 39) dX7_addSound_6 (by decide) (fun b1 => ?_) (fun b1 => ?_)
  · rw [if_pos b1] at h
    cases h
    exact ev_vret (pc := 39) dX7_addSound_39 rfl
  · rw [if_neg b1] at h
    refine ev_aload_n (pc := 9) 0 dX7_addSound_9 rfl rfl ?_
    refine ev_getR (pc := 10) fl7_9 rfl dX7_addSound_10 rfl (told_k hk) (told_nz hk) (told_r1 _ hk) ?_
    refine ev_aload_n (pc := 13) 0 dX7_addSound_13 rfl rfl ?_
    refine ev_getIc (pc := 14) fl7_27 rfl dX7_addSound_14 rfl (told_k hk) (told_nz hk) (told_n9 hk) 0 rfl ?_
    refine ev_iload_n (pc := 17) 1 dX7_addSound_17 rfl rfl ?_
    obtain ⟨c2, h⟩ := ck_some h
    obtain ⟨M3, eM3, h⟩ := lt_some h
    refine ev_istc (pc := 18) dX7_addSound_18 (told_ak1 hk) (told_anz1 hk) (told_a91 hk) c2.1 c2.2 eM3 ?_
    refine ev_aload_n (pc := 19) 0 dX7_addSound_19 rfl rfl ?_
    refine ev_getR (pc := 20) fl7_15 rfl dX7_addSound_20 rfl (told_k hk) (told_nz hk) (told_r2 _ hk) ?_
    refine ev_aload_n (pc := 23) 0 dX7_addSound_23 rfl rfl ?_
    refine ev_getIc (pc := 24) fl7_27 rfl dX7_addSound_24 rfl (told_k hk) (told_nz hk) (told_n9 hk) 0 rfl ?_
    refine ev_iload_n (pc := 27) 2 dX7_addSound_27 rfl rfl ?_
    obtain ⟨c4, h⟩ := ck_some h
    obtain ⟨M5, eM5, h⟩ := lt_some h
    refine ev_istc (pc := 28) dX7_addSound_28 (told_ak2 hk) (told_anz2 hk) (told_a92 hk) c4.1 c4.2 eM5 ?_
    refine ev_aload_n (pc := 29) 0 dX7_addSound_29 rfl rfl ?_
    refine ev_dup (pc := 30) rfl dX7_addSound_30 ?_
    refine ev_getIc (pc := 31) fl7_27 rfl dX7_addSound_31 rfl (told_k hk) (told_nz hk) (told_n9 hk) 0 rfl ?_
    refine ev_iconst (pc := 34) (x := 1) dX7_addSound_34 ci_1 ?_
    refine ev_iadd (pc := 35) dX7_addSound_35 ?_
    obtain ⟨M6, eM6, h⟩ := lt_some h
    refine ev_putIc (pc := 36) fl7_27 rfl dX7_addSound_36 (told_k hk) (told_nz hk) (told_n9 hk) eM6 ?_
    cases h
    exact ev_vret (pc := 39) dX7_addSound_39 rfl
def f_X7_addWreck (k p0 : Int) (M : Mem) : Option (Mem) := if 10 ≤ (M k 3) then (some M) else (ck (0 ≤ (M k 3) ∧ (M k 3) < 10) (lt (upM M (k + 3) (M k 3) p0) fun M3 => lt (upM M3 k 3 (wI ((M3 k 3) + 1))) fun M4 => some M4))
set_option maxRecDepth 100000 in
set_option maxHeartbeats 4000000 in
theorem e_X7_addWreck {g : Gm} {d : Nat} {k p0 : Int} {M N : Mem} {M' : Mem} (hd : 0 ≤ d) (hk : isTold k) (h : f_X7_addWreck k p0 M = some M') : EvM g d mtX7_addWreck [vR k, vI p0] (sg (mx M N)) (0, 0) vN (sg (mx M' N)) := by
  unfold f_X7_addWreck at h
  refine EvM.of mkX7_addWreck.2.2.2.1 (Nat.le_of_ble_eq_true rfl) ?_
  change Ev g d mtX7_addWreck 0 [(0, vR k), (1, vI p0)] [] (sg (mx M N)) (0, 0) vN (sg (mx M' N))
  refine ev_aload_n (pc := 0) 0 dX7_addWreck_0 rfl rfl ?_
  refine ev_getIc (pc := 1) fl7_37 rfl dX7_addWreck_1 rfl (told_k hk) (told_nz hk) (told_n9 hk) 3 rfl ?_
  refine ev_bipush (pc := 4) (x := 10) dX7_addWreck_4 cb_10 ?_
  refine ev_icmp_ge (pc := 6) (tgt := 29) dX7_addWreck_6 (by decide) (fun b1 => ?_) (fun b1 => ?_)
  · rw [if_pos b1] at h
    cases h
    exact ev_vret (pc := 29) dX7_addWreck_29 rfl
  · rw [if_neg b1] at h
    refine ev_aload_n (pc := 9) 0 dX7_addWreck_9 rfl rfl ?_
    refine ev_getR (pc := 10) fl7_18 rfl dX7_addWreck_10 rfl (told_k hk) (told_nz hk) (told_r4 _ hk) ?_
    refine ev_aload_n (pc := 13) 0 dX7_addWreck_13 rfl rfl ?_
    refine ev_getIc (pc := 14) fl7_37 rfl dX7_addWreck_14 rfl (told_k hk) (told_nz hk) (told_n9 hk) 3 rfl ?_
    refine ev_iload_n (pc := 17) 1 dX7_addWreck_17 rfl rfl ?_
    obtain ⟨c2, h⟩ := ck_some h
    obtain ⟨M3, eM3, h⟩ := lt_some h
    refine ev_istc (pc := 18) dX7_addWreck_18 (told_ak4 hk) (told_anz4 hk) (told_a94 hk) c2.1 c2.2 eM3 ?_
    refine ev_aload_n (pc := 19) 0 dX7_addWreck_19 rfl rfl ?_
    refine ev_dup (pc := 20) rfl dX7_addWreck_20 ?_
    refine ev_getIc (pc := 21) fl7_37 rfl dX7_addWreck_21 rfl (told_k hk) (told_nz hk) (told_n9 hk) 3 rfl ?_
    refine ev_iconst (pc := 24) (x := 1) dX7_addWreck_24 ci_1 ?_
    refine ev_iadd (pc := 25) dX7_addWreck_25 ?_
    obtain ⟨M4, eM4, h⟩ := lt_some h
    refine ev_putIc (pc := 26) fl7_37 rfl dX7_addWreck_26 (told_k hk) (told_nz hk) (told_n9 hk) eM4 ?_
    cases h
    exact ev_vret (pc := 29) dX7_addWreck_29 rfl
def f_X7_addMisheard (k p0 p1 : Int) (M : Mem) : Option (Mem) := if 15 ≤ (M k 6) then (some M) else (ck (0 ≤ (M k 6) ∧ (M k 6) < 15) (lt (upM M (k + 5) (M k 6) (bOr (bShl 1 p0) (bShl 1 p1))) fun M3 => lt (upM M3 k 6 (wI ((M3 k 6) + 1))) fun M4 => some M4))
set_option maxRecDepth 100000 in
set_option maxHeartbeats 4000000 in
theorem e_X7_addMisheard {g : Gm} {d : Nat} {k p0 p1 : Int} {M N : Mem} {M' : Mem} (hd : 0 ≤ d) (hk : isTold k) (h : f_X7_addMisheard k p0 p1 M = some M') : EvM g d mtX7_addMisheard [vR k, vI p0, vI p1] (sg (mx M N)) (0, 0) vN (sg (mx M' N)) := by
  unfold f_X7_addMisheard at h
  refine EvM.of mkX7_addMisheard.2.2.2.1 (Nat.le_of_ble_eq_true rfl) ?_
  change Ev g d mtX7_addMisheard 0 [(0, vR k), (1, vI p0), (2, vI p1)] [] (sg (mx M N)) (0, 0) vN (sg (mx M' N))
  refine ev_aload_n (pc := 0) 0 dX7_addMisheard_0 rfl rfl ?_
  refine ev_getIc (pc := 1) fl7_40 rfl dX7_addMisheard_1 rfl (told_k hk) (told_nz hk) (told_n9 hk) 6 rfl ?_
  refine ev_bipush (pc := 4) (x := 15) dX7_addMisheard_4 cb_15 ?_
  refine ev_icmp_ge (pc := 6) (tgt := 35) dX7_addMisheard_6 (by decide) (fun b1 => ?_) (fun b1 => ?_)
  · rw [if_pos b1] at h
    cases h
    exact ev_vret (pc := 35) dX7_addMisheard_35 rfl
  · rw [if_neg b1] at h
    refine ev_aload_n (pc := 9) 0 dX7_addMisheard_9 rfl rfl ?_
    refine ev_getR (pc := 10) fl7_24 rfl dX7_addMisheard_10 rfl (told_k hk) (told_nz hk) (told_r7 _ hk) ?_
    refine ev_aload_n (pc := 13) 0 dX7_addMisheard_13 rfl rfl ?_
    refine ev_getIc (pc := 14) fl7_40 rfl dX7_addMisheard_14 rfl (told_k hk) (told_nz hk) (told_n9 hk) 6 rfl ?_
    refine ev_iconst (pc := 17) (x := 1) dX7_addMisheard_17 ci_1 ?_
    refine ev_iload_n (pc := 18) 1 dX7_addMisheard_18 rfl rfl ?_
    refine ev_ishl (pc := 19) dX7_addMisheard_19 ?_
    refine ev_iconst (pc := 20) (x := 1) dX7_addMisheard_20 ci_1 ?_
    refine ev_iload_n (pc := 21) 2 dX7_addMisheard_21 rfl rfl ?_
    refine ev_ishl (pc := 22) dX7_addMisheard_22 ?_
    refine ev_ior (pc := 23) dX7_addMisheard_23 ?_
    obtain ⟨c2, h⟩ := ck_some h
    obtain ⟨M3, eM3, h⟩ := lt_some h
    refine ev_istc (pc := 24) dX7_addMisheard_24 (told_ak7 hk) (told_anz7 hk) (told_a97 hk) c2.1 c2.2 eM3 ?_
    refine ev_aload_n (pc := 25) 0 dX7_addMisheard_25 rfl rfl ?_
    refine ev_dup (pc := 26) rfl dX7_addMisheard_26 ?_
    refine ev_getIc (pc := 27) fl7_40 rfl dX7_addMisheard_27 rfl (told_k hk) (told_nz hk) (told_n9 hk) 6 rfl ?_
    refine ev_iconst (pc := 30) (x := 1) dX7_addMisheard_30 ci_1 ?_
    refine ev_iadd (pc := 31) dX7_addMisheard_31 ?_
    obtain ⟨M4, eM4, h⟩ := lt_some h
    refine ev_putIc (pc := 32) fl7_40 rfl dX7_addMisheard_32 (told_k hk) (told_nz hk) (told_n9 hk) eM4 ?_
    cases h
    exact ev_vret (pc := 35) dX7_addMisheard_35 rfl
def f_X7_mayBeHigh_L2_J51 (n : Nat) (k : Int) (K : Int → Option (Int)) (x1 x2 x3 s0 : Int) (M : Mem) : Option (Int) := ck (0 ≤ x3 ∧ x3 < 8) (if (M (k + 1) x3) ≠ x1 then (K (wI (x3 + 1))) else (if s0 ≠ 0 then (K (wI (x3 + 1))) else (some 0)))
set_option maxRecDepth 100000 in
set_option maxHeartbeats 4000000 in
theorem e_X7_mayBeHigh_L2_J51 {g : Gm} {d : Nat} {n : Nat} {k : Int} {K : Int → Option (Int)} {x1 x2 x3 s0 : Int} {M N : Mem} {v : Int} (hd : 0 ≤ d) (hk : isTold k) (hK : ∀ {x3 : Int}, K x3 = some v → Ev g d mtX7_mayBeHigh 2 [(0, vR k), (1, vI x1), (2, vI x2), (3, vI x3)] [] (sg (mx M N)) (0, 0) (vI v) (sg (mx M N))) (h : f_X7_mayBeHigh_L2_J51 n k K x1 x2 x3 s0 M = some v) : Ev g d mtX7_mayBeHigh 51 [(0, vR k), (1, vI x1), (2, vI x2), (3, vI x3)] [vI s0] (sg (mx M N)) (0, 0) (vI v) (sg (mx M N)) := by
  unfold f_X7_mayBeHigh_L2_J51 at h
  refine ev_istore (pc := 51) (il' := [(5, vI s0), (0, vR k), (1, vI x1), (2, vI x2), (3, vI x3)]) dX7_mayBeHigh_51 (Nat.le_of_ble_eq_true rfl) rfl ?_
  refine ev_aload_n (pc := 53) 1 dX7_mayBeHigh_53 rfl rfl ?_
  refine ev_getR (pc := 54) fl7_9 rfl dX7_mayBeHigh_54 rfl (told_k hk) (told_nz hk) (told_r1 _ hk) ?_
  refine ev_iload_n (pc := 57) 4 dX7_mayBeHigh_57 rfl rfl ?_
  obtain ⟨c4, h⟩ := ck_some h
  refine ev_ildc (pc := 58) dX7_mayBeHigh_58 (told_ak1 hk) (told_anz1 hk) (told_a91 hk) c4.1 c4.2 ?_
  refine ev_iload_n (pc := 59) 2 dX7_mayBeHigh_59 rfl rfl ?_
  refine ev_icmp_ne (pc := 60) (tgt := 70) dX7_mayBeHigh_60 (by decide) (fun b5 => ?_) (fun b5 => ?_)
  · rw [if_pos b5] at h
    refine ev_iinc (pc := 70) (il' := [(3, vI (wI (x3 + 1))), (5, vI s0), (0, vR k), (1, vI x1), (2, vI x2)]) 4 dX7_mayBeHigh_70 rfl (Nat.le_of_ble_eq_true rfl) rfl rfl ?_
    refine ev_goto (pc := 73) (tgt := 2) dX7_mayBeHigh_73 (by decide) ?_
    refine ev_pick [2, 3, 4, 0] rfl ?_
    exact hK h
  · rw [if_neg b5] at h
    refine ev_iload (pc := 63) 0 dX7_mayBeHigh_63 rfl ?_
    refine ev_if_ne (pc := 65) (tgt := 70) dX7_mayBeHigh_65 (by decide) (fun b6 => ?_) (fun b6 => ?_)
    · rw [if_pos b6] at h
      refine ev_iinc (pc := 70) (il' := [(3, vI (wI (x3 + 1))), (5, vI s0), (0, vR k), (1, vI x1), (2, vI x2)]) 4 dX7_mayBeHigh_70 rfl (Nat.le_of_ble_eq_true rfl) rfl rfl ?_
      refine ev_goto (pc := 73) (tgt := 2) dX7_mayBeHigh_73 (by decide) ?_
      refine ev_pick [2, 3, 4, 0] rfl ?_
      exact hK h
    · rw [if_neg b6] at h
      refine ev_iconst (pc := 68) (x := 0) dX7_mayBeHigh_68 ci_0 ?_
      cases h
      exact ev_zret (pc := 69) (Or.inl rfl) dX7_mayBeHigh_69 rfl
def f_X7_mayBeHigh_L2_J50 (n : Nat) (k : Int) (K : Int → Option (Int)) (x1 x2 x3 : Int) (M : Mem) : Option (Int) := f_X7_mayBeHigh_L2_J51 n k (K) x1 x2 x3 0 M
set_option maxRecDepth 100000 in
set_option maxHeartbeats 4000000 in
theorem e_X7_mayBeHigh_L2_J50 {g : Gm} {d : Nat} {n : Nat} {k : Int} {K : Int → Option (Int)} {x1 x2 x3 : Int} {M N : Mem} {v : Int} (hd : 0 ≤ d) (hk : isTold k) (hK : ∀ {x3 : Int}, K x3 = some v → Ev g d mtX7_mayBeHigh 2 [(0, vR k), (1, vI x1), (2, vI x2), (3, vI x3)] [] (sg (mx M N)) (0, 0) (vI v) (sg (mx M N))) (h : f_X7_mayBeHigh_L2_J50 n k K x1 x2 x3 M = some v) : Ev g d mtX7_mayBeHigh 50 [(0, vR k), (1, vI x1), (2, vI x2), (3, vI x3)] [] (sg (mx M N)) (0, 0) (vI v) (sg (mx M N)) := by
  unfold f_X7_mayBeHigh_L2_J50 at h
  refine ev_iconst (pc := 50) (x := 0) dX7_mayBeHigh_50 ci_0 ?_
  refine ev_pick [0, 1, 2, 3] rfl ?_
  exact e_X7_mayBeHigh_L2_J51 hd hk hK h
def f_X7_mayBeHigh_L2 : Nat → Int → Int → Int → Int → Mem → Option (Int)
  | 0, _, _, _, _, _ => none
  | n + 1, k, x1, x2, x3, M => if (M k 0) ≤ x3 then (some 1) else (ck (0 ≤ x3 ∧ x3 < 8) (if (wI (10 * x2)) < (wI ((M (k + 2) x3) * (M (k + 2) x3))) then (f_X7_mayBeHigh_L2_J50 n k (fun x3 => f_X7_mayBeHigh_L2 n k x1 x2 x3 M) x1 x2 x3 M) else (if (wI ((wI ((M (k + 2) x3) + 1)) * (wI ((M (k + 2) x3) + 1)))) ≤ (wI (10 * x2)) then (f_X7_mayBeHigh_L2_J50 n k (fun x3 => f_X7_mayBeHigh_L2 n k x1 x2 x3 M) x1 x2 x3 M) else (f_X7_mayBeHigh_L2_J51 n k (fun x3 => f_X7_mayBeHigh_L2 n k x1 x2 x3 M) x1 x2 x3 1 M))))
set_option maxRecDepth 100000 in
set_option maxHeartbeats 4000000 in
theorem e_X7_mayBeHigh_L2 {g : Gm} {d : Nat} {k : Int} {x1 x2 : Int} {M N : Mem} (hd : 0 ≤ d) (hk : isTold k) : ∀ (n : Nat) {x3 : Int} {v : Int}, f_X7_mayBeHigh_L2 n k x1 x2 x3 M = some v → Ev g d mtX7_mayBeHigh 2 [(0, vR k), (1, vI x1), (2, vI x2), (3, vI x3)] [] (sg (mx M N)) (0, 0) (vI v) (sg (mx M N)) := by
  intro n
  induction n with
  | zero =>
    intro x3 v h
    rw [f_X7_mayBeHigh_L2.eq_1] at h
    cases h
  | succ n ih =>
    intro x3 v h
    rw [f_X7_mayBeHigh_L2.eq_2] at h
    refine ev_iload_n (pc := 2) 3 dX7_mayBeHigh_2 rfl rfl ?_
    refine ev_aload_n (pc := 3) 0 dX7_mayBeHigh_3 rfl rfl ?_
    refine ev_getIc (pc := 4) fl7_27 rfl dX7_mayBeHigh_4 rfl (told_k hk) (told_nz hk) (told_n9 hk) 0 rfl ?_
    refine ev_icmp_ge (pc := 7) (tgt := 76) dX7_mayBeHigh_7 (by decide) (fun b1 => ?_) (fun b1 => ?_)
    · rw [if_pos b1] at h
      refine ev_iconst (pc := 76) (x := 1) dX7_mayBeHigh_76 ci_1 ?_
      cases h
      exact ev_zret (pc := 77) (Or.inr rfl) dX7_mayBeHigh_77 rfl
    · rw [if_neg b1] at h
      refine ev_aload_n (pc := 10) 0 dX7_mayBeHigh_10 rfl rfl ?_
      refine ev_getR (pc := 11) fl7_15 rfl dX7_mayBeHigh_11 rfl (told_k hk) (told_nz hk) (told_r2 _ hk) ?_
      refine ev_iload_n (pc := 14) 3 dX7_mayBeHigh_14 rfl rfl ?_
      obtain ⟨c2, h⟩ := ck_some h
      refine ev_ildc (pc := 15) dX7_mayBeHigh_15 (told_ak2 hk) (told_anz2 hk) (told_a92 hk) c2.1 c2.2 ?_
      refine ev_istore (pc := 16) (il' := [(4, vI (M (k + 2) x3)), (0, vR k), (1, vI x1), (2, vI x2), (3, vI x3)]) dX7_mayBeHigh_16 (Nat.le_of_ble_eq_true rfl) rfl ?_
      refine ev_iload (pc := 18) 0 dX7_mayBeHigh_18 rfl ?_
      refine ev_iload (pc := 20) 0 dX7_mayBeHigh_20 rfl ?_
      refine ev_imul (pc := 22) dX7_mayBeHigh_22 ?_
      refine ev_bipush (pc := 23) (x := 10) dX7_mayBeHigh_23 cb_10 ?_
      refine ev_iload_n (pc := 25) 3 dX7_mayBeHigh_25 rfl rfl ?_
      refine ev_imul (pc := 26) dX7_mayBeHigh_26 ?_
      refine ev_icmp_gt (pc := 27) (tgt := 50) dX7_mayBeHigh_27 (by decide) (fun b3 => ?_) (fun b3 => ?_)
      · rw [if_pos b3] at h
        refine ev_pick [1, 2, 3, 4] rfl ?_
        exact e_X7_mayBeHigh_L2_J50 hd hk (fun h9 => ih h9) h
      · rw [if_neg b3] at h
        refine ev_bipush (pc := 30) (x := 10) dX7_mayBeHigh_30 cb_10 ?_
        refine ev_iload_n (pc := 32) 3 dX7_mayBeHigh_32 rfl rfl ?_
        refine ev_imul (pc := 33) dX7_mayBeHigh_33 ?_
        refine ev_iload (pc := 34) 0 dX7_mayBeHigh_34 rfl ?_
        refine ev_iconst (pc := 36) (x := 1) dX7_mayBeHigh_36 ci_1 ?_
        refine ev_iadd (pc := 37) dX7_mayBeHigh_37 ?_
        refine ev_iload (pc := 38) 0 dX7_mayBeHigh_38 rfl ?_
        refine ev_iconst (pc := 40) (x := 1) dX7_mayBeHigh_40 ci_1 ?_
        refine ev_iadd (pc := 41) dX7_mayBeHigh_41 ?_
        refine ev_imul (pc := 42) dX7_mayBeHigh_42 ?_
        refine ev_icmp_ge (pc := 43) (tgt := 50) dX7_mayBeHigh_43 (by decide) (fun b7 => ?_) (fun b7 => ?_)
        · rw [if_pos b7] at h
          refine ev_pick [1, 2, 3, 4] rfl ?_
          exact e_X7_mayBeHigh_L2_J50 hd hk (fun h9 => ih h9) h
        · rw [if_neg b7] at h
          refine ev_iconst (pc := 46) (x := 1) dX7_mayBeHigh_46 ci_1 ?_
          refine ev_goto (pc := 47) (tgt := 51) dX7_mayBeHigh_47 (by decide) ?_
          refine ev_pick [1, 2, 3, 4] rfl ?_
          exact e_X7_mayBeHigh_L2_J51 hd hk (fun h9 => ih h9) h
def f_X7_mayBeHigh (n : Nat) (k p0 p1 : Int) (M : Mem) : Option (Int) := f_X7_mayBeHigh_L2 n k p0 p1 0 M
set_option maxRecDepth 100000 in
set_option maxHeartbeats 4000000 in
theorem e_X7_mayBeHigh {g : Gm} {d : Nat} {n : Nat} {k p0 p1 : Int} {M N : Mem} {v : Int} (hd : 0 ≤ d) (hk : isTold k) (h : f_X7_mayBeHigh n k p0 p1 M = some v) : EvM g d mtX7_mayBeHigh [vR k, vI p0, vI p1] (sg (mx M N)) (0, 0) (vI v) (sg (mx M N)) := by
  unfold f_X7_mayBeHigh at h
  refine EvM.of mkX7_mayBeHigh.2.2.2.1 (Nat.le_of_ble_eq_true rfl) ?_
  change Ev g d mtX7_mayBeHigh 0 [(0, vR k), (1, vI p0), (2, vI p1)] [] (sg (mx M N)) (0, 0) (vI v) (sg (mx M N))
  refine ev_iconst (pc := 0) (x := 0) dX7_mayBeHigh_0 ci_0 ?_
  refine ev_istore_n (pc := 1) (il' := [(3, vI 0), (0, vR k), (1, vI p0), (2, vI p1)]) dX7_mayBeHigh_1 rfl (Nat.le_of_ble_eq_true rfl) rfl ?_
  refine ev_pick [1, 2, 3, 0] rfl ?_
  exact e_X7_mayBeHigh_L2 hd hk n h
def f_X7_measureRows_L24 : Nat → Int → Int → Int → Int → Mem → Option (Mem)
  | 0, _, _, _, _, _ => none
  | n + 1, k, x1, x2, x3, M => if (M k 3) ≤ x3 then (some M) else (ck (0 ≤ x3 ∧ x3 < 10) (ck (0 ≤ x2 ∧ x2 < 10) (if (M (k + 3) x3) ≤ (M (k + 3) x2) then (f_X7_measureRows_L24 n k x1 x2 (wI (x3 + 1)) M) else (lt (upM M (k + 4) x2 (max (M (k + 4) x2) (wI ((M (k + 4) x3) + 1)))) fun M8 => f_X7_measureRows_L24 n k x1 x2 (wI (x3 + 1)) M8))))
set_option maxRecDepth 100000 in
set_option maxHeartbeats 4000000 in
theorem e_X7_measureRows_L24 {g : Gm} {d : Nat} {k : Int} {x1 x2 : Int} {r : Vv} {σ' : Sg} {N : Mem} (hd : 1 ≤ d) (hk : isTold k) : ∀ (n : Nat) {x3 : Int} {M : Mem} {q : Mem}, f_X7_measureRows_L24 n k x1 x2 x3 M = some q → Ev g d mtX7_measureRows 76 [(0, vR k), (1, vI x1), (2, vI x2)] [] (sg (mx q N)) (0, 0) r σ' → Ev g d mtX7_measureRows 24 [(0, vR k), (1, vI x1), (2, vI x2), (3, vI x3)] [] (sg (mx M N)) (0, 0) r σ' := by
  intro n
  induction n with
  | zero =>
    intro x3 M q h hk0
    rw [f_X7_measureRows_L24.eq_1] at h
    cases h
  | succ n ih =>
    intro x3 M q h hk0
    rw [f_X7_measureRows_L24.eq_2] at h
    refine ev_iload_n (pc := 24) 3 dX7_measureRows_24 rfl rfl ?_
    refine ev_aload_n (pc := 25) 0 dX7_measureRows_25 rfl rfl ?_
    refine ev_getIc (pc := 26) fl7_37 rfl dX7_measureRows_26 rfl (told_k hk) (told_nz hk) (told_n9 hk) 3 rfl ?_
    refine ev_icmp_ge (pc := 29) (tgt := 76) dX7_measureRows_29 (by decide) (fun b4 => ?_) (fun b4 => ?_)
    · rw [if_pos b4] at h
      cases h
      refine ev_pick [0, 1, 2] rfl ?_
      exact hk0
    · rw [if_neg b4] at h
      refine ev_aload_n (pc := 32) 0 dX7_measureRows_32 rfl rfl ?_
      refine ev_getR (pc := 33) fl7_18 rfl dX7_measureRows_33 rfl (told_k hk) (told_nz hk) (told_r4 _ hk) ?_
      refine ev_iload_n (pc := 36) 3 dX7_measureRows_36 rfl rfl ?_
      obtain ⟨c5, h⟩ := ck_some h
      refine ev_ildc (pc := 37) dX7_measureRows_37 (told_ak4 hk) (told_anz4 hk) (told_a94 hk) c5.1 c5.2 ?_
      refine ev_aload_n (pc := 38) 0 dX7_measureRows_38 rfl rfl ?_
      refine ev_getR (pc := 39) fl7_18 rfl dX7_measureRows_39 rfl (told_k hk) (told_nz hk) (told_r4 _ hk) ?_
      refine ev_iload_n (pc := 42) 2 dX7_measureRows_42 rfl rfl ?_
      obtain ⟨c6, h⟩ := ck_some h
      refine ev_ildc (pc := 43) dX7_measureRows_43 (told_ak4 hk) (told_anz4 hk) (told_a94 hk) c6.1 c6.2 ?_
      refine ev_icmp_le (pc := 44) (tgt := 70) dX7_measureRows_44 (by decide) (fun b7 => ?_) (fun b7 => ?_)
      · rw [if_pos b7] at h
        refine ev_iinc (pc := 70) (il' := [(3, vI (wI (x3 + 1))), (0, vR k), (1, vI x1), (2, vI x2)]) 3 dX7_measureRows_70 rfl (Nat.le_of_ble_eq_true rfl) rfl rfl ?_
        refine ev_goto (pc := 73) (tgt := 24) dX7_measureRows_73 (by decide) ?_
        refine ev_pick [1, 2, 3, 0] rfl ?_
        exact ih h hk0
      · rw [if_neg b7] at h
        refine ev_aload_n (pc := 47) 0 dX7_measureRows_47 rfl rfl ?_
        refine ev_getR (pc := 48) fl7_21 rfl dX7_measureRows_48 rfl (told_k hk) (told_nz hk) (told_r5 _ hk) ?_
        refine ev_iload_n (pc := 51) 2 dX7_measureRows_51 rfl rfl ?_
        refine ev_aload_n (pc := 52) 0 dX7_measureRows_52 rfl rfl ?_
        refine ev_getR (pc := 53) fl7_21 rfl dX7_measureRows_53 rfl (told_k hk) (told_nz hk) (told_r5 _ hk) ?_
        refine ev_iload_n (pc := 56) 2 dX7_measureRows_56 rfl rfl ?_
        refine ev_ildc (pc := 57) dX7_measureRows_57 (told_ak5 hk) (told_anz5 hk) (told_a95 hk) c6.1 c6.2 ?_
        refine ev_aload_n (pc := 58) 0 dX7_measureRows_58 rfl rfl ?_
        refine ev_getR (pc := 59) fl7_21 rfl dX7_measureRows_59 rfl (told_k hk) (told_nz hk) (told_r5 _ hk) ?_
        refine ev_iload_n (pc := 62) 3 dX7_measureRows_62 rfl rfl ?_
        refine ev_ildc (pc := 63) dX7_measureRows_63 (told_ak5 hk) (told_anz5 hk) (told_a95 hk) c5.1 c5.2 ?_
        refine ev_iconst (pc := 64) (x := 1) dX7_measureRows_64 ci_1 ?_
        refine ev_iadd (pc := 65) dX7_measureRows_65 ?_
        refine ev_max (pc := 66) rfl mm7_43 (Nat.le_of_ble_eq_true rfl) (by omega) dX7_measureRows_66 ?_
        obtain ⟨M8, eM8, h⟩ := lt_some h
        refine ev_istc (pc := 69) dX7_measureRows_69 (told_ak5 hk) (told_anz5 hk) (told_a95 hk) c6.1 c6.2 eM8 ?_
        refine ev_iinc (pc := 70) (il' := [(3, vI (wI (x3 + 1))), (0, vR k), (1, vI x1), (2, vI x2)]) 3 dX7_measureRows_70 rfl (Nat.le_of_ble_eq_true rfl) rfl rfl ?_
        refine ev_goto (pc := 73) (tgt := 24) dX7_measureRows_73 (by decide) ?_
        refine ev_pick [1, 2, 3, 0] rfl ?_
        exact ih h hk0
def f_X7_measureRows_L9 : Nat → Int → Int → Int → Mem → Option (Int × Mem)
  | 0, _, _, _, _ => none
  | n + 1, k, x1, x2, M => if x2 < 0 then (some (x1, M)) else (ck (0 ≤ x2 ∧ x2 < 10) (lt (upM M (k + 4) x2 1) fun M3 => (f_X7_measureRows_L24 n k x1 x2 (wI (x2 + 1)) M3).bind fun q9 => f_X7_measureRows_L9 n k (max x1 (q9 (k + 4) x2)) (wI (x2 + (-1))) q9))
set_option maxRecDepth 100000 in
set_option maxHeartbeats 4000000 in
theorem e_X7_measureRows_L9 {g : Gm} {d : Nat} {k : Int} {r : Vv} {σ' : Sg} {N : Mem} (hd : 1 ≤ d) (hk : isTold k) : ∀ (n : Nat) {x1 x2 : Int} {M : Mem} {q : Int × Mem}, f_X7_measureRows_L9 n k x1 x2 M = some q → Ev g d mtX7_measureRows 93 [(1, vI q.1)] [] (sg (mx q.2 N)) (0, 0) r σ' → Ev g d mtX7_measureRows 9 [(0, vR k), (1, vI x1), (2, vI x2)] [] (sg (mx M N)) (0, 0) r σ' := by
  intro n
  induction n with
  | zero =>
    intro x1 x2 M q h hk0
    rw [f_X7_measureRows_L9.eq_1] at h
    cases h
  | succ n ih =>
    intro x1 x2 M q h hk0
    rw [f_X7_measureRows_L9.eq_2] at h
    refine ev_iload_n (pc := 9) 2 dX7_measureRows_9 rfl rfl ?_
    refine ev_if_lt (pc := 10) (tgt := 93) dX7_measureRows_10 (by decide) (fun b1 => ?_) (fun b1 => ?_)
    · rw [if_pos b1] at h
      cases h
      refine ev_pick [1] rfl ?_
      exact hk0
    · rw [if_neg b1] at h
      refine ev_aload_n (pc := 13) 0 dX7_measureRows_13 rfl rfl ?_
      refine ev_getR (pc := 14) fl7_21 rfl dX7_measureRows_14 rfl (told_k hk) (told_nz hk) (told_r5 _ hk) ?_
      refine ev_iload_n (pc := 17) 2 dX7_measureRows_17 rfl rfl ?_
      refine ev_iconst (pc := 18) (x := 1) dX7_measureRows_18 ci_1 ?_
      obtain ⟨c2, h⟩ := ck_some h
      obtain ⟨M3, eM3, h⟩ := lt_some h
      refine ev_istc (pc := 19) dX7_measureRows_19 (told_ak5 hk) (told_anz5 hk) (told_a95 hk) c2.1 c2.2 eM3 ?_
      refine ev_iload_n (pc := 20) 2 dX7_measureRows_20 rfl rfl ?_
      refine ev_iconst (pc := 21) (x := 1) dX7_measureRows_21 ci_1 ?_
      refine ev_iadd (pc := 22) dX7_measureRows_22 ?_
      refine ev_istore_n (pc := 23) (il' := [(3, vI (wI (x2 + 1))), (0, vR k), (1, vI x1), (2, vI x2)]) dX7_measureRows_23 rfl (Nat.le_of_ble_eq_true rfl) rfl ?_
      obtain ⟨q9, hq9, h⟩ := bd h
      refine ev_pick [1, 2, 3, 0] rfl ?_
      refine e_X7_measureRows_L24 hd hk n hq9 ?_
      refine ev_iload_n (pc := 76) 1 dX7_measureRows_76 rfl rfl ?_
      refine ev_aload_n (pc := 77) 0 dX7_measureRows_77 rfl rfl ?_
      refine ev_getR (pc := 78) fl7_21 rfl dX7_measureRows_78 rfl (told_k hk) (told_nz hk) (told_r5 _ hk) ?_
      refine ev_iload_n (pc := 81) 2 dX7_measureRows_81 rfl rfl ?_
      refine ev_ildc (pc := 82) dX7_measureRows_82 (told_ak5 hk) (told_anz5 hk) (told_a95 hk) c2.1 c2.2 ?_
      refine ev_max (pc := 83) rfl mm7_43 (Nat.le_of_ble_eq_true rfl) (by omega) dX7_measureRows_83 ?_
      refine ev_istore_n (pc := 86) (il' := [(1, vI (max x1 (q9 (k + 4) x2))), (0, vR k), (2, vI x2)]) dX7_measureRows_86 rfl (Nat.le_of_ble_eq_true rfl) rfl ?_
      refine ev_iinc (pc := 87) (il' := [(2, vI (wI (x2 + (-1)))), (1, vI (max x1 (q9 (k + 4) x2))), (0, vR k)]) 2 dX7_measureRows_87 rfl (Nat.le_of_ble_eq_true rfl) rfl rfl ?_
      refine ev_goto (pc := 90) (tgt := 9) dX7_measureRows_90 (by decide) ?_
      refine ev_pick [2, 1, 0] rfl ?_
      exact ih h hk0
def f_X7_measureRows (n : Nat) (k : Int) (M : Mem) : Option (Int × Mem) := (f_X7_measureRows_L9 n k 0 (wI ((M k 3) - 1)) M).bind fun q10 => some (q10.1, q10.2)
set_option maxRecDepth 100000 in
set_option maxHeartbeats 4000000 in
theorem e_X7_measureRows {g : Gm} {d : Nat} {n : Nat} {k : Int} {M N : Mem} {v : Int} {M' : Mem} (hd : 1 ≤ d) (hk : isTold k) (h : f_X7_measureRows n k M = some (v, M')) : EvM g d mtX7_measureRows [vR k] (sg (mx M N)) (0, 0) (vI v) (sg (mx M' N)) := by
  unfold f_X7_measureRows at h
  refine EvM.of mkX7_measureRows.2.2.2.1 (Nat.le_of_ble_eq_true rfl) ?_
  change Ev g d mtX7_measureRows 0 [(0, vR k)] [] (sg (mx M N)) (0, 0) (vI v) (sg (mx M' N))
  refine ev_iconst (pc := 0) (x := 0) dX7_measureRows_0 ci_0 ?_
  refine ev_istore_n (pc := 1) (il' := [(1, vI 0), (0, vR k)]) dX7_measureRows_1 rfl (Nat.le_of_ble_eq_true rfl) rfl ?_
  refine ev_aload_n (pc := 2) 1 dX7_measureRows_2 rfl rfl ?_
  refine ev_getIc (pc := 3) fl7_37 rfl dX7_measureRows_3 rfl (told_k hk) (told_nz hk) (told_n9 hk) 3 rfl ?_
  refine ev_iconst (pc := 6) (x := 1) dX7_measureRows_6 ci_1 ?_
  refine ev_isub (pc := 7) dX7_measureRows_7 ?_
  refine ev_istore_n (pc := 8) (il' := [(2, vI (wI ((M k 3) - 1))), (1, vI 0), (0, vR k)]) dX7_measureRows_8 rfl (Nat.le_of_ble_eq_true rfl) rfl ?_
  obtain ⟨q10, hq10, h⟩ := bd h
  refine ev_pick [2, 1, 0] rfl ?_
  refine e_X7_measureRows_L9 hd hk n hq10 ?_
  refine ev_iload_n (pc := 93) 0 dX7_measureRows_93 rfl rfl ?_
  cases h
  exact ev_iret (pc := 94) dX7_measureRows_94 rfl
def f_X7_reignInOrder_L23 : Nat → Int → Int → Int → Int → Int → Int → Int → Mem → Option (Int)
  | 0, _, _, _, _, _, _, _, _ => none
  | n + 1, k, x1, x2, x3, x5, x6, x7, M => if (M k 3) ≤ x7 then (some x6) else (ck (0 ≤ x7 ∧ x7 < 10) (if (M (k + 3) x7) ≤ x3 then (f_X7_reignInOrder_L23 n k x1 x2 x3 x5 x6 (wI (x7 + 1)) M) else (if (M (k + 4) x7) < x5 then (f_X7_reignInOrder_L23 n k x1 x2 x3 x5 x6 (wI (x7 + 1)) M) else (if x6 = (-1) then (f_X7_reignInOrder_L23 n k x1 x2 x3 x5 x7 (wI (x7 + 1)) M) else (ck (0 ≤ x6 ∧ x6 < 10) (if (M (k + 3) x6) ≤ (M (k + 3) x7) then (f_X7_reignInOrder_L23 n k x1 x2 x3 x5 x6 (wI (x7 + 1)) M) else (f_X7_reignInOrder_L23 n k x1 x2 x3 x5 x7 (wI (x7 + 1)) M)))))))
set_option maxRecDepth 100000 in
set_option maxHeartbeats 4000000 in
theorem e_X7_reignInOrder_L23 {g : Gm} {d : Nat} {k : Int} {x1 x2 x3 x5 : Int} {r : Vv} {σ' : Sg} {M N : Mem} (hd : 0 ≤ d) (hk : isTold k) : ∀ (n : Nat) {x6 x7 : Int} {q : Int}, f_X7_reignInOrder_L23 n k x1 x2 x3 x5 x6 x7 M = some q → Ev g d mtX7_reignInOrder 88 [(0, vR k), (1, vI x1), (2, vI x2), (5, vI x5), (6, vI q)] [] (sg (mx M N)) (0, 0) r σ' → Ev g d mtX7_reignInOrder 23 [(0, vR k), (1, vI x1), (2, vI x2), (3, vI x3), (5, vI x5), (6, vI x6), (7, vI x7)] [] (sg (mx M N)) (0, 0) r σ' := by
  intro n
  induction n with
  | zero =>
    intro x6 x7 q h hk0
    rw [f_X7_reignInOrder_L23.eq_1] at h
    cases h
  | succ n ih =>
    intro x6 x7 q h hk0
    rw [f_X7_reignInOrder_L23.eq_2] at h
    refine ev_iload (pc := 23) 6 dX7_reignInOrder_23 rfl ?_
    refine ev_aload_n (pc := 25) 0 dX7_reignInOrder_25 rfl rfl ?_
    refine ev_getIc (pc := 26) fl7_37 rfl dX7_reignInOrder_26 rfl (told_k hk) (told_nz hk) (told_n9 hk) 3 rfl ?_
    refine ev_icmp_ge (pc := 29) (tgt := 88) dX7_reignInOrder_29 (by decide) (fun b2 => ?_) (fun b2 => ?_)
    · rw [if_pos b2] at h
      cases h
      refine ev_pick [0, 1, 2, 4, 5] rfl ?_
      exact hk0
    · rw [if_neg b2] at h
      refine ev_aload_n (pc := 32) 0 dX7_reignInOrder_32 rfl rfl ?_
      refine ev_getR (pc := 33) fl7_18 rfl dX7_reignInOrder_33 rfl (told_k hk) (told_nz hk) (told_r4 _ hk) ?_
      refine ev_iload (pc := 36) 6 dX7_reignInOrder_36 rfl ?_
      obtain ⟨c3, h⟩ := ck_some h
      refine ev_ildc (pc := 38) dX7_reignInOrder_38 (told_ak4 hk) (told_anz4 hk) (told_a94 hk) c3.1 c3.2 ?_
      refine ev_iload_n (pc := 39) 3 dX7_reignInOrder_39 rfl rfl ?_
      refine ev_icmp_le (pc := 40) (tgt := 82) dX7_reignInOrder_40 (by decide) (fun b4 => ?_) (fun b4 => ?_)
      · rw [if_pos b4] at h
        refine ev_iinc (pc := 82) (il' := [(7, vI (wI (x7 + 1))), (0, vR k), (1, vI x1), (2, vI x2), (3, vI x3), (5, vI x5), (6, vI x6)]) 6 dX7_reignInOrder_82 rfl (Nat.le_of_ble_eq_true rfl) rfl rfl ?_
        refine ev_goto (pc := 85) (tgt := 23) dX7_reignInOrder_85 (by decide) ?_
        refine ev_pick [1, 2, 3, 4, 5, 6, 0] rfl ?_
        exact ih h hk0
      · rw [if_neg b4] at h
        refine ev_aload_n (pc := 43) 0 dX7_reignInOrder_43 rfl rfl ?_
        refine ev_getR (pc := 44) fl7_21 rfl dX7_reignInOrder_44 rfl (told_k hk) (told_nz hk) (told_r5 _ hk) ?_
        refine ev_iload (pc := 47) 6 dX7_reignInOrder_47 rfl ?_
        refine ev_ildc (pc := 49) dX7_reignInOrder_49 (told_ak5 hk) (told_anz5 hk) (told_a95 hk) c3.1 c3.2 ?_
        refine ev_iload (pc := 50) 4 dX7_reignInOrder_50 rfl ?_
        refine ev_icmp_lt (pc := 52) (tgt := 82) dX7_reignInOrder_52 (by decide) (fun b5 => ?_) (fun b5 => ?_)
        · rw [if_pos b5] at h
          refine ev_iinc (pc := 82) (il' := [(7, vI (wI (x7 + 1))), (0, vR k), (1, vI x1), (2, vI x2), (3, vI x3), (5, vI x5), (6, vI x6)]) 6 dX7_reignInOrder_82 rfl (Nat.le_of_ble_eq_true rfl) rfl rfl ?_
          refine ev_goto (pc := 85) (tgt := 23) dX7_reignInOrder_85 (by decide) ?_
          refine ev_pick [1, 2, 3, 4, 5, 6, 0] rfl ?_
          exact ih h hk0
        · rw [if_neg b5] at h
          refine ev_iload (pc := 55) 5 dX7_reignInOrder_55 rfl ?_
          refine ev_iconst (pc := 57) (x := (-1)) dX7_reignInOrder_57 ci_m1 ?_
          refine ev_icmp_eq (pc := 58) (tgt := 78) dX7_reignInOrder_58 (by decide) (fun b6 => ?_) (fun b6 => ?_)
          · rw [if_pos b6] at h
            refine ev_iload (pc := 78) 6 dX7_reignInOrder_78 rfl ?_
            refine ev_istore (pc := 80) (il' := [(6, vI x7), (0, vR k), (1, vI x1), (2, vI x2), (3, vI x3), (5, vI x5), (7, vI x7)]) dX7_reignInOrder_80 (Nat.le_of_ble_eq_true rfl) rfl ?_
            refine ev_iinc (pc := 82) (il' := [(7, vI (wI (x7 + 1))), (6, vI x7), (0, vR k), (1, vI x1), (2, vI x2), (3, vI x3), (5, vI x5)]) 6 dX7_reignInOrder_82 rfl (Nat.le_of_ble_eq_true rfl) rfl rfl ?_
            refine ev_goto (pc := 85) (tgt := 23) dX7_reignInOrder_85 (by decide) ?_
            refine ev_pick [2, 3, 4, 5, 6, 1, 0] rfl ?_
            exact ih h hk0
          · rw [if_neg b6] at h
            refine ev_aload_n (pc := 61) 0 dX7_reignInOrder_61 rfl rfl ?_
            refine ev_getR (pc := 62) fl7_18 rfl dX7_reignInOrder_62 rfl (told_k hk) (told_nz hk) (told_r4 _ hk) ?_
            refine ev_iload (pc := 65) 6 dX7_reignInOrder_65 rfl ?_
            refine ev_ildc (pc := 67) dX7_reignInOrder_67 (told_ak4 hk) (told_anz4 hk) (told_a94 hk) c3.1 c3.2 ?_
            refine ev_aload_n (pc := 68) 0 dX7_reignInOrder_68 rfl rfl ?_
            refine ev_getR (pc := 69) fl7_18 rfl dX7_reignInOrder_69 rfl (told_k hk) (told_nz hk) (told_r4 _ hk) ?_
            refine ev_iload (pc := 72) 5 dX7_reignInOrder_72 rfl ?_
            obtain ⟨c7, h⟩ := ck_some h
            refine ev_ildc (pc := 74) dX7_reignInOrder_74 (told_ak4 hk) (told_anz4 hk) (told_a94 hk) c7.1 c7.2 ?_
            refine ev_icmp_ge (pc := 75) (tgt := 82) dX7_reignInOrder_75 (by decide) (fun b8 => ?_) (fun b8 => ?_)
            · rw [if_pos b8] at h
              refine ev_iinc (pc := 82) (il' := [(7, vI (wI (x7 + 1))), (0, vR k), (1, vI x1), (2, vI x2), (3, vI x3), (5, vI x5), (6, vI x6)]) 6 dX7_reignInOrder_82 rfl (Nat.le_of_ble_eq_true rfl) rfl rfl ?_
              refine ev_goto (pc := 85) (tgt := 23) dX7_reignInOrder_85 (by decide) ?_
              refine ev_pick [1, 2, 3, 4, 5, 6, 0] rfl ?_
              exact ih h hk0
            · rw [if_neg b8] at h
              refine ev_iload (pc := 78) 6 dX7_reignInOrder_78 rfl ?_
              refine ev_istore (pc := 80) (il' := [(6, vI x7), (0, vR k), (1, vI x1), (2, vI x2), (3, vI x3), (5, vI x5), (7, vI x7)]) dX7_reignInOrder_80 (Nat.le_of_ble_eq_true rfl) rfl ?_
              refine ev_iinc (pc := 82) (il' := [(7, vI (wI (x7 + 1))), (6, vI x7), (0, vR k), (1, vI x1), (2, vI x2), (3, vI x3), (5, vI x5)]) 6 dX7_reignInOrder_82 rfl (Nat.le_of_ble_eq_true rfl) rfl rfl ?_
              refine ev_goto (pc := 85) (tgt := 23) dX7_reignInOrder_85 (by decide) ?_
              refine ev_pick [2, 3, 4, 5, 6, 1, 0] rfl ?_
              exact ih h hk0
def f_X7_reignInOrder_L8 : Nat → Int → Int → Int → Int → Int → Int → Mem → Option (Int)
  | 0, _, _, _, _, _, _, _ => none
  | n + 1, k, x1, x2, x3, x4, x5, M => if x5 < (wI (x2 - x1)) then (some x3) else ((f_X7_reignInOrder_L23 n k x1 x2 x3 x5 (-1) x4 M).bind fun q9 => if q9 ≠ (-1) then (ck (0 ≤ q9 ∧ q9 < 10) (f_X7_reignInOrder_L8 n k x1 x2 (M (k + 3) q9) (wI (q9 + 1)) (wI (x5 + (-1))) M)) else (some (-2)))
set_option maxRecDepth 100000 in
set_option maxHeartbeats 4000000 in
theorem e_X7_reignInOrder_L8 {g : Gm} {d : Nat} {k : Int} {x1 x2 : Int} {M N : Mem} (hd : 0 ≤ d) (hk : isTold k) : ∀ (n : Nat) {x3 x4 x5 : Int} {v : Int}, f_X7_reignInOrder_L8 n k x1 x2 x3 x4 x5 M = some v → Ev g d mtX7_reignInOrder 8 [(0, vR k), (1, vI x1), (2, vI x2), (3, vI x3), (4, vI x4), (5, vI x5)] [] (sg (mx M N)) (0, 0) (vI v) (sg (mx M N)) := by
  intro n
  induction n with
  | zero =>
    intro x3 x4 x5 v h
    rw [f_X7_reignInOrder_L8.eq_1] at h
    cases h
  | succ n ih =>
    intro x3 x4 x5 v h
    rw [f_X7_reignInOrder_L8.eq_2] at h
    refine ev_iload (pc := 8) 5 dX7_reignInOrder_8 rfl ?_
    refine ev_iload_n (pc := 10) 2 dX7_reignInOrder_10 rfl rfl ?_
    refine ev_iload_n (pc := 11) 1 dX7_reignInOrder_11 rfl rfl ?_
    refine ev_isub (pc := 12) dX7_reignInOrder_12 ?_
    refine ev_icmp_lt (pc := 13) (tgt := 117) dX7_reignInOrder_13 (by decide) (fun b1 => ?_) (fun b1 => ?_)
    · rw [if_pos b1] at h
      refine ev_iload_n (pc := 117) 3 dX7_reignInOrder_117 rfl rfl ?_
      cases h
      exact ev_iret (pc := 118) dX7_reignInOrder_118 rfl
    · rw [if_neg b1] at h
      refine ev_iconst (pc := 16) (x := (-1)) dX7_reignInOrder_16 ci_m1 ?_
      refine ev_istore (pc := 17) (il' := [(6, vI (-1)), (0, vR k), (1, vI x1), (2, vI x2), (3, vI x3), (4, vI x4), (5, vI x5)]) dX7_reignInOrder_17 (Nat.le_of_ble_eq_true rfl) rfl ?_
      refine ev_iload (pc := 19) 5 dX7_reignInOrder_19 rfl ?_
      refine ev_istore (pc := 21) (il' := [(7, vI x4), (6, vI (-1)), (0, vR k), (1, vI x1), (2, vI x2), (3, vI x3), (4, vI x4), (5, vI x5)]) dX7_reignInOrder_21 (Nat.le_of_ble_eq_true rfl) rfl ?_
      obtain ⟨q9, hq9, h⟩ := bd h
      refine ev_pick [2, 3, 4, 5, 7, 1, 0] rfl ?_
      refine e_X7_reignInOrder_L23 hd hk n hq9 ?_
      refine ev_iload (pc := 88) 4 dX7_reignInOrder_88 rfl ?_
      refine ev_iconst (pc := 90) (x := (-1)) dX7_reignInOrder_90 ci_m1 ?_
      refine ev_icmp_ne (pc := 91) (tgt := 97) dX7_reignInOrder_91 (by decide) (fun b10 => ?_) (fun b10 => ?_)
      · rw [if_pos b10] at h
        refine ev_aload_n (pc := 97) 0 dX7_reignInOrder_97 rfl rfl ?_
        refine ev_getR (pc := 98) fl7_18 rfl dX7_reignInOrder_98 rfl (told_k hk) (told_nz hk) (told_r4 _ hk) ?_
        refine ev_iload (pc := 101) 4 dX7_reignInOrder_101 rfl ?_
        obtain ⟨c11, h⟩ := ck_some h
        refine ev_ildc (pc := 103) dX7_reignInOrder_103 (told_ak4 hk) (told_anz4 hk) (told_a94 hk) c11.1 c11.2 ?_
        refine ev_istore_n (pc := 104) (il' := [(3, vI (M (k + 3) q9)), (0, vR k), (1, vI x1), (2, vI x2), (5, vI x5), (6, vI q9)]) dX7_reignInOrder_104 rfl (Nat.le_of_ble_eq_true rfl) rfl ?_
        refine ev_iload (pc := 105) 5 dX7_reignInOrder_105 rfl ?_
        refine ev_iconst (pc := 107) (x := 1) dX7_reignInOrder_107 ci_1 ?_
        refine ev_iadd (pc := 108) dX7_reignInOrder_108 ?_
        refine ev_istore (pc := 109) (il' := [(4, vI (wI (q9 + 1))), (3, vI (M (k + 3) q9)), (0, vR k), (1, vI x1), (2, vI x2), (5, vI x5), (6, vI q9)]) dX7_reignInOrder_109 (Nat.le_of_ble_eq_true rfl) rfl ?_
        refine ev_iinc (pc := 111) (il' := [(5, vI (wI (x5 + (-1)))), (4, vI (wI (q9 + 1))), (3, vI (M (k + 3) q9)), (0, vR k), (1, vI x1), (2, vI x2), (6, vI q9)]) 5 dX7_reignInOrder_111 rfl (Nat.le_of_ble_eq_true rfl) rfl rfl ?_
        refine ev_goto (pc := 114) (tgt := 8) dX7_reignInOrder_114 (by decide) ?_
        refine ev_pick [3, 4, 5, 2, 1, 0] rfl ?_
        exact ih h
      · rw [if_neg b10] at h
        refine ev_bipush (pc := 94) (x := (-2)) dX7_reignInOrder_94 cb_m2 ?_
        cases h
        exact ev_iret (pc := 96) dX7_reignInOrder_96 rfl
def f_X7_reignInOrder (n : Nat) (k p0 p1 : Int) (M : Mem) : Option (Int) := f_X7_reignInOrder_L8 n k p0 p1 (-1) 0 p1 M
set_option maxRecDepth 100000 in
set_option maxHeartbeats 4000000 in
theorem e_X7_reignInOrder {g : Gm} {d : Nat} {n : Nat} {k p0 p1 : Int} {M N : Mem} {v : Int} (hd : 0 ≤ d) (hk : isTold k) (h : f_X7_reignInOrder n k p0 p1 M = some v) : EvM g d mtX7_reignInOrder [vR k, vI p0, vI p1] (sg (mx M N)) (0, 0) (vI v) (sg (mx M N)) := by
  unfold f_X7_reignInOrder at h
  refine EvM.of mkX7_reignInOrder.2.2.2.1 (Nat.le_of_ble_eq_true rfl) ?_
  change Ev g d mtX7_reignInOrder 0 [(0, vR k), (1, vI p0), (2, vI p1)] [] (sg (mx M N)) (0, 0) (vI v) (sg (mx M N))
  refine ev_iconst (pc := 0) (x := (-1)) dX7_reignInOrder_0 ci_m1 ?_
  refine ev_istore_n (pc := 1) (il' := [(3, vI (-1)), (0, vR k), (1, vI p0), (2, vI p1)]) dX7_reignInOrder_1 rfl (Nat.le_of_ble_eq_true rfl) rfl ?_
  refine ev_iconst (pc := 2) (x := 0) dX7_reignInOrder_2 ci_0 ?_
  refine ev_istore (pc := 3) (il' := [(4, vI 0), (3, vI (-1)), (0, vR k), (1, vI p0), (2, vI p1)]) dX7_reignInOrder_3 (Nat.le_of_ble_eq_true rfl) rfl ?_
  refine ev_iload_n (pc := 5) 4 dX7_reignInOrder_5 rfl rfl ?_
  refine ev_istore (pc := 6) (il' := [(5, vI p1), (4, vI 0), (3, vI (-1)), (0, vR k), (1, vI p0), (2, vI p1)]) dX7_reignInOrder_6 (Nat.le_of_ble_eq_true rfl) rfl ?_
  refine ev_pick [3, 4, 5, 2, 1, 0] rfl ?_
  exact e_X7_reignInOrder_L8 hd hk n h
def f_X7_areApart_L2 : Nat → Int → Int → Int → Mem → Option (Int)
  | 0, _, _, _, _ => none
  | n + 1, k, x1, x2, M => if (M k 6) ≤ x2 then (some 1) else (ck (0 ≤ x2 ∧ x2 < 15) (if (bAnd (M (k + 5) x2) x1) ≠ (M (k + 5) x2) then (f_X7_areApart_L2 n k x1 (wI (x2 + 1)) M) else (some 0)))
set_option maxRecDepth 100000 in
set_option maxHeartbeats 4000000 in
theorem e_X7_areApart_L2 {g : Gm} {d : Nat} {k : Int} {x1 : Int} {M N : Mem} (hd : 0 ≤ d) (hk : isTold k) : ∀ (n : Nat) {x2 : Int} {v : Int}, f_X7_areApart_L2 n k x1 x2 M = some v → Ev g d mtX7_areApart 2 [(0, vR k), (1, vI x1), (2, vI x2)] [] (sg (mx M N)) (0, 0) (vI v) (sg (mx M N)) := by
  intro n
  induction n with
  | zero =>
    intro x2 v h
    rw [f_X7_areApart_L2.eq_1] at h
    cases h
  | succ n ih =>
    intro x2 v h
    rw [f_X7_areApart_L2.eq_2] at h
    refine ev_iload_n (pc := 2) 2 dX7_areApart_2 rfl rfl ?_
    refine ev_aload_n (pc := 3) 0 dX7_areApart_3 rfl rfl ?_
    refine ev_getIc (pc := 4) fl7_40 rfl dX7_areApart_4 rfl (told_k hk) (told_nz hk) (told_n9 hk) 6 rfl ?_
    refine ev_icmp_ge (pc := 7) (tgt := 35) dX7_areApart_7 (by decide) (fun b1 => ?_) (fun b1 => ?_)
    · rw [if_pos b1] at h
      refine ev_iconst (pc := 35) (x := 1) dX7_areApart_35 ci_1 ?_
      cases h
      exact ev_zret (pc := 36) (Or.inr rfl) dX7_areApart_36 rfl
    · rw [if_neg b1] at h
      refine ev_aload_n (pc := 10) 0 dX7_areApart_10 rfl rfl ?_
      refine ev_getR (pc := 11) fl7_24 rfl dX7_areApart_11 rfl (told_k hk) (told_nz hk) (told_r7 _ hk) ?_
      refine ev_iload_n (pc := 14) 2 dX7_areApart_14 rfl rfl ?_
      obtain ⟨c2, h⟩ := ck_some h
      refine ev_ildc (pc := 15) dX7_areApart_15 (told_ak7 hk) (told_anz7 hk) (told_a97 hk) c2.1 c2.2 ?_
      refine ev_iload_n (pc := 16) 1 dX7_areApart_16 rfl rfl ?_
      refine ev_iand (pc := 17) dX7_areApart_17 ?_
      refine ev_aload_n (pc := 18) 0 dX7_areApart_18 rfl rfl ?_
      refine ev_getR (pc := 19) fl7_24 rfl dX7_areApart_19 rfl (told_k hk) (told_nz hk) (told_r7 _ hk) ?_
      refine ev_iload_n (pc := 22) 2 dX7_areApart_22 rfl rfl ?_
      refine ev_ildc (pc := 23) dX7_areApart_23 (told_ak7 hk) (told_anz7 hk) (told_a97 hk) c2.1 c2.2 ?_
      refine ev_icmp_ne (pc := 24) (tgt := 29) dX7_areApart_24 (by decide) (fun b3 => ?_) (fun b3 => ?_)
      · rw [if_pos b3] at h
        refine ev_iinc (pc := 29) (il' := [(2, vI (wI (x2 + 1))), (0, vR k), (1, vI x1)]) 2 dX7_areApart_29 rfl (Nat.le_of_ble_eq_true rfl) rfl rfl ?_
        refine ev_goto (pc := 32) (tgt := 2) dX7_areApart_32 (by decide) ?_
        refine ev_pick [1, 2, 0] rfl ?_
        exact ih h
      · rw [if_neg b3] at h
        refine ev_iconst (pc := 27) (x := 0) dX7_areApart_27 ci_0 ?_
        cases h
        exact ev_zret (pc := 28) (Or.inl rfl) dX7_areApart_28 rfl
def f_X7_areApart (n : Nat) (k p0 : Int) (M : Mem) : Option (Int) := f_X7_areApart_L2 n k p0 0 M
set_option maxRecDepth 100000 in
set_option maxHeartbeats 4000000 in
theorem e_X7_areApart {g : Gm} {d : Nat} {n : Nat} {k p0 : Int} {M N : Mem} {v : Int} (hd : 0 ≤ d) (hk : isTold k) (h : f_X7_areApart n k p0 M = some v) : EvM g d mtX7_areApart [vR k, vI p0] (sg (mx M N)) (0, 0) (vI v) (sg (mx M N)) := by
  unfold f_X7_areApart at h
  refine EvM.of mkX7_areApart.2.2.2.1 (Nat.le_of_ble_eq_true rfl) ?_
  change Ev g d mtX7_areApart 0 [(0, vR k), (1, vI p0)] [] (sg (mx M N)) (0, 0) (vI v) (sg (mx M N))
  refine ev_iconst (pc := 0) (x := 0) dX7_areApart_0 ci_0 ?_
  refine ev_istore_n (pc := 1) (il' := [(2, vI 0), (0, vR k), (1, vI p0)]) dX7_areApart_1 rfl (Nat.le_of_ble_eq_true rfl) rfl ?_
  refine ev_pick [1, 2, 0] rfl ?_
  exact e_X7_areApart_L2 hd hk n h
def f_X7_chainOf_L24 : Nat → Int → Int → Int → Int → Int → Mem → Option (Int)
  | 0, _, _, _, _, _, _ => none
  | n + 1, k, x3, x4, x5, x6, M => if (M k 6) ≤ x6 then (some x4) else (ck (0 ≤ x6 ∧ x6 < 15) (if (bAnd (M (k + 5) x6) (bXor x3 (-1))) ≠ 0 then (f_X7_chainOf_L24 n k x3 x4 x5 (wI (x6 + 1)) M) else (if (bAnd (M (k + 5) x6) x4) = 0 then (f_X7_chainOf_L24 n k x3 x4 x5 (wI (x6 + 1)) M) else (f_X7_chainOf_L24 n k x3 (bOr x4 (M (k + 5) x6)) x5 (wI (x6 + 1)) M))))
set_option maxRecDepth 100000 in
set_option maxHeartbeats 4000000 in
theorem e_X7_chainOf_L24 {g : Gm} {d : Nat} {k : Int} {x3 x5 : Int} {r : Vv} {σ' : Sg} {M N : Mem} (hd : 0 ≤ d) (hk : isTold k) : ∀ (n : Nat) {x4 x6 : Int} {q : Int}, f_X7_chainOf_L24 n k x3 x4 x5 x6 M = some q → Ev g d mtX7_chainOf 78 [(0, vR k), (3, vI x3), (4, vI q), (5, vI x5)] [] (sg (mx M N)) (0, 0) r σ' → Ev g d mtX7_chainOf 24 [(0, vR k), (3, vI x3), (4, vI x4), (5, vI x5), (6, vI x6)] [] (sg (mx M N)) (0, 0) r σ' := by
  intro n
  induction n with
  | zero =>
    intro x4 x6 q h hk0
    rw [f_X7_chainOf_L24.eq_1] at h
    cases h
  | succ n ih =>
    intro x4 x6 q h hk0
    rw [f_X7_chainOf_L24.eq_2] at h
    refine ev_iload (pc := 24) 4 dX7_chainOf_24 rfl ?_
    refine ev_aload_n (pc := 26) 0 dX7_chainOf_26 rfl rfl ?_
    refine ev_getIc (pc := 27) fl7_40 rfl dX7_chainOf_27 rfl (told_k hk) (told_nz hk) (told_n9 hk) 6 rfl ?_
    refine ev_icmp_ge (pc := 30) (tgt := 78) dX7_chainOf_30 (by decide) (fun b2 => ?_) (fun b2 => ?_)
    · rw [if_pos b2] at h
      cases h
      refine ev_pick [0, 1, 2, 3] rfl ?_
      exact hk0
    · rw [if_neg b2] at h
      refine ev_aload_n (pc := 33) 0 dX7_chainOf_33 rfl rfl ?_
      refine ev_getR (pc := 34) fl7_24 rfl dX7_chainOf_34 rfl (told_k hk) (told_nz hk) (told_r7 _ hk) ?_
      refine ev_iload (pc := 37) 4 dX7_chainOf_37 rfl ?_
      obtain ⟨c3, h⟩ := ck_some h
      refine ev_ildc (pc := 39) dX7_chainOf_39 (told_ak7 hk) (told_anz7 hk) (told_a97 hk) c3.1 c3.2 ?_
      refine ev_iload_n (pc := 40) 1 dX7_chainOf_40 rfl rfl ?_
      refine ev_iconst (pc := 41) (x := (-1)) dX7_chainOf_41 ci_m1 ?_
      refine ev_ixor (pc := 42) dX7_chainOf_42 ?_
      refine ev_iand (pc := 43) dX7_chainOf_43 ?_
      refine ev_if_ne (pc := 44) (tgt := 72) dX7_chainOf_44 (by decide) (fun b4 => ?_) (fun b4 => ?_)
      · rw [if_pos b4] at h
        refine ev_iinc (pc := 72) (il' := [(6, vI (wI (x6 + 1))), (0, vR k), (3, vI x3), (4, vI x4), (5, vI x5)]) 4 dX7_chainOf_72 rfl (Nat.le_of_ble_eq_true rfl) rfl rfl ?_
        refine ev_goto (pc := 75) (tgt := 24) dX7_chainOf_75 (by decide) ?_
        refine ev_pick [1, 2, 3, 4, 0] rfl ?_
        exact ih h hk0
      · rw [if_neg b4] at h
        refine ev_aload_n (pc := 47) 0 dX7_chainOf_47 rfl rfl ?_
        refine ev_getR (pc := 48) fl7_24 rfl dX7_chainOf_48 rfl (told_k hk) (told_nz hk) (told_r7 _ hk) ?_
        refine ev_iload (pc := 51) 4 dX7_chainOf_51 rfl ?_
        refine ev_ildc (pc := 53) dX7_chainOf_53 (told_ak7 hk) (told_anz7 hk) (told_a97 hk) c3.1 c3.2 ?_
        refine ev_iload (pc := 54) 2 dX7_chainOf_54 rfl ?_
        refine ev_iand (pc := 56) dX7_chainOf_56 ?_
        refine ev_if_eq (pc := 57) (tgt := 72) dX7_chainOf_57 (by decide) (fun b5 => ?_) (fun b5 => ?_)
        · rw [if_pos b5] at h
          refine ev_iinc (pc := 72) (il' := [(6, vI (wI (x6 + 1))), (0, vR k), (3, vI x3), (4, vI x4), (5, vI x5)]) 4 dX7_chainOf_72 rfl (Nat.le_of_ble_eq_true rfl) rfl rfl ?_
          refine ev_goto (pc := 75) (tgt := 24) dX7_chainOf_75 (by decide) ?_
          refine ev_pick [1, 2, 3, 4, 0] rfl ?_
          exact ih h hk0
        · rw [if_neg b5] at h
          refine ev_iload (pc := 60) 2 dX7_chainOf_60 rfl ?_
          refine ev_aload_n (pc := 62) 0 dX7_chainOf_62 rfl rfl ?_
          refine ev_getR (pc := 63) fl7_24 rfl dX7_chainOf_63 rfl (told_k hk) (told_nz hk) (told_r7 _ hk) ?_
          refine ev_iload (pc := 66) 4 dX7_chainOf_66 rfl ?_
          refine ev_ildc (pc := 68) dX7_chainOf_68 (told_ak7 hk) (told_anz7 hk) (told_a97 hk) c3.1 c3.2 ?_
          refine ev_ior (pc := 69) dX7_chainOf_69 ?_
          refine ev_istore (pc := 70) (il' := [(4, vI (bOr x4 (M (k + 5) x6))), (0, vR k), (3, vI x3), (5, vI x5), (6, vI x6)]) dX7_chainOf_70 (Nat.le_of_ble_eq_true rfl) rfl ?_
          refine ev_iinc (pc := 72) (il' := [(6, vI (wI (x6 + 1))), (4, vI (bOr x4 (M (k + 5) x6))), (0, vR k), (3, vI x3), (5, vI x5)]) 4 dX7_chainOf_72 rfl (Nat.le_of_ble_eq_true rfl) rfl rfl ?_
          refine ev_goto (pc := 75) (tgt := 24) dX7_chainOf_75 (by decide) ?_
          refine ev_pick [2, 3, 1, 4, 0] rfl ?_
          exact ih h hk0
def f_X7_chainOf_L14 : Nat → Int → Int → Int → Int → Mem → Option (Int)
  | 0, _, _, _, _, _ => none
  | n + 1, k, x3, x4, x5, M => if 10 ≤ x5 then (some x4) else ((f_X7_chainOf_L24 n k x3 x4 x5 0 M).bind fun q6 => f_X7_chainOf_L14 n k x3 q6 (wI (x5 + 1)) M)
set_option maxRecDepth 100000 in
set_option maxHeartbeats 4000000 in
theorem e_X7_chainOf_L14 {g : Gm} {d : Nat} {k : Int} {x3 : Int} {r : Vv} {σ' : Sg} {M N : Mem} (hd : 0 ≤ d) (hk : isTold k) : ∀ (n : Nat) {x4 x5 : Int} {q : Int}, f_X7_chainOf_L14 n k x3 x4 x5 M = some q → Ev g d mtX7_chainOf 84 [(4, vI q)] [] (sg (mx M N)) (0, 0) r σ' → Ev g d mtX7_chainOf 14 [(0, vR k), (3, vI x3), (4, vI x4), (5, vI x5)] [] (sg (mx M N)) (0, 0) r σ' := by
  intro n
  induction n with
  | zero =>
    intro x4 x5 q h hk0
    rw [f_X7_chainOf_L14.eq_1] at h
    cases h
  | succ n ih =>
    intro x4 x5 q h hk0
    rw [f_X7_chainOf_L14.eq_2] at h
    refine ev_iload (pc := 14) 3 dX7_chainOf_14 rfl ?_
    refine ev_bipush (pc := 16) (x := 10) dX7_chainOf_16 cb_10 ?_
    refine ev_icmp_ge (pc := 18) (tgt := 84) dX7_chainOf_18 (by decide) (fun b1 => ?_) (fun b1 => ?_)
    · rw [if_pos b1] at h
      cases h
      refine ev_pick [2] rfl ?_
      exact hk0
    · rw [if_neg b1] at h
      refine ev_iconst (pc := 21) (x := 0) dX7_chainOf_21 ci_0 ?_
      refine ev_istore (pc := 22) (il' := [(6, vI 0), (0, vR k), (3, vI x3), (4, vI x4), (5, vI x5)]) dX7_chainOf_22 (Nat.le_of_ble_eq_true rfl) rfl ?_
      obtain ⟨q6, hq6, h⟩ := bd h
      refine ev_pick [1, 2, 3, 4, 0] rfl ?_
      refine e_X7_chainOf_L24 hd hk n hq6 ?_
      refine ev_iinc (pc := 78) (il' := [(5, vI (wI (x5 + 1))), (0, vR k), (3, vI x3), (4, vI q6)]) 3 dX7_chainOf_78 rfl (Nat.le_of_ble_eq_true rfl) rfl rfl ?_
      refine ev_goto (pc := 81) (tgt := 14) dX7_chainOf_81 (by decide) ?_
      refine ev_pick [1, 2, 3, 0] rfl ?_
      exact ih h hk0
def f_X7_chainOf (n : Nat) (k p0 p1 : Int) (M : Mem) : Option (Int) := (f_X7_chainOf_L14 n k (wI ((bShl 1 p1) - 1)) (bShl 1 p0) 0 M).bind fun q7 => some q7
set_option maxRecDepth 100000 in
set_option maxHeartbeats 4000000 in
theorem e_X7_chainOf {g : Gm} {d : Nat} {n : Nat} {k p0 p1 : Int} {M N : Mem} {v : Int} (hd : 0 ≤ d) (hk : isTold k) (h : f_X7_chainOf n k p0 p1 M = some v) : EvM g d mtX7_chainOf [vR k, vI p0, vI p1] (sg (mx M N)) (0, 0) (vI v) (sg (mx M N)) := by
  unfold f_X7_chainOf at h
  refine EvM.of mkX7_chainOf.2.2.2.1 (Nat.le_of_ble_eq_true rfl) ?_
  change Ev g d mtX7_chainOf 0 [(0, vR k), (1, vI p0), (2, vI p1)] [] (sg (mx M N)) (0, 0) (vI v) (sg (mx M N))
  refine ev_iconst (pc := 0) (x := 1) dX7_chainOf_0 ci_1 ?_
  refine ev_iload_n (pc := 1) 2 dX7_chainOf_1 rfl rfl ?_
  refine ev_ishl (pc := 2) dX7_chainOf_2 ?_
  refine ev_iconst (pc := 3) (x := 1) dX7_chainOf_3 ci_1 ?_
  refine ev_isub (pc := 4) dX7_chainOf_4 ?_
  refine ev_istore_n (pc := 5) (il' := [(3, vI (wI ((bShl 1 p1) - 1))), (0, vR k), (1, vI p0), (2, vI p1)]) dX7_chainOf_5 rfl (Nat.le_of_ble_eq_true rfl) rfl ?_
  refine ev_iconst (pc := 6) (x := 1) dX7_chainOf_6 ci_1 ?_
  refine ev_iload_n (pc := 7) 2 dX7_chainOf_7 rfl rfl ?_
  refine ev_ishl (pc := 8) dX7_chainOf_8 ?_
  refine ev_istore (pc := 9) (il' := [(4, vI (bShl 1 p0)), (3, vI (wI ((bShl 1 p1) - 1))), (0, vR k), (1, vI p0), (2, vI p1)]) dX7_chainOf_9 (Nat.le_of_ble_eq_true rfl) rfl ?_
  refine ev_iconst (pc := 11) (x := 0) dX7_chainOf_11 ci_0 ?_
  refine ev_istore (pc := 12) (il' := [(5, vI 0), (4, vI (bShl 1 p0)), (3, vI (wI ((bShl 1 p1) - 1))), (0, vR k), (1, vI p0), (2, vI p1)]) dX7_chainOf_12 (Nat.le_of_ble_eq_true rfl) rfl ?_
  obtain ⟨q7, hq7, h⟩ := bd h
  refine ev_pick [3, 2, 1, 0] rfl ?_
  refine e_X7_chainOf_L14 hd hk n hq7 ?_
  refine ev_iload (pc := 84) 0 dX7_chainOf_84 rfl ?_
  cases h
  exact ev_iret (pc := 86) dX7_chainOf_86 rfl
def f_X8_worthOf_L6 : Nat → Int → Int → Int → Int → Int → Mem → Option (Int)
  | 0, _, _, _, _, _, _ => none
  | n + 1, x1, x2, x3, x4, x5, M => if x2 ≤ x5 then (some x4) else (ck (0 ≤ x5 ∧ x5 < 9) (f_X8_worthOf_L6 n x1 x2 x3 (wI (x4 + (M 758 x5))) (wI (x5 + 1)) M))
set_option maxRecDepth 100000 in
set_option maxHeartbeats 4000000 in
theorem e_X8_worthOf_L6 {g : Gm} {d : Nat} {x1 x2 x3 : Int} {r : Vv} {σ' : Sg} {M N : Mem} (hd : 0 ≤ d) : ∀ (n : Nat) {x4 x5 : Int} {q : Int}, f_X8_worthOf_L6 n x1 x2 x3 x4 x5 M = some q → Ev g d mtX8_worthOf 30 [(1, vI x1), (2, vI x2), (3, vI x3), (4, vI q)] [] (sg (mx M N)) (0, 0) r σ' → Ev g d mtX8_worthOf 6 [(0, vR 757), (1, vI x1), (2, vI x2), (3, vI x3), (4, vI x4), (5, vI x5)] [] (sg (mx M N)) (0, 0) r σ' := by
  intro n
  induction n with
  | zero =>
    intro x4 x5 q h hk0
    rw [f_X8_worthOf_L6.eq_1] at h
    cases h
  | succ n ih =>
    intro x4 x5 q h hk0
    rw [f_X8_worthOf_L6.eq_2] at h
    refine ev_iload (pc := 6) 5 dX8_worthOf_6 rfl ?_
    refine ev_iload_n (pc := 8) 2 dX8_worthOf_8 rfl rfl ?_
    refine ev_icmp_ge (pc := 9) (tgt := 30) dX8_worthOf_9 (by decide) (fun b1 => ?_) (fun b1 => ?_)
    · rw [if_pos b1] at h
      cases h
      refine ev_pick [1, 2, 3, 4] rfl ?_
      exact hk0
    · rw [if_neg b1] at h
      refine ev_iload (pc := 12) 4 dX8_worthOf_12 rfl ?_
      refine ev_aload_n (pc := 14) 0 dX8_worthOf_14 rfl rfl ?_
      refine ev_getR (pc := 15) fl8_9 rfl dX8_worthOf_15 rfl kd_757 (by omega) (rf_757_0 _) ?_
      refine ev_iload (pc := 18) 5 dX8_worthOf_18 rfl ?_
      obtain ⟨c2, h⟩ := ck_some h
      refine ev_ildc (pc := 20) dX8_worthOf_20 kd_758 (by omega) (by omega) c2.1 c2.2 ?_
      refine ev_iadd (pc := 21) dX8_worthOf_21 ?_
      refine ev_istore (pc := 22) (il' := [(4, vI (wI (x4 + (M 758 x5)))), (0, vR 757), (1, vI x1), (2, vI x2), (3, vI x3), (5, vI x5)]) dX8_worthOf_22 (Nat.le_of_ble_eq_true rfl) rfl ?_
      refine ev_iinc (pc := 24) (il' := [(5, vI (wI (x5 + 1))), (4, vI (wI (x4 + (M 758 x5)))), (0, vR 757), (1, vI x1), (2, vI x2), (3, vI x3)]) 5 dX8_worthOf_24 rfl (Nat.le_of_ble_eq_true rfl) rfl rfl ?_
      refine ev_goto (pc := 27) (tgt := 6) dX8_worthOf_27 (by decide) ?_
      refine ev_pick [2, 3, 4, 5, 1, 0] rfl ?_
      exact ih h hk0
def f_X8_worthOf (n : Nat) (p0 p1 p2 : Int) (M : Mem) : Option (Int) := (f_X8_worthOf_L6 n p0 p1 p2 0 p0 M).bind fun q3 => some (wI ((wI (q3 * (wI (p1 - p0)))) - (wI (p2 * (iDiv (wI ((wI (p1 - p0)) * (wI ((wI (p1 - p0)) - 1)))) 2)))))
set_option maxRecDepth 100000 in
set_option maxHeartbeats 4000000 in
theorem e_X8_worthOf {g : Gm} {d : Nat} {n : Nat} {p0 p1 p2 : Int} {M N : Mem} {v : Int} (hd : 0 ≤ d) (h : f_X8_worthOf n p0 p1 p2 M = some v) : EvM g d mtX8_worthOf [vR 757, vI p0, vI p1, vI p2] (sg (mx M N)) (0, 0) (vI v) (sg (mx M N)) := by
  unfold f_X8_worthOf at h
  refine EvM.of mkX8_worthOf.2.2.2.1 (Nat.le_of_ble_eq_true rfl) ?_
  change Ev g d mtX8_worthOf 0 [(0, vR 757), (1, vI p0), (2, vI p1), (3, vI p2)] [] (sg (mx M N)) (0, 0) (vI v) (sg (mx M N))
  refine ev_iconst (pc := 0) (x := 0) dX8_worthOf_0 ci_0 ?_
  refine ev_istore (pc := 1) (il' := [(4, vI 0), (0, vR 757), (1, vI p0), (2, vI p1), (3, vI p2)]) dX8_worthOf_1 (Nat.le_of_ble_eq_true rfl) rfl ?_
  refine ev_iload_n (pc := 3) 2 dX8_worthOf_3 rfl rfl ?_
  refine ev_istore (pc := 4) (il' := [(5, vI p0), (4, vI 0), (0, vR 757), (1, vI p0), (2, vI p1), (3, vI p2)]) dX8_worthOf_4 (Nat.le_of_ble_eq_true rfl) rfl ?_
  obtain ⟨q3, hq3, h⟩ := bd h
  refine ev_pick [2, 3, 4, 5, 1, 0] rfl ?_
  refine e_X8_worthOf_L6 hd  n hq3 ?_
  refine ev_iload_n (pc := 30) 1 dX8_worthOf_30 rfl rfl ?_
  refine ev_iload_n (pc := 31) 0 dX8_worthOf_31 rfl rfl ?_
  refine ev_isub (pc := 32) dX8_worthOf_32 ?_
  refine ev_istore (pc := 33) (il' := [(5, vI (wI (p1 - p0))), (1, vI p0), (2, vI p1), (3, vI p2), (4, vI q3)]) dX8_worthOf_33 (Nat.le_of_ble_eq_true rfl) rfl ?_
  refine ev_iload (pc := 35) 4 dX8_worthOf_35 rfl ?_
  refine ev_iload (pc := 37) 0 dX8_worthOf_37 rfl ?_
  refine ev_imul (pc := 39) dX8_worthOf_39 ?_
  refine ev_iload_n (pc := 40) 3 dX8_worthOf_40 rfl rfl ?_
  refine ev_iload (pc := 41) 0 dX8_worthOf_41 rfl ?_
  refine ev_iload (pc := 43) 0 dX8_worthOf_43 rfl ?_
  refine ev_iconst (pc := 45) (x := 1) dX8_worthOf_45 ci_1 ?_
  refine ev_isub (pc := 46) dX8_worthOf_46 ?_
  refine ev_imul (pc := 47) dX8_worthOf_47 ?_
  refine ev_iconst (pc := 48) (x := 2) dX8_worthOf_48 ci_2 ?_
  refine ev_idiv (pc := 49) dX8_worthOf_49 (by omega) ?_
  refine ev_imul (pc := 50) dX8_worthOf_50 ?_
  refine ev_isub (pc := 51) dX8_worthOf_51 ?_
  cases h
  exact ev_iret (pc := 52) dX8_worthOf_52 rfl
def f_X8_unite_L32_J122 (n : Nat) (K : Int → Mem → Option (Mem)) (x1 x2 x3 x4 x5 x6 : Int) (M : Mem) : Option (Mem) := ck (0 ≤ x3 ∧ x3 < 10) (lt (upM M 759 x3 x5) fun M14 => lt (upM M14 760 x3 x6) fun M15 => ck (0 ≤ x3 ∧ x3 < 9) (lt (upM M15 761 x3 x4) fun M17 => K (wI (x4 + (-1))) M17))
set_option maxRecDepth 100000 in
set_option maxHeartbeats 4000000 in
theorem e_X8_unite_L32_J122 {g : Gm} {d : Nat} {n : Nat} {K : Int → Mem → Option (Mem)} {x1 x2 x3 x4 x5 x6 : Int} {M N : Mem} {q : Mem} {r : Vv} {σ' : Sg} (hd : 1 ≤ d) (hK : ∀ {x4 : Int} {M : Mem}, K x4 M = some q → Ev g d mtX8_unite 32 [(0, vR 757), (1, vI x1), (2, vI x2), (3, vI x3), (4, vI x4)] [] (sg (mx M N)) (0, 0) r σ') (hk0 : Ev g d mtX8_unite 152 [(0, vR 757), (1, vI x1), (2, vI x2), (3, vI x3)] [] (sg (mx q N)) (0, 0) r σ') (h : f_X8_unite_L32_J122 n K x1 x2 x3 x4 x5 x6 M = some q) : Ev g d mtX8_unite 122 [(0, vR 757), (1, vI x1), (2, vI x2), (3, vI x3), (4, vI x4), (5, vI x5), (6, vI x6)] [] (sg (mx M N)) (0, 0) r σ' := by
  unfold f_X8_unite_L32_J122 at h
  refine ev_aload_n (pc := 122) 0 dX8_unite_122 rfl rfl ?_
  refine ev_getR (pc := 123) fl8_15 rfl dX8_unite_123 rfl kd_757 (by omega) (rf_757_1 _) ?_
  refine ev_iload_n (pc := 126) 3 dX8_unite_126 rfl rfl ?_
  refine ev_iload (pc := 127) 5 dX8_unite_127 rfl ?_
  obtain ⟨c13, h⟩ := ck_some h
  obtain ⟨M14, eM14, h⟩ := lt_some h
  refine ev_istc (pc := 129) dX8_unite_129 kd_759 (by omega) (by omega) c13.1 c13.2 eM14 ?_
  refine ev_aload_n (pc := 130) 0 dX8_unite_130 rfl rfl ?_
  refine ev_getR (pc := 131) fl8_18 rfl dX8_unite_131 rfl kd_757 (by omega) (rf_757_2 _) ?_
  refine ev_iload_n (pc := 134) 3 dX8_unite_134 rfl rfl ?_
  refine ev_iload (pc := 135) 6 dX8_unite_135 rfl ?_
  obtain ⟨M15, eM15, h⟩ := lt_some h
  refine ev_istc (pc := 137) dX8_unite_137 kd_760 (by omega) (by omega) c13.1 c13.2 eM15 ?_
  refine ev_aload_n (pc := 138) 0 dX8_unite_138 rfl rfl ?_
  refine ev_getR (pc := 139) fl8_21 rfl dX8_unite_139 rfl kd_757 (by omega) (rf_757_3 _) ?_
  refine ev_iload_n (pc := 142) 3 dX8_unite_142 rfl rfl ?_
  refine ev_iload (pc := 143) 4 dX8_unite_143 rfl ?_
  obtain ⟨c16, h⟩ := ck_some h
  obtain ⟨M17, eM17, h⟩ := lt_some h
  refine ev_istc (pc := 145) dX8_unite_145 kd_761 (by omega) (by omega) c16.1 c16.2 eM17 ?_
  refine ev_iinc (pc := 146) (il' := [(4, vI (wI (x4 + (-1)))), (0, vR 757), (1, vI x1), (2, vI x2), (3, vI x3), (5, vI x5), (6, vI x6)]) 4 dX8_unite_146 rfl (Nat.le_of_ble_eq_true rfl) rfl rfl ?_
  refine ev_goto (pc := 149) (tgt := 32) dX8_unite_149 (by decide) ?_
  refine ev_pick [1, 2, 3, 4, 0] rfl ?_
  exact hK h
def f_X8_unite_L32_J93 (n : Nat) (K : Int → Mem → Option (Mem)) (x1 x2 x3 x4 x5 x6 s0 : Int) (M : Mem) : Option (Mem) := if s0 ≠ 0 then (f_X8_unite_L32_J122 n (K) x1 x2 x3 x4 x5 x6 M) else (ck (0 ≤ x3 ∧ x3 < 10) (if x5 ≠ (M 759 x3) then (K (wI (x4 + (-1))) M) else (if (M 760 x3) ≤ x6 then (K (wI (x4 + (-1))) M) else (f_X8_unite_L32_J122 n (K) x1 x2 x3 x4 x5 x6 M))))
set_option maxRecDepth 100000 in
set_option maxHeartbeats 4000000 in
theorem e_X8_unite_L32_J93 {g : Gm} {d : Nat} {n : Nat} {K : Int → Mem → Option (Mem)} {x1 x2 x3 x4 x5 x6 s0 : Int} {M N : Mem} {q : Mem} {r : Vv} {σ' : Sg} (hd : 1 ≤ d) (hK : ∀ {x4 : Int} {M : Mem}, K x4 M = some q → Ev g d mtX8_unite 32 [(0, vR 757), (1, vI x1), (2, vI x2), (3, vI x3), (4, vI x4)] [] (sg (mx M N)) (0, 0) r σ') (hk0 : Ev g d mtX8_unite 152 [(0, vR 757), (1, vI x1), (2, vI x2), (3, vI x3)] [] (sg (mx q N)) (0, 0) r σ') (h : f_X8_unite_L32_J93 n K x1 x2 x3 x4 x5 x6 s0 M = some q) : Ev g d mtX8_unite 93 [(0, vR 757), (1, vI x1), (2, vI x2), (3, vI x3), (4, vI x4), (5, vI x5), (6, vI x6)] [vI s0] (sg (mx M N)) (0, 0) r σ' := by
  unfold f_X8_unite_L32_J93 at h
  refine ev_istore (pc := 93) (il' := [(7, vI s0), (0, vR 757), (1, vI x1), (2, vI x2), (3, vI x3), (4, vI x4), (5, vI x5), (6, vI x6)]) dX8_unite_93 (Nat.le_of_ble_eq_true rfl) rfl ?_
  refine ev_iload (pc := 95) 0 dX8_unite_95 rfl ?_
  refine ev_if_ne (pc := 97) (tgt := 122) dX8_unite_97 (by decide) (fun b12 => ?_) (fun b12 => ?_)
  · rw [if_pos b12] at h
    refine ev_pick [1, 2, 3, 4, 5, 6, 7] rfl ?_
    exact e_X8_unite_L32_J122 hd  hK hk0 h
  · rw [if_neg b12] at h
    refine ev_iload (pc := 100) 6 dX8_unite_100 rfl ?_
    refine ev_aload_n (pc := 102) 1 dX8_unite_102 rfl rfl ?_
    refine ev_getR (pc := 103) fl8_15 rfl dX8_unite_103 rfl kd_757 (by omega) (rf_757_1 _) ?_
    refine ev_iload_n (pc := 106) 4 dX8_unite_106 rfl rfl ?_
    obtain ⟨c18, h⟩ := ck_some h
    refine ev_ildc (pc := 107) dX8_unite_107 kd_759 (by omega) (by omega) c18.1 c18.2 ?_
    refine ev_icmp_ne (pc := 108) (tgt := 146) dX8_unite_108 (by decide) (fun b19 => ?_) (fun b19 => ?_)
    · rw [if_pos b19] at h
      refine ev_iinc (pc := 146) (il' := [(4, vI (wI (x4 + (-1)))), (7, vI s0), (0, vR 757), (1, vI x1), (2, vI x2), (3, vI x3), (5, vI x5), (6, vI x6)]) 5 dX8_unite_146 rfl (Nat.le_of_ble_eq_true rfl) rfl rfl ?_
      refine ev_goto (pc := 149) (tgt := 32) dX8_unite_149 (by decide) ?_
      refine ev_pick [2, 3, 4, 5, 0] rfl ?_
      exact hK h
    · rw [if_neg b19] at h
      refine ev_iload (pc := 111) 7 dX8_unite_111 rfl ?_
      refine ev_aload_n (pc := 113) 1 dX8_unite_113 rfl rfl ?_
      refine ev_getR (pc := 114) fl8_18 rfl dX8_unite_114 rfl kd_757 (by omega) (rf_757_2 _) ?_
      refine ev_iload_n (pc := 117) 4 dX8_unite_117 rfl rfl ?_
      refine ev_ildc (pc := 118) dX8_unite_118 kd_760 (by omega) (by omega) c18.1 c18.2 ?_
      refine ev_icmp_ge (pc := 119) (tgt := 146) dX8_unite_119 (by decide) (fun b20 => ?_) (fun b20 => ?_)
      · rw [if_pos b20] at h
        refine ev_iinc (pc := 146) (il' := [(4, vI (wI (x4 + (-1)))), (7, vI s0), (0, vR 757), (1, vI x1), (2, vI x2), (3, vI x3), (5, vI x5), (6, vI x6)]) 5 dX8_unite_146 rfl (Nat.le_of_ble_eq_true rfl) rfl rfl ?_
        refine ev_goto (pc := 149) (tgt := 32) dX8_unite_149 (by decide) ?_
        refine ev_pick [2, 3, 4, 5, 0] rfl ?_
        exact hK h
      · rw [if_neg b20] at h
        refine ev_pick [1, 2, 3, 4, 5, 6, 7] rfl ?_
        exact e_X8_unite_L32_J122 hd  hK hk0 h
def f_X8_unite_L32_J88 (n : Nat) (K : Int → Mem → Option (Mem)) (x1 x2 x3 x4 x5 x6 : Int) (M : Mem) : Option (Mem) := f_X8_unite_L32_J93 n (K) x1 x2 x3 x4 x5 x6 1 M
set_option maxRecDepth 100000 in
set_option maxHeartbeats 4000000 in
theorem e_X8_unite_L32_J88 {g : Gm} {d : Nat} {n : Nat} {K : Int → Mem → Option (Mem)} {x1 x2 x3 x4 x5 x6 : Int} {M N : Mem} {q : Mem} {r : Vv} {σ' : Sg} (hd : 1 ≤ d) (hK : ∀ {x4 : Int} {M : Mem}, K x4 M = some q → Ev g d mtX8_unite 32 [(0, vR 757), (1, vI x1), (2, vI x2), (3, vI x3), (4, vI x4)] [] (sg (mx M N)) (0, 0) r σ') (hk0 : Ev g d mtX8_unite 152 [(0, vR 757), (1, vI x1), (2, vI x2), (3, vI x3)] [] (sg (mx q N)) (0, 0) r σ') (h : f_X8_unite_L32_J88 n K x1 x2 x3 x4 x5 x6 M = some q) : Ev g d mtX8_unite 88 [(0, vR 757), (1, vI x1), (2, vI x2), (3, vI x3), (4, vI x4), (5, vI x5), (6, vI x6)] [] (sg (mx M N)) (0, 0) r σ' := by
  unfold f_X8_unite_L32_J88 at h
  refine ev_iconst (pc := 88) (x := 1) dX8_unite_88 ci_1 ?_
  refine ev_goto (pc := 89) (tgt := 93) dX8_unite_89 (by decide) ?_
  refine ev_pick [0, 1, 2, 3, 4, 5, 6] rfl ?_
  exact e_X8_unite_L32_J93 hd  hK hk0 h
def f_X8_unite_L32 : Nat → Int → Int → Int → Int → Mem → Option (Mem)
  | 0, _, _, _, _, _ => none
  | n + 1, x1, x2, x3, x4, M => if x4 ≤ x3 then (some M) else ((f_X8_worthOf n x3 x4 x2 M).bind fun q8 => ck (0 ≤ x4 ∧ x4 < 10) (ck (0 ≤ x3 ∧ x3 < 9) (if (M 761 x3) = (-1) then (f_X8_unite_L32_J88 n (fun x4 M => f_X8_unite_L32 n x1 x2 x3 x4 M) x1 x2 x3 x4 (wI (q8 + (M 759 x4))) (wI (1 + (M 760 x4))) M) else (ck (0 ≤ x3 ∧ x3 < 10) (if (wI (q8 + (M 759 x4))) ≤ (M 759 x3) then (f_X8_unite_L32_J93 n (fun x4 M => f_X8_unite_L32 n x1 x2 x3 x4 M) x1 x2 x3 x4 (wI (q8 + (M 759 x4))) (wI (1 + (M 760 x4))) 0 M) else (f_X8_unite_L32_J88 n (fun x4 M => f_X8_unite_L32 n x1 x2 x3 x4 M) x1 x2 x3 x4 (wI (q8 + (M 759 x4))) (wI (1 + (M 760 x4))) M))))))
set_option maxRecDepth 100000 in
set_option maxHeartbeats 4000000 in
theorem e_X8_unite_L32 {g : Gm} {d : Nat} {x1 x2 x3 : Int} {r : Vv} {σ' : Sg} {N : Mem} (hd : 1 ≤ d) : ∀ (n : Nat) {x4 : Int} {M : Mem} {q : Mem}, f_X8_unite_L32 n x1 x2 x3 x4 M = some q → Ev g d mtX8_unite 152 [(0, vR 757), (1, vI x1), (2, vI x2), (3, vI x3)] [] (sg (mx q N)) (0, 0) r σ' → Ev g d mtX8_unite 32 [(0, vR 757), (1, vI x1), (2, vI x2), (3, vI x3), (4, vI x4)] [] (sg (mx M N)) (0, 0) r σ' := by
  intro n
  induction n with
  | zero =>
    intro x4 M q h hk0
    rw [f_X8_unite_L32.eq_1] at h
    cases h
  | succ n ih =>
    intro x4 M q h hk0
    rw [f_X8_unite_L32.eq_2] at h
    refine ev_iload (pc := 32) 4 dX8_unite_32 rfl ?_
    refine ev_iload_n (pc := 34) 3 dX8_unite_34 rfl rfl ?_
    refine ev_icmp_le (pc := 35) (tgt := 152) dX8_unite_35 (by decide) (fun b7 => ?_) (fun b7 => ?_)
    · rw [if_pos b7] at h
      cases h
      refine ev_pick [0, 1, 2, 3] rfl ?_
      exact hk0
    · rw [if_neg b7] at h
      refine ev_aload_n (pc := 38) 0 dX8_unite_38 rfl rfl ?_
      refine ev_iload_n (pc := 39) 3 dX8_unite_39 rfl rfl ?_
      refine ev_iload (pc := 40) 4 dX8_unite_40 rfl ?_
      refine ev_iload_n (pc := 42) 2 dX8_unite_42 rfl rfl ?_
      obtain ⟨q8, hq8, h⟩ := bd h
      refine ev_cV (pc := 43) [vI x3, vI x4, vI x2] [] rfl mkX8_worthOf ml8_24 mnX8_worthOf dX8_unite_43 kd_757 (by omega) rfl (Nat.le_of_ble_eq_true rfl) (by omega) rfl (e_X8_worthOf (d := d - 1) (v := q8) (by omega)  hq8) ?_
      refine ev_aload_n (pc := 46) 0 dX8_unite_46 rfl rfl ?_
      refine ev_getR (pc := 47) fl8_15 rfl dX8_unite_47 rfl kd_757 (by omega) (rf_757_1 _) ?_
      refine ev_iload (pc := 50) 4 dX8_unite_50 rfl ?_
      obtain ⟨c9, h⟩ := ck_some h
      refine ev_ildc (pc := 52) dX8_unite_52 kd_759 (by omega) (by omega) c9.1 c9.2 ?_
      refine ev_iadd (pc := 53) dX8_unite_53 ?_
      refine ev_istore (pc := 54) (il' := [(5, vI (wI (q8 + (M 759 x4)))), (0, vR 757), (1, vI x1), (2, vI x2), (3, vI x3), (4, vI x4)]) dX8_unite_54 (Nat.le_of_ble_eq_true rfl) rfl ?_
      refine ev_iconst (pc := 56) (x := 1) dX8_unite_56 ci_1 ?_
      refine ev_aload_n (pc := 57) 1 dX8_unite_57 rfl rfl ?_
      refine ev_getR (pc := 58) fl8_18 rfl dX8_unite_58 rfl kd_757 (by omega) (rf_757_2 _) ?_
      refine ev_iload (pc := 61) 5 dX8_unite_61 rfl ?_
      refine ev_ildc (pc := 63) dX8_unite_63 kd_760 (by omega) (by omega) c9.1 c9.2 ?_
      refine ev_iadd (pc := 64) dX8_unite_64 ?_
      refine ev_istore (pc := 65) (il' := [(6, vI (wI (1 + (M 760 x4)))), (5, vI (wI (q8 + (M 759 x4)))), (0, vR 757), (1, vI x1), (2, vI x2), (3, vI x3), (4, vI x4)]) dX8_unite_65 (Nat.le_of_ble_eq_true rfl) rfl ?_
      refine ev_aload_n (pc := 67) 2 dX8_unite_67 rfl rfl ?_
      refine ev_getR (pc := 68) fl8_21 rfl dX8_unite_68 rfl kd_757 (by omega) (rf_757_3 _) ?_
      refine ev_iload_n (pc := 71) 5 dX8_unite_71 rfl rfl ?_
      obtain ⟨c10, h⟩ := ck_some h
      refine ev_ildc (pc := 72) dX8_unite_72 kd_761 (by omega) (by omega) c10.1 c10.2 ?_
      refine ev_iconst (pc := 73) (x := (-1)) dX8_unite_73 ci_m1 ?_
      refine ev_icmp_eq (pc := 74) (tgt := 88) dX8_unite_74 (by decide) (fun b11 => ?_) (fun b11 => ?_)
      · rw [if_pos b11] at h
        refine ev_pick [2, 3, 4, 5, 6, 1, 0] rfl ?_
        exact e_X8_unite_L32_J88 hd  (fun h9 => ih h9 hk0) hk0 h
      · rw [if_neg b11] at h
        refine ev_iload (pc := 77) 1 dX8_unite_77 rfl ?_
        refine ev_aload_n (pc := 79) 2 dX8_unite_79 rfl rfl ?_
        refine ev_getR (pc := 80) fl8_15 rfl dX8_unite_80 rfl kd_757 (by omega) (rf_757_1 _) ?_
        refine ev_iload_n (pc := 83) 5 dX8_unite_83 rfl rfl ?_
        obtain ⟨c21, h⟩ := ck_some h
        refine ev_ildc (pc := 84) dX8_unite_84 kd_759 (by omega) (by omega) c21.1 c21.2 ?_
        refine ev_icmp_le (pc := 85) (tgt := 92) dX8_unite_85 (by decide) (fun b22 => ?_) (fun b22 => ?_)
        · rw [if_pos b22] at h
          refine ev_iconst (pc := 92) (x := 0) dX8_unite_92 ci_0 ?_
          refine ev_pick [2, 3, 4, 5, 6, 1, 0] rfl ?_
          exact e_X8_unite_L32_J93 hd  (fun h9 => ih h9 hk0) hk0 h
        · rw [if_neg b22] at h
          refine ev_pick [2, 3, 4, 5, 6, 1, 0] rfl ?_
          exact e_X8_unite_L32_J88 hd  (fun h9 => ih h9 hk0) hk0 h
def f_X8_unite_L18 : Nat → Int → Int → Int → Mem → Option (Mem)
  | 0, _, _, _, _ => none
  | n + 1, x1, x2, x3, M => if x3 < 0 then (some M) else (ck (0 ≤ x3 ∧ x3 < 9) (lt (upM M 761 x3 (-1)) fun M6 => (f_X8_unite_L32 n x1 x2 x3 x1 M6).bind fun q23 => f_X8_unite_L18 n x1 x2 (wI (x3 + (-1))) q23))
set_option maxRecDepth 100000 in
set_option maxHeartbeats 4000000 in
theorem e_X8_unite_L18 {g : Gm} {d : Nat} {x1 x2 : Int} {r : Vv} {σ' : Sg} {N : Mem} (hd : 1 ≤ d) : ∀ (n : Nat) {x3 : Int} {M : Mem} {q : Mem}, f_X8_unite_L18 n x1 x2 x3 M = some q → Ev g d mtX8_unite 158 [] [] (sg (mx q N)) (0, 0) r σ' → Ev g d mtX8_unite 18 [(0, vR 757), (1, vI x1), (2, vI x2), (3, vI x3)] [] (sg (mx M N)) (0, 0) r σ' := by
  intro n
  induction n with
  | zero =>
    intro x3 M q h hk0
    rw [f_X8_unite_L18.eq_1] at h
    cases h
  | succ n ih =>
    intro x3 M q h hk0
    rw [f_X8_unite_L18.eq_2] at h
    refine ev_iload_n (pc := 18) 3 dX8_unite_18 rfl rfl ?_
    refine ev_if_lt (pc := 19) (tgt := 158) dX8_unite_19 (by decide) (fun b4 => ?_) (fun b4 => ?_)
    · rw [if_pos b4] at h
      cases h
      refine ev_pick [] rfl ?_
      exact hk0
    · rw [if_neg b4] at h
      refine ev_aload_n (pc := 22) 0 dX8_unite_22 rfl rfl ?_
      refine ev_getR (pc := 23) fl8_21 rfl dX8_unite_23 rfl kd_757 (by omega) (rf_757_3 _) ?_
      refine ev_iload_n (pc := 26) 3 dX8_unite_26 rfl rfl ?_
      refine ev_iconst (pc := 27) (x := (-1)) dX8_unite_27 ci_m1 ?_
      obtain ⟨c5, h⟩ := ck_some h
      obtain ⟨M6, eM6, h⟩ := lt_some h
      refine ev_istc (pc := 28) dX8_unite_28 kd_761 (by omega) (by omega) c5.1 c5.2 eM6 ?_
      refine ev_iload_n (pc := 29) 1 dX8_unite_29 rfl rfl ?_
      refine ev_istore (pc := 30) (il' := [(4, vI x1), (0, vR 757), (1, vI x1), (2, vI x2), (3, vI x3)]) dX8_unite_30 (Nat.le_of_ble_eq_true rfl) rfl ?_
      obtain ⟨q23, hq23, h⟩ := bd h
      refine ev_pick [1, 2, 3, 4, 0] rfl ?_
      refine e_X8_unite_L32 hd  n hq23 ?_
      refine ev_iinc (pc := 152) (il' := [(3, vI (wI (x3 + (-1)))), (0, vR 757), (1, vI x1), (2, vI x2)]) 3 dX8_unite_152 rfl (Nat.le_of_ble_eq_true rfl) rfl rfl ?_
      refine ev_goto (pc := 155) (tgt := 18) dX8_unite_155 (by decide) ?_
      refine ev_pick [1, 2, 3, 0] rfl ?_
      exact ih h hk0
def f_X8_unite (n : Nat) (p0 p1 : Int) (M : Mem) : Option (Mem) := ck (0 ≤ p0 ∧ p0 < 10) (lt (upM M 759 p0 0) fun M2 => lt (upM M2 760 p0 0) fun M3 => (f_X8_unite_L18 n p0 p1 (wI (p0 - 1)) M3).bind fun q24 => some q24)
set_option maxRecDepth 100000 in
set_option maxHeartbeats 4000000 in
theorem e_X8_unite {g : Gm} {d : Nat} {n : Nat} {p0 p1 : Int} {M N : Mem} {M' : Mem} (hd : 1 ≤ d) (h : f_X8_unite n p0 p1 M = some M') : EvM g d mtX8_unite [vR 757, vI p0, vI p1] (sg (mx M N)) (0, 0) vN (sg (mx M' N)) := by
  unfold f_X8_unite at h
  refine EvM.of mkX8_unite.2.2.2.1 (Nat.le_of_ble_eq_true rfl) ?_
  change Ev g d mtX8_unite 0 [(0, vR 757), (1, vI p0), (2, vI p1)] [] (sg (mx M N)) (0, 0) vN (sg (mx M' N))
  refine ev_aload_n (pc := 0) 0 dX8_unite_0 rfl rfl ?_
  refine ev_getR (pc := 1) fl8_15 rfl dX8_unite_1 rfl kd_757 (by omega) (rf_757_1 _) ?_
  refine ev_iload_n (pc := 4) 1 dX8_unite_4 rfl rfl ?_
  refine ev_iconst (pc := 5) (x := 0) dX8_unite_5 ci_0 ?_
  obtain ⟨c1, h⟩ := ck_some h
  obtain ⟨M2, eM2, h⟩ := lt_some h
  refine ev_istc (pc := 6) dX8_unite_6 kd_759 (by omega) (by omega) c1.1 c1.2 eM2 ?_
  refine ev_aload_n (pc := 7) 0 dX8_unite_7 rfl rfl ?_
  refine ev_getR (pc := 8) fl8_18 rfl dX8_unite_8 rfl kd_757 (by omega) (rf_757_2 _) ?_
  refine ev_iload_n (pc := 11) 1 dX8_unite_11 rfl rfl ?_
  refine ev_iconst (pc := 12) (x := 0) dX8_unite_12 ci_0 ?_
  obtain ⟨M3, eM3, h⟩ := lt_some h
  refine ev_istc (pc := 13) dX8_unite_13 kd_760 (by omega) (by omega) c1.1 c1.2 eM3 ?_
  refine ev_iload_n (pc := 14) 1 dX8_unite_14 rfl rfl ?_
  refine ev_iconst (pc := 15) (x := 1) dX8_unite_15 ci_1 ?_
  refine ev_isub (pc := 16) dX8_unite_16 ?_
  refine ev_istore_n (pc := 17) (il' := [(3, vI (wI (p0 - 1))), (0, vR 757), (1, vI p0), (2, vI p1)]) dX8_unite_17 rfl (Nat.le_of_ble_eq_true rfl) rfl ?_
  obtain ⟨q24, hq24, h⟩ := bd h
  refine ev_pick [1, 2, 3, 0] rfl ?_
  refine e_X8_unite_L18 hd  n hq24 ?_
  cases h
  exact ev_vret (pc := 158) dX8_unite_158 rfl
def f_X8_unionOf_L12 : Nat → Int → Int → Int → Int → Mem → Option (Int)
  | 0, _, _, _, _, _ => none
  | n + 1, x1, x2, x3, x4, M => if 9 ≤ x4 then (some x2) else (if x1 < x3 then (some x2) else (ck (0 ≤ x3 ∧ x3 < 9) (f_X8_unionOf_L12 n x1 (wI (x2 + 1)) (M 761 x3) (wI (x4 + 1)) M)))
set_option maxRecDepth 100000 in
set_option maxHeartbeats 4000000 in
theorem e_X8_unionOf_L12 {g : Gm} {d : Nat} {x1 : Int} {r : Vv} {σ' : Sg} {M N : Mem} (hd : 0 ≤ d) : ∀ (n : Nat) {x2 x3 x4 : Int} {q : Int}, f_X8_unionOf_L12 n x1 x2 x3 x4 M = some q → Ev g d mtX8_unionOf 40 [(2, vI q)] [] (sg (mx M N)) (0, 0) r σ' → Ev g d mtX8_unionOf 12 [(0, vR 757), (1, vI x1), (2, vI x2), (3, vI x3), (4, vI x4)] [] (sg (mx M N)) (0, 0) r σ' := by
  intro n
  induction n with
  | zero =>
    intro x2 x3 x4 q h hk0
    rw [f_X8_unionOf_L12.eq_1] at h
    cases h
  | succ n ih =>
    intro x2 x3 x4 q h hk0
    rw [f_X8_unionOf_L12.eq_2] at h
    refine ev_iload (pc := 12) 4 dX8_unionOf_12 rfl ?_
    refine ev_bipush (pc := 14) (x := 9) dX8_unionOf_14 cb_9 ?_
    refine ev_icmp_ge (pc := 16) (tgt := 40) dX8_unionOf_16 (by decide) (fun b1 => ?_) (fun b1 => ?_)
    · rw [if_pos b1] at h
      cases h
      refine ev_pick [2] rfl ?_
      exact hk0
    · rw [if_neg b1] at h
      refine ev_iload_n (pc := 19) 3 dX8_unionOf_19 rfl rfl ?_
      refine ev_iload_n (pc := 20) 1 dX8_unionOf_20 rfl rfl ?_
      refine ev_icmp_gt (pc := 21) (tgt := 40) dX8_unionOf_21 (by decide) (fun b2 => ?_) (fun b2 => ?_)
      · rw [if_pos b2] at h
        cases h
        refine ev_pick [2] rfl ?_
        exact hk0
      · rw [if_neg b2] at h
        refine ev_iinc (pc := 24) (il' := [(2, vI (wI (x2 + 1))), (0, vR 757), (1, vI x1), (3, vI x3), (4, vI x4)]) 2 dX8_unionOf_24 rfl (Nat.le_of_ble_eq_true rfl) rfl rfl ?_
        refine ev_aload_n (pc := 27) 1 dX8_unionOf_27 rfl rfl ?_
        refine ev_getR (pc := 28) fl8_21 rfl dX8_unionOf_28 rfl kd_757 (by omega) (rf_757_3 _) ?_
        refine ev_iload_n (pc := 31) 3 dX8_unionOf_31 rfl rfl ?_
        obtain ⟨c3, h⟩ := ck_some h
        refine ev_ildc (pc := 32) dX8_unionOf_32 kd_761 (by omega) (by omega) c3.1 c3.2 ?_
        refine ev_istore_n (pc := 33) (il' := [(3, vI (M 761 x3)), (2, vI (wI (x2 + 1))), (0, vR 757), (1, vI x1), (4, vI x4)]) dX8_unionOf_33 rfl (Nat.le_of_ble_eq_true rfl) rfl ?_
        refine ev_iinc (pc := 34) (il' := [(4, vI (wI (x4 + 1))), (3, vI (M 761 x3)), (2, vI (wI (x2 + 1))), (0, vR 757), (1, vI x1)]) 4 dX8_unionOf_34 rfl (Nat.le_of_ble_eq_true rfl) rfl rfl ?_
        refine ev_goto (pc := 37) (tgt := 12) dX8_unionOf_37 (by decide) ?_
        refine ev_pick [3, 4, 2, 1, 0] rfl ?_
        exact ih h hk0
def f_X8_unionOf (n : Nat) (p0 : Int) (M : Mem) : Option (Int) := (f_X8_unionOf_L12 n p0 0 (M 761 0) 0 M).bind fun q4 => some q4
set_option maxRecDepth 100000 in
set_option maxHeartbeats 4000000 in
theorem e_X8_unionOf {g : Gm} {d : Nat} {n : Nat} {p0 : Int} {M N : Mem} {v : Int} (hd : 0 ≤ d) (h : f_X8_unionOf n p0 M = some v) : EvM g d mtX8_unionOf [vR 757, vI p0] (sg (mx M N)) (0, 0) (vI v) (sg (mx M N)) := by
  unfold f_X8_unionOf at h
  refine EvM.of mkX8_unionOf.2.2.2.1 (Nat.le_of_ble_eq_true rfl) ?_
  change Ev g d mtX8_unionOf 0 [(0, vR 757), (1, vI p0)] [] (sg (mx M N)) (0, 0) (vI v) (sg (mx M N))
  refine ev_iconst (pc := 0) (x := 0) dX8_unionOf_0 ci_0 ?_
  refine ev_istore_n (pc := 1) (il' := [(2, vI 0), (0, vR 757), (1, vI p0)]) dX8_unionOf_1 rfl (Nat.le_of_ble_eq_true rfl) rfl ?_
  refine ev_aload_n (pc := 2) 1 dX8_unionOf_2 rfl rfl ?_
  refine ev_getR (pc := 3) fl8_21 rfl dX8_unionOf_3 rfl kd_757 (by omega) (rf_757_3 _) ?_
  refine ev_iconst (pc := 6) (x := 0) dX8_unionOf_6 ci_0 ?_
  refine ev_ildc (pc := 7) dX8_unionOf_7 kd_761 (by omega) (by omega) (by omega) (by omega) ?_
  refine ev_istore_n (pc := 8) (il' := [(3, vI (M 761 0)), (2, vI 0), (0, vR 757), (1, vI p0)]) dX8_unionOf_8 rfl (Nat.le_of_ble_eq_true rfl) rfl ?_
  refine ev_iconst (pc := 9) (x := 0) dX8_unionOf_9 ci_0 ?_
  refine ev_istore (pc := 10) (il' := [(4, vI 0), (3, vI (M 761 0)), (2, vI 0), (0, vR 757), (1, vI p0)]) dX8_unionOf_10 (Nat.le_of_ble_eq_true rfl) rfl ?_
  obtain ⟨q4, hq4, h⟩ := bd h
  refine ev_pick [3, 4, 2, 1, 0] rfl ?_
  refine e_X8_unionOf_L12 hd  n hq4 ?_
  refine ev_iload_n (pc := 40) 0 dX8_unionOf_40 rfl rfl ?_
  cases h
  exact ev_iret (pc := 41) dX8_unionOf_41 rfl
def f_X9_isWaitBetter (p0 p1 : Int) (M : Mem) : Option (Int) := ck (0 ≤ p0 ∧ p0 < 9) (ck (0 ≤ (wI (p1 + 1)) ∧ (wI (p1 + 1)) < 49) (ck (0 ≤ p1 ∧ p1 < 49) (if (M (719 + p0) (wI (p1 + 1))) = (M (719 + p0) p1) then (if (M (729 + p0) p1) ≤ (M (729 + p0) (wI (p1 + 1))) then (some 0) else (some 1)) else (if (M (719 + p0) p1) ≤ (M (719 + p0) (wI (p1 + 1))) then (some 0) else (some 1)))))
set_option maxRecDepth 100000 in
set_option maxHeartbeats 4000000 in
theorem e_X9_isWaitBetter {g : Gm} {d : Nat} {p0 p1 : Int} {M N : Mem} {v : Int} (hd : 0 ≤ d) (h : f_X9_isWaitBetter p0 p1 M = some v) : EvM g d mtX9_isWaitBetter [vR 717, vI p0, vI p1] (sg (mx M N)) (0, 0) (vI v) (sg (mx M N)) := by
  unfold f_X9_isWaitBetter at h
  refine EvM.of mkX9_isWaitBetter.2.2.2.1 (Nat.le_of_ble_eq_true rfl) ?_
  change Ev g d mtX9_isWaitBetter 0 [(0, vR 717), (1, vI p0), (2, vI p1)] [] (sg (mx M N)) (0, 0) (vI v) (sg (mx M N))
  refine ev_aload_n (pc := 0) 0 dX9_isWaitBetter_0 rfl rfl ?_
  refine ev_getR (pc := 1) fl9_11 rfl dX9_isWaitBetter_1 rfl kd_717 (by omega) (rf_717_1 _) ?_
  refine ev_iload_n (pc := 4) 1 dX9_isWaitBetter_4 rfl rfl ?_
  obtain ⟨c1, h⟩ := ck_some h
  refine ev_rld (pc := 5) dX9_isWaitBetter_5 (by decide) kd_718 (by omega) c1.1 c1.2 (row718_R _ c1.1 c1.2) ?_
  refine ev_iload_n (pc := 6) 2 dX9_isWaitBetter_6 rfl rfl ?_
  refine ev_iconst (pc := 7) (x := 1) dX9_isWaitBetter_7 ci_1 ?_
  refine ev_iadd (pc := 8) dX9_isWaitBetter_8 ?_
  obtain ⟨c2, h⟩ := ck_some h
  refine ev_ildc (pc := 9) dX9_isWaitBetter_9 (row718_K c1.1 c1.2) (by have h9 := c1.1; have h8 := c1.2; omega) (by have h9 := c1.1; have h8 := c1.2; omega) c2.1 c2.2 ?_
  refine ev_aload_n (pc := 10) 0 dX9_isWaitBetter_10 rfl rfl ?_
  refine ev_getR (pc := 11) fl9_11 rfl dX9_isWaitBetter_11 rfl kd_717 (by omega) (rf_717_1 _) ?_
  refine ev_iload_n (pc := 14) 1 dX9_isWaitBetter_14 rfl rfl ?_
  refine ev_rld (pc := 15) dX9_isWaitBetter_15 (by decide) kd_718 (by omega) c1.1 c1.2 (row718_R _ c1.1 c1.2) ?_
  refine ev_iload_n (pc := 16) 2 dX9_isWaitBetter_16 rfl rfl ?_
  obtain ⟨c3, h⟩ := ck_some h
  refine ev_ildc (pc := 17) dX9_isWaitBetter_17 (row718_K c1.1 c1.2) (by have h9 := c1.1; have h8 := c1.2; omega) (by have h9 := c1.1; have h8 := c1.2; omega) c3.1 c3.2 ?_
  refine ev_icmp_eq (pc := 18) (tgt := 48) dX9_isWaitBetter_18 (by decide) (fun b4 => ?_) (fun b4 => ?_)
  · rw [if_pos b4] at h
    refine ev_aload_n (pc := 48) 0 dX9_isWaitBetter_48 rfl rfl ?_
    refine ev_getR (pc := 49) fl9_16 rfl dX9_isWaitBetter_49 rfl kd_717 (by omega) (rf_717_2 _) ?_
    refine ev_iload_n (pc := 52) 1 dX9_isWaitBetter_52 rfl rfl ?_
    refine ev_rld (pc := 53) dX9_isWaitBetter_53 (by decide) kd_728 (by omega) c1.1 c1.2 (row728_R _ c1.1 c1.2) ?_
    refine ev_iload_n (pc := 54) 2 dX9_isWaitBetter_54 rfl rfl ?_
    refine ev_iconst (pc := 55) (x := 1) dX9_isWaitBetter_55 ci_1 ?_
    refine ev_iadd (pc := 56) dX9_isWaitBetter_56 ?_
    refine ev_ildc (pc := 57) dX9_isWaitBetter_57 (row728_K c1.1 c1.2) (by have h9 := c1.1; have h8 := c1.2; omega) (by have h9 := c1.1; have h8 := c1.2; omega) c2.1 c2.2 ?_
    refine ev_aload_n (pc := 58) 0 dX9_isWaitBetter_58 rfl rfl ?_
    refine ev_getR (pc := 59) fl9_16 rfl dX9_isWaitBetter_59 rfl kd_717 (by omega) (rf_717_2 _) ?_
    refine ev_iload_n (pc := 62) 1 dX9_isWaitBetter_62 rfl rfl ?_
    refine ev_rld (pc := 63) dX9_isWaitBetter_63 (by decide) kd_728 (by omega) c1.1 c1.2 (row728_R _ c1.1 c1.2) ?_
    refine ev_iload_n (pc := 64) 2 dX9_isWaitBetter_64 rfl rfl ?_
    refine ev_ildc (pc := 65) dX9_isWaitBetter_65 (row728_K c1.1 c1.2) (by have h9 := c1.1; have h8 := c1.2; omega) (by have h9 := c1.1; have h8 := c1.2; omega) c3.1 c3.2 ?_
    refine ev_icmp_ge (pc := 66) (tgt := 73) dX9_isWaitBetter_66 (by decide) (fun b5 => ?_) (fun b5 => ?_)
    · rw [if_pos b5] at h
      refine ev_iconst (pc := 73) (x := 0) dX9_isWaitBetter_73 ci_0 ?_
      cases h
      exact ev_zret (pc := 74) (Or.inl rfl) dX9_isWaitBetter_74 rfl
    · rw [if_neg b5] at h
      refine ev_iconst (pc := 69) (x := 1) dX9_isWaitBetter_69 ci_1 ?_
      refine ev_goto (pc := 70) (tgt := 74) dX9_isWaitBetter_70 (by decide) ?_
      cases h
      exact ev_zret (pc := 74) (Or.inr rfl) dX9_isWaitBetter_74 rfl
  · rw [if_neg b4] at h
    refine ev_aload_n (pc := 21) 0 dX9_isWaitBetter_21 rfl rfl ?_
    refine ev_getR (pc := 22) fl9_11 rfl dX9_isWaitBetter_22 rfl kd_717 (by omega) (rf_717_1 _) ?_
    refine ev_iload_n (pc := 25) 1 dX9_isWaitBetter_25 rfl rfl ?_
    refine ev_rld (pc := 26) dX9_isWaitBetter_26 (by decide) kd_718 (by omega) c1.1 c1.2 (row718_R _ c1.1 c1.2) ?_
    refine ev_iload_n (pc := 27) 2 dX9_isWaitBetter_27 rfl rfl ?_
    refine ev_iconst (pc := 28) (x := 1) dX9_isWaitBetter_28 ci_1 ?_
    refine ev_iadd (pc := 29) dX9_isWaitBetter_29 ?_
    refine ev_ildc (pc := 30) dX9_isWaitBetter_30 (row718_K c1.1 c1.2) (by have h9 := c1.1; have h8 := c1.2; omega) (by have h9 := c1.1; have h8 := c1.2; omega) c2.1 c2.2 ?_
    refine ev_aload_n (pc := 31) 0 dX9_isWaitBetter_31 rfl rfl ?_
    refine ev_getR (pc := 32) fl9_11 rfl dX9_isWaitBetter_32 rfl kd_717 (by omega) (rf_717_1 _) ?_
    refine ev_iload_n (pc := 35) 1 dX9_isWaitBetter_35 rfl rfl ?_
    refine ev_rld (pc := 36) dX9_isWaitBetter_36 (by decide) kd_718 (by omega) c1.1 c1.2 (row718_R _ c1.1 c1.2) ?_
    refine ev_iload_n (pc := 37) 2 dX9_isWaitBetter_37 rfl rfl ?_
    refine ev_ildc (pc := 38) dX9_isWaitBetter_38 (row718_K c1.1 c1.2) (by have h9 := c1.1; have h8 := c1.2; omega) (by have h9 := c1.1; have h8 := c1.2; omega) c3.1 c3.2 ?_
    refine ev_icmp_ge (pc := 39) (tgt := 46) dX9_isWaitBetter_39 (by decide) (fun b6 => ?_) (fun b6 => ?_)
    · rw [if_pos b6] at h
      refine ev_iconst (pc := 46) (x := 0) dX9_isWaitBetter_46 ci_0 ?_
      cases h
      exact ev_zret (pc := 47) (Or.inl rfl) dX9_isWaitBetter_47 rfl
    · rw [if_neg b6] at h
      refine ev_iconst (pc := 42) (x := 1) dX9_isWaitBetter_42 ci_1 ?_
      refine ev_goto (pc := 43) (tgt := 47) dX9_isWaitBetter_43 (by decide) ?_
      cases h
      exact ev_zret (pc := 47) (Or.inr rfl) dX9_isWaitBetter_47 rfl
def f_X9_plan_L9 : Nat → Int → Int → Int → Int → Int → Int → Int → Mem → Option (Mem)
  | 0, _, _, _, _, _, _, _, _ => none
  | n + 1, p0, x2, x3, x4, x5, x6, x7, M => if x5 < x7 then (some M) else (ck (0 ≤ x4 ∧ x4 < 9) (ck (0 ≤ x7 ∧ x7 < 49) (lt (upM M (719 + x4) x7 0) fun M4 => lt (upM M4 (729 + x4) x7 x7) fun M5 => f_X9_plan_L9 n p0 x2 x3 x4 x5 x6 (wI (x7 + 1)) M5)))
set_option maxRecDepth 100000 in
set_option maxHeartbeats 4000000 in
theorem e_X9_plan_L9 {g : Gm} {d : Nat} {p0 : Int} {x2 x3 x4 x5 x6 : Int} {r : Vv} {σ' : Sg} {N : Mem} (hd : 3 ≤ d) (hp0 : isSea p0) : ∀ (n : Nat) {x7 : Int} {M : Mem} {q : Mem}, f_X9_plan_L9 n p0 x2 x3 x4 x5 x6 x7 M = some q → Ev g d mtX9_plan 45 [(0, vR 717), (1, vR p0), (2, vI x2), (3, vI x3), (4, vI x4), (5, vI x5), (6, vI x6)] [] (sg (mx q N)) (0, 0) r σ' → Ev g d mtX9_plan 9 [(0, vR 717), (1, vR p0), (2, vI x2), (3, vI x3), (4, vI x4), (5, vI x5), (6, vI x6), (7, vI x7)] [] (sg (mx M N)) (0, 0) r σ' := by
  intro n
  induction n with
  | zero =>
    intro x7 M q h hk0
    rw [f_X9_plan_L9.eq_1] at h
    cases h
  | succ n ih =>
    intro x7 M q h hk0
    rw [f_X9_plan_L9.eq_2] at h
    refine ev_iload (pc := 9) 7 dX9_plan_9 rfl ?_
    refine ev_iload (pc := 11) 5 dX9_plan_11 rfl ?_
    refine ev_icmp_gt (pc := 13) (tgt := 45) dX9_plan_13 (by decide) (fun b1 => ?_) (fun b1 => ?_)
    · rw [if_pos b1] at h
      cases h
      refine ev_pick [0, 1, 2, 3, 4, 5, 6] rfl ?_
      exact hk0
    · rw [if_neg b1] at h
      refine ev_aload_n (pc := 16) 0 dX9_plan_16 rfl rfl ?_
      refine ev_getR (pc := 17) fl9_11 rfl dX9_plan_17 rfl kd_717 (by omega) (rf_717_1 _) ?_
      refine ev_iload (pc := 20) 4 dX9_plan_20 rfl ?_
      obtain ⟨c2, h⟩ := ck_some h
      refine ev_rld (pc := 22) dX9_plan_22 (by decide) kd_718 (by omega) c2.1 c2.2 (row718_R _ c2.1 c2.2) ?_
      refine ev_iload (pc := 23) 7 dX9_plan_23 rfl ?_
      refine ev_iconst (pc := 25) (x := 0) dX9_plan_25 ci_0 ?_
      obtain ⟨c3, h⟩ := ck_some h
      obtain ⟨M4, eM4, h⟩ := lt_some h
      refine ev_istc (pc := 26) dX9_plan_26 (row718_K c2.1 c2.2) (by have h9 := c2.1; have h8 := c2.2; omega) (by have h9 := c2.1; have h8 := c2.2; omega) c3.1 c3.2 eM4 ?_
      refine ev_aload_n (pc := 27) 0 dX9_plan_27 rfl rfl ?_
      refine ev_getR (pc := 28) fl9_16 rfl dX9_plan_28 rfl kd_717 (by omega) (rf_717_2 _) ?_
      refine ev_iload (pc := 31) 4 dX9_plan_31 rfl ?_
      refine ev_rld (pc := 33) dX9_plan_33 (by decide) kd_728 (by omega) c2.1 c2.2 (row728_R _ c2.1 c2.2) ?_
      refine ev_iload (pc := 34) 7 dX9_plan_34 rfl ?_
      refine ev_iload (pc := 36) 7 dX9_plan_36 rfl ?_
      obtain ⟨M5, eM5, h⟩ := lt_some h
      refine ev_istc (pc := 38) dX9_plan_38 (row728_K c2.1 c2.2) (by have h9 := c2.1; have h8 := c2.2; omega) (by have h9 := c2.1; have h8 := c2.2; omega) c3.1 c3.2 eM5 ?_
      refine ev_iinc (pc := 39) (il' := [(7, vI (wI (x7 + 1))), (0, vR 717), (1, vR p0), (2, vI x2), (3, vI x3), (4, vI x4), (5, vI x5), (6, vI x6)]) 7 dX9_plan_39 rfl (Nat.le_of_ble_eq_true rfl) rfl rfl ?_
      refine ev_goto (pc := 42) (tgt := 9) dX9_plan_42 (by decide) ?_
      refine ev_pick [1, 2, 3, 4, 5, 6, 7, 0] rfl ?_
      exact ih h hk0
def f_X9_plan_L70 : Nat → Int → Int → Int → Int → Int → Int → Int → Int → Int → Mem → Option (Mem)
  | 0, _, _, _, _, _, _, _, _, _, _ => none
  | n + 1, p0, x2, x3, x4, x5, x6, x7, x8, x9, M => if x9 < 0 then (some M) else (lt (upM M p0 11 (wI (x6 + x9))) fun M9 => ck (0 ≤ x7 ∧ x7 < 9) ((f_X2_takes n p0 (wI (x3 + x7)) x2 M9).bind fun q11 => ck (0 ≤ (wI (x7 + 1)) ∧ (wI (x7 + 1)) < 9) (ck (0 ≤ (wI (x9 + 1)) ∧ (wI (x9 + 1)) < 49) (ck (0 ≤ x9 ∧ x9 < 49) (lt (upM q11.2 (719 + x7) x9 (wI (q11.1 + (q11.2 (719 + (wI (x7 + 1))) (wI (x9 + 1)))))) fun M15 => lt (upM M15 (729 + x7) x9 (M15 (729 + (wI (x7 + 1))) (wI (x9 + 1)))) fun M16 => lt (upM M16 (739 + x7) x9 x9) fun M17 => if x8 ≤ x9 then (f_X9_plan_L70 n p0 x2 x3 x4 x5 x6 x7 x8 (wI (x9 + (-1))) M17) else ((f_X9_isWaitBetter x7 x9 M17).bind fun q19 => if q19 = 0 then (f_X9_plan_L70 n p0 x2 x3 x4 x5 x6 x7 x8 (wI (x9 + (-1))) M17) else (lt (upM M17 (719 + x7) x9 (M17 (719 + x7) (wI (x9 + 1)))) fun M21 => lt (upM M21 (729 + x7) x9 (M21 (729 + x7) (wI (x9 + 1)))) fun M22 => lt (upM M22 (739 + x7) x9 (M22 (739 + x7) (wI (x9 + 1)))) fun M23 => f_X9_plan_L70 n p0 x2 x3 x4 x5 x6 x7 x8 (wI (x9 + (-1))) M23)))))))
set_option maxRecDepth 100000 in
set_option maxHeartbeats 4000000 in
theorem e_X9_plan_L70 {g : Gm} {d : Nat} {p0 : Int} {x2 x3 x4 x5 x6 x7 x8 : Int} {r : Vv} {σ' : Sg} {N : Mem} (hd : 3 ≤ d) (hp0 : isSea p0) : ∀ (n : Nat) {x9 : Int} {M : Mem} {q : Mem}, f_X9_plan_L70 n p0 x2 x3 x4 x5 x6 x7 x8 x9 M = some q → Ev g d mtX9_plan 248 [(0, vR 717), (1, vR p0), (2, vI x2), (3, vI x3), (4, vI x4), (5, vI x5), (6, vI x6), (7, vI x7)] [] (sg (mx q N)) (0, 0) r σ' → Ev g d mtX9_plan 70 [(0, vR 717), (1, vR p0), (2, vI x2), (3, vI x3), (4, vI x4), (5, vI x5), (6, vI x6), (7, vI x7), (8, vI x8), (9, vI x9)] [] (sg (mx M N)) (0, 0) r σ' := by
  intro n
  induction n with
  | zero =>
    intro x9 M q h hk0
    rw [f_X9_plan_L70.eq_1] at h
    cases h
  | succ n ih =>
    intro x9 M q h hk0
    rw [f_X9_plan_L70.eq_2] at h
    refine ev_iload (pc := 70) 9 dX9_plan_70 rfl ?_
    refine ev_if_lt (pc := 72) (tgt := 248) dX9_plan_72 (by decide) (fun b8 => ?_) (fun b8 => ?_)
    · rw [if_pos b8] at h
      cases h
      refine ev_pick [0, 1, 2, 3, 4, 5, 6, 7] rfl ?_
      exact hk0
    · rw [if_neg b8] at h
      refine ev_aload_n (pc := 75) 1 dX9_plan_75 rfl rfl ?_
      refine ev_iload (pc := 76) 6 dX9_plan_76 rfl ?_
      refine ev_iload (pc := 78) 9 dX9_plan_78 rfl ?_
      refine ev_iadd (pc := 80) dX9_plan_80 ?_
      obtain ⟨M9, eM9, h⟩ := lt_some h
      refine ev_putIc (pc := 81) fl9_26 rfl dX9_plan_81 (sea_k hp0) (sea_nz hp0) (sea_n9 hp0) eM9 ?_
      refine ev_aload_n (pc := 84) 0 dX9_plan_84 rfl rfl ?_
      refine ev_getR (pc := 85) fl9_11 rfl dX9_plan_85 rfl kd_717 (by omega) (rf_717_1 _) ?_
      refine ev_iload (pc := 88) 7 dX9_plan_88 rfl ?_
      obtain ⟨c10, h⟩ := ck_some h
      refine ev_rld (pc := 90) dX9_plan_90 (by decide) kd_718 (by omega) c10.1 c10.2 (row718_R _ c10.1 c10.2) ?_
      refine ev_iload (pc := 91) 9 dX9_plan_91 rfl ?_
      refine ev_aload_n (pc := 93) 0 dX9_plan_93 rfl rfl ?_
      refine ev_getR (pc := 94) fl9_22 rfl dX9_plan_94 rfl kd_717 (by omega) (rf_717_0 _) ?_
      refine ev_aload_n (pc := 97) 1 dX9_plan_97 rfl rfl ?_
      refine ev_iload_n (pc := 98) 3 dX9_plan_98 rfl rfl ?_
      refine ev_iload (pc := 99) 7 dX9_plan_99 rfl ?_
      refine ev_iadd (pc := 101) dX9_plan_101 ?_
      refine ev_iload_n (pc := 102) 2 dX9_plan_102 rfl rfl ?_
      obtain ⟨q11, hq11, h⟩ := bd h
      refine ev_cV (pc := 103) [vR p0, vI (wI (x3 + x7)), vI x2] [vI x9, vR (719 + x7)] rfl mkX2_takes ml9_32 mnX2_takes dX9_plan_103 kd_705 (by omega) rfl (Nat.le_of_ble_eq_true rfl) (by omega) rfl (e_X2_takes (d := d - 1) (v := q11.1) (M' := q11.2) (by omega) hp0 hq11) ?_
      refine ev_aload_n (pc := 106) 0 dX9_plan_106 rfl rfl ?_
      refine ev_getR (pc := 107) fl9_11 rfl dX9_plan_107 rfl kd_717 (by omega) (rf_717_1 _) ?_
      refine ev_iload (pc := 110) 7 dX9_plan_110 rfl ?_
      refine ev_iconst (pc := 112) (x := 1) dX9_plan_112 ci_1 ?_
      refine ev_iadd (pc := 113) dX9_plan_113 ?_
      obtain ⟨c12, h⟩ := ck_some h
      refine ev_rld (pc := 114) dX9_plan_114 (by decide) kd_718 (by omega) c12.1 c12.2 (row718_R _ c12.1 c12.2) ?_
      refine ev_iload (pc := 115) 9 dX9_plan_115 rfl ?_
      refine ev_iconst (pc := 117) (x := 1) dX9_plan_117 ci_1 ?_
      refine ev_iadd (pc := 118) dX9_plan_118 ?_
      obtain ⟨c13, h⟩ := ck_some h
      refine ev_ildc (pc := 119) dX9_plan_119 (row718_K c12.1 c12.2) (by have h9 := c12.1; have h8 := c12.2; omega) (by have h9 := c12.1; have h8 := c12.2; omega) c13.1 c13.2 ?_
      refine ev_iadd (pc := 120) dX9_plan_120 ?_
      obtain ⟨c14, h⟩ := ck_some h
      obtain ⟨M15, eM15, h⟩ := lt_some h
      refine ev_istc (pc := 121) dX9_plan_121 (row718_K c10.1 c10.2) (by have h9 := c10.1; have h8 := c10.2; omega) (by have h9 := c10.1; have h8 := c10.2; omega) c14.1 c14.2 eM15 ?_
      refine ev_aload_n (pc := 122) 0 dX9_plan_122 rfl rfl ?_
      refine ev_getR (pc := 123) fl9_16 rfl dX9_plan_123 rfl kd_717 (by omega) (rf_717_2 _) ?_
      refine ev_iload (pc := 126) 7 dX9_plan_126 rfl ?_
      refine ev_rld (pc := 128) dX9_plan_128 (by decide) kd_728 (by omega) c10.1 c10.2 (row728_R _ c10.1 c10.2) ?_
      refine ev_iload (pc := 129) 9 dX9_plan_129 rfl ?_
      refine ev_aload_n (pc := 131) 0 dX9_plan_131 rfl rfl ?_
      refine ev_getR (pc := 132) fl9_16 rfl dX9_plan_132 rfl kd_717 (by omega) (rf_717_2 _) ?_
      refine ev_iload (pc := 135) 7 dX9_plan_135 rfl ?_
      refine ev_iconst (pc := 137) (x := 1) dX9_plan_137 ci_1 ?_
      refine ev_iadd (pc := 138) dX9_plan_138 ?_
      refine ev_rld (pc := 139) dX9_plan_139 (by decide) kd_728 (by omega) c12.1 c12.2 (row728_R _ c12.1 c12.2) ?_
      refine ev_iload (pc := 140) 9 dX9_plan_140 rfl ?_
      refine ev_iconst (pc := 142) (x := 1) dX9_plan_142 ci_1 ?_
      refine ev_iadd (pc := 143) dX9_plan_143 ?_
      refine ev_ildc (pc := 144) dX9_plan_144 (row728_K c12.1 c12.2) (by have h9 := c12.1; have h8 := c12.2; omega) (by have h9 := c12.1; have h8 := c12.2; omega) c13.1 c13.2 ?_
      obtain ⟨M16, eM16, h⟩ := lt_some h
      refine ev_istc (pc := 145) dX9_plan_145 (row728_K c10.1 c10.2) (by have h9 := c10.1; have h8 := c10.2; omega) (by have h9 := c10.1; have h8 := c10.2; omega) c14.1 c14.2 eM16 ?_
      refine ev_aload_n (pc := 146) 0 dX9_plan_146 rfl rfl ?_
      refine ev_getR (pc := 147) fl9_19 rfl dX9_plan_147 rfl kd_717 (by omega) (rf_717_3 _) ?_
      refine ev_iload (pc := 150) 7 dX9_plan_150 rfl ?_
      refine ev_rld (pc := 152) dX9_plan_152 (by decide) kd_738 (by omega) c10.1 c10.2 (row738_R _ c10.1 c10.2) ?_
      refine ev_iload (pc := 153) 9 dX9_plan_153 rfl ?_
      refine ev_iload (pc := 155) 9 dX9_plan_155 rfl ?_
      obtain ⟨M17, eM17, h⟩ := lt_some h
      refine ev_istc (pc := 157) dX9_plan_157 (row738_K c10.1 c10.2) (by have h9 := c10.1; have h8 := c10.2; omega) (by have h9 := c10.1; have h8 := c10.2; omega) c14.1 c14.2 eM17 ?_
      refine ev_iload (pc := 158) 9 dX9_plan_158 rfl ?_
      refine ev_iload (pc := 160) 8 dX9_plan_160 rfl ?_
      refine ev_icmp_ge (pc := 162) (tgt := 242) dX9_plan_162 (by decide) (fun b18 => ?_) (fun b18 => ?_)
      · rw [if_pos b18] at h
        refine ev_iinc (pc := 242) (il' := [(9, vI (wI (x9 + (-1)))), (0, vR 717), (1, vR p0), (2, vI x2), (3, vI x3), (4, vI x4), (5, vI x5), (6, vI x6), (7, vI x7), (8, vI x8)]) 9 dX9_plan_242 rfl (Nat.le_of_ble_eq_true rfl) rfl rfl ?_
        refine ev_goto (pc := 245) (tgt := 70) dX9_plan_245 (by decide) ?_
        refine ev_pick [1, 2, 3, 4, 5, 6, 7, 8, 9, 0] rfl ?_
        exact ih h hk0
      · rw [if_neg b18] at h
        refine ev_aload_n (pc := 165) 0 dX9_plan_165 rfl rfl ?_
        refine ev_iload (pc := 166) 7 dX9_plan_166 rfl ?_
        refine ev_iload (pc := 168) 9 dX9_plan_168 rfl ?_
        obtain ⟨q19, hq19, h⟩ := bd h
        refine ev_cV (pc := 170) [vI x7, vI x9] [] rfl mkX9_isWaitBetter ml9_38 mnX9_isWaitBetter dX9_plan_170 kd_717 (by omega) rfl (Nat.le_of_ble_eq_true rfl) (by omega) rfl (e_X9_isWaitBetter (d := d - 1) (v := q19) (by omega)  hq19) ?_
        refine ev_if_eq (pc := 173) (tgt := 242) dX9_plan_173 (by decide) (fun b20 => ?_) (fun b20 => ?_)
        · rw [if_pos b20] at h
          refine ev_iinc (pc := 242) (il' := [(9, vI (wI (x9 + (-1)))), (0, vR 717), (1, vR p0), (2, vI x2), (3, vI x3), (4, vI x4), (5, vI x5), (6, vI x6), (7, vI x7), (8, vI x8)]) 9 dX9_plan_242 rfl (Nat.le_of_ble_eq_true rfl) rfl rfl ?_
          refine ev_goto (pc := 245) (tgt := 70) dX9_plan_245 (by decide) ?_
          refine ev_pick [1, 2, 3, 4, 5, 6, 7, 8, 9, 0] rfl ?_
          exact ih h hk0
        · rw [if_neg b20] at h
          refine ev_aload_n (pc := 176) 0 dX9_plan_176 rfl rfl ?_
          refine ev_getR (pc := 177) fl9_11 rfl dX9_plan_177 rfl kd_717 (by omega) (rf_717_1 _) ?_
          refine ev_iload (pc := 180) 7 dX9_plan_180 rfl ?_
          refine ev_rld (pc := 182) dX9_plan_182 (by decide) kd_718 (by omega) c10.1 c10.2 (row718_R _ c10.1 c10.2) ?_
          refine ev_iload (pc := 183) 9 dX9_plan_183 rfl ?_
          refine ev_aload_n (pc := 185) 0 dX9_plan_185 rfl rfl ?_
          refine ev_getR (pc := 186) fl9_11 rfl dX9_plan_186 rfl kd_717 (by omega) (rf_717_1 _) ?_
          refine ev_iload (pc := 189) 7 dX9_plan_189 rfl ?_
          refine ev_rld (pc := 191) dX9_plan_191 (by decide) kd_718 (by omega) c10.1 c10.2 (row718_R _ c10.1 c10.2) ?_
          refine ev_iload (pc := 192) 9 dX9_plan_192 rfl ?_
          refine ev_iconst (pc := 194) (x := 1) dX9_plan_194 ci_1 ?_
          refine ev_iadd (pc := 195) dX9_plan_195 ?_
          refine ev_ildc (pc := 196) dX9_plan_196 (row718_K c10.1 c10.2) (by have h9 := c10.1; have h8 := c10.2; omega) (by have h9 := c10.1; have h8 := c10.2; omega) c13.1 c13.2 ?_
          obtain ⟨M21, eM21, h⟩ := lt_some h
          refine ev_istc (pc := 197) dX9_plan_197 (row718_K c10.1 c10.2) (by have h9 := c10.1; have h8 := c10.2; omega) (by have h9 := c10.1; have h8 := c10.2; omega) c14.1 c14.2 eM21 ?_
          refine ev_aload_n (pc := 198) 0 dX9_plan_198 rfl rfl ?_
          refine ev_getR (pc := 199) fl9_16 rfl dX9_plan_199 rfl kd_717 (by omega) (rf_717_2 _) ?_
          refine ev_iload (pc := 202) 7 dX9_plan_202 rfl ?_
          refine ev_rld (pc := 204) dX9_plan_204 (by decide) kd_728 (by omega) c10.1 c10.2 (row728_R _ c10.1 c10.2) ?_
          refine ev_iload (pc := 205) 9 dX9_plan_205 rfl ?_
          refine ev_aload_n (pc := 207) 0 dX9_plan_207 rfl rfl ?_
          refine ev_getR (pc := 208) fl9_16 rfl dX9_plan_208 rfl kd_717 (by omega) (rf_717_2 _) ?_
          refine ev_iload (pc := 211) 7 dX9_plan_211 rfl ?_
          refine ev_rld (pc := 213) dX9_plan_213 (by decide) kd_728 (by omega) c10.1 c10.2 (row728_R _ c10.1 c10.2) ?_
          refine ev_iload (pc := 214) 9 dX9_plan_214 rfl ?_
          refine ev_iconst (pc := 216) (x := 1) dX9_plan_216 ci_1 ?_
          refine ev_iadd (pc := 217) dX9_plan_217 ?_
          refine ev_ildc (pc := 218) dX9_plan_218 (row728_K c10.1 c10.2) (by have h9 := c10.1; have h8 := c10.2; omega) (by have h9 := c10.1; have h8 := c10.2; omega) c13.1 c13.2 ?_
          obtain ⟨M22, eM22, h⟩ := lt_some h
          refine ev_istc (pc := 219) dX9_plan_219 (row728_K c10.1 c10.2) (by have h9 := c10.1; have h8 := c10.2; omega) (by have h9 := c10.1; have h8 := c10.2; omega) c14.1 c14.2 eM22 ?_
          refine ev_aload_n (pc := 220) 0 dX9_plan_220 rfl rfl ?_
          refine ev_getR (pc := 221) fl9_19 rfl dX9_plan_221 rfl kd_717 (by omega) (rf_717_3 _) ?_
          refine ev_iload (pc := 224) 7 dX9_plan_224 rfl ?_
          refine ev_rld (pc := 226) dX9_plan_226 (by decide) kd_738 (by omega) c10.1 c10.2 (row738_R _ c10.1 c10.2) ?_
          refine ev_iload (pc := 227) 9 dX9_plan_227 rfl ?_
          refine ev_aload_n (pc := 229) 0 dX9_plan_229 rfl rfl ?_
          refine ev_getR (pc := 230) fl9_19 rfl dX9_plan_230 rfl kd_717 (by omega) (rf_717_3 _) ?_
          refine ev_iload (pc := 233) 7 dX9_plan_233 rfl ?_
          refine ev_rld (pc := 235) dX9_plan_235 (by decide) kd_738 (by omega) c10.1 c10.2 (row738_R _ c10.1 c10.2) ?_
          refine ev_iload (pc := 236) 9 dX9_plan_236 rfl ?_
          refine ev_iconst (pc := 238) (x := 1) dX9_plan_238 ci_1 ?_
          refine ev_iadd (pc := 239) dX9_plan_239 ?_
          refine ev_ildc (pc := 240) dX9_plan_240 (row738_K c10.1 c10.2) (by have h9 := c10.1; have h8 := c10.2; omega) (by have h9 := c10.1; have h8 := c10.2; omega) c13.1 c13.2 ?_
          obtain ⟨M23, eM23, h⟩ := lt_some h
          refine ev_istc (pc := 241) dX9_plan_241 (row738_K c10.1 c10.2) (by have h9 := c10.1; have h8 := c10.2; omega) (by have h9 := c10.1; have h8 := c10.2; omega) c14.1 c14.2 eM23 ?_
          refine ev_iinc (pc := 242) (il' := [(9, vI (wI (x9 + (-1)))), (0, vR 717), (1, vR p0), (2, vI x2), (3, vI x3), (4, vI x4), (5, vI x5), (6, vI x6), (7, vI x7), (8, vI x8)]) 9 dX9_plan_242 rfl (Nat.le_of_ble_eq_true rfl) rfl rfl ?_
          refine ev_goto (pc := 245) (tgt := 70) dX9_plan_245 (by decide) ?_
          refine ev_pick [1, 2, 3, 4, 5, 6, 7, 8, 9, 0] rfl ?_
          exact ih h hk0
def f_X9_plan_L51 : Nat → Int → Int → Int → Int → Int → Int → Int → Mem → Option (Mem)
  | 0, _, _, _, _, _, _, _, _ => none
  | n + 1, p0, x2, x3, x4, x5, x6, x7, M => if x7 < 0 then (some M) else ((f_X9_plan_L70 n p0 x2 x3 x4 x5 x6 x7 (wI ((wI (x5 - x4)) + x7)) (wI ((wI (x5 - x4)) + x7)) M).bind fun q24 => f_X9_plan_L51 n p0 x2 x3 x4 x5 x6 (wI (x7 + (-1))) q24)
set_option maxRecDepth 100000 in
set_option maxHeartbeats 4000000 in
theorem e_X9_plan_L51 {g : Gm} {d : Nat} {p0 : Int} {x2 x3 x4 x5 x6 : Int} {r : Vv} {σ' : Sg} {N : Mem} (hd : 3 ≤ d) (hp0 : isSea p0) : ∀ (n : Nat) {x7 : Int} {M : Mem} {q : Mem}, f_X9_plan_L51 n p0 x2 x3 x4 x5 x6 x7 M = some q → Ev g d mtX9_plan 254 [] [] (sg (mx q N)) (0, 0) r σ' → Ev g d mtX9_plan 51 [(0, vR 717), (1, vR p0), (2, vI x2), (3, vI x3), (4, vI x4), (5, vI x5), (6, vI x6), (7, vI x7)] [] (sg (mx M N)) (0, 0) r σ' := by
  intro n
  induction n with
  | zero =>
    intro x7 M q h hk0
    rw [f_X9_plan_L51.eq_1] at h
    cases h
  | succ n ih =>
    intro x7 M q h hk0
    rw [f_X9_plan_L51.eq_2] at h
    refine ev_iload (pc := 51) 7 dX9_plan_51 rfl ?_
    refine ev_if_lt (pc := 53) (tgt := 254) dX9_plan_53 (by decide) (fun b7 => ?_) (fun b7 => ?_)
    · rw [if_pos b7] at h
      cases h
      refine ev_pick [] rfl ?_
      exact hk0
    · rw [if_neg b7] at h
      refine ev_iload (pc := 56) 5 dX9_plan_56 rfl ?_
      refine ev_iload (pc := 58) 4 dX9_plan_58 rfl ?_
      refine ev_isub (pc := 60) dX9_plan_60 ?_
      refine ev_iload (pc := 61) 7 dX9_plan_61 rfl ?_
      refine ev_iadd (pc := 63) dX9_plan_63 ?_
      refine ev_istore (pc := 64) (il' := [(8, vI (wI ((wI (x5 - x4)) + x7))), (0, vR 717), (1, vR p0), (2, vI x2), (3, vI x3), (4, vI x4), (5, vI x5), (6, vI x6), (7, vI x7)]) dX9_plan_64 (Nat.le_of_ble_eq_true rfl) rfl ?_
      refine ev_iload (pc := 66) 0 dX9_plan_66 rfl ?_
      refine ev_istore (pc := 68) (il' := [(9, vI (wI ((wI (x5 - x4)) + x7))), (8, vI (wI ((wI (x5 - x4)) + x7))), (0, vR 717), (1, vR p0), (2, vI x2), (3, vI x3), (4, vI x4), (5, vI x5), (6, vI x6), (7, vI x7)]) dX9_plan_68 (Nat.le_of_ble_eq_true rfl) rfl ?_
      obtain ⟨q24, hq24, h⟩ := bd h
      refine ev_pick [2, 3, 4, 5, 6, 7, 8, 9, 1, 0] rfl ?_
      refine e_X9_plan_L70 hd hp0 n hq24 ?_
      refine ev_iinc (pc := 248) (il' := [(7, vI (wI (x7 + (-1)))), (0, vR 717), (1, vR p0), (2, vI x2), (3, vI x3), (4, vI x4), (5, vI x5), (6, vI x6)]) 7 dX9_plan_248 rfl (Nat.le_of_ble_eq_true rfl) rfl rfl ?_
      refine ev_goto (pc := 251) (tgt := 51) dX9_plan_251 (by decide) ?_
      refine ev_pick [1, 2, 3, 4, 5, 6, 7, 0] rfl ?_
      exact ih h hk0
def f_X9_plan (n : Nat) (p0 p1 p2 p3 p4 : Int) (M : Mem) : Option (Mem) := (f_X9_plan_L9 n p0 p1 p2 p3 p4 (M p0 11) 0 M).bind fun q6 => (f_X9_plan_L51 n p0 p1 p2 p3 p4 (M p0 11) (wI (p3 - 1)) q6).bind fun q25 => some q25
set_option maxRecDepth 100000 in
set_option maxHeartbeats 4000000 in
theorem e_X9_plan {g : Gm} {d : Nat} {n : Nat} {p0 p1 p2 p3 p4 : Int} {M N : Mem} {M' : Mem} (hd : 3 ≤ d) (hp0 : isSea p0) (h : f_X9_plan n p0 p1 p2 p3 p4 M = some M') : EvM g d mtX9_plan [vR 717, vR p0, vI p1, vI p2, vI p3, vI p4] (sg (mx M N)) (0, 0) vN (sg (mx M' N)) := by
  unfold f_X9_plan at h
  refine EvM.of mkX9_plan.2.2.2.1 (Nat.le_of_ble_eq_true rfl) ?_
  change Ev g d mtX9_plan 0 [(0, vR 717), (1, vR p0), (2, vI p1), (3, vI p2), (4, vI p3), (5, vI p4)] [] (sg (mx M N)) (0, 0) vN (sg (mx M' N))
  refine ev_aload_n (pc := 0) 1 dX9_plan_0 rfl rfl ?_
  refine ev_getIc (pc := 1) fl9_26 rfl dX9_plan_1 rfl (sea_k hp0) (sea_nz hp0) (sea_n9 hp0) 11 rfl ?_
  refine ev_istore (pc := 4) (il' := [(6, vI (M p0 11)), (0, vR 717), (1, vR p0), (2, vI p1), (3, vI p2), (4, vI p3), (5, vI p4)]) dX9_plan_4 (Nat.le_of_ble_eq_true rfl) rfl ?_
  refine ev_iconst (pc := 6) (x := 0) dX9_plan_6 ci_0 ?_
  refine ev_istore (pc := 7) (il' := [(7, vI 0), (6, vI (M p0 11)), (0, vR 717), (1, vR p0), (2, vI p1), (3, vI p2), (4, vI p3), (5, vI p4)]) dX9_plan_7 (Nat.le_of_ble_eq_true rfl) rfl ?_
  obtain ⟨q6, hq6, h⟩ := bd h
  refine ev_pick [2, 3, 4, 5, 6, 7, 1, 0] rfl ?_
  refine e_X9_plan_L9 hd hp0 n hq6 ?_
  refine ev_iload (pc := 45) 4 dX9_plan_45 rfl ?_
  refine ev_iconst (pc := 47) (x := 1) dX9_plan_47 ci_1 ?_
  refine ev_isub (pc := 48) dX9_plan_48 ?_
  refine ev_istore (pc := 49) (il' := [(7, vI (wI (p3 - 1))), (0, vR 717), (1, vR p0), (2, vI p1), (3, vI p2), (4, vI p3), (5, vI p4), (6, vI (M p0 11))]) dX9_plan_49 (Nat.le_of_ble_eq_true rfl) rfl ?_
  obtain ⟨q25, hq25, h⟩ := bd h
  refine ev_pick [1, 2, 3, 4, 5, 6, 7, 0] rfl ?_
  refine e_X9_plan_L51 hd hp0 n hq25 ?_
  cases h
  exact ev_vret (pc := 254) dX9_plan_254 rfl
def f_X9_hoursAheadOf_L11 : Nat → Int → Int → Int → Mem → Option (Int)
  | 0, _, _, _, _ => none
  | n + 1, x1, x2, x3, M => if x1 < x3 then (some x2) else (ck (0 ≤ x3 ∧ x3 < 9) (ck (0 ≤ (wI (x2 + 1)) ∧ (wI (x2 + 1)) < 49) (f_X9_hoursAheadOf_L11 n x1 (M (739 + x3) (wI (x2 + 1))) (wI (x3 + 1)) M)))
set_option maxRecDepth 100000 in
set_option maxHeartbeats 4000000 in
theorem e_X9_hoursAheadOf_L11 {g : Gm} {d : Nat} {x1 : Int} {r : Vv} {σ' : Sg} {M N : Mem} (hd : 0 ≤ d) : ∀ (n : Nat) {x2 x3 : Int} {q : Int}, f_X9_hoursAheadOf_L11 n x1 x2 x3 M = some q → Ev g d mtX9_hoursAheadOf 33 [(2, vI q)] [] (sg (mx M N)) (0, 0) r σ' → Ev g d mtX9_hoursAheadOf 11 [(0, vR 717), (1, vI x1), (2, vI x2), (3, vI x3)] [] (sg (mx M N)) (0, 0) r σ' := by
  intro n
  induction n with
  | zero =>
    intro x2 x3 q h hk0
    rw [f_X9_hoursAheadOf_L11.eq_1] at h
    cases h
  | succ n ih =>
    intro x2 x3 q h hk0
    rw [f_X9_hoursAheadOf_L11.eq_2] at h
    refine ev_iload_n (pc := 11) 3 dX9_hoursAheadOf_11 rfl rfl ?_
    refine ev_iload_n (pc := 12) 1 dX9_hoursAheadOf_12 rfl rfl ?_
    refine ev_icmp_gt (pc := 13) (tgt := 33) dX9_hoursAheadOf_13 (by decide) (fun b1 => ?_) (fun b1 => ?_)
    · rw [if_pos b1] at h
      cases h
      refine ev_pick [2] rfl ?_
      exact hk0
    · rw [if_neg b1] at h
      refine ev_aload_n (pc := 16) 0 dX9_hoursAheadOf_16 rfl rfl ?_
      refine ev_getR (pc := 17) fl9_19 rfl dX9_hoursAheadOf_17 rfl kd_717 (by omega) (rf_717_3 _) ?_
      refine ev_iload_n (pc := 20) 3 dX9_hoursAheadOf_20 rfl rfl ?_
      obtain ⟨c2, h⟩ := ck_some h
      refine ev_rld (pc := 21) dX9_hoursAheadOf_21 (by decide) kd_738 (by omega) c2.1 c2.2 (row738_R _ c2.1 c2.2) ?_
      refine ev_iload_n (pc := 22) 2 dX9_hoursAheadOf_22 rfl rfl ?_
      refine ev_iconst (pc := 23) (x := 1) dX9_hoursAheadOf_23 ci_1 ?_
      refine ev_iadd (pc := 24) dX9_hoursAheadOf_24 ?_
      obtain ⟨c3, h⟩ := ck_some h
      refine ev_ildc (pc := 25) dX9_hoursAheadOf_25 (row738_K c2.1 c2.2) (by have h9 := c2.1; have h8 := c2.2; omega) (by have h9 := c2.1; have h8 := c2.2; omega) c3.1 c3.2 ?_
      refine ev_istore_n (pc := 26) (il' := [(2, vI (M (739 + x3) (wI (x2 + 1)))), (0, vR 717), (1, vI x1), (3, vI x3)]) dX9_hoursAheadOf_26 rfl (Nat.le_of_ble_eq_true rfl) rfl ?_
      refine ev_iinc (pc := 27) (il' := [(3, vI (wI (x3 + 1))), (2, vI (M (739 + x3) (wI (x2 + 1)))), (0, vR 717), (1, vI x1)]) 3 dX9_hoursAheadOf_27 rfl (Nat.le_of_ble_eq_true rfl) rfl rfl ?_
      refine ev_goto (pc := 30) (tgt := 11) dX9_hoursAheadOf_30 (by decide) ?_
      refine ev_pick [2, 3, 1, 0] rfl ?_
      exact ih h hk0
def f_X9_hoursAheadOf (n : Nat) (p0 : Int) (M : Mem) : Option (Int) := (f_X9_hoursAheadOf_L11 n p0 (M (739 + 0) 0) 1 M).bind fun q4 => some q4
set_option maxRecDepth 100000 in
set_option maxHeartbeats 4000000 in
theorem e_X9_hoursAheadOf {g : Gm} {d : Nat} {n : Nat} {p0 : Int} {M N : Mem} {v : Int} (hd : 0 ≤ d) (h : f_X9_hoursAheadOf n p0 M = some v) : EvM g d mtX9_hoursAheadOf [vR 717, vI p0] (sg (mx M N)) (0, 0) (vI v) (sg (mx M N)) := by
  unfold f_X9_hoursAheadOf at h
  refine EvM.of mkX9_hoursAheadOf.2.2.2.1 (Nat.le_of_ble_eq_true rfl) ?_
  change Ev g d mtX9_hoursAheadOf 0 [(0, vR 717), (1, vI p0)] [] (sg (mx M N)) (0, 0) (vI v) (sg (mx M N))
  refine ev_aload_n (pc := 0) 0 dX9_hoursAheadOf_0 rfl rfl ?_
  refine ev_getR (pc := 1) fl9_19 rfl dX9_hoursAheadOf_1 rfl kd_717 (by omega) (rf_717_3 _) ?_
  refine ev_iconst (pc := 4) (x := 0) dX9_hoursAheadOf_4 ci_0 ?_
  refine ev_rld (pc := 5) dX9_hoursAheadOf_5 (by decide) kd_738 (by omega) (by omega) (by omega) (row738_R _ (by omega) (by omega)) ?_
  refine ev_iconst (pc := 6) (x := 0) dX9_hoursAheadOf_6 ci_0 ?_
  refine ev_ildc (pc := 7) dX9_hoursAheadOf_7 (row738_K (by omega) (by omega)) (by have h9 := (by omega); have h8 := (by omega); omega) (by have h9 := (by omega); have h8 := (by omega); omega) (by omega) (by omega) ?_
  refine ev_istore_n (pc := 8) (il' := [(2, vI (M (739 + 0) 0)), (0, vR 717), (1, vI p0)]) dX9_hoursAheadOf_8 rfl (Nat.le_of_ble_eq_true rfl) rfl ?_
  refine ev_iconst (pc := 9) (x := 1) dX9_hoursAheadOf_9 ci_1 ?_
  refine ev_istore_n (pc := 10) (il' := [(3, vI 1), (2, vI (M (739 + 0) 0)), (0, vR 717), (1, vI p0)]) dX9_hoursAheadOf_10 rfl (Nat.le_of_ble_eq_true rfl) rfl ?_
  obtain ⟨q4, hq4, h⟩ := bd h
  refine ev_pick [2, 3, 1, 0] rfl ?_
  refine e_X9_hoursAheadOf_L11 hd  n hq4 ?_
  refine ev_iload_n (pc := 33) 0 dX9_hoursAheadOf_33 rfl rfl ?_
  cases h
  exact ev_iret (pc := 34) dX9_hoursAheadOf_34 rfl
def f_X10_copyFrom (n : Nat) (k p0 : Int) (M : Mem) : Option (Mem) := (f_X5_copyFrom (k + 1) (p0 + 1) M).bind fun q1 => (f_X0_copyFrom n (k + 12) (p0 + 12) q1).bind fun q2 => lt (f_X7_copyFrom (k + 344) (p0 + 344) q2) fun q3 => lt (upM q3 k 3 (q3 p0 3)) fun M4 => lt (upM M4 k 4 (M4 p0 4)) fun M5 => some M5
set_option maxRecDepth 100000 in
set_option maxHeartbeats 4000000 in
theorem e_X10_copyFrom {g : Gm} {d : Nat} {n : Nat} {k p0 : Int} {M N : Mem} {M' : Mem} (hd : 4 ≤ d) (hk : isWhole k) (hp0 : isWhole p0) (h : f_X10_copyFrom n k p0 M = some M') : EvM g d mtX10_copyFrom [vR k, vR p0] (sg (mx M N)) (0, 0) vN (sg (mx M' N)) := by
  unfold f_X10_copyFrom at h
  refine EvM.of mkX10_copyFrom.2.2.2.1 (Nat.le_of_ble_eq_true rfl) ?_
  change Ev g d mtX10_copyFrom 0 [(0, vR k), (1, vR p0)] [] (sg (mx M N)) (0, 0) vN (sg (mx M' N))
  refine ev_aload_n (pc := 0) 0 dX10_copyFrom_0 rfl rfl ?_
  refine ev_getR (pc := 1) fl10_12 rfl dX10_copyFrom_1 rfl (whole_k hk) (whole_nz hk) (whole_r0 _ hk) ?_
  refine ev_aload_n (pc := 4) 1 dX10_copyFrom_4 rfl rfl ?_
  refine ev_getR (pc := 5) fl10_12 rfl dX10_copyFrom_5 rfl (whole_k hp0) (whole_nz hp0) (whole_r0 _ hp0) ?_
  obtain ⟨q1, hq1, h⟩ := bd h
  refine ev_cV0 (pc := 8) [vR (p0 + 1)] [] rfl mkX5_copyFrom ml10_36 mnX5_copyFrom dX10_copyFrom_8 (sea_k (whole_o0 hk)) (sea_nz (whole_o0 hk)) rfl (Nat.le_of_ble_eq_true rfl) (by omega) (e_X5_copyFrom (d := d - 1) (M' := q1) (by omega) (whole_o0 hk) (whole_o0 hp0) hq1) ?_
  refine ev_aload_n (pc := 11) 0 dX10_copyFrom_11 rfl rfl ?_
  refine ev_getR (pc := 12) fl10_21 rfl dX10_copyFrom_12 rfl (whole_k hk) (whole_nz hk) (whole_r1 _ hk) ?_
  refine ev_aload_n (pc := 15) 1 dX10_copyFrom_15 rfl rfl ?_
  refine ev_getR (pc := 16) fl10_21 rfl dX10_copyFrom_16 rfl (whole_k hp0) (whole_nz hp0) (whole_r1 _ hp0) ?_
  obtain ⟨q2, hq2, h⟩ := bd h
  refine ev_cV0 (pc := 19) [vR (p0 + 12)] [] rfl mkX0_copyFrom ml10_40 mnX0_copyFrom dX10_copyFrom_19 (acts_k (whole_o1 hk)) (acts_nz (whole_o1 hk)) rfl (Nat.le_of_ble_eq_true rfl) (by omega) (e_X0_copyFrom (d := d - 1) (M' := q2) (by omega) (whole_o1 hk) (whole_o1 hp0) hq2) ?_
  refine ev_aload_n (pc := 22) 0 dX10_copyFrom_22 rfl rfl ?_
  refine ev_getR (pc := 23) fl10_28 rfl dX10_copyFrom_23 rfl (whole_k hk) (whole_nz hk) (whole_r2 _ hk) ?_
  refine ev_aload_n (pc := 26) 1 dX10_copyFrom_26 rfl rfl ?_
  refine ev_getR (pc := 27) fl10_28 rfl dX10_copyFrom_27 rfl (whole_k hp0) (whole_nz hp0) (whole_r2 _ hp0) ?_
  obtain ⟨q3, hq3, h⟩ := lt_some h
  refine ev_cV0 (pc := 30) [vR (p0 + 344)] [] rfl mkX7_copyFrom ml10_43 mnX7_copyFrom dX10_copyFrom_30 (told_k (whole_o2 hk)) (told_nz (whole_o2 hk)) rfl (Nat.le_of_ble_eq_true rfl) (by omega) (e_X7_copyFrom (d := d - 1) (M' := q3) (by omega) (whole_o2 hk) (whole_o2 hp0) hq3.symm) ?_
  refine ev_aload_n (pc := 33) 0 dX10_copyFrom_33 rfl rfl ?_
  refine ev_aload_n (pc := 34) 1 dX10_copyFrom_34 rfl rfl ?_
  refine ev_getIc (pc := 35) fl10_46 rfl dX10_copyFrom_35 rfl (whole_k hp0) (whole_nz hp0) (whole_n9 hp0) 3 rfl ?_
  obtain ⟨M4, eM4, h⟩ := lt_some h
  refine ev_putIc (pc := 38) fl10_46 rfl dX10_copyFrom_38 (whole_k hk) (whole_nz hk) (whole_n9 hk) eM4 ?_
  refine ev_aload_n (pc := 41) 0 dX10_copyFrom_41 rfl rfl ?_
  refine ev_aload_n (pc := 42) 1 dX10_copyFrom_42 rfl rfl ?_
  refine ev_getIc (pc := 43) fl10_32 rfl dX10_copyFrom_43 rfl (whole_k hp0) (whole_nz hp0) (whole_n9 hp0) 4 rfl ?_
  obtain ⟨M5, eM5, h⟩ := lt_some h
  refine ev_putIc (pc := 46) fl10_32 rfl dX10_copyFrom_46 (whole_k hk) (whole_nz hk) (whole_n9 hk) eM5 ?_
  cases h
  exact ev_vret (pc := 49) dX10_copyFrom_49 rfl
def f_X11_step (p0 p1 p2 p3 : Int) (M : Mem) : Option (Int × Mem) := if (f_X11_isBetween 1 p0 99) = 0 then (some ((-1), M)) else (if (f_X11_isBetween 0 p1 99) ≠ 0 then (if (f_X11_isBetween 0 p2 999) = 0 then (some ((-1), M)) else (if (f_X11_isBetween 0 p3 999) = 0 then (some ((-1), M)) else (if (M 3 0) < 9 then ((f_X5_addStep 3 p0 p1 p2 p3 M).bind fun q6 => some (q6.1, q6.2)) else (some ((-1), M))))) else (some ((-1), M)))
set_option maxRecDepth 100000 in
set_option maxHeartbeats 4000000 in
theorem e_X11_step {g : Gm} {d : Nat} {p0 p1 p2 p3 : Int} {M N : Mem} {v : Int} {M' : Mem} (hd : 1 ≤ d) (h : f_X11_step p0 p1 p2 p3 M = some (v, M')) : EvM g d mtX11_step [vR 1, vI p0, vI p1, vI p2, vI p3] (sg (mx M N)) (0, 0) (vI v) (sg (mx M' N)) := by
  unfold f_X11_step at h
  refine EvM.of mkX11_step.2.2.2.1 (Nat.le_of_ble_eq_true rfl) ?_
  change Ev g d mtX11_step 0 [(0, vR 1), (1, vI p0), (2, vI p1), (3, vI p2), (4, vI p3)] [] (sg (mx M N)) (0, 0) (vI v) (sg (mx M' N))
  refine ev_iconst (pc := 0) (x := 1) dX11_step_0 ci_1 ?_
  refine ev_iload_n (pc := 1) 1 dX11_step_1 rfl rfl ?_
  refine ev_bipush (pc := 2) (x := 99) dX11_step_2 cb_99 ?_
  refine ev_cS (pc := 4) [vI 1, vI p0, vI 99] [] rfl mkX11_isBetween ml11_86 msX11_isBetween dX11_step_4 rfl (Nat.le_of_ble_eq_true rfl) (by omega) rfl (e_X11_isBetween (d := d - 1) (v := (f_X11_isBetween 1 p0 99)) (by omega)  rfl) ?_
  refine ev_if_eq (pc := 7) (tgt := 20) dX11_step_7 (by decide) (fun b1 => ?_) (fun b1 => ?_)
  · rw [if_pos b1] at h
    refine ev_iconst (pc := 20) (x := (-1)) dX11_step_20 ci_m1 ?_
    cases h
    exact ev_iret (pc := 21) dX11_step_21 rfl
  · rw [if_neg b1] at h
    refine ev_iconst (pc := 10) (x := 0) dX11_step_10 ci_0 ?_
    refine ev_iload_n (pc := 11) 2 dX11_step_11 rfl rfl ?_
    refine ev_bipush (pc := 12) (x := 99) dX11_step_12 cb_99 ?_
    refine ev_cS (pc := 14) [vI 0, vI p1, vI 99] [] rfl mkX11_isBetween ml11_86 msX11_isBetween dX11_step_14 rfl (Nat.le_of_ble_eq_true rfl) (by omega) rfl (e_X11_isBetween (d := d - 1) (v := (f_X11_isBetween 0 p1 99)) (by omega)  rfl) ?_
    refine ev_if_ne (pc := 17) (tgt := 22) dX11_step_17 (by decide) (fun b2 => ?_) (fun b2 => ?_)
    · rw [if_pos b2] at h
      refine ev_iconst (pc := 22) (x := 0) dX11_step_22 ci_0 ?_
      refine ev_iload_n (pc := 23) 3 dX11_step_23 rfl rfl ?_
      refine ev_sipush (pc := 24) (x := 999) dX11_step_24 cs_999 ?_
      refine ev_cS (pc := 27) [vI 0, vI p2, vI 999] [] rfl mkX11_isBetween ml11_86 msX11_isBetween dX11_step_27 rfl (Nat.le_of_ble_eq_true rfl) (by omega) rfl (e_X11_isBetween (d := d - 1) (v := (f_X11_isBetween 0 p2 999)) (by omega)  rfl) ?_
      refine ev_if_eq (pc := 30) (tgt := 57) dX11_step_30 (by decide) (fun b3 => ?_) (fun b3 => ?_)
      · rw [if_pos b3] at h
        refine ev_iconst (pc := 57) (x := (-1)) dX11_step_57 ci_m1 ?_
        cases h
        exact ev_iret (pc := 58) dX11_step_58 rfl
      · rw [if_neg b3] at h
        refine ev_iconst (pc := 33) (x := 0) dX11_step_33 ci_0 ?_
        refine ev_iload (pc := 34) 4 dX11_step_34 rfl ?_
        refine ev_sipush (pc := 36) (x := 999) dX11_step_36 cs_999 ?_
        refine ev_cS (pc := 39) [vI 0, vI p3, vI 999] [] rfl mkX11_isBetween ml11_86 msX11_isBetween dX11_step_39 rfl (Nat.le_of_ble_eq_true rfl) (by omega) rfl (e_X11_isBetween (d := d - 1) (v := (f_X11_isBetween 0 p3 999)) (by omega)  rfl) ?_
        refine ev_if_eq (pc := 42) (tgt := 57) dX11_step_42 (by decide) (fun b4 => ?_) (fun b4 => ?_)
        · rw [if_pos b4] at h
          refine ev_iconst (pc := 57) (x := (-1)) dX11_step_57 ci_m1 ?_
          cases h
          exact ev_iret (pc := 58) dX11_step_58 rfl
        · rw [if_neg b4] at h
          refine ev_aload_n (pc := 45) 0 dX11_step_45 rfl rfl ?_
          refine ev_getR (pc := 46) fl11_23 rfl dX11_step_46 rfl kd_1 (by omega) (rf_1_2 _) ?_
          refine ev_getIc (pc := 49) fl11_90 rfl dX11_step_49 rfl (sea_k sea_c3) (sea_nz sea_c3) (sea_n9 sea_c3) 0 rfl ?_
          refine ev_bipush (pc := 52) (x := 9) dX11_step_52 cb_9 ?_
          refine ev_icmp_lt (pc := 54) (tgt := 59) dX11_step_54 (by decide) (fun b5 => ?_) (fun b5 => ?_)
          · rw [if_pos b5] at h
            refine ev_aload_n (pc := 59) 0 dX11_step_59 rfl rfl ?_
            refine ev_getR (pc := 60) fl11_23 rfl dX11_step_60 rfl kd_1 (by omega) (rf_1_2 _) ?_
            refine ev_iload_n (pc := 63) 1 dX11_step_63 rfl rfl ?_
            refine ev_iload_n (pc := 64) 2 dX11_step_64 rfl rfl ?_
            refine ev_iload_n (pc := 65) 3 dX11_step_65 rfl rfl ?_
            refine ev_iload (pc := 66) 4 dX11_step_66 rfl ?_
            obtain ⟨q6, hq6, h⟩ := bd h
            refine ev_cV (pc := 68) [vI p0, vI p1, vI p2, vI p3] [] rfl mkX5_addStep ml11_94 mnX5_addStep dX11_step_68 (sea_k sea_c3) (sea_nz sea_c3) rfl (Nat.le_of_ble_eq_true rfl) (by omega) rfl (e_X5_addStep (d := d - 1) (v := q6.1) (M' := q6.2) (by omega) sea_c3 hq6) ?_
            cases h
            exact ev_iret (pc := 71) dX11_step_71 rfl
          · rw [if_neg b5] at h
            refine ev_iconst (pc := 57) (x := (-1)) dX11_step_57 ci_m1 ?_
            cases h
            exact ev_iret (pc := 58) dX11_step_58 rfl
    · rw [if_neg b2] at h
      refine ev_iconst (pc := 20) (x := (-1)) dX11_step_20 ci_m1 ?_
      cases h
      exact ev_iret (pc := 21) dX11_step_21 rfl
def f_X11_isStep (p0 : Int) (M : Mem) : Int := (f_X11_isBetween 0 p0 (wI ((M 3 0) - 1)))
set_option maxRecDepth 100000 in
set_option maxHeartbeats 4000000 in
theorem e_X11_isStep {g : Gm} {d : Nat} {p0 : Int} {M N : Mem} {v : Int} (hd : 1 ≤ d) (h : f_X11_isStep p0 M = v) : EvM g d mtX11_isStep [vR 1, vI p0] (sg (mx M N)) (0, 0) (vI v) (sg (mx M N)) := by
  unfold f_X11_isStep at h
  refine EvM.of mkX11_isStep.2.2.2.1 (Nat.le_of_ble_eq_true rfl) ?_
  change Ev g d mtX11_isStep 0 [(0, vR 1), (1, vI p0)] [] (sg (mx M N)) (0, 0) (vI v) (sg (mx M N))
  refine ev_iconst (pc := 0) (x := 0) dX11_isStep_0 ci_0 ?_
  refine ev_iload_n (pc := 1) 1 dX11_isStep_1 rfl rfl ?_
  refine ev_aload_n (pc := 2) 0 dX11_isStep_2 rfl rfl ?_
  refine ev_getR (pc := 3) fl11_23 rfl dX11_isStep_3 rfl kd_1 (by omega) (rf_1_2 _) ?_
  refine ev_getIc (pc := 6) fl11_90 rfl dX11_isStep_6 rfl (sea_k sea_c3) (sea_nz sea_c3) (sea_n9 sea_c3) 0 rfl ?_
  refine ev_iconst (pc := 9) (x := 1) dX11_isStep_9 ci_1 ?_
  refine ev_isub (pc := 10) dX11_isStep_10 ?_
  refine ev_cS (pc := 11) [vI 0, vI p0, vI (wI ((M 3 0) - 1))] [] rfl mkX11_isBetween ml11_86 msX11_isBetween dX11_isStep_11 rfl (Nat.le_of_ble_eq_true rfl) (by omega) rfl (e_X11_isBetween (d := d - 1) (v := (f_X11_isBetween 0 p0 (wI ((M 3 0) - 1)))) (by omega)  rfl) ?_
  cases h
  exact ev_zret (pc := 14) (z_X11_isBetween ..) dX11_isStep_14 rfl
theorem z_X11_isStep (p0 : Int) (M : Mem) : f_X11_isStep p0 M = 0 ∨ f_X11_isStep p0 M = 1 := by
  unfold f_X11_isStep
  all_goals first | exact Or.inl rfl | exact Or.inr rfl | exact z_X11_isBetween ..
def f_X11_isWeight (p0 : Int) : Int := (f_X11_isBetween 1 p0 99)
set_option maxRecDepth 100000 in
set_option maxHeartbeats 4000000 in
theorem e_X11_isWeight {g : Gm} {d : Nat} {p0 : Int} {M0 : Mem} {v : Int} (hd : 1 ≤ d) (h : f_X11_isWeight p0 = v) : EvM g d mtX11_isWeight [vI p0] (sg M0) (0, 0) (vI v) (sg M0) := by
  unfold f_X11_isWeight at h
  refine EvM.of mkX11_isWeight.2.2.2.1 (Nat.le_of_ble_eq_true rfl) ?_
  change Ev g d mtX11_isWeight 0 [(0, vI p0)] [] (sg M0) (0, 0) (vI v) (sg M0)
  refine ev_iconst (pc := 0) (x := 1) dX11_isWeight_0 ci_1 ?_
  refine ev_iload_n (pc := 1) 0 dX11_isWeight_1 rfl rfl ?_
  refine ev_bipush (pc := 2) (x := 99) dX11_isWeight_2 cb_99 ?_
  refine ev_cS (pc := 4) [vI 1, vI p0, vI 99] [] rfl mkX11_isBetween ml11_86 msX11_isBetween dX11_isWeight_4 rfl (Nat.le_of_ble_eq_true rfl) (by omega) rfl (e_X11_isBetween (d := d - 1) (v := (f_X11_isBetween 1 p0 99)) (by omega)  rfl) ?_
  cases h
  exact ev_zret (pc := 7) (z_X11_isBetween ..) dX11_isWeight_7 rfl
theorem z_X11_isWeight (p0 : Int) : f_X11_isWeight p0 = 0 ∨ f_X11_isWeight p0 = 1 := by
  unfold f_X11_isWeight
  all_goals first | exact Or.inl rfl | exact Or.inr rfl | exact z_X11_isBetween ..
def f_X11_ship (p0 p1 p2 : Int) (M : Mem) : Option (Int × Mem) := if (f_X11_isWeight p0) = 0 then (some ((-1), M)) else (if (f_X11_isStep p1 M) = 0 then (some ((-1), M)) else (if (f_X11_isStep p2 M) = 0 then (some ((-1), M)) else (if (M 3 6) < 7 then ((f_X5_addShip 3 p0 p1 p2 M).bind fun q5 => some (q5.1, q5.2)) else (some ((-1), M)))))
set_option maxRecDepth 100000 in
set_option maxHeartbeats 4000000 in
theorem e_X11_ship {g : Gm} {d : Nat} {p0 p1 p2 : Int} {M N : Mem} {v : Int} {M' : Mem} (hd : 2 ≤ d) (h : f_X11_ship p0 p1 p2 M = some (v, M')) : EvM g d mtX11_ship [vR 1, vI p0, vI p1, vI p2] (sg (mx M N)) (0, 0) (vI v) (sg (mx M' N)) := by
  unfold f_X11_ship at h
  refine EvM.of mkX11_ship.2.2.2.1 (Nat.le_of_ble_eq_true rfl) ?_
  change Ev g d mtX11_ship 0 [(0, vR 1), (1, vI p0), (2, vI p1), (3, vI p2)] [] (sg (mx M N)) (0, 0) (vI v) (sg (mx M' N))
  refine ev_iload_n (pc := 0) 1 dX11_ship_0 rfl rfl ?_
  refine ev_cS (pc := 1) [vI p0] [] rfl mkX11_isWeight ml11_98 msX11_isWeight dX11_ship_1 rfl (Nat.le_of_ble_eq_true rfl) (by omega) rfl (e_X11_isWeight (d := d - 1) (v := (f_X11_isWeight p0)) (by omega)  rfl) ?_
  refine ev_if_eq (pc := 4) (tgt := 35) dX11_ship_4 (by decide) (fun b1 => ?_) (fun b1 => ?_)
  · rw [if_pos b1] at h
    refine ev_iconst (pc := 35) (x := (-1)) dX11_ship_35 ci_m1 ?_
    cases h
    exact ev_iret (pc := 36) dX11_ship_36 rfl
  · rw [if_neg b1] at h
    refine ev_aload_n (pc := 7) 0 dX11_ship_7 rfl rfl ?_
    refine ev_iload_n (pc := 8) 2 dX11_ship_8 rfl rfl ?_
    refine ev_cV (pc := 9) [vI p1] [] rfl mkX11_isStep ml11_102 mnX11_isStep dX11_ship_9 kd_1 (by omega) rfl (Nat.le_of_ble_eq_true rfl) (by omega) rfl (e_X11_isStep (d := d - 1) (v := (f_X11_isStep p1 M)) (by omega)  rfl) ?_
    refine ev_if_eq (pc := 12) (tgt := 35) dX11_ship_12 (by decide) (fun b2 => ?_) (fun b2 => ?_)
    · rw [if_pos b2] at h
      refine ev_iconst (pc := 35) (x := (-1)) dX11_ship_35 ci_m1 ?_
      cases h
      exact ev_iret (pc := 36) dX11_ship_36 rfl
    · rw [if_neg b2] at h
      refine ev_aload_n (pc := 15) 0 dX11_ship_15 rfl rfl ?_
      refine ev_iload_n (pc := 16) 3 dX11_ship_16 rfl rfl ?_
      refine ev_cV (pc := 17) [vI p2] [] rfl mkX11_isStep ml11_102 mnX11_isStep dX11_ship_17 kd_1 (by omega) rfl (Nat.le_of_ble_eq_true rfl) (by omega) rfl (e_X11_isStep (d := d - 1) (v := (f_X11_isStep p2 M)) (by omega)  rfl) ?_
      refine ev_if_eq (pc := 20) (tgt := 35) dX11_ship_20 (by decide) (fun b3 => ?_) (fun b3 => ?_)
      · rw [if_pos b3] at h
        refine ev_iconst (pc := 35) (x := (-1)) dX11_ship_35 ci_m1 ?_
        cases h
        exact ev_iret (pc := 36) dX11_ship_36 rfl
      · rw [if_neg b3] at h
        refine ev_aload_n (pc := 23) 0 dX11_ship_23 rfl rfl ?_
        refine ev_getR (pc := 24) fl11_23 rfl dX11_ship_24 rfl kd_1 (by omega) (rf_1_2 _) ?_
        refine ev_getIc (pc := 27) fl11_105 rfl dX11_ship_27 rfl (sea_k sea_c3) (sea_nz sea_c3) (sea_n9 sea_c3) 6 rfl ?_
        refine ev_bipush (pc := 30) (x := 7) dX11_ship_30 cb_7 ?_
        refine ev_icmp_lt (pc := 32) (tgt := 37) dX11_ship_32 (by decide) (fun b4 => ?_) (fun b4 => ?_)
        · rw [if_pos b4] at h
          refine ev_aload_n (pc := 37) 0 dX11_ship_37 rfl rfl ?_
          refine ev_getR (pc := 38) fl11_23 rfl dX11_ship_38 rfl kd_1 (by omega) (rf_1_2 _) ?_
          refine ev_iload_n (pc := 41) 1 dX11_ship_41 rfl rfl ?_
          refine ev_iload_n (pc := 42) 2 dX11_ship_42 rfl rfl ?_
          refine ev_iload_n (pc := 43) 3 dX11_ship_43 rfl rfl ?_
          obtain ⟨q5, hq5, h⟩ := bd h
          refine ev_cV (pc := 44) [vI p0, vI p1, vI p2] [] rfl mkX5_addShip ml11_108 mnX5_addShip dX11_ship_44 (sea_k sea_c3) (sea_nz sea_c3) rfl (Nat.le_of_ble_eq_true rfl) (by omega) rfl (e_X5_addShip (d := d - 1) (v := q5.1) (M' := q5.2) (by omega) sea_c3 hq5) ?_
          cases h
          exact ev_iret (pc := 47) dX11_ship_47 rfl
        · rw [if_neg b4] at h
          refine ev_iconst (pc := 35) (x := (-1)) dX11_ship_35 ci_m1 ?_
          cases h
          exact ev_iret (pc := 36) dX11_ship_36 rfl
def f_X11_feed (n : Nat) (p0 p1 p2 p3 p4 : Int) (M : Mem) : Option (Int × Mem) := if (wI ((M 703 1) + 20)) ≤ 300 then ((f_X4_addFour n p0 M).bind fun q2 => (f_X4_addFour n p1 q2).bind fun q3 => (f_X4_addFour n p2 q3).bind fun q4 => (f_X4_addFour n p3 q4).bind fun q5 => (f_X4_addFour n p4 q5).bind fun q6 => some ((q6 703 1), q6)) else (some ((-1), M))
set_option maxRecDepth 100000 in
set_option maxHeartbeats 4000000 in
theorem e_X11_feed {g : Gm} {d : Nat} {n : Nat} {p0 p1 p2 p3 p4 : Int} {M N : Mem} {v : Int} {M' : Mem} (hd : 1 ≤ d) (h : f_X11_feed n p0 p1 p2 p3 p4 M = some (v, M')) : EvM g d mtX11_feed [vR 1, vI p0, vI p1, vI p2, vI p3, vI p4] (sg (mx M N)) (0, 0) (vI v) (sg (mx M' N)) := by
  unfold f_X11_feed at h
  refine EvM.of mkX11_feed.2.2.2.1 (Nat.le_of_ble_eq_true rfl) ?_
  change Ev g d mtX11_feed 0 [(0, vR 1), (1, vI p0), (2, vI p1), (3, vI p2), (4, vI p3), (5, vI p4)] [] (sg (mx M N)) (0, 0) (vI v) (sg (mx M' N))
  refine ev_aload_n (pc := 0) 0 dX11_feed_0 rfl rfl ?_
  refine ev_getR (pc := 1) fl11_38 rfl dX11_feed_1 rfl kd_1 (by omega) (rf_1_5 _) ?_
  refine ev_getIc (pc := 4) fl11_112 rfl dX11_feed_4 rfl kd_703 (by omega) (by omega) 1 rfl ?_
  refine ev_bipush (pc := 7) (x := 20) dX11_feed_7 cb_20 ?_
  refine ev_iadd (pc := 9) dX11_feed_9 ?_
  refine ev_sipush (pc := 10) (x := 300) dX11_feed_10 cs_300 ?_
  refine ev_icmp_le (pc := 13) (tgt := 18) dX11_feed_13 (by decide) (fun b1 => ?_) (fun b1 => ?_)
  · rw [if_pos b1] at h
    refine ev_aload_n (pc := 18) 0 dX11_feed_18 rfl rfl ?_
    refine ev_getR (pc := 19) fl11_38 rfl dX11_feed_19 rfl kd_1 (by omega) (rf_1_5 _) ?_
    refine ev_iload_n (pc := 22) 1 dX11_feed_22 rfl rfl ?_
    obtain ⟨q2, hq2, h⟩ := bd h
    refine ev_cV0 (pc := 23) [vI p0] [] rfl mkX4_addFour ml11_115 mnX4_addFour dX11_feed_23 kd_703 (by omega) rfl (Nat.le_of_ble_eq_true rfl) (by omega) (e_X4_addFour (d := d - 1) (M' := q2) (by omega)  hq2) ?_
    refine ev_aload_n (pc := 26) 0 dX11_feed_26 rfl rfl ?_
    refine ev_getR (pc := 27) fl11_38 rfl dX11_feed_27 rfl kd_1 (by omega) (rf_1_5 _) ?_
    refine ev_iload_n (pc := 30) 2 dX11_feed_30 rfl rfl ?_
    obtain ⟨q3, hq3, h⟩ := bd h
    refine ev_cV0 (pc := 31) [vI p1] [] rfl mkX4_addFour ml11_115 mnX4_addFour dX11_feed_31 kd_703 (by omega) rfl (Nat.le_of_ble_eq_true rfl) (by omega) (e_X4_addFour (d := d - 1) (M' := q3) (by omega)  hq3) ?_
    refine ev_aload_n (pc := 34) 0 dX11_feed_34 rfl rfl ?_
    refine ev_getR (pc := 35) fl11_38 rfl dX11_feed_35 rfl kd_1 (by omega) (rf_1_5 _) ?_
    refine ev_iload_n (pc := 38) 3 dX11_feed_38 rfl rfl ?_
    obtain ⟨q4, hq4, h⟩ := bd h
    refine ev_cV0 (pc := 39) [vI p2] [] rfl mkX4_addFour ml11_115 mnX4_addFour dX11_feed_39 kd_703 (by omega) rfl (Nat.le_of_ble_eq_true rfl) (by omega) (e_X4_addFour (d := d - 1) (M' := q4) (by omega)  hq4) ?_
    refine ev_aload_n (pc := 42) 0 dX11_feed_42 rfl rfl ?_
    refine ev_getR (pc := 43) fl11_38 rfl dX11_feed_43 rfl kd_1 (by omega) (rf_1_5 _) ?_
    refine ev_iload (pc := 46) 4 dX11_feed_46 rfl ?_
    obtain ⟨q5, hq5, h⟩ := bd h
    refine ev_cV0 (pc := 48) [vI p3] [] rfl mkX4_addFour ml11_115 mnX4_addFour dX11_feed_48 kd_703 (by omega) rfl (Nat.le_of_ble_eq_true rfl) (by omega) (e_X4_addFour (d := d - 1) (M' := q5) (by omega)  hq5) ?_
    refine ev_aload_n (pc := 51) 0 dX11_feed_51 rfl rfl ?_
    refine ev_getR (pc := 52) fl11_38 rfl dX11_feed_52 rfl kd_1 (by omega) (rf_1_5 _) ?_
    refine ev_iload (pc := 55) 5 dX11_feed_55 rfl ?_
    obtain ⟨q6, hq6, h⟩ := bd h
    refine ev_cV0 (pc := 57) [vI p4] [] rfl mkX4_addFour ml11_115 mnX4_addFour dX11_feed_57 kd_703 (by omega) rfl (Nat.le_of_ble_eq_true rfl) (by omega) (e_X4_addFour (d := d - 1) (M' := q6) (by omega)  hq6) ?_
    refine ev_aload_n (pc := 60) 0 dX11_feed_60 rfl rfl ?_
    refine ev_getR (pc := 61) fl11_38 rfl dX11_feed_61 rfl kd_1 (by omega) (rf_1_5 _) ?_
    refine ev_getIc (pc := 64) fl11_112 rfl dX11_feed_64 rfl kd_703 (by omega) (by omega) 1 rfl ?_
    cases h
    exact ev_iret (pc := 67) dX11_feed_67 rfl
  · rw [if_neg b1] at h
    refine ev_iconst (pc := 16) (x := (-1)) dX11_feed_16 ci_m1 ?_
    cases h
    exact ev_iret (pc := 17) dX11_feed_17 rfl
def f_X11_end (p0 : Int) (M : Mem) : Int × Mem := if (f_X11_isBetween 0 p0 (M 703 1)) ≠ 0 then (lt (upM M 703 1 p0) fun M2 => (p0, M2)) else ((-1), M)
set_option maxRecDepth 100000 in
set_option maxHeartbeats 4000000 in
theorem e_X11_end {g : Gm} {d : Nat} {p0 : Int} {M N : Mem} {v : Int} {M' : Mem} (hd : 1 ≤ d) (h : f_X11_end p0 M = (v, M')) : EvM g d mtX11_end [vR 1, vI p0] (sg (mx M N)) (0, 0) (vI v) (sg (mx M' N)) := by
  unfold f_X11_end at h
  refine EvM.of mkX11_end.2.2.2.1 (Nat.le_of_ble_eq_true rfl) ?_
  change Ev g d mtX11_end 0 [(0, vR 1), (1, vI p0)] [] (sg (mx M N)) (0, 0) (vI v) (sg (mx M' N))
  refine ev_iconst (pc := 0) (x := 0) dX11_end_0 ci_0 ?_
  refine ev_iload_n (pc := 1) 1 dX11_end_1 rfl rfl ?_
  refine ev_aload_n (pc := 2) 0 dX11_end_2 rfl rfl ?_
  refine ev_getR (pc := 3) fl11_38 rfl dX11_end_3 rfl kd_1 (by omega) (rf_1_5 _) ?_
  refine ev_getIc (pc := 6) fl11_112 rfl dX11_end_6 rfl kd_703 (by omega) (by omega) 1 rfl ?_
  refine ev_cS (pc := 9) [vI 0, vI p0, vI (M 703 1)] [] rfl mkX11_isBetween ml11_86 msX11_isBetween dX11_end_9 rfl (Nat.le_of_ble_eq_true rfl) (by omega) rfl (e_X11_isBetween (d := d - 1) (v := (f_X11_isBetween 0 p0 (M 703 1))) (by omega)  rfl) ?_
  refine ev_if_ne (pc := 12) (tgt := 17) dX11_end_12 (by decide) (fun b1 => ?_) (fun b1 => ?_)
  · rw [if_pos b1] at h
    refine ev_aload_n (pc := 17) 0 dX11_end_17 rfl rfl ?_
    refine ev_getR (pc := 18) fl11_38 rfl dX11_end_18 rfl kd_1 (by omega) (rf_1_5 _) ?_
    refine ev_iload_n (pc := 21) 1 dX11_end_21 rfl rfl ?_
    obtain ⟨M2, eM2, h⟩ := lt_some h
    refine ev_putIc (pc := 22) fl11_112 rfl dX11_end_22 kd_703 (by omega) (by omega) eM2 ?_
    refine ev_iload_n (pc := 25) 1 dX11_end_25 rfl rfl ?_
    cases h
    exact ev_iret (pc := 26) dX11_end_26 rfl
  · rw [if_neg b1] at h
    refine ev_iconst (pc := 15) (x := (-1)) dX11_end_15 ci_m1 ?_
    cases h
    exact ev_iret (pc := 16) dX11_end_16 rfl
def f_X11_text (n : Nat) (M : Mem) : Option (Int × Mem) := if (M 2 3) < 4 then (ck (0 ≤ (M 2 3) ∧ (M 2 3) < 4) ((f_X4_readInto n (773 + 7 * (M 2 3)) M).bind fun q3 => lt (upM q3.2 703 1 0) fun M4 => if q3.1 ≠ 0 then (lt (upM M4 2 3 (wI ((M4 2 3) + 1))) fun M6 => some ((wI ((M6 2 3) - 1)), M6)) else (some ((-1), M4)))) else (some ((-1), M))
set_option maxRecDepth 100000 in
set_option maxHeartbeats 4000000 in
theorem e_X11_text {g : Gm} {d : Nat} {n : Nat} {M N : Mem} {v : Int} {M' : Mem} (hd : 113 ≤ d) (h : f_X11_text n M = some (v, M')) : EvM g d mtX11_text [vR 1] (sg (mx M N)) (0, 0) (vI v) (sg (mx M' N)) := by
  unfold f_X11_text at h
  refine EvM.of mkX11_text.2.2.2.1 (Nat.le_of_ble_eq_true rfl) ?_
  change Ev g d mtX11_text 0 [(0, vR 1)] [] (sg (mx M N)) (0, 0) (vI v) (sg (mx M' N))
  refine ev_aload_n (pc := 0) 0 dX11_text_0 rfl rfl ?_
  refine ev_getR (pc := 1) fl11_12 rfl dX11_text_1 rfl kd_1 (by omega) (rf_1_0 _) ?_
  refine ev_getIc (pc := 4) fl11_119 rfl dX11_text_4 rfl (whole_k whole_c2) (whole_nz whole_c2) (whole_n9 whole_c2) 3 rfl ?_
  refine ev_iconst (pc := 7) (x := 4) dX11_text_7 ci_4 ?_
  refine ev_icmp_lt (pc := 8) (tgt := 13) dX11_text_8 (by decide) (fun b1 => ?_) (fun b1 => ?_)
  · rw [if_pos b1] at h
    refine ev_aload_n (pc := 13) 0 dX11_text_13 rfl rfl ?_
    refine ev_getR (pc := 14) fl11_38 rfl dX11_text_14 rfl kd_1 (by omega) (rf_1_5 _) ?_
    refine ev_aload_n (pc := 17) 0 dX11_text_17 rfl rfl ?_
    refine ev_getR (pc := 18) fl11_31 rfl dX11_text_18 rfl kd_1 (by omega) (rf_1_4 _) ?_
    refine ev_aload_n (pc := 21) 0 dX11_text_21 rfl rfl ?_
    refine ev_getR (pc := 22) fl11_12 rfl dX11_text_22 rfl kd_1 (by omega) (rf_1_0 _) ?_
    refine ev_getIc (pc := 25) fl11_119 rfl dX11_text_25 rfl (whole_k whole_c2) (whole_nz whole_c2) (whole_n9 whole_c2) 3 rfl ?_
    obtain ⟨c2, h⟩ := ck_some h
    refine ev_rld (pc := 28) dX11_text_28 (by decide) kd_702 (by omega) c2.1 c2.2 (txs_R _ c2.1 c2.2) ?_
    obtain ⟨q3, hq3, h⟩ := bd h
    refine ev_cV (pc := 29) [vR (773 + 7 * (M 2 3))] [] rfl mkX4_readInto ml11_121 mnX4_readInto dX11_text_29 kd_703 (by omega) rfl (Nat.le_of_ble_eq_true rfl) (by omega) rfl (e_X4_readInto (d := d - 1) (v := q3.1) (M' := q3.2) (by omega) (txs_tx c2.1 c2.2) hq3) ?_
    refine ev_istore_n (pc := 32) (il' := [(1, vI q3.1), (0, vR 1)]) dX11_text_32 rfl (Nat.le_of_ble_eq_true rfl) rfl ?_
    refine ev_aload_n (pc := 33) 1 dX11_text_33 rfl rfl ?_
    refine ev_getR (pc := 34) fl11_38 rfl dX11_text_34 rfl kd_1 (by omega) (rf_1_5 _) ?_
    refine ev_iconst (pc := 37) (x := 0) dX11_text_37 ci_0 ?_
    obtain ⟨M4, eM4, h⟩ := lt_some h
    refine ev_putIc (pc := 38) fl11_112 rfl dX11_text_38 kd_703 (by omega) (by omega) eM4 ?_
    refine ev_iload_n (pc := 41) 0 dX11_text_41 rfl rfl ?_
    refine ev_if_ne (pc := 42) (tgt := 47) dX11_text_42 (by decide) (fun b5 => ?_) (fun b5 => ?_)
    · rw [if_pos b5] at h
      refine ev_aload_n (pc := 47) 1 dX11_text_47 rfl rfl ?_
      refine ev_getR (pc := 48) fl11_12 rfl dX11_text_48 rfl kd_1 (by omega) (rf_1_0 _) ?_
      refine ev_dup (pc := 51) rfl dX11_text_51 ?_
      refine ev_getIc (pc := 52) fl11_119 rfl dX11_text_52 rfl (whole_k whole_c2) (whole_nz whole_c2) (whole_n9 whole_c2) 3 rfl ?_
      refine ev_iconst (pc := 55) (x := 1) dX11_text_55 ci_1 ?_
      refine ev_iadd (pc := 56) dX11_text_56 ?_
      obtain ⟨M6, eM6, h⟩ := lt_some h
      refine ev_putIc (pc := 57) fl11_119 rfl dX11_text_57 (whole_k whole_c2) (whole_nz whole_c2) (whole_n9 whole_c2) eM6 ?_
      refine ev_aload_n (pc := 60) 1 dX11_text_60 rfl rfl ?_
      refine ev_getR (pc := 61) fl11_12 rfl dX11_text_61 rfl kd_1 (by omega) (rf_1_0 _) ?_
      refine ev_getIc (pc := 64) fl11_119 rfl dX11_text_64 rfl (whole_k whole_c2) (whole_nz whole_c2) (whole_n9 whole_c2) 3 rfl ?_
      refine ev_iconst (pc := 67) (x := 1) dX11_text_67 ci_1 ?_
      refine ev_isub (pc := 68) dX11_text_68 ?_
      cases h
      exact ev_iret (pc := 69) dX11_text_69 rfl
    · rw [if_neg b5] at h
      refine ev_iconst (pc := 45) (x := (-1)) dX11_text_45 ci_m1 ?_
      cases h
      exact ev_iret (pc := 46) dX11_text_46 rfl
  · rw [if_neg b1] at h
    refine ev_iconst (pc := 11) (x := (-1)) dX11_text_11 ci_m1 ?_
    cases h
    exact ev_iret (pc := 12) dX11_text_12 rfl
def f_X11_fault (p0 : Int) (M : Mem) : Int := (if p0 = 0 then (M 703 2) else (if p0 = 1 then (M 703 3) else (-1)))
set_option maxRecDepth 100000 in
set_option maxHeartbeats 4000000 in
theorem e_X11_fault {g : Gm} {d : Nat} {p0 : Int} {M N : Mem} {v : Int} (hd : 0 ≤ d) (h : f_X11_fault p0 M = v) : EvM g d mtX11_fault [vR 1, vI p0] (sg (mx M N)) (0, 0) (vI v) (sg (mx M N)) := by
  unfold f_X11_fault at h
  refine EvM.of mkX11_fault.2.2.2.1 (Nat.le_of_ble_eq_true rfl) ?_
  change Ev g d mtX11_fault 0 [(0, vR 1), (1, vI p0)] [] (sg (mx M N)) (0, 0) (vI v) (sg (mx M N))
  refine ev_iload_n (pc := 0) 1 dX11_fault_0 rfl rfl ?_
  by_cases b1 : p0 = 0
  · rw [if_pos b1] at h
    refine ev_lsw (pc := 1) (tgt := 28) dX11_fault_1 (by decide) (by rw [b1] <;> rfl) (by decide) ?_
    refine ev_aload_n (pc := 28) 0 dX11_fault_28 rfl rfl ?_
    refine ev_getR (pc := 29) fl11_38 rfl dX11_fault_29 rfl kd_1 (by omega) (rf_1_5 _) ?_
    refine ev_getIc (pc := 32) fl11_125 rfl dX11_fault_32 rfl kd_703 (by omega) (by omega) 2 rfl ?_
    cases h
    exact ev_iret (pc := 35) dX11_fault_35 rfl
  · rw [if_neg b1] at h
    by_cases b2 : p0 = 1
    · rw [if_pos b2] at h
      refine ev_lsw (pc := 1) (tgt := 36) dX11_fault_1 (by decide) (by rw [b2] <;> rfl) (by decide) ?_
      refine ev_aload_n (pc := 36) 0 dX11_fault_36 rfl rfl ?_
      refine ev_getR (pc := 37) fl11_38 rfl dX11_fault_37 rfl kd_1 (by omega) (rf_1_5 _) ?_
      refine ev_getIc (pc := 40) fl11_128 rfl dX11_fault_40 rfl kd_703 (by omega) (by omega) 3 rfl ?_
      cases h
      exact ev_iret (pc := 43) dX11_fault_43 rfl
    · rw [if_neg b2] at h
      refine ev_lsw (pc := 1) (tgt := 44) (off := 43) dX11_fault_1 (by decide) (by show Op.lookupswitch.offset [(0, 27), (1, 35)] 43 _ = _; rw [Op.lookupswitch.offset_cons, if_neg (by omega), Op.lookupswitch.offset_cons, if_neg (by omega), Op.lookupswitch.offset_nil]) (by decide) ?_
      refine ev_iconst (pc := 44) (x := (-1)) dX11_fault_44 ci_m1 ?_
      cases h
      exact ev_iret (pc := 45) dX11_fault_45 rfl
def f_X11_isText (p0 : Int) (M : Mem) : Int := (f_X11_isBetween 0 p0 (wI ((M 2 3) - 1)))
set_option maxRecDepth 100000 in
set_option maxHeartbeats 4000000 in
theorem e_X11_isText {g : Gm} {d : Nat} {p0 : Int} {M N : Mem} {v : Int} (hd : 1 ≤ d) (h : f_X11_isText p0 M = v) : EvM g d mtX11_isText [vR 1, vI p0] (sg (mx M N)) (0, 0) (vI v) (sg (mx M N)) := by
  unfold f_X11_isText at h
  refine EvM.of mkX11_isText.2.2.2.1 (Nat.le_of_ble_eq_true rfl) ?_
  change Ev g d mtX11_isText 0 [(0, vR 1), (1, vI p0)] [] (sg (mx M N)) (0, 0) (vI v) (sg (mx M N))
  refine ev_iconst (pc := 0) (x := 0) dX11_isText_0 ci_0 ?_
  refine ev_iload_n (pc := 1) 1 dX11_isText_1 rfl rfl ?_
  refine ev_aload_n (pc := 2) 0 dX11_isText_2 rfl rfl ?_
  refine ev_getR (pc := 3) fl11_12 rfl dX11_isText_3 rfl kd_1 (by omega) (rf_1_0 _) ?_
  refine ev_getIc (pc := 6) fl11_119 rfl dX11_isText_6 rfl (whole_k whole_c2) (whole_nz whole_c2) (whole_n9 whole_c2) 3 rfl ?_
  refine ev_iconst (pc := 9) (x := 1) dX11_isText_9 ci_1 ?_
  refine ev_isub (pc := 10) dX11_isText_10 ?_
  refine ev_cS (pc := 11) [vI 0, vI p0, vI (wI ((M 2 3) - 1))] [] rfl mkX11_isBetween ml11_86 msX11_isBetween dX11_isText_11 rfl (Nat.le_of_ble_eq_true rfl) (by omega) rfl (e_X11_isBetween (d := d - 1) (v := (f_X11_isBetween 0 p0 (wI ((M 2 3) - 1)))) (by omega)  rfl) ?_
  cases h
  exact ev_zret (pc := 14) (z_X11_isBetween ..) dX11_isText_14 rfl
theorem z_X11_isText (p0 : Int) (M : Mem) : f_X11_isText p0 M = 0 ∨ f_X11_isText p0 M = 1 := by
  unfold f_X11_isText
  all_goals first | exact Or.inl rfl | exact Or.inr rfl | exact z_X11_isBetween ..
def f_X11_chooseRuler (M : Mem) : Option (Mem) := if (f_X11_isText (M 2 4) M) = 0 then (lt (upM M 0 0 706) fun M2 => some M2) else (ck (0 ≤ (M 2 4) ∧ (M 2 4) < 4) (lt (upM M 0 0 (773 + 7 * (M 2 4))) fun M4 => some M4))
set_option maxRecDepth 100000 in
set_option maxHeartbeats 4000000 in
theorem e_X11_chooseRuler {g : Gm} {d : Nat} {M N : Mem} {M' : Mem} (hd : 2 ≤ d) (h : f_X11_chooseRuler M = some M') : EvM g d mtX11_chooseRuler [vR 1] (sg (mx M N)) (0, 0) vN (sg (mx M' N)) := by
  unfold f_X11_chooseRuler at h
  refine EvM.of mkX11_chooseRuler.2.2.2.1 (Nat.le_of_ble_eq_true rfl) ?_
  change Ev g d mtX11_chooseRuler 0 [(0, vR 1)] [] (sg (mx M N)) (0, 0) vN (sg (mx M' N))
  refine ev_aload_n (pc := 0) 0 dX11_chooseRuler_0 rfl rfl ?_
  refine ev_getR (pc := 1) fl11_45 rfl dX11_chooseRuler_1 rfl kd_1 (by omega) (rf_1_6 _) ?_
  refine ev_aload_n (pc := 4) 0 dX11_chooseRuler_4 rfl rfl ?_
  refine ev_aload_n (pc := 5) 0 dX11_chooseRuler_5 rfl rfl ?_
  refine ev_getR (pc := 6) fl11_12 rfl dX11_chooseRuler_6 rfl kd_1 (by omega) (rf_1_0 _) ?_
  refine ev_getIc (pc := 9) fl11_134 rfl dX11_chooseRuler_9 rfl (whole_k whole_c2) (whole_nz whole_c2) (whole_n9 whole_c2) 4 rfl ?_
  refine ev_cV (pc := 12) [vI (M 2 4)] [vR 705] rfl mkX11_isText ml11_131 mnX11_isText dX11_chooseRuler_12 kd_1 (by omega) rfl (Nat.le_of_ble_eq_true rfl) (by omega) rfl (e_X11_isText (d := d - 1) (v := (f_X11_isText (M 2 4) M)) (by omega)  rfl) ?_
  refine ev_if_eq (pc := 15) (tgt := 33) dX11_chooseRuler_15 (by decide) (fun b1 => ?_) (fun b1 => ?_)
  · rw [if_pos b1] at h
    refine ev_aload_n (pc := 33) 0 dX11_chooseRuler_33 rfl rfl ?_
    refine ev_getR (pc := 34) fl11_45 rfl dX11_chooseRuler_34 rfl kd_1 (by omega) (rf_1_6 _) ?_
    refine ev_getR (pc := 37) fl11_347 rfl dX11_chooseRuler_37 rfl kd_705 (by omega) (rf_705_0 _) ?_
    obtain ⟨M2, eM2, h⟩ := lt_some h
    refine ev_putRu (pc := 40) fl11_351 rfl rfl dX11_chooseRuler_40 kd_705 eM2 ?_
    cases h
    exact ev_vret (pc := 43) dX11_chooseRuler_43 rfl
  · rw [if_neg b1] at h
    refine ev_aload_n (pc := 18) 0 dX11_chooseRuler_18 rfl rfl ?_
    refine ev_getR (pc := 19) fl11_31 rfl dX11_chooseRuler_19 rfl kd_1 (by omega) (rf_1_4 _) ?_
    refine ev_aload_n (pc := 22) 0 dX11_chooseRuler_22 rfl rfl ?_
    refine ev_getR (pc := 23) fl11_12 rfl dX11_chooseRuler_23 rfl kd_1 (by omega) (rf_1_0 _) ?_
    refine ev_getIc (pc := 26) fl11_134 rfl dX11_chooseRuler_26 rfl (whole_k whole_c2) (whole_nz whole_c2) (whole_n9 whole_c2) 4 rfl ?_
    obtain ⟨c3, h⟩ := ck_some h
    refine ev_rld (pc := 29) dX11_chooseRuler_29 (by decide) kd_702 (by omega) c3.1 c3.2 (txs_R _ c3.1 c3.2) ?_
    refine ev_goto (pc := 30) (tgt := 40) dX11_chooseRuler_30 (by decide) ?_
    obtain ⟨M4, eM4, h⟩ := lt_some h
    refine ev_putRu (pc := 40) fl11_351 rfl rfl dX11_chooseRuler_40 kd_705 eM4 ?_
    cases h
    exact ev_vret (pc := 43) dX11_chooseRuler_43 rfl
def f_X11_by_J15 (x1 : Int) (M : Mem) : Option (Int × Mem) := lt (upM M 2 4 x1) fun M2 => (f_X11_chooseRuler M2).bind fun q3 => some (1, q3)
set_option maxRecDepth 100000 in
set_option maxHeartbeats 4000000 in
theorem e_X11_by_J15 {g : Gm} {d : Nat} {x1 : Int} {M N : Mem} {v : Int} {M' : Mem} (hd : 3 ≤ d) (h : f_X11_by_J15 x1 M = some (v, M')) : Ev g d mtX11_by 15 [(0, vR 1), (1, vI x1)] [] (sg (mx M N)) (0, 0) (vI v) (sg (mx M' N)) := by
  unfold f_X11_by_J15 at h
  refine ev_aload_n (pc := 15) 0 dX11_by_15 rfl rfl ?_
  refine ev_getR (pc := 16) fl11_12 rfl dX11_by_16 rfl kd_1 (by omega) (rf_1_0 _) ?_
  refine ev_iload_n (pc := 19) 1 dX11_by_19 rfl rfl ?_
  obtain ⟨M2, eM2, h⟩ := lt_some h
  refine ev_putIc (pc := 20) fl11_134 rfl dX11_by_20 (whole_k whole_c2) (whole_nz whole_c2) (whole_n9 whole_c2) eM2 ?_
  refine ev_aload_n (pc := 23) 0 dX11_by_23 rfl rfl ?_
  obtain ⟨q3, hq3, h⟩ := bd h
  refine ev_cV0 (pc := 24) [] [] rfl mkX11_chooseRuler ml11_137 mnX11_chooseRuler dX11_by_24 kd_1 (by omega) rfl (Nat.le_of_ble_eq_true rfl) (by omega) (e_X11_chooseRuler (d := d - 1) (M' := q3) (by omega)  hq3) ?_
  refine ev_iconst (pc := 27) (x := 1) dX11_by_27 ci_1 ?_
  cases h
  exact ev_zret (pc := 28) (Or.inr rfl) dX11_by_28 rfl
def f_X11_by (p0 : Int) (M : Mem) : Option (Int × Mem) := if p0 = (-1) then (f_X11_by_J15 p0 M) else (if (f_X11_isText p0 M) ≠ 0 then (f_X11_by_J15 p0 M) else (some (0, M)))
set_option maxRecDepth 100000 in
set_option maxHeartbeats 4000000 in
theorem e_X11_by {g : Gm} {d : Nat} {p0 : Int} {M N : Mem} {v : Int} {M' : Mem} (hd : 3 ≤ d) (h : f_X11_by p0 M = some (v, M')) : EvM g d mtX11_by [vR 1, vI p0] (sg (mx M N)) (0, 0) (vI v) (sg (mx M' N)) := by
  unfold f_X11_by at h
  refine EvM.of mkX11_by.2.2.2.1 (Nat.le_of_ble_eq_true rfl) ?_
  change Ev g d mtX11_by 0 [(0, vR 1), (1, vI p0)] [] (sg (mx M N)) (0, 0) (vI v) (sg (mx M' N))
  refine ev_iload_n (pc := 0) 1 dX11_by_0 rfl rfl ?_
  refine ev_iconst (pc := 1) (x := (-1)) dX11_by_1 ci_m1 ?_
  refine ev_icmp_eq (pc := 2) (tgt := 15) dX11_by_2 (by decide) (fun b1 => ?_) (fun b1 => ?_)
  · rw [if_pos b1] at h
    refine ev_pick [0, 1] rfl ?_
    exact e_X11_by_J15 hd  h
  · rw [if_neg b1] at h
    refine ev_aload_n (pc := 5) 0 dX11_by_5 rfl rfl ?_
    refine ev_iload_n (pc := 6) 1 dX11_by_6 rfl rfl ?_
    refine ev_cV (pc := 7) [vI p0] [] rfl mkX11_isText ml11_131 mnX11_isText dX11_by_7 kd_1 (by omega) rfl (Nat.le_of_ble_eq_true rfl) (by omega) rfl (e_X11_isText (d := d - 1) (v := (f_X11_isText p0 M)) (by omega)  rfl) ?_
    refine ev_if_ne (pc := 10) (tgt := 15) dX11_by_10 (by decide) (fun b4 => ?_) (fun b4 => ?_)
    · rw [if_pos b4] at h
      refine ev_pick [0, 1] rfl ?_
      exact e_X11_by_J15 hd  h
    · rw [if_neg b4] at h
      refine ev_iconst (pc := 13) (x := 0) dX11_by_13 ci_0 ?_
      cases h
      exact ev_zret (pc := 14) (Or.inl rfl) dX11_by_14 rfl
def f_X11_passHours_L4 : Nat → Int → Int → Int → Mem → Option (Int × Mem)
  | 0, _, _, _, _ => none
  | n + 1, x1, x2, x3, M => if x1 ≤ x3 then (some (x2, M)) else ((f_X0_keep 14 3 M).bind fun q2 => (f_X1_passOne n 3 q2).bind fun q3 => f_X11_passHours_L4 n x1 (wI (x2 + q3.1)) (wI (x3 + 1)) q3.2)
set_option maxRecDepth 100000 in
set_option maxHeartbeats 4000000 in
theorem e_X11_passHours_L4 {g : Gm} {d : Nat} {x1 : Int} {r : Vv} {σ' : Sg} {N : Mem} (hd : 5 ≤ d) : ∀ (n : Nat) {x2 x3 : Int} {M : Mem} {q : Int × Mem}, f_X11_passHours_L4 n x1 x2 x3 M = some q → Ev g d mtX11_passHours 43 [(2, vI q.1)] [] (sg (mx q.2 N)) (0, 0) r σ' → Ev g d mtX11_passHours 4 [(0, vR 1), (1, vI x1), (2, vI x2), (3, vI x3)] [] (sg (mx M N)) (0, 0) r σ' := by
  intro n
  induction n with
  | zero =>
    intro x2 x3 M q h hk0
    rw [f_X11_passHours_L4.eq_1] at h
    cases h
  | succ n ih =>
    intro x2 x3 M q h hk0
    rw [f_X11_passHours_L4.eq_2] at h
    refine ev_iload_n (pc := 4) 3 dX11_passHours_4 rfl rfl ?_
    refine ev_iload_n (pc := 5) 1 dX11_passHours_5 rfl rfl ?_
    refine ev_icmp_ge (pc := 6) (tgt := 43) dX11_passHours_6 (by decide) (fun b1 => ?_) (fun b1 => ?_)
    · rw [if_pos b1] at h
      cases h
      refine ev_pick [2] rfl ?_
      exact hk0
    · rw [if_neg b1] at h
      refine ev_aload_n (pc := 9) 0 dX11_passHours_9 rfl rfl ?_
      refine ev_getR (pc := 10) fl11_12 rfl dX11_passHours_10 rfl kd_1 (by omega) (rf_1_0 _) ?_
      refine ev_getR (pc := 13) fl11_147 rfl dX11_passHours_13 rfl (whole_k whole_c2) (whole_nz whole_c2) (rf_2_1 _) ?_
      refine ev_aload_n (pc := 16) 0 dX11_passHours_16 rfl rfl ?_
      refine ev_getR (pc := 17) fl11_23 rfl dX11_passHours_17 rfl kd_1 (by omega) (rf_1_2 _) ?_
      obtain ⟨q2, hq2, h⟩ := bd h
      refine ev_cV0 (pc := 20) [vR 3] [] rfl mkX0_keep ml11_151 mnX0_keep dX11_passHours_20 (acts_k acts_c14) (acts_nz acts_c14) rfl (Nat.le_of_ble_eq_true rfl) (by omega) (e_X0_keep (d := d - 1) (M' := q2) (by omega) acts_c14 sea_c3 hq2) ?_
      refine ev_iload_n (pc := 23) 2 dX11_passHours_23 rfl rfl ?_
      refine ev_aload_n (pc := 24) 0 dX11_passHours_24 rfl rfl ?_
      refine ev_getR (pc := 25) fl11_54 rfl dX11_passHours_25 rfl kd_1 (by omega) (rf_1_7 _) ?_
      refine ev_aload_n (pc := 28) 0 dX11_passHours_28 rfl rfl ?_
      refine ev_getR (pc := 29) fl11_23 rfl dX11_passHours_29 rfl kd_1 (by omega) (rf_1_2 _) ?_
      obtain ⟨q3, hq3, h⟩ := bd h
      refine ev_cV (pc := 32) [vR 3] [vI x2] rfl mkX1_passOne ml11_234 mnX1_passOne dX11_passHours_32 kd_714 (by omega) rfl (Nat.le_of_ble_eq_true rfl) (by omega) rfl (e_X1_passOne (d := d - 1) (v := q3.1) (M' := q3.2) (by omega) sea_c3 hq3) ?_
      refine ev_iadd (pc := 35) dX11_passHours_35 ?_
      refine ev_istore_n (pc := 36) (il' := [(2, vI (wI (x2 + q3.1))), (0, vR 1), (1, vI x1), (3, vI x3)]) dX11_passHours_36 rfl (Nat.le_of_ble_eq_true rfl) rfl ?_
      refine ev_iinc (pc := 37) (il' := [(3, vI (wI (x3 + 1))), (2, vI (wI (x2 + q3.1))), (0, vR 1), (1, vI x1)]) 3 dX11_passHours_37 rfl (Nat.le_of_ble_eq_true rfl) rfl rfl ?_
      refine ev_goto (pc := 40) (tgt := 4) dX11_passHours_40 (by decide) ?_
      refine ev_pick [2, 3, 1, 0] rfl ?_
      exact ih h hk0
def f_X11_passHours (n : Nat) (p0 : Int) (M : Mem) : Option (Int × Mem) := (f_X11_passHours_L4 n p0 0 0 M).bind fun q4 => some (q4.1, q4.2)
set_option maxRecDepth 100000 in
set_option maxHeartbeats 4000000 in
theorem e_X11_passHours {g : Gm} {d : Nat} {n : Nat} {p0 : Int} {M N : Mem} {v : Int} {M' : Mem} (hd : 5 ≤ d) (h : f_X11_passHours n p0 M = some (v, M')) : EvM g d mtX11_passHours [vR 1, vI p0] (sg (mx M N)) (0, 0) (vI v) (sg (mx M' N)) := by
  unfold f_X11_passHours at h
  refine EvM.of mkX11_passHours.2.2.2.1 (Nat.le_of_ble_eq_true rfl) ?_
  change Ev g d mtX11_passHours 0 [(0, vR 1), (1, vI p0)] [] (sg (mx M N)) (0, 0) (vI v) (sg (mx M' N))
  refine ev_iconst (pc := 0) (x := 0) dX11_passHours_0 ci_0 ?_
  refine ev_istore_n (pc := 1) (il' := [(2, vI 0), (0, vR 1), (1, vI p0)]) dX11_passHours_1 rfl (Nat.le_of_ble_eq_true rfl) rfl ?_
  refine ev_iconst (pc := 2) (x := 0) dX11_passHours_2 ci_0 ?_
  refine ev_istore_n (pc := 3) (il' := [(3, vI 0), (2, vI 0), (0, vR 1), (1, vI p0)]) dX11_passHours_3 rfl (Nat.le_of_ble_eq_true rfl) rfl ?_
  obtain ⟨q4, hq4, h⟩ := bd h
  refine ev_pick [2, 3, 1, 0] rfl ?_
  refine e_X11_passHours_L4 hd  n hq4 ?_
  refine ev_iload_n (pc := 43) 0 dX11_passHours_43 rfl rfl ?_
  cases h
  exact ev_iret (pc := 44) dX11_passHours_44 rfl
def f_X11_hour (n : Nat) (p0 : Int) (M : Mem) : Option (Int × Mem) := if (f_X11_isBetween 1 p0 60) = 0 then (some ((-1), M)) else (if (wI ((M 3 11) + p0)) ≤ 9999 then ((f_X11_passHours n p0 M).bind fun q3 => some (q3.1, q3.2)) else (some ((-1), M)))
set_option maxRecDepth 100000 in
set_option maxHeartbeats 4000000 in
theorem e_X11_hour {g : Gm} {d : Nat} {n : Nat} {p0 : Int} {M N : Mem} {v : Int} {M' : Mem} (hd : 6 ≤ d) (h : f_X11_hour n p0 M = some (v, M')) : EvM g d mtX11_hour [vR 1, vI p0] (sg (mx M N)) (0, 0) (vI v) (sg (mx M' N)) := by
  unfold f_X11_hour at h
  refine EvM.of mkX11_hour.2.2.2.1 (Nat.le_of_ble_eq_true rfl) ?_
  change Ev g d mtX11_hour 0 [(0, vR 1), (1, vI p0)] [] (sg (mx M N)) (0, 0) (vI v) (sg (mx M' N))
  refine ev_iconst (pc := 0) (x := 1) dX11_hour_0 ci_1 ?_
  refine ev_iload_n (pc := 1) 1 dX11_hour_1 rfl rfl ?_
  refine ev_bipush (pc := 2) (x := 60) dX11_hour_2 cb_60 ?_
  refine ev_cS (pc := 4) [vI 1, vI p0, vI 60] [] rfl mkX11_isBetween ml11_86 msX11_isBetween dX11_hour_4 rfl (Nat.le_of_ble_eq_true rfl) (by omega) rfl (e_X11_isBetween (d := d - 1) (v := (f_X11_isBetween 1 p0 60)) (by omega)  rfl) ?_
  refine ev_if_eq (pc := 7) (tgt := 25) dX11_hour_7 (by decide) (fun b1 => ?_) (fun b1 => ?_)
  · rw [if_pos b1] at h
    refine ev_iconst (pc := 25) (x := (-1)) dX11_hour_25 ci_m1 ?_
    cases h
    exact ev_iret (pc := 26) dX11_hour_26 rfl
  · rw [if_neg b1] at h
    refine ev_aload_n (pc := 10) 0 dX11_hour_10 rfl rfl ?_
    refine ev_getR (pc := 11) fl11_23 rfl dX11_hour_11 rfl kd_1 (by omega) (rf_1_2 _) ?_
    refine ev_getIc (pc := 14) fl11_140 rfl dX11_hour_14 rfl (sea_k sea_c3) (sea_nz sea_c3) (sea_n9 sea_c3) 11 rfl ?_
    refine ev_iload_n (pc := 17) 1 dX11_hour_17 rfl rfl ?_
    refine ev_iadd (pc := 18) dX11_hour_18 ?_
    refine ev_sipush (pc := 19) (x := 9999) dX11_hour_19 cs_9999 ?_
    refine ev_icmp_le (pc := 22) (tgt := 27) dX11_hour_22 (by decide) (fun b2 => ?_) (fun b2 => ?_)
    · rw [if_pos b2] at h
      refine ev_aload_n (pc := 27) 0 dX11_hour_27 rfl rfl ?_
      refine ev_iload_n (pc := 28) 1 dX11_hour_28 rfl rfl ?_
      obtain ⟨q3, hq3, h⟩ := bd h
      refine ev_cV (pc := 29) [vI p0] [] rfl mkX11_passHours ml11_143 mnX11_passHours dX11_hour_29 kd_1 (by omega) rfl (Nat.le_of_ble_eq_true rfl) (by omega) rfl (e_X11_passHours (d := d - 1) (v := q3.1) (M' := q3.2) (by omega)  hq3) ?_
      cases h
      exact ev_iret (pc := 32) dX11_hour_32 rfl
    · rw [if_neg b2] at h
      refine ev_iconst (pc := 25) (x := (-1)) dX11_hour_25 ci_m1 ?_
      cases h
      exact ev_iret (pc := 26) dX11_hour_26 rfl
def f_X11_flood (p0 p1 : Int) (M : Mem) : Option (Int × Mem) := if (f_X11_isStep p0 M) = 0 then (some ((-1), M)) else (if (f_X11_isBetween 1 p1 999) ≠ 0 then ((f_X0_keep 14 3 M).bind fun q3 => (f_X5_addWater 3 p0 p1 q3).bind fun q4 => ck (0 ≤ p0 ∧ p0 < 9) (some ((q4 6 p0), q4))) else (some ((-1), M)))
set_option maxRecDepth 100000 in
set_option maxHeartbeats 4000000 in
theorem e_X11_flood {g : Gm} {d : Nat} {p0 p1 : Int} {M N : Mem} {v : Int} {M' : Mem} (hd : 4 ≤ d) (h : f_X11_flood p0 p1 M = some (v, M')) : EvM g d mtX11_flood [vR 1, vI p0, vI p1] (sg (mx M N)) (0, 0) (vI v) (sg (mx M' N)) := by
  unfold f_X11_flood at h
  refine EvM.of mkX11_flood.2.2.2.1 (Nat.le_of_ble_eq_true rfl) ?_
  change Ev g d mtX11_flood 0 [(0, vR 1), (1, vI p0), (2, vI p1)] [] (sg (mx M N)) (0, 0) (vI v) (sg (mx M' N))
  refine ev_aload_n (pc := 0) 0 dX11_flood_0 rfl rfl ?_
  refine ev_iload_n (pc := 1) 1 dX11_flood_1 rfl rfl ?_
  refine ev_cV (pc := 2) [vI p0] [] rfl mkX11_isStep ml11_102 mnX11_isStep dX11_flood_2 kd_1 (by omega) rfl (Nat.le_of_ble_eq_true rfl) (by omega) rfl (e_X11_isStep (d := d - 1) (v := (f_X11_isStep p0 M)) (by omega)  rfl) ?_
  refine ev_if_eq (pc := 5) (tgt := 19) dX11_flood_5 (by decide) (fun b1 => ?_) (fun b1 => ?_)
  · rw [if_pos b1] at h
    refine ev_iconst (pc := 19) (x := (-1)) dX11_flood_19 ci_m1 ?_
    cases h
    exact ev_iret (pc := 20) dX11_flood_20 rfl
  · rw [if_neg b1] at h
    refine ev_iconst (pc := 8) (x := 1) dX11_flood_8 ci_1 ?_
    refine ev_iload_n (pc := 9) 2 dX11_flood_9 rfl rfl ?_
    refine ev_sipush (pc := 10) (x := 999) dX11_flood_10 cs_999 ?_
    refine ev_cS (pc := 13) [vI 1, vI p1, vI 999] [] rfl mkX11_isBetween ml11_86 msX11_isBetween dX11_flood_13 rfl (Nat.le_of_ble_eq_true rfl) (by omega) rfl (e_X11_isBetween (d := d - 1) (v := (f_X11_isBetween 1 p1 999)) (by omega)  rfl) ?_
    refine ev_if_ne (pc := 16) (tgt := 21) dX11_flood_16 (by decide) (fun b2 => ?_) (fun b2 => ?_)
    · rw [if_pos b2] at h
      refine ev_aload_n (pc := 21) 0 dX11_flood_21 rfl rfl ?_
      refine ev_getR (pc := 22) fl11_12 rfl dX11_flood_22 rfl kd_1 (by omega) (rf_1_0 _) ?_
      refine ev_getR (pc := 25) fl11_147 rfl dX11_flood_25 rfl (whole_k whole_c2) (whole_nz whole_c2) (rf_2_1 _) ?_
      refine ev_aload_n (pc := 28) 0 dX11_flood_28 rfl rfl ?_
      refine ev_getR (pc := 29) fl11_23 rfl dX11_flood_29 rfl kd_1 (by omega) (rf_1_2 _) ?_
      obtain ⟨q3, hq3, h⟩ := bd h
      refine ev_cV0 (pc := 32) [vR 3] [] rfl mkX0_keep ml11_151 mnX0_keep dX11_flood_32 (acts_k acts_c14) (acts_nz acts_c14) rfl (Nat.le_of_ble_eq_true rfl) (by omega) (e_X0_keep (d := d - 1) (M' := q3) (by omega) acts_c14 sea_c3 hq3) ?_
      refine ev_aload_n (pc := 35) 0 dX11_flood_35 rfl rfl ?_
      refine ev_getR (pc := 36) fl11_23 rfl dX11_flood_36 rfl kd_1 (by omega) (rf_1_2 _) ?_
      refine ev_iload_n (pc := 39) 1 dX11_flood_39 rfl rfl ?_
      refine ev_iload_n (pc := 40) 2 dX11_flood_40 rfl rfl ?_
      obtain ⟨q4, hq4, h⟩ := bd h
      refine ev_cV0 (pc := 41) [vI p0, vI p1] [] rfl mkX5_addWater ml11_157 mnX5_addWater dX11_flood_41 (sea_k sea_c3) (sea_nz sea_c3) rfl (Nat.le_of_ble_eq_true rfl) (by omega) (e_X5_addWater (d := d - 1) (M' := q4) (by omega) sea_c3 hq4) ?_
      refine ev_aload_n (pc := 44) 0 dX11_flood_44 rfl rfl ?_
      refine ev_getR (pc := 45) fl11_23 rfl dX11_flood_45 rfl kd_1 (by omega) (rf_1_2 _) ?_
      refine ev_getR (pc := 48) fl11_161 rfl dX11_flood_48 rfl (sea_k sea_c3) (sea_nz sea_c3) (rf_3_3 _) ?_
      refine ev_iload_n (pc := 51) 1 dX11_flood_51 rfl rfl ?_
      obtain ⟨c5, h⟩ := ck_some h
      refine ev_ildc (pc := 52) dX11_flood_52 kd_6 (by omega) (by omega) c5.1 c5.2 ?_
      cases h
      exact ev_iret (pc := 53) dX11_flood_53 rfl
    · rw [if_neg b2] at h
      refine ev_iconst (pc := 19) (x := (-1)) dX11_flood_19 ci_m1 ?_
      cases h
      exact ev_iret (pc := 20) dX11_flood_20 rfl
def f_X11_raise (p0 p1 : Int) (M : Mem) : Option (Int × Mem) := if (f_X11_isStep p0 M) = 0 then (some (0, M)) else (if (f_X11_isBetween 0 p1 99) = 0 then (some (0, M)) else (ck (0 ≤ p0 ∧ p0 < 9) (if (M 5 p0) ≠ p1 then ((f_X0_keep 14 3 M).bind fun q5 => lt (upM q5 5 p0 p1) fun M6 => some (1, M6)) else (some (0, M)))))
set_option maxRecDepth 100000 in
set_option maxHeartbeats 4000000 in
theorem e_X11_raise {g : Gm} {d : Nat} {p0 p1 : Int} {M N : Mem} {v : Int} {M' : Mem} (hd : 4 ≤ d) (h : f_X11_raise p0 p1 M = some (v, M')) : EvM g d mtX11_raise [vR 1, vI p0, vI p1] (sg (mx M N)) (0, 0) (vI v) (sg (mx M' N)) := by
  unfold f_X11_raise at h
  refine EvM.of mkX11_raise.2.2.2.1 (Nat.le_of_ble_eq_true rfl) ?_
  change Ev g d mtX11_raise 0 [(0, vR 1), (1, vI p0), (2, vI p1)] [] (sg (mx M N)) (0, 0) (vI v) (sg (mx M' N))
  refine ev_aload_n (pc := 0) 0 dX11_raise_0 rfl rfl ?_
  refine ev_iload_n (pc := 1) 1 dX11_raise_1 rfl rfl ?_
  refine ev_cV (pc := 2) [vI p0] [] rfl mkX11_isStep ml11_102 mnX11_isStep dX11_raise_2 kd_1 (by omega) rfl (Nat.le_of_ble_eq_true rfl) (by omega) rfl (e_X11_isStep (d := d - 1) (v := (f_X11_isStep p0 M)) (by omega)  rfl) ?_
  refine ev_if_eq (pc := 5) (tgt := 31) dX11_raise_5 (by decide) (fun b1 => ?_) (fun b1 => ?_)
  · rw [if_pos b1] at h
    refine ev_iconst (pc := 31) (x := 0) dX11_raise_31 ci_0 ?_
    cases h
    exact ev_zret (pc := 32) (Or.inl rfl) dX11_raise_32 rfl
  · rw [if_neg b1] at h
    refine ev_iconst (pc := 8) (x := 0) dX11_raise_8 ci_0 ?_
    refine ev_iload_n (pc := 9) 2 dX11_raise_9 rfl rfl ?_
    refine ev_bipush (pc := 10) (x := 99) dX11_raise_10 cb_99 ?_
    refine ev_cS (pc := 12) [vI 0, vI p1, vI 99] [] rfl mkX11_isBetween ml11_86 msX11_isBetween dX11_raise_12 rfl (Nat.le_of_ble_eq_true rfl) (by omega) rfl (e_X11_isBetween (d := d - 1) (v := (f_X11_isBetween 0 p1 99)) (by omega)  rfl) ?_
    refine ev_if_eq (pc := 15) (tgt := 31) dX11_raise_15 (by decide) (fun b2 => ?_) (fun b2 => ?_)
    · rw [if_pos b2] at h
      refine ev_iconst (pc := 31) (x := 0) dX11_raise_31 ci_0 ?_
      cases h
      exact ev_zret (pc := 32) (Or.inl rfl) dX11_raise_32 rfl
    · rw [if_neg b2] at h
      refine ev_aload_n (pc := 18) 0 dX11_raise_18 rfl rfl ?_
      refine ev_getR (pc := 19) fl11_23 rfl dX11_raise_19 rfl kd_1 (by omega) (rf_1_2 _) ?_
      refine ev_getR (pc := 22) fl11_165 rfl dX11_raise_22 rfl (sea_k sea_c3) (sea_nz sea_c3) (rf_3_2 _) ?_
      refine ev_iload_n (pc := 25) 1 dX11_raise_25 rfl rfl ?_
      obtain ⟨c3, h⟩ := ck_some h
      refine ev_ildc (pc := 26) dX11_raise_26 kd_5 (by omega) (by omega) c3.1 c3.2 ?_
      refine ev_iload_n (pc := 27) 2 dX11_raise_27 rfl rfl ?_
      refine ev_icmp_ne (pc := 28) (tgt := 33) dX11_raise_28 (by decide) (fun b4 => ?_) (fun b4 => ?_)
      · rw [if_pos b4] at h
        refine ev_aload_n (pc := 33) 0 dX11_raise_33 rfl rfl ?_
        refine ev_getR (pc := 34) fl11_12 rfl dX11_raise_34 rfl kd_1 (by omega) (rf_1_0 _) ?_
        refine ev_getR (pc := 37) fl11_147 rfl dX11_raise_37 rfl (whole_k whole_c2) (whole_nz whole_c2) (rf_2_1 _) ?_
        refine ev_aload_n (pc := 40) 0 dX11_raise_40 rfl rfl ?_
        refine ev_getR (pc := 41) fl11_23 rfl dX11_raise_41 rfl kd_1 (by omega) (rf_1_2 _) ?_
        obtain ⟨q5, hq5, h⟩ := bd h
        refine ev_cV0 (pc := 44) [vR 3] [] rfl mkX0_keep ml11_151 mnX0_keep dX11_raise_44 (acts_k acts_c14) (acts_nz acts_c14) rfl (Nat.le_of_ble_eq_true rfl) (by omega) (e_X0_keep (d := d - 1) (M' := q5) (by omega) acts_c14 sea_c3 hq5) ?_
        refine ev_aload_n (pc := 47) 0 dX11_raise_47 rfl rfl ?_
        refine ev_getR (pc := 48) fl11_23 rfl dX11_raise_48 rfl kd_1 (by omega) (rf_1_2 _) ?_
        refine ev_getR (pc := 51) fl11_165 rfl dX11_raise_51 rfl (sea_k sea_c3) (sea_nz sea_c3) (rf_3_2 _) ?_
        refine ev_iload_n (pc := 54) 1 dX11_raise_54 rfl rfl ?_
        refine ev_iload_n (pc := 55) 2 dX11_raise_55 rfl rfl ?_
        obtain ⟨M6, eM6, h⟩ := lt_some h
        refine ev_istc (pc := 56) dX11_raise_56 kd_5 (by omega) (by omega) c3.1 c3.2 eM6 ?_
        refine ev_iconst (pc := 57) (x := 1) dX11_raise_57 ci_1 ?_
        cases h
        exact ev_zret (pc := 58) (Or.inr rfl) dX11_raise_58 rfl
      · rw [if_neg b4] at h
        refine ev_iconst (pc := 31) (x := 0) dX11_raise_31 ci_0 ?_
        cases h
        exact ev_zret (pc := 32) (Or.inl rfl) dX11_raise_32 rfl
def f_X11_hasRiser (p0 : Int) (M : Mem) : Int := (f_X11_isBetween 0 p0 (wI ((M 3 0) - 2)))
set_option maxRecDepth 100000 in
set_option maxHeartbeats 4000000 in
theorem e_X11_hasRiser {g : Gm} {d : Nat} {p0 : Int} {M N : Mem} {v : Int} (hd : 1 ≤ d) (h : f_X11_hasRiser p0 M = v) : EvM g d mtX11_hasRiser [vR 1, vI p0] (sg (mx M N)) (0, 0) (vI v) (sg (mx M N)) := by
  unfold f_X11_hasRiser at h
  refine EvM.of mkX11_hasRiser.2.2.2.1 (Nat.le_of_ble_eq_true rfl) ?_
  change Ev g d mtX11_hasRiser 0 [(0, vR 1), (1, vI p0)] [] (sg (mx M N)) (0, 0) (vI v) (sg (mx M N))
  refine ev_iconst (pc := 0) (x := 0) dX11_hasRiser_0 ci_0 ?_
  refine ev_iload_n (pc := 1) 1 dX11_hasRiser_1 rfl rfl ?_
  refine ev_aload_n (pc := 2) 0 dX11_hasRiser_2 rfl rfl ?_
  refine ev_getR (pc := 3) fl11_23 rfl dX11_hasRiser_3 rfl kd_1 (by omega) (rf_1_2 _) ?_
  refine ev_getIc (pc := 6) fl11_90 rfl dX11_hasRiser_6 rfl (sea_k sea_c3) (sea_nz sea_c3) (sea_n9 sea_c3) 0 rfl ?_
  refine ev_iconst (pc := 9) (x := 2) dX11_hasRiser_9 ci_2 ?_
  refine ev_isub (pc := 10) dX11_hasRiser_10 ?_
  refine ev_cS (pc := 11) [vI 0, vI p0, vI (wI ((M 3 0) - 2))] [] rfl mkX11_isBetween ml11_86 msX11_isBetween dX11_hasRiser_11 rfl (Nat.le_of_ble_eq_true rfl) (by omega) rfl (e_X11_isBetween (d := d - 1) (v := (f_X11_isBetween 0 p0 (wI ((M 3 0) - 2)))) (by omega)  rfl) ?_
  cases h
  exact ev_zret (pc := 14) (z_X11_isBetween ..) dX11_hasRiser_14 rfl
theorem z_X11_hasRiser (p0 : Int) (M : Mem) : f_X11_hasRiser p0 M = 0 ∨ f_X11_hasRiser p0 M = 1 := by
  unfold f_X11_hasRiser
  all_goals first | exact Or.inl rfl | exact Or.inr rfl | exact z_X11_isBetween ..
def f_X11_mend (p0 : Int) (M : Mem) : Option (Int × Mem) := if (f_X11_hasRiser p0 M) ≠ 0 then ((f_X0_keep 14 3 M).bind fun q2 => ck (0 ≤ p0 ∧ p0 < 9) (lt (upM q2 8 p0 0) fun M4 => some ((q2 8 p0), M4))) else (some ((-1), M))
set_option maxRecDepth 100000 in
set_option maxHeartbeats 4000000 in
theorem e_X11_mend {g : Gm} {d : Nat} {p0 : Int} {M N : Mem} {v : Int} {M' : Mem} (hd : 4 ≤ d) (h : f_X11_mend p0 M = some (v, M')) : EvM g d mtX11_mend [vR 1, vI p0] (sg (mx M N)) (0, 0) (vI v) (sg (mx M' N)) := by
  unfold f_X11_mend at h
  refine EvM.of mkX11_mend.2.2.2.1 (Nat.le_of_ble_eq_true rfl) ?_
  change Ev g d mtX11_mend 0 [(0, vR 1), (1, vI p0)] [] (sg (mx M N)) (0, 0) (vI v) (sg (mx M' N))
  refine ev_aload_n (pc := 0) 0 dX11_mend_0 rfl rfl ?_
  refine ev_iload_n (pc := 1) 1 dX11_mend_1 rfl rfl ?_
  refine ev_cV (pc := 2) [vI p0] [] rfl mkX11_hasRiser ml11_168 mnX11_hasRiser dX11_mend_2 kd_1 (by omega) rfl (Nat.le_of_ble_eq_true rfl) (by omega) rfl (e_X11_hasRiser (d := d - 1) (v := (f_X11_hasRiser p0 M)) (by omega)  rfl) ?_
  refine ev_if_ne (pc := 5) (tgt := 10) dX11_mend_5 (by decide) (fun b1 => ?_) (fun b1 => ?_)
  · rw [if_pos b1] at h
    refine ev_aload_n (pc := 10) 0 dX11_mend_10 rfl rfl ?_
    refine ev_getR (pc := 11) fl11_12 rfl dX11_mend_11 rfl kd_1 (by omega) (rf_1_0 _) ?_
    refine ev_getR (pc := 14) fl11_147 rfl dX11_mend_14 rfl (whole_k whole_c2) (whole_nz whole_c2) (rf_2_1 _) ?_
    refine ev_aload_n (pc := 17) 0 dX11_mend_17 rfl rfl ?_
    refine ev_getR (pc := 18) fl11_23 rfl dX11_mend_18 rfl kd_1 (by omega) (rf_1_2 _) ?_
    obtain ⟨q2, hq2, h⟩ := bd h
    refine ev_cV0 (pc := 21) [vR 3] [] rfl mkX0_keep ml11_151 mnX0_keep dX11_mend_21 (acts_k acts_c14) (acts_nz acts_c14) rfl (Nat.le_of_ble_eq_true rfl) (by omega) (e_X0_keep (d := d - 1) (M' := q2) (by omega) acts_c14 sea_c3 hq2) ?_
    refine ev_aload_n (pc := 24) 0 dX11_mend_24 rfl rfl ?_
    refine ev_getR (pc := 25) fl11_23 rfl dX11_mend_25 rfl kd_1 (by omega) (rf_1_2 _) ?_
    refine ev_getR (pc := 28) fl11_171 rfl dX11_mend_28 rfl (sea_k sea_c3) (sea_nz sea_c3) (rf_3_5 _) ?_
    refine ev_iload_n (pc := 31) 1 dX11_mend_31 rfl rfl ?_
    obtain ⟨c3, h⟩ := ck_some h
    refine ev_ildc (pc := 32) dX11_mend_32 kd_8 (by omega) (by omega) c3.1 c3.2 ?_
    refine ev_istore_n (pc := 33) (il' := [(2, vI (q2 8 p0)), (0, vR 1), (1, vI p0)]) dX11_mend_33 rfl (Nat.le_of_ble_eq_true rfl) rfl ?_
    refine ev_aload_n (pc := 34) 1 dX11_mend_34 rfl rfl ?_
    refine ev_getR (pc := 35) fl11_23 rfl dX11_mend_35 rfl kd_1 (by omega) (rf_1_2 _) ?_
    refine ev_getR (pc := 38) fl11_171 rfl dX11_mend_38 rfl (sea_k sea_c3) (sea_nz sea_c3) (rf_3_5 _) ?_
    refine ev_iload_n (pc := 41) 2 dX11_mend_41 rfl rfl ?_
    refine ev_iconst (pc := 42) (x := 0) dX11_mend_42 ci_0 ?_
    obtain ⟨M4, eM4, h⟩ := lt_some h
    refine ev_istc (pc := 43) dX11_mend_43 kd_8 (by omega) (by omega) c3.1 c3.2 eM4 ?_
    refine ev_iload_n (pc := 44) 0 dX11_mend_44 rfl rfl ?_
    cases h
    exact ev_iret (pc := 45) dX11_mend_45 rfl
  · rw [if_neg b1] at h
    refine ev_iconst (pc := 8) (x := (-1)) dX11_mend_8 ci_m1 ?_
    cases h
    exact ev_iret (pc := 9) dX11_mend_9 rfl
def f_X11_isShip (p0 : Int) (M : Mem) : Int := (f_X11_isBetween 0 p0 (wI ((M 3 6) - 1)))
set_option maxRecDepth 100000 in
set_option maxHeartbeats 4000000 in
theorem e_X11_isShip {g : Gm} {d : Nat} {p0 : Int} {M N : Mem} {v : Int} (hd : 1 ≤ d) (h : f_X11_isShip p0 M = v) : EvM g d mtX11_isShip [vR 1, vI p0] (sg (mx M N)) (0, 0) (vI v) (sg (mx M N)) := by
  unfold f_X11_isShip at h
  refine EvM.of mkX11_isShip.2.2.2.1 (Nat.le_of_ble_eq_true rfl) ?_
  change Ev g d mtX11_isShip 0 [(0, vR 1), (1, vI p0)] [] (sg (mx M N)) (0, 0) (vI v) (sg (mx M N))
  refine ev_iconst (pc := 0) (x := 0) dX11_isShip_0 ci_0 ?_
  refine ev_iload_n (pc := 1) 1 dX11_isShip_1 rfl rfl ?_
  refine ev_aload_n (pc := 2) 0 dX11_isShip_2 rfl rfl ?_
  refine ev_getR (pc := 3) fl11_23 rfl dX11_isShip_3 rfl kd_1 (by omega) (rf_1_2 _) ?_
  refine ev_getIc (pc := 6) fl11_105 rfl dX11_isShip_6 rfl (sea_k sea_c3) (sea_nz sea_c3) (sea_n9 sea_c3) 6 rfl ?_
  refine ev_iconst (pc := 9) (x := 1) dX11_isShip_9 ci_1 ?_
  refine ev_isub (pc := 10) dX11_isShip_10 ?_
  refine ev_cS (pc := 11) [vI 0, vI p0, vI (wI ((M 3 6) - 1))] [] rfl mkX11_isBetween ml11_86 msX11_isBetween dX11_isShip_11 rfl (Nat.le_of_ble_eq_true rfl) (by omega) rfl (e_X11_isBetween (d := d - 1) (v := (f_X11_isBetween 0 p0 (wI ((M 3 6) - 1)))) (by omega)  rfl) ?_
  cases h
  exact ev_zret (pc := 14) (z_X11_isBetween ..) dX11_isShip_14 rfl
theorem z_X11_isShip (p0 : Int) (M : Mem) : f_X11_isShip p0 M = 0 ∨ f_X11_isShip p0 M = 1 := by
  unfold f_X11_isShip
  all_goals first | exact Or.inl rfl | exact Or.inr rfl | exact z_X11_isBetween ..
def f_X11_bind (p0 p1 : Int) (M : Mem) : Option (Int × Mem) := if (f_X11_isShip p0 M) = 0 then (some (0, M)) else (if (f_X11_isStep p1 M) = 0 then (some (0, M)) else (ck (0 ≤ p0 ∧ p0 < 7) (if (M 11 p0) ≠ p1 then ((f_X0_keep 14 3 M).bind fun q5 => lt (upM q5 11 p0 p1) fun M6 => some (1, M6)) else (some (0, M)))))
set_option maxRecDepth 100000 in
set_option maxHeartbeats 4000000 in
theorem e_X11_bind {g : Gm} {d : Nat} {p0 p1 : Int} {M N : Mem} {v : Int} {M' : Mem} (hd : 4 ≤ d) (h : f_X11_bind p0 p1 M = some (v, M')) : EvM g d mtX11_bind [vR 1, vI p0, vI p1] (sg (mx M N)) (0, 0) (vI v) (sg (mx M' N)) := by
  unfold f_X11_bind at h
  refine EvM.of mkX11_bind.2.2.2.1 (Nat.le_of_ble_eq_true rfl) ?_
  change Ev g d mtX11_bind 0 [(0, vR 1), (1, vI p0), (2, vI p1)] [] (sg (mx M N)) (0, 0) (vI v) (sg (mx M' N))
  refine ev_aload_n (pc := 0) 0 dX11_bind_0 rfl rfl ?_
  refine ev_iload_n (pc := 1) 1 dX11_bind_1 rfl rfl ?_
  refine ev_cV (pc := 2) [vI p0] [] rfl mkX11_isShip ml11_174 mnX11_isShip dX11_bind_2 kd_1 (by omega) rfl (Nat.le_of_ble_eq_true rfl) (by omega) rfl (e_X11_isShip (d := d - 1) (v := (f_X11_isShip p0 M)) (by omega)  rfl) ?_
  refine ev_if_eq (pc := 5) (tgt := 29) dX11_bind_5 (by decide) (fun b1 => ?_) (fun b1 => ?_)
  · rw [if_pos b1] at h
    refine ev_iconst (pc := 29) (x := 0) dX11_bind_29 ci_0 ?_
    cases h
    exact ev_zret (pc := 30) (Or.inl rfl) dX11_bind_30 rfl
  · rw [if_neg b1] at h
    refine ev_aload_n (pc := 8) 0 dX11_bind_8 rfl rfl ?_
    refine ev_iload_n (pc := 9) 2 dX11_bind_9 rfl rfl ?_
    refine ev_cV (pc := 10) [vI p1] [] rfl mkX11_isStep ml11_102 mnX11_isStep dX11_bind_10 kd_1 (by omega) rfl (Nat.le_of_ble_eq_true rfl) (by omega) rfl (e_X11_isStep (d := d - 1) (v := (f_X11_isStep p1 M)) (by omega)  rfl) ?_
    refine ev_if_eq (pc := 13) (tgt := 29) dX11_bind_13 (by decide) (fun b2 => ?_) (fun b2 => ?_)
    · rw [if_pos b2] at h
      refine ev_iconst (pc := 29) (x := 0) dX11_bind_29 ci_0 ?_
      cases h
      exact ev_zret (pc := 30) (Or.inl rfl) dX11_bind_30 rfl
    · rw [if_neg b2] at h
      refine ev_aload_n (pc := 16) 0 dX11_bind_16 rfl rfl ?_
      refine ev_getR (pc := 17) fl11_23 rfl dX11_bind_17 rfl kd_1 (by omega) (rf_1_2 _) ?_
      refine ev_getR (pc := 20) fl11_177 rfl dX11_bind_20 rfl (sea_k sea_c3) (sea_nz sea_c3) (rf_3_9 _) ?_
      refine ev_iload_n (pc := 23) 1 dX11_bind_23 rfl rfl ?_
      obtain ⟨c3, h⟩ := ck_some h
      refine ev_ildc (pc := 24) dX11_bind_24 kd_11 (by omega) (by omega) c3.1 c3.2 ?_
      refine ev_iload_n (pc := 25) 2 dX11_bind_25 rfl rfl ?_
      refine ev_icmp_ne (pc := 26) (tgt := 31) dX11_bind_26 (by decide) (fun b4 => ?_) (fun b4 => ?_)
      · rw [if_pos b4] at h
        refine ev_aload_n (pc := 31) 0 dX11_bind_31 rfl rfl ?_
        refine ev_getR (pc := 32) fl11_12 rfl dX11_bind_32 rfl kd_1 (by omega) (rf_1_0 _) ?_
        refine ev_getR (pc := 35) fl11_147 rfl dX11_bind_35 rfl (whole_k whole_c2) (whole_nz whole_c2) (rf_2_1 _) ?_
        refine ev_aload_n (pc := 38) 0 dX11_bind_38 rfl rfl ?_
        refine ev_getR (pc := 39) fl11_23 rfl dX11_bind_39 rfl kd_1 (by omega) (rf_1_2 _) ?_
        obtain ⟨q5, hq5, h⟩ := bd h
        refine ev_cV0 (pc := 42) [vR 3] [] rfl mkX0_keep ml11_151 mnX0_keep dX11_bind_42 (acts_k acts_c14) (acts_nz acts_c14) rfl (Nat.le_of_ble_eq_true rfl) (by omega) (e_X0_keep (d := d - 1) (M' := q5) (by omega) acts_c14 sea_c3 hq5) ?_
        refine ev_aload_n (pc := 45) 0 dX11_bind_45 rfl rfl ?_
        refine ev_getR (pc := 46) fl11_23 rfl dX11_bind_46 rfl kd_1 (by omega) (rf_1_2 _) ?_
        refine ev_getR (pc := 49) fl11_177 rfl dX11_bind_49 rfl (sea_k sea_c3) (sea_nz sea_c3) (rf_3_9 _) ?_
        refine ev_iload_n (pc := 52) 1 dX11_bind_52 rfl rfl ?_
        refine ev_iload_n (pc := 53) 2 dX11_bind_53 rfl rfl ?_
        obtain ⟨M6, eM6, h⟩ := lt_some h
        refine ev_istc (pc := 54) dX11_bind_54 kd_11 (by omega) (by omega) c3.1 c3.2 eM6 ?_
        refine ev_iconst (pc := 55) (x := 1) dX11_bind_55 ci_1 ?_
        cases h
        exact ev_zret (pc := 56) (Or.inr rfl) dX11_bind_56 rfl
      · rw [if_neg b4] at h
        refine ev_iconst (pc := 29) (x := 0) dX11_bind_29 ci_0 ?_
        cases h
        exact ev_zret (pc := 30) (Or.inl rfl) dX11_bind_30 rfl
def f_X11_playClause (n : Nat) (p0 p1 : Int) (M : Mem) : Option (Int × Mem) := (f_X6_numberOf p0 p1 0 M).bind fun q1 => (f_X6_numberOf p0 p1 1 M).bind fun q2 => (f_X6_numberOf p0 p1 2 M).bind fun q3 => (f_X6_numberOf p0 p1 3 M).bind fun q4 => ck (0 ≤ p1 ∧ p1 < 24) ((if (M (p0 + 1) p1) = 133 then ((f_X11_step q1 q2 q3 q4 M).bind fun q7 => if q7.1 = (-1) then (some (0, q7.2)) else (some (1, q7.2))) else (if (M (p0 + 1) p1) = 134 then ((f_X11_ship q1 q2 q3 M).bind fun q10 => if q10.1 = (-1) then (some (0, q10.2)) else (some (1, q10.2))) else (if (M (p0 + 1) p1) = 135 then ((f_X11_passHours n (min q1 (wI (9999 - (M 3 11)))) M).bind fun q13 => if (min q1 (wI (9999 - (M 3 11)))) ≠ q1 then (some (0, q13.2)) else (some (1, q13.2))) else (if (M (p0 + 1) p1) = 136 then ((f_X11_flood q1 q2 M).bind fun q16 => if q16.1 = (-1) then (some (0, q16.2)) else (some (1, q16.2))) else (if (M (p0 + 1) p1) = 137 then ((f_X11_raise q1 q2 M).bind fun q19 => ck (q19.1 = 0 ∨ q19.1 = 1) (some (q19.1, q19.2))) else (if (M (p0 + 1) p1) = 138 then ((f_X11_mend q1 M).bind fun q22 => if q22.1 = (-1) then (some (0, q22.2)) else (some (1, q22.2))) else (if (M (p0 + 1) p1) = 139 then ((f_X11_bind q1 q2 M).bind fun q25 => ck (q25.1 = 0 ∨ q25.1 = 1) (some (q25.1, q25.2))) else (some (1, M))))))))))
set_option maxRecDepth 100000 in
set_option maxHeartbeats 4000000 in
theorem e_X11_playClause {g : Gm} {d : Nat} {n : Nat} {p0 p1 : Int} {M N : Mem} {v : Int} {M' : Mem} (hd : 6 ≤ d) (hp0 : isTx p0) (h : f_X11_playClause n p0 p1 M = some (v, M')) : EvM g d mtX11_playClause [vR 1, vR p0, vI p1] (sg (mx M N)) (0, 0) (vI v) (sg (mx M' N)) := by
  unfold f_X11_playClause at h
  refine EvM.of mkX11_playClause.2.2.2.1 (Nat.le_of_ble_eq_true rfl) ?_
  change Ev g d mtX11_playClause 0 [(0, vR 1), (1, vR p0), (2, vI p1)] [] (sg (mx M N)) (0, 0) (vI v) (sg (mx M' N))
  refine ev_aload_n (pc := 0) 1 dX11_playClause_0 rfl rfl ?_
  refine ev_iload_n (pc := 1) 2 dX11_playClause_1 rfl rfl ?_
  refine ev_iconst (pc := 2) (x := 0) dX11_playClause_2 ci_0 ?_
  obtain ⟨q1, hq1, h⟩ := bd h
  refine ev_cV (pc := 3) [vI p1, vI 0] [] rfl mkX6_numberOf ml11_354 mnX6_numberOf dX11_playClause_3 (tx_k hp0) (tx_nz hp0) rfl (Nat.le_of_ble_eq_true rfl) (by omega) rfl (e_X6_numberOf (d := d - 1) (v := q1) (by omega) hp0 hq1) ?_
  refine ev_istore_n (pc := 6) (il' := [(3, vI q1), (0, vR 1), (1, vR p0), (2, vI p1)]) dX11_playClause_6 rfl (Nat.le_of_ble_eq_true rfl) rfl ?_
  refine ev_aload_n (pc := 7) 2 dX11_playClause_7 rfl rfl ?_
  refine ev_iload_n (pc := 8) 3 dX11_playClause_8 rfl rfl ?_
  refine ev_iconst (pc := 9) (x := 1) dX11_playClause_9 ci_1 ?_
  obtain ⟨q2, hq2, h⟩ := bd h
  refine ev_cV (pc := 10) [vI p1, vI 1] [] rfl mkX6_numberOf ml11_354 mnX6_numberOf dX11_playClause_10 (tx_k hp0) (tx_nz hp0) rfl (Nat.le_of_ble_eq_true rfl) (by omega) rfl (e_X6_numberOf (d := d - 1) (v := q2) (by omega) hp0 hq2) ?_
  refine ev_istore (pc := 13) (il' := [(4, vI q2), (3, vI q1), (0, vR 1), (1, vR p0), (2, vI p1)]) dX11_playClause_13 (Nat.le_of_ble_eq_true rfl) rfl ?_
  refine ev_aload_n (pc := 15) 3 dX11_playClause_15 rfl rfl ?_
  refine ev_iload_n (pc := 16) 4 dX11_playClause_16 rfl rfl ?_
  refine ev_iconst (pc := 17) (x := 2) dX11_playClause_17 ci_2 ?_
  obtain ⟨q3, hq3, h⟩ := bd h
  refine ev_cV (pc := 18) [vI p1, vI 2] [] rfl mkX6_numberOf ml11_354 mnX6_numberOf dX11_playClause_18 (tx_k hp0) (tx_nz hp0) rfl (Nat.le_of_ble_eq_true rfl) (by omega) rfl (e_X6_numberOf (d := d - 1) (v := q3) (by omega) hp0 hq3) ?_
  refine ev_istore (pc := 21) (il' := [(5, vI q3), (4, vI q2), (3, vI q1), (0, vR 1), (1, vR p0), (2, vI p1)]) dX11_playClause_21 (Nat.le_of_ble_eq_true rfl) rfl ?_
  refine ev_aload_n (pc := 23) 4 dX11_playClause_23 rfl rfl ?_
  refine ev_iload_n (pc := 24) 5 dX11_playClause_24 rfl rfl ?_
  refine ev_iconst (pc := 25) (x := 3) dX11_playClause_25 ci_3 ?_
  obtain ⟨q4, hq4, h⟩ := bd h
  refine ev_cV (pc := 26) [vI p1, vI 3] [] rfl mkX6_numberOf ml11_354 mnX6_numberOf dX11_playClause_26 (tx_k hp0) (tx_nz hp0) rfl (Nat.le_of_ble_eq_true rfl) (by omega) rfl (e_X6_numberOf (d := d - 1) (v := q4) (by omega) hp0 hq4) ?_
  refine ev_istore (pc := 29) (il' := [(6, vI q4), (5, vI q3), (4, vI q2), (3, vI q1), (0, vR 1), (1, vR p0), (2, vI p1)]) dX11_playClause_29 (Nat.le_of_ble_eq_true rfl) rfl ?_
  refine ev_aload_n (pc := 31) 5 dX11_playClause_31 rfl rfl ?_
  refine ev_getR (pc := 32) fl11_357 rfl dX11_playClause_32 rfl (tx_k hp0) (tx_nz hp0) (tx_r1 _ hp0) ?_
  refine ev_iload_n (pc := 35) 6 dX11_playClause_35 rfl rfl ?_
  obtain ⟨c5, h⟩ := ck_some h
  refine ev_ildc (pc := 36) dX11_playClause_36 (tx_ak1 hp0) (tx_anz1 hp0) (tx_a91 hp0) c5.1 c5.2 ?_
  by_cases b6 : (M (p0 + 1) p1) = 133
  · rw [if_pos b6] at h
    refine ev_tswIn (pc := 37) (tgt := 80) dX11_playClause_37 (by omega) (by omega) (by rw [b6] <;> rfl) (by decide) ?_
    refine ev_aload_n (pc := 80) 4 dX11_playClause_80 rfl rfl ?_
    refine ev_iload_n (pc := 81) 3 dX11_playClause_81 rfl rfl ?_
    refine ev_iload (pc := 82) 2 dX11_playClause_82 rfl ?_
    refine ev_iload (pc := 84) 1 dX11_playClause_84 rfl ?_
    refine ev_iload (pc := 86) 0 dX11_playClause_86 rfl ?_
    obtain ⟨q7, hq7, h⟩ := bd h
    refine ev_cV (pc := 88) [vI q1, vI q2, vI q3, vI q4] [] rfl mkX11_step ml11_360 mnX11_step dX11_playClause_88 kd_1 (by omega) rfl (Nat.le_of_ble_eq_true rfl) (by omega) rfl (e_X11_step (d := d - 1) (v := q7.1) (M' := q7.2) (by omega)  hq7) ?_
    refine ev_iconst (pc := 91) (x := (-1)) dX11_playClause_91 ci_m1 ?_
    refine ev_icmp_eq (pc := 92) (tgt := 99) dX11_playClause_92 (by decide) (fun b8 => ?_) (fun b8 => ?_)
    · rw [if_pos b8] at h
      refine ev_iconst (pc := 99) (x := 0) dX11_playClause_99 ci_0 ?_
      cases h
      exact ev_zret (pc := 100) (Or.inl rfl) dX11_playClause_100 rfl
    · rw [if_neg b8] at h
      refine ev_iconst (pc := 95) (x := 1) dX11_playClause_95 ci_1 ?_
      refine ev_goto (pc := 96) (tgt := 100) dX11_playClause_96 (by decide) ?_
      cases h
      exact ev_zret (pc := 100) (Or.inr rfl) dX11_playClause_100 rfl
  · rw [if_neg b6] at h
    by_cases b9 : (M (p0 + 1) p1) = 134
    · rw [if_pos b9] at h
      refine ev_tswIn (pc := 37) (tgt := 101) dX11_playClause_37 (by omega) (by omega) (by rw [b9] <;> rfl) (by decide) ?_
      refine ev_aload_n (pc := 101) 4 dX11_playClause_101 rfl rfl ?_
      refine ev_iload_n (pc := 102) 3 dX11_playClause_102 rfl rfl ?_
      refine ev_iload (pc := 103) 2 dX11_playClause_103 rfl ?_
      refine ev_iload (pc := 105) 1 dX11_playClause_105 rfl ?_
      obtain ⟨q10, hq10, h⟩ := bd h
      refine ev_cV (pc := 107) [vI q1, vI q2, vI q3] [] rfl mkX11_ship ml11_363 mnX11_ship dX11_playClause_107 kd_1 (by omega) rfl (Nat.le_of_ble_eq_true rfl) (by omega) rfl (e_X11_ship (d := d - 1) (v := q10.1) (M' := q10.2) (by omega)  hq10) ?_
      refine ev_iconst (pc := 110) (x := (-1)) dX11_playClause_110 ci_m1 ?_
      refine ev_icmp_eq (pc := 111) (tgt := 118) dX11_playClause_111 (by decide) (fun b11 => ?_) (fun b11 => ?_)
      · rw [if_pos b11] at h
        refine ev_iconst (pc := 118) (x := 0) dX11_playClause_118 ci_0 ?_
        cases h
        exact ev_zret (pc := 119) (Or.inl rfl) dX11_playClause_119 rfl
      · rw [if_neg b11] at h
        refine ev_iconst (pc := 114) (x := 1) dX11_playClause_114 ci_1 ?_
        refine ev_goto (pc := 115) (tgt := 119) dX11_playClause_115 (by decide) ?_
        cases h
        exact ev_zret (pc := 119) (Or.inr rfl) dX11_playClause_119 rfl
    · rw [if_neg b9] at h
      by_cases b12 : (M (p0 + 1) p1) = 135
      · rw [if_pos b12] at h
        refine ev_tswIn (pc := 37) (tgt := 120) dX11_playClause_37 (by omega) (by omega) (by rw [b12] <;> rfl) (by decide) ?_
        refine ev_iload_n (pc := 120) 3 dX11_playClause_120 rfl rfl ?_
        refine ev_sipush (pc := 121) (x := 9999) dX11_playClause_121 cs_9999 ?_
        refine ev_aload_n (pc := 124) 4 dX11_playClause_124 rfl rfl ?_
        refine ev_getR (pc := 125) fl11_23 rfl dX11_playClause_125 rfl kd_1 (by omega) (rf_1_2 _) ?_
        refine ev_getIc (pc := 128) fl11_140 rfl dX11_playClause_128 rfl (sea_k sea_c3) (sea_nz sea_c3) (sea_n9 sea_c3) 11 rfl ?_
        refine ev_isub (pc := 131) dX11_playClause_131 ?_
        refine ev_min (pc := 132) rfl mm11_366 (Nat.le_of_ble_eq_true rfl) (by omega) dX11_playClause_132 ?_
        refine ev_istore (pc := 135) (il' := [(7, vI (min q1 (wI (9999 - (M 3 11))))), (6, vI q4), (5, vI q3), (4, vI q2), (3, vI q1), (0, vR 1), (1, vR p0), (2, vI p1)]) dX11_playClause_135 (Nat.le_of_ble_eq_true rfl) rfl ?_
        refine ev_aload_n (pc := 137) 5 dX11_playClause_137 rfl rfl ?_
        refine ev_iload (pc := 138) 0 dX11_playClause_138 rfl ?_
        obtain ⟨q13, hq13, h⟩ := bd h
        refine ev_cV (pc := 140) [vI (min q1 (wI (9999 - (M 3 11))))] [] rfl mkX11_passHours ml11_143 mnX11_passHours dX11_playClause_140 kd_1 (by omega) rfl (Nat.le_of_ble_eq_true rfl) (by omega) rfl (e_X11_passHours (d := d - 1) (v := q13.1) (M' := q13.2) (by omega)  hq13) ?_
        refine ev_pop (pc := 143) rfl dX11_playClause_143 ?_
        refine ev_iload (pc := 144) 0 dX11_playClause_144 rfl ?_
        refine ev_iload_n (pc := 146) 4 dX11_playClause_146 rfl rfl ?_
        refine ev_icmp_ne (pc := 147) (tgt := 154) dX11_playClause_147 (by decide) (fun b14 => ?_) (fun b14 => ?_)
        · rw [if_pos b14] at h
          refine ev_iconst (pc := 154) (x := 0) dX11_playClause_154 ci_0 ?_
          cases h
          exact ev_zret (pc := 155) (Or.inl rfl) dX11_playClause_155 rfl
        · rw [if_neg b14] at h
          refine ev_iconst (pc := 150) (x := 1) dX11_playClause_150 ci_1 ?_
          refine ev_goto (pc := 151) (tgt := 155) dX11_playClause_151 (by decide) ?_
          cases h
          exact ev_zret (pc := 155) (Or.inr rfl) dX11_playClause_155 rfl
      · rw [if_neg b12] at h
        by_cases b15 : (M (p0 + 1) p1) = 136
        · rw [if_pos b15] at h
          refine ev_tswIn (pc := 37) (tgt := 156) dX11_playClause_37 (by omega) (by omega) (by rw [b15] <;> rfl) (by decide) ?_
          refine ev_aload_n (pc := 156) 4 dX11_playClause_156 rfl rfl ?_
          refine ev_iload_n (pc := 157) 3 dX11_playClause_157 rfl rfl ?_
          refine ev_iload (pc := 158) 2 dX11_playClause_158 rfl ?_
          obtain ⟨q16, hq16, h⟩ := bd h
          refine ev_cV (pc := 160) [vI q1, vI q2] [] rfl mkX11_flood ml11_371 mnX11_flood dX11_playClause_160 kd_1 (by omega) rfl (Nat.le_of_ble_eq_true rfl) (by omega) rfl (e_X11_flood (d := d - 1) (v := q16.1) (M' := q16.2) (by omega)  hq16) ?_
          refine ev_iconst (pc := 163) (x := (-1)) dX11_playClause_163 ci_m1 ?_
          refine ev_icmp_eq (pc := 164) (tgt := 171) dX11_playClause_164 (by decide) (fun b17 => ?_) (fun b17 => ?_)
          · rw [if_pos b17] at h
            refine ev_iconst (pc := 171) (x := 0) dX11_playClause_171 ci_0 ?_
            cases h
            exact ev_zret (pc := 172) (Or.inl rfl) dX11_playClause_172 rfl
          · rw [if_neg b17] at h
            refine ev_iconst (pc := 167) (x := 1) dX11_playClause_167 ci_1 ?_
            refine ev_goto (pc := 168) (tgt := 172) dX11_playClause_168 (by decide) ?_
            cases h
            exact ev_zret (pc := 172) (Or.inr rfl) dX11_playClause_172 rfl
        · rw [if_neg b15] at h
          by_cases b18 : (M (p0 + 1) p1) = 137
          · rw [if_pos b18] at h
            refine ev_tswIn (pc := 37) (tgt := 173) dX11_playClause_37 (by omega) (by omega) (by rw [b18] <;> rfl) (by decide) ?_
            refine ev_aload_n (pc := 173) 4 dX11_playClause_173 rfl rfl ?_
            refine ev_iload_n (pc := 174) 3 dX11_playClause_174 rfl rfl ?_
            refine ev_iload (pc := 175) 2 dX11_playClause_175 rfl ?_
            obtain ⟨q19, hq19, h⟩ := bd h
            refine ev_cV (pc := 177) [vI q1, vI q2] [] rfl mkX11_raise ml11_374 mnX11_raise dX11_playClause_177 kd_1 (by omega) rfl (Nat.le_of_ble_eq_true rfl) (by omega) rfl (e_X11_raise (d := d - 1) (v := q19.1) (M' := q19.2) (by omega)  hq19) ?_
            obtain ⟨c20, h⟩ := ck_some h
            cases h
            exact ev_zret (pc := 180) c20 dX11_playClause_180 rfl
          · rw [if_neg b18] at h
            by_cases b21 : (M (p0 + 1) p1) = 138
            · rw [if_pos b21] at h
              refine ev_tswIn (pc := 37) (tgt := 181) dX11_playClause_37 (by omega) (by omega) (by rw [b21] <;> rfl) (by decide) ?_
              refine ev_aload_n (pc := 181) 4 dX11_playClause_181 rfl rfl ?_
              refine ev_iload_n (pc := 182) 3 dX11_playClause_182 rfl rfl ?_
              obtain ⟨q22, hq22, h⟩ := bd h
              refine ev_cV (pc := 183) [vI q1] [] rfl mkX11_mend ml11_377 mnX11_mend dX11_playClause_183 kd_1 (by omega) rfl (Nat.le_of_ble_eq_true rfl) (by omega) rfl (e_X11_mend (d := d - 1) (v := q22.1) (M' := q22.2) (by omega)  hq22) ?_
              refine ev_iconst (pc := 186) (x := (-1)) dX11_playClause_186 ci_m1 ?_
              refine ev_icmp_eq (pc := 187) (tgt := 194) dX11_playClause_187 (by decide) (fun b23 => ?_) (fun b23 => ?_)
              · rw [if_pos b23] at h
                refine ev_iconst (pc := 194) (x := 0) dX11_playClause_194 ci_0 ?_
                cases h
                exact ev_zret (pc := 195) (Or.inl rfl) dX11_playClause_195 rfl
              · rw [if_neg b23] at h
                refine ev_iconst (pc := 190) (x := 1) dX11_playClause_190 ci_1 ?_
                refine ev_goto (pc := 191) (tgt := 195) dX11_playClause_191 (by decide) ?_
                cases h
                exact ev_zret (pc := 195) (Or.inr rfl) dX11_playClause_195 rfl
            · rw [if_neg b21] at h
              by_cases b24 : (M (p0 + 1) p1) = 139
              · rw [if_pos b24] at h
                refine ev_tswIn (pc := 37) (tgt := 196) dX11_playClause_37 (by omega) (by omega) (by rw [b24] <;> rfl) (by decide) ?_
                refine ev_aload_n (pc := 196) 4 dX11_playClause_196 rfl rfl ?_
                refine ev_iload_n (pc := 197) 3 dX11_playClause_197 rfl rfl ?_
                refine ev_iload (pc := 198) 2 dX11_playClause_198 rfl ?_
                obtain ⟨q25, hq25, h⟩ := bd h
                refine ev_cV (pc := 200) [vI q1, vI q2] [] rfl mkX11_bind ml11_380 mnX11_bind dX11_playClause_200 kd_1 (by omega) rfl (Nat.le_of_ble_eq_true rfl) (by omega) rfl (e_X11_bind (d := d - 1) (v := q25.1) (M' := q25.2) (by omega)  hq25) ?_
                obtain ⟨c26, h⟩ := ck_some h
                cases h
                exact ev_zret (pc := 203) c26 dX11_playClause_203 rfl
              · rw [if_neg b24] at h
                refine ev_tswOut (pc := 37) (tgt := 204) dX11_playClause_37 (by omega) (by decide) ?_
                refine ev_iconst (pc := 204) (x := 1) dX11_playClause_204 ci_1 ?_
                cases h
                exact ev_zret (pc := 205) (Or.inr rfl) dX11_playClause_205 rfl
def f_X11_played_L20 : Nat → Int → Int → Mem → Option (Int × Mem)
  | 0, _, _, _ => none
  | n + 1, r2, x3, M => if (M r2 0) ≤ x3 then (some ((-1), M)) else ((f_X11_playClause n r2 x3 M).bind fun q4 => if q4.1 ≠ 0 then (f_X11_played_L20 n r2 (wI (x3 + 1)) q4.2) else (some (x3, q4.2)))
set_option maxRecDepth 100000 in
set_option maxHeartbeats 4000000 in
theorem e_X11_played_L20 {g : Gm} {d : Nat} {r2 : Int} {N : Mem} (hd : 7 ≤ d) (hr2 : isTx r2) : ∀ (n : Nat) {x3 : Int} {M : Mem} {v : Int} {M' : Mem}, f_X11_played_L20 n r2 x3 M = some (v, M') → Ev g d mtX11_played 20 [(0, vR 1), (2, vR r2), (3, vI x3)] [] (sg (mx M N)) (0, 0) (vI v) (sg (mx M' N)) := by
  intro n
  induction n with
  | zero =>
    intro x3 M v M' h
    rw [f_X11_played_L20.eq_1] at h
    cases h
  | succ n ih =>
    intro x3 M v M' h
    rw [f_X11_played_L20.eq_2] at h
    refine ev_iload_n (pc := 20) 2 dX11_played_20 rfl rfl ?_
    refine ev_aload_n (pc := 21) 1 dX11_played_21 rfl rfl ?_
    refine ev_getIc (pc := 22) fl11_180 rfl dX11_played_22 rfl (tx_k hr2) (tx_nz hr2) (tx_n9 hr2) 0 rfl ?_
    refine ev_icmp_ge (pc := 25) (tgt := 45) dX11_played_25 (by decide) (fun b3 => ?_) (fun b3 => ?_)
    · rw [if_pos b3] at h
      refine ev_iconst (pc := 45) (x := (-1)) dX11_played_45 ci_m1 ?_
      cases h
      exact ev_iret (pc := 46) dX11_played_46 rfl
    · rw [if_neg b3] at h
      refine ev_aload_n (pc := 28) 0 dX11_played_28 rfl rfl ?_
      refine ev_aload_n (pc := 29) 1 dX11_played_29 rfl rfl ?_
      refine ev_iload_n (pc := 30) 2 dX11_played_30 rfl rfl ?_
      obtain ⟨q4, hq4, h⟩ := bd h
      refine ev_cV (pc := 31) [vR r2, vI x3] [] rfl mkX11_playClause ml11_183 mnX11_playClause dX11_played_31 kd_1 (by omega) rfl (Nat.le_of_ble_eq_true rfl) (by omega) rfl (e_X11_playClause (d := d - 1) (v := q4.1) (M' := q4.2) (by omega) hr2 hq4) ?_
      refine ev_if_ne (pc := 34) (tgt := 39) dX11_played_34 (by decide) (fun b5 => ?_) (fun b5 => ?_)
      · rw [if_pos b5] at h
        refine ev_iinc (pc := 39) (il' := [(3, vI (wI (x3 + 1))), (0, vR 1), (2, vR r2)]) 2 dX11_played_39 rfl (Nat.le_of_ble_eq_true rfl) rfl rfl ?_
        refine ev_goto (pc := 42) (tgt := 20) dX11_played_42 (by decide) ?_
        refine ev_pick [1, 2, 0] rfl ?_
        exact ih h
      · rw [if_neg b5] at h
        refine ev_iload_n (pc := 37) 2 dX11_played_37 rfl rfl ?_
        cases h
        exact ev_iret (pc := 38) dX11_played_38 rfl
def f_X11_played (n : Nat) (p0 : Int) (M : Mem) : Option (Int × Mem) := if (f_X11_isText p0 M) ≠ 0 then (ck (0 ≤ p0 ∧ p0 < 4) (f_X11_played_L20 n (773 + 7 * p0) 0 M)) else (some ((-2), M))
set_option maxRecDepth 100000 in
set_option maxHeartbeats 4000000 in
theorem e_X11_played {g : Gm} {d : Nat} {n : Nat} {p0 : Int} {M N : Mem} {v : Int} {M' : Mem} (hd : 7 ≤ d) (h : f_X11_played n p0 M = some (v, M')) : EvM g d mtX11_played [vR 1, vI p0] (sg (mx M N)) (0, 0) (vI v) (sg (mx M' N)) := by
  unfold f_X11_played at h
  refine EvM.of mkX11_played.2.2.2.1 (Nat.le_of_ble_eq_true rfl) ?_
  change Ev g d mtX11_played 0 [(0, vR 1), (1, vI p0)] [] (sg (mx M N)) (0, 0) (vI v) (sg (mx M' N))
  refine ev_aload_n (pc := 0) 0 dX11_played_0 rfl rfl ?_
  refine ev_iload_n (pc := 1) 1 dX11_played_1 rfl rfl ?_
  refine ev_cV (pc := 2) [vI p0] [] rfl mkX11_isText ml11_131 mnX11_isText dX11_played_2 kd_1 (by omega) rfl (Nat.le_of_ble_eq_true rfl) (by omega) rfl (e_X11_isText (d := d - 1) (v := (f_X11_isText p0 M)) (by omega)  rfl) ?_
  refine ev_if_ne (pc := 5) (tgt := 11) dX11_played_5 (by decide) (fun b1 => ?_) (fun b1 => ?_)
  · rw [if_pos b1] at h
    refine ev_aload_n (pc := 11) 0 dX11_played_11 rfl rfl ?_
    refine ev_getR (pc := 12) fl11_31 rfl dX11_played_12 rfl kd_1 (by omega) (rf_1_4 _) ?_
    refine ev_iload_n (pc := 15) 1 dX11_played_15 rfl rfl ?_
    obtain ⟨c2, h⟩ := ck_some h
    refine ev_rld (pc := 16) dX11_played_16 (by decide) kd_702 (by omega) c2.1 c2.2 (txs_R _ c2.1 c2.2) ?_
    refine ev_astore_n (pc := 17) (il' := [(2, vR (773 + 7 * p0)), (0, vR 1), (1, vI p0)]) dX11_played_17 rfl (Nat.le_of_ble_eq_true rfl) rfl ?_
    refine ev_iconst (pc := 18) (x := 0) dX11_played_18 ci_0 ?_
    refine ev_istore_n (pc := 19) (il' := [(3, vI 0), (2, vR (773 + 7 * p0)), (0, vR 1), (1, vI p0)]) dX11_played_19 rfl (Nat.le_of_ble_eq_true rfl) rfl ?_
    refine ev_pick [2, 1, 0] rfl ?_
    exact e_X11_played_L20 hd (txs_tx c2.1 c2.2) n h
  · rw [if_neg b1] at h
    refine ev_bipush (pc := 8) (x := (-2)) dX11_played_8 cb_m2 ?_
    cases h
    exact ev_iret (pc := 10) dX11_played_10 rfl
def f_X11_doDrawn (n : Nat) (p0 : Int) (M : Mem) : Option (Mem) := if (M 3 0) = 0 then (some M) else (if (M 3 6) ≠ 0 then (ck ((M 3 0) ≠ 0) ((if (iRem p0 6) = 0 then ((f_X5_addWater 3 (iRem p0 (M 3 0)) (wI (1 + (iRem p0 200))) M).bind fun q7 => some q7) else (if (iRem p0 6) = 1 then (ck (0 ≤ (iRem p0 (M 3 0)) ∧ (iRem p0 (M 3 0)) < 9) (lt (upM M 5 (iRem p0 (M 3 0)) (iRem p0 30)) fun M10 => some M10)) else (if (iRem p0 6) = 2 then (ck (0 ≤ (iRem p0 (M 3 0)) ∧ (iRem p0 (M 3 0)) < 9) (lt (upM M 8 (iRem p0 (M 3 0)) 0) fun M13 => some M13)) else (if (iRem p0 6) = 3 then (ck ((M 3 6) ≠ 0) (ck (0 ≤ (iRem p0 (M 3 6)) ∧ (iRem p0 (M 3 6)) < 7) (lt (upM M 11 (iRem p0 (M 3 6)) (iRem p0 (M 3 0))) fun M17 => some M17))) else (if 9999 ≤ (M 3 11) then (some M) else ((f_X1_passOne n 3 M).bind fun q5 => some q5.2)))))))) else (some M))
set_option maxRecDepth 100000 in
set_option maxHeartbeats 4000000 in
theorem e_X11_doDrawn {g : Gm} {d : Nat} {n : Nat} {p0 : Int} {M N : Mem} {M' : Mem} (hd : 5 ≤ d) (h : f_X11_doDrawn n p0 M = some M') : EvM g d mtX11_doDrawn [vR 1, vI p0] (sg (mx M N)) (0, 0) vN (sg (mx M' N)) := by
  unfold f_X11_doDrawn at h
  refine EvM.of mkX11_doDrawn.2.2.2.1 (Nat.le_of_ble_eq_true rfl) ?_
  change Ev g d mtX11_doDrawn 0 [(0, vR 1), (1, vI p0)] [] (sg (mx M N)) (0, 0) vN (sg (mx M' N))
  refine ev_aload_n (pc := 0) 0 dX11_doDrawn_0 rfl rfl ?_
  refine ev_getR (pc := 1) fl11_23 rfl dX11_doDrawn_1 rfl kd_1 (by omega) (rf_1_2 _) ?_
  refine ev_getIc (pc := 4) fl11_90 rfl dX11_doDrawn_4 rfl (sea_k sea_c3) (sea_nz sea_c3) (sea_n9 sea_c3) 0 rfl ?_
  refine ev_if_eq (pc := 7) (tgt := 20) dX11_doDrawn_7 (by decide) (fun b1 => ?_) (fun b1 => ?_)
  · rw [if_pos b1] at h
    cases h
    exact ev_vret (pc := 20) dX11_doDrawn_20 rfl
  · rw [if_neg b1] at h
    refine ev_aload_n (pc := 10) 0 dX11_doDrawn_10 rfl rfl ?_
    refine ev_getR (pc := 11) fl11_23 rfl dX11_doDrawn_11 rfl kd_1 (by omega) (rf_1_2 _) ?_
    refine ev_getIc (pc := 14) fl11_105 rfl dX11_doDrawn_14 rfl (sea_k sea_c3) (sea_nz sea_c3) (sea_n9 sea_c3) 6 rfl ?_
    refine ev_if_ne (pc := 17) (tgt := 21) dX11_doDrawn_17 (by decide) (fun b2 => ?_) (fun b2 => ?_)
    · rw [if_pos b2] at h
      refine ev_iload_n (pc := 21) 1 dX11_doDrawn_21 rfl rfl ?_
      refine ev_aload_n (pc := 22) 0 dX11_doDrawn_22 rfl rfl ?_
      refine ev_getR (pc := 23) fl11_23 rfl dX11_doDrawn_23 rfl kd_1 (by omega) (rf_1_2 _) ?_
      refine ev_getIc (pc := 26) fl11_90 rfl dX11_doDrawn_26 rfl (sea_k sea_c3) (sea_nz sea_c3) (sea_n9 sea_c3) 0 rfl ?_
      obtain ⟨c3, h⟩ := ck_some h
      refine ev_irem (pc := 29) dX11_doDrawn_29 c3 ?_
      refine ev_istore_n (pc := 30) (il' := [(2, vI (iRem p0 (M 3 0))), (0, vR 1), (1, vI p0)]) dX11_doDrawn_30 rfl (Nat.le_of_ble_eq_true rfl) rfl ?_
      refine ev_iload_n (pc := 31) 2 dX11_doDrawn_31 rfl rfl ?_
      refine ev_bipush (pc := 32) (x := 6) dX11_doDrawn_32 cb_6 ?_
      refine ev_irem (pc := 34) dX11_doDrawn_34 (by omega) ?_
      by_cases b6 : (iRem p0 6) = 0
      · rw [if_pos b6] at h
        refine ev_tswIn (pc := 35) (tgt := 64) dX11_doDrawn_35 (by omega) (by omega) (by rw [b6] <;> rfl) (by decide) ?_
        refine ev_aload_n (pc := 64) 1 dX11_doDrawn_64 rfl rfl ?_
        refine ev_getR (pc := 65) fl11_23 rfl dX11_doDrawn_65 rfl kd_1 (by omega) (rf_1_2 _) ?_
        refine ev_iload_n (pc := 68) 0 dX11_doDrawn_68 rfl rfl ?_
        refine ev_iconst (pc := 69) (x := 1) dX11_doDrawn_69 ci_1 ?_
        refine ev_iload_n (pc := 70) 2 dX11_doDrawn_70 rfl rfl ?_
        refine ev_sipush (pc := 71) (x := 200) dX11_doDrawn_71 cs_200 ?_
        refine ev_irem (pc := 74) dX11_doDrawn_74 (by omega) ?_
        refine ev_iadd (pc := 75) dX11_doDrawn_75 ?_
        obtain ⟨q7, hq7, h⟩ := bd h
        refine ev_cV0 (pc := 76) [vI (iRem p0 (M 3 0)), vI (wI (1 + (iRem p0 200)))] [] rfl mkX5_addWater ml11_157 mnX5_addWater dX11_doDrawn_76 (sea_k sea_c3) (sea_nz sea_c3) rfl (Nat.le_of_ble_eq_true rfl) (by omega) (e_X5_addWater (d := d - 1) (M' := q7) (by omega) sea_c3 hq7) ?_
        refine ev_goto (pc := 79) (tgt := 157) dX11_doDrawn_79 (by decide) ?_
        cases h
        exact ev_vret (pc := 157) dX11_doDrawn_157 rfl
      · rw [if_neg b6] at h
        by_cases b8 : (iRem p0 6) = 1
        · rw [if_pos b8] at h
          refine ev_tswIn (pc := 35) (tgt := 82) dX11_doDrawn_35 (by omega) (by omega) (by rw [b8] <;> rfl) (by decide) ?_
          refine ev_aload_n (pc := 82) 1 dX11_doDrawn_82 rfl rfl ?_
          refine ev_getR (pc := 83) fl11_23 rfl dX11_doDrawn_83 rfl kd_1 (by omega) (rf_1_2 _) ?_
          refine ev_getR (pc := 86) fl11_165 rfl dX11_doDrawn_86 rfl (sea_k sea_c3) (sea_nz sea_c3) (rf_3_2 _) ?_
          refine ev_iload_n (pc := 89) 0 dX11_doDrawn_89 rfl rfl ?_
          refine ev_iload_n (pc := 90) 2 dX11_doDrawn_90 rfl rfl ?_
          refine ev_bipush (pc := 91) (x := 30) dX11_doDrawn_91 cb_30 ?_
          refine ev_irem (pc := 93) dX11_doDrawn_93 (by omega) ?_
          obtain ⟨c9, h⟩ := ck_some h
          obtain ⟨M10, eM10, h⟩ := lt_some h
          refine ev_istc (pc := 94) dX11_doDrawn_94 kd_5 (by omega) (by omega) c9.1 c9.2 eM10 ?_
          refine ev_goto (pc := 95) (tgt := 157) dX11_doDrawn_95 (by decide) ?_
          cases h
          exact ev_vret (pc := 157) dX11_doDrawn_157 rfl
        · rw [if_neg b8] at h
          by_cases b11 : (iRem p0 6) = 2
          · rw [if_pos b11] at h
            refine ev_tswIn (pc := 35) (tgt := 98) dX11_doDrawn_35 (by omega) (by omega) (by rw [b11] <;> rfl) (by decide) ?_
            refine ev_aload_n (pc := 98) 1 dX11_doDrawn_98 rfl rfl ?_
            refine ev_getR (pc := 99) fl11_23 rfl dX11_doDrawn_99 rfl kd_1 (by omega) (rf_1_2 _) ?_
            refine ev_getR (pc := 102) fl11_171 rfl dX11_doDrawn_102 rfl (sea_k sea_c3) (sea_nz sea_c3) (rf_3_5 _) ?_
            refine ev_iload_n (pc := 105) 0 dX11_doDrawn_105 rfl rfl ?_
            refine ev_iconst (pc := 106) (x := 0) dX11_doDrawn_106 ci_0 ?_
            obtain ⟨c12, h⟩ := ck_some h
            obtain ⟨M13, eM13, h⟩ := lt_some h
            refine ev_istc (pc := 107) dX11_doDrawn_107 kd_8 (by omega) (by omega) c12.1 c12.2 eM13 ?_
            refine ev_goto (pc := 108) (tgt := 157) dX11_doDrawn_108 (by decide) ?_
            cases h
            exact ev_vret (pc := 157) dX11_doDrawn_157 rfl
          · rw [if_neg b11] at h
            by_cases b14 : (iRem p0 6) = 3
            · rw [if_pos b14] at h
              refine ev_tswIn (pc := 35) (tgt := 111) dX11_doDrawn_35 (by omega) (by omega) (by rw [b14] <;> rfl) (by decide) ?_
              refine ev_aload_n (pc := 111) 1 dX11_doDrawn_111 rfl rfl ?_
              refine ev_getR (pc := 112) fl11_23 rfl dX11_doDrawn_112 rfl kd_1 (by omega) (rf_1_2 _) ?_
              refine ev_getR (pc := 115) fl11_177 rfl dX11_doDrawn_115 rfl (sea_k sea_c3) (sea_nz sea_c3) (rf_3_9 _) ?_
              refine ev_iload_n (pc := 118) 2 dX11_doDrawn_118 rfl rfl ?_
              refine ev_aload_n (pc := 119) 1 dX11_doDrawn_119 rfl rfl ?_
              refine ev_getR (pc := 120) fl11_23 rfl dX11_doDrawn_120 rfl kd_1 (by omega) (rf_1_2 _) ?_
              refine ev_getIc (pc := 123) fl11_105 rfl dX11_doDrawn_123 rfl (sea_k sea_c3) (sea_nz sea_c3) (sea_n9 sea_c3) 6 rfl ?_
              obtain ⟨c15, h⟩ := ck_some h
              refine ev_irem (pc := 126) dX11_doDrawn_126 c15 ?_
              refine ev_iload_n (pc := 127) 0 dX11_doDrawn_127 rfl rfl ?_
              obtain ⟨c16, h⟩ := ck_some h
              obtain ⟨M17, eM17, h⟩ := lt_some h
              refine ev_istc (pc := 128) dX11_doDrawn_128 kd_11 (by omega) (by omega) c16.1 c16.2 eM17 ?_
              refine ev_goto (pc := 129) (tgt := 157) dX11_doDrawn_129 (by decide) ?_
              cases h
              exact ev_vret (pc := 157) dX11_doDrawn_157 rfl
            · rw [if_neg b14] at h
              refine ev_tswOut (pc := 35) (tgt := 132) dX11_doDrawn_35 (by omega) (by decide) ?_
              refine ev_aload_n (pc := 132) 1 dX11_doDrawn_132 rfl rfl ?_
              refine ev_getR (pc := 133) fl11_23 rfl dX11_doDrawn_133 rfl kd_1 (by omega) (rf_1_2 _) ?_
              refine ev_getIc (pc := 136) fl11_140 rfl dX11_doDrawn_136 rfl (sea_k sea_c3) (sea_nz sea_c3) (sea_n9 sea_c3) 11 rfl ?_
              refine ev_sipush (pc := 139) (x := 9999) dX11_doDrawn_139 cs_9999 ?_
              refine ev_icmp_ge (pc := 142) (tgt := 157) dX11_doDrawn_142 (by decide) (fun b4 => ?_) (fun b4 => ?_)
              · rw [if_pos b4] at h
                cases h
                exact ev_vret (pc := 157) dX11_doDrawn_157 rfl
              · rw [if_neg b4] at h
                refine ev_aload_n (pc := 145) 1 dX11_doDrawn_145 rfl rfl ?_
                refine ev_getR (pc := 146) fl11_54 rfl dX11_doDrawn_146 rfl kd_1 (by omega) (rf_1_7 _) ?_
                refine ev_aload_n (pc := 149) 1 dX11_doDrawn_149 rfl rfl ?_
                refine ev_getR (pc := 150) fl11_23 rfl dX11_doDrawn_150 rfl kd_1 (by omega) (rf_1_2 _) ?_
                obtain ⟨q5, hq5, h⟩ := bd h
                refine ev_cV (pc := 153) [vR 3] [] rfl mkX1_passOne ml11_234 mnX1_passOne dX11_doDrawn_153 kd_714 (by omega) rfl (Nat.le_of_ble_eq_true rfl) (by omega) rfl (e_X1_passOne (d := d - 1) (v := q5.1) (M' := q5.2) (by omega) sea_c3 hq5) ?_
                refine ev_pop (pc := 156) rfl dX11_doDrawn_156 ?_
                cases h
                exact ev_vret (pc := 157) dX11_doDrawn_157 rfl
    · rw [if_neg b2] at h
      cases h
      exact ev_vret (pc := 20) dX11_doDrawn_20 rfl
