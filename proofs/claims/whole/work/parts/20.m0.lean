/-! ===== methods: X5_goBackTo, X5_copyFrom, X0_keep, X0_takeBack, X0_copyFrom, J6_bitCount_0f7a4, X6_hasLaw, X2_hasLaw, X11_isBetween, X2_cut, X2_joined, X2_named, X2_valueOf, X2_within, X2_flows, X1_letWaterOver, X11_lowest, X2_hauls, X2_takes, X2_wears, X5_bound, X5_moveTo, X5_pay, X1_useRope, X1_passOne, X2_falls, X3_listShips, X3_penceOf, X3_choose ===== -/
def f_X5_goBackTo (k p0 : Int) (M : Mem) : Option (Mem) := ck (0 ≤ (M p0 0) ∧ (M p0 0) ≤ 9) (lt (cpM M (p0 + 2) 0 (k + 2) 0 (M p0 0)) fun M2 => ck (0 ≤ (M2 p0 0) ∧ (M2 p0 0) ≤ 9) (lt (cpM M2 (p0 + 3) 0 (k + 3) 0 (M2 p0 0)) fun M4 => ck (0 ≤ (M4 p0 0) ∧ (M4 p0 0) ≤ 9) (lt (cpM M4 (p0 + 4) 0 (k + 4) 0 (M4 p0 0)) fun M6 => ck (0 ≤ (M6 p0 0) ∧ (M6 p0 0) ≤ 9) (lt (cpM M6 (p0 + 5) 0 (k + 5) 0 (M6 p0 0)) fun M8 => ck (0 ≤ (M8 p0 6) ∧ (M8 p0 6) ≤ 7) (lt (cpM M8 (p0 + 7) 0 (k + 7) 0 (M8 p0 6)) fun M10 => ck (0 ≤ (M10 p0 6) ∧ (M10 p0 6) ≤ 7) (lt (cpM M10 (p0 + 8) 0 (k + 8) 0 (M10 p0 6)) fun M12 => ck (0 ≤ (M12 p0 6) ∧ (M12 p0 6) ≤ 7) (lt (cpM M12 (p0 + 9) 0 (k + 9) 0 (M12 p0 6)) fun M14 => lt (upM M14 k 11 (M14 p0 11)) fun M15 => lt (upM M15 k 12 (M15 p0 12)) fun M16 => lt (upM M16 k 13 (M16 p0 13)) fun M17 => lt (upM M17 k 14 (M17 p0 14)) fun M18 => lt (upM M18 k 15 (M18 p0 15)) fun M19 => ck (0 ≤ (M19 p0 15) ∧ (M19 p0 15) ≤ 40) (lt (cpM M19 (p0 + 10) 0 (k + 10) 0 (M19 p0 15)) fun M21 => some M21))))))))
set_option maxRecDepth 100000 in
set_option maxHeartbeats 4000000 in
theorem e_X5_goBackTo {g : Gm} {d : Nat} {k p0 : Int} {M N : Mem} {M' : Mem} (hd : 1 ≤ d) (hk : isSea k) (hp0 : isSea p0) (h : f_X5_goBackTo k p0 M = some M') : EvM g d mtX5_goBackTo [vR k, vR p0] (sg (mx M N)) (0, 0) vN (sg (mx M' N)) := by
  unfold f_X5_goBackTo at h
  refine EvM.of mkX5_goBackTo.2.2.2.1 (Nat.le_of_ble_eq_true rfl) ?_
  change Ev g d mtX5_goBackTo 0 [(0, vR k), (1, vR p0)] [] (sg (mx M N)) (0, 0) vN (sg (mx M' N))
  refine ev_aload_n (pc := 0) 1 dX5_goBackTo_0 rfl rfl ?_
  refine ev_getR (pc := 1) fl5_15 rfl dX5_goBackTo_1 rfl (sea_k hp0) (sea_nz hp0) (sea_r2 _ hp0) ?_
  refine ev_iconst (pc := 4) (x := 0) dX5_goBackTo_4 ci_0 ?_
  refine ev_aload_n (pc := 5) 0 dX5_goBackTo_5 rfl rfl ?_
  refine ev_getR (pc := 6) fl5_15 rfl dX5_goBackTo_6 rfl (sea_k hk) (sea_nz hk) (sea_r2 _ hk) ?_
  refine ev_iconst (pc := 9) (x := 0) dX5_goBackTo_9 ci_0 ?_
  refine ev_aload_n (pc := 10) 1 dX5_goBackTo_10 rfl rfl ?_
  refine ev_getIc (pc := 11) fl5_46 rfl dX5_goBackTo_11 rfl (sea_k hp0) (sea_nz hp0) (sea_n9 hp0) 0 rfl ?_
  obtain ⟨c1, h⟩ := ck_some h
  obtain ⟨M2, eM2, h⟩ := lt_some h
  refine ev_cpy (pc := 14) cp5_52 rfl dX5_goBackTo_14 (Nat.le_of_ble_eq_true rfl) (by omega) (sea_ak2 hp0) (sea_anz2 hp0) (sea_a92 hp0) (sea_ak2 hk) (sea_anz2 hk) (sea_a92 hk) (by refine ⟨?_, ?_, ?_, ?_, ?_⟩ <;> omega) eM2 ?_
  refine ev_aload_n (pc := 17) 1 dX5_goBackTo_17 rfl rfl ?_
  refine ev_getR (pc := 18) fl5_18 rfl dX5_goBackTo_18 rfl (sea_k hp0) (sea_nz hp0) (sea_r3 _ hp0) ?_
  refine ev_iconst (pc := 21) (x := 0) dX5_goBackTo_21 ci_0 ?_
  refine ev_aload_n (pc := 22) 0 dX5_goBackTo_22 rfl rfl ?_
  refine ev_getR (pc := 23) fl5_18 rfl dX5_goBackTo_23 rfl (sea_k hk) (sea_nz hk) (sea_r3 _ hk) ?_
  refine ev_iconst (pc := 26) (x := 0) dX5_goBackTo_26 ci_0 ?_
  refine ev_aload_n (pc := 27) 1 dX5_goBackTo_27 rfl rfl ?_
  refine ev_getIc (pc := 28) fl5_46 rfl dX5_goBackTo_28 rfl (sea_k hp0) (sea_nz hp0) (sea_n9 hp0) 0 rfl ?_
  obtain ⟨c3, h⟩ := ck_some h
  obtain ⟨M4, eM4, h⟩ := lt_some h
  refine ev_cpy (pc := 31) cp5_52 rfl dX5_goBackTo_31 (Nat.le_of_ble_eq_true rfl) (by omega) (sea_ak3 hp0) (sea_anz3 hp0) (sea_a93 hp0) (sea_ak3 hk) (sea_anz3 hk) (sea_a93 hk) (by refine ⟨?_, ?_, ?_, ?_, ?_⟩ <;> omega) eM4 ?_
  refine ev_aload_n (pc := 34) 1 dX5_goBackTo_34 rfl rfl ?_
  refine ev_getR (pc := 35) fl5_21 rfl dX5_goBackTo_35 rfl (sea_k hp0) (sea_nz hp0) (sea_r4 _ hp0) ?_
  refine ev_iconst (pc := 38) (x := 0) dX5_goBackTo_38 ci_0 ?_
  refine ev_aload_n (pc := 39) 0 dX5_goBackTo_39 rfl rfl ?_
  refine ev_getR (pc := 40) fl5_21 rfl dX5_goBackTo_40 rfl (sea_k hk) (sea_nz hk) (sea_r4 _ hk) ?_
  refine ev_iconst (pc := 43) (x := 0) dX5_goBackTo_43 ci_0 ?_
  refine ev_aload_n (pc := 44) 1 dX5_goBackTo_44 rfl rfl ?_
  refine ev_getIc (pc := 45) fl5_46 rfl dX5_goBackTo_45 rfl (sea_k hp0) (sea_nz hp0) (sea_n9 hp0) 0 rfl ?_
  obtain ⟨c5, h⟩ := ck_some h
  obtain ⟨M6, eM6, h⟩ := lt_some h
  refine ev_cpy (pc := 48) cp5_52 rfl dX5_goBackTo_48 (Nat.le_of_ble_eq_true rfl) (by omega) (sea_ak4 hp0) (sea_anz4 hp0) (sea_a94 hp0) (sea_ak4 hk) (sea_anz4 hk) (sea_a94 hk) (by refine ⟨?_, ?_, ?_, ?_, ?_⟩ <;> omega) eM6 ?_
  refine ev_aload_n (pc := 51) 1 dX5_goBackTo_51 rfl rfl ?_
  refine ev_getR (pc := 52) fl5_24 rfl dX5_goBackTo_52 rfl (sea_k hp0) (sea_nz hp0) (sea_r5 _ hp0) ?_
  refine ev_iconst (pc := 55) (x := 0) dX5_goBackTo_55 ci_0 ?_
  refine ev_aload_n (pc := 56) 0 dX5_goBackTo_56 rfl rfl ?_
  refine ev_getR (pc := 57) fl5_24 rfl dX5_goBackTo_57 rfl (sea_k hk) (sea_nz hk) (sea_r5 _ hk) ?_
  refine ev_iconst (pc := 60) (x := 0) dX5_goBackTo_60 ci_0 ?_
  refine ev_aload_n (pc := 61) 1 dX5_goBackTo_61 rfl rfl ?_
  refine ev_getIc (pc := 62) fl5_46 rfl dX5_goBackTo_62 rfl (sea_k hp0) (sea_nz hp0) (sea_n9 hp0) 0 rfl ?_
  obtain ⟨c7, h⟩ := ck_some h
  obtain ⟨M8, eM8, h⟩ := lt_some h
  refine ev_cpy (pc := 65) cp5_52 rfl dX5_goBackTo_65 (Nat.le_of_ble_eq_true rfl) (by omega) (sea_ak5 hp0) (sea_anz5 hp0) (sea_a95 hp0) (sea_ak5 hk) (sea_anz5 hk) (sea_a95 hk) (by refine ⟨?_, ?_, ?_, ?_, ?_⟩ <;> omega) eM8 ?_
  refine ev_aload_n (pc := 68) 1 dX5_goBackTo_68 rfl rfl ?_
  refine ev_getR (pc := 69) fl5_30 rfl dX5_goBackTo_69 rfl (sea_k hp0) (sea_nz hp0) (sea_r8 _ hp0) ?_
  refine ev_iconst (pc := 72) (x := 0) dX5_goBackTo_72 ci_0 ?_
  refine ev_aload_n (pc := 73) 0 dX5_goBackTo_73 rfl rfl ?_
  refine ev_getR (pc := 74) fl5_30 rfl dX5_goBackTo_74 rfl (sea_k hk) (sea_nz hk) (sea_r8 _ hk) ?_
  refine ev_iconst (pc := 77) (x := 0) dX5_goBackTo_77 ci_0 ?_
  refine ev_aload_n (pc := 78) 1 dX5_goBackTo_78 rfl rfl ?_
  refine ev_getIc (pc := 79) fl5_49 rfl dX5_goBackTo_79 rfl (sea_k hp0) (sea_nz hp0) (sea_n9 hp0) 6 rfl ?_
  obtain ⟨c9, h⟩ := ck_some h
  obtain ⟨M10, eM10, h⟩ := lt_some h
  refine ev_cpy (pc := 82) cp5_52 rfl dX5_goBackTo_82 (Nat.le_of_ble_eq_true rfl) (by omega) (sea_ak8 hp0) (sea_anz8 hp0) (sea_a98 hp0) (sea_ak8 hk) (sea_anz8 hk) (sea_a98 hk) (by refine ⟨?_, ?_, ?_, ?_, ?_⟩ <;> omega) eM10 ?_
  refine ev_aload_n (pc := 85) 1 dX5_goBackTo_85 rfl rfl ?_
  refine ev_getR (pc := 86) fl5_33 rfl dX5_goBackTo_86 rfl (sea_k hp0) (sea_nz hp0) (sea_r9 _ hp0) ?_
  refine ev_iconst (pc := 89) (x := 0) dX5_goBackTo_89 ci_0 ?_
  refine ev_aload_n (pc := 90) 0 dX5_goBackTo_90 rfl rfl ?_
  refine ev_getR (pc := 91) fl5_33 rfl dX5_goBackTo_91 rfl (sea_k hk) (sea_nz hk) (sea_r9 _ hk) ?_
  refine ev_iconst (pc := 94) (x := 0) dX5_goBackTo_94 ci_0 ?_
  refine ev_aload_n (pc := 95) 1 dX5_goBackTo_95 rfl rfl ?_
  refine ev_getIc (pc := 96) fl5_49 rfl dX5_goBackTo_96 rfl (sea_k hp0) (sea_nz hp0) (sea_n9 hp0) 6 rfl ?_
  obtain ⟨c11, h⟩ := ck_some h
  obtain ⟨M12, eM12, h⟩ := lt_some h
  refine ev_cpy (pc := 99) cp5_52 rfl dX5_goBackTo_99 (Nat.le_of_ble_eq_true rfl) (by omega) (sea_ak9 hp0) (sea_anz9 hp0) (sea_a99 hp0) (sea_ak9 hk) (sea_anz9 hk) (sea_a99 hk) (by refine ⟨?_, ?_, ?_, ?_, ?_⟩ <;> omega) eM12 ?_
  refine ev_aload_n (pc := 102) 1 dX5_goBackTo_102 rfl rfl ?_
  refine ev_getR (pc := 103) fl5_36 rfl dX5_goBackTo_103 rfl (sea_k hp0) (sea_nz hp0) (sea_r10 _ hp0) ?_
  refine ev_iconst (pc := 106) (x := 0) dX5_goBackTo_106 ci_0 ?_
  refine ev_aload_n (pc := 107) 0 dX5_goBackTo_107 rfl rfl ?_
  refine ev_getR (pc := 108) fl5_36 rfl dX5_goBackTo_108 rfl (sea_k hk) (sea_nz hk) (sea_r10 _ hk) ?_
  refine ev_iconst (pc := 111) (x := 0) dX5_goBackTo_111 ci_0 ?_
  refine ev_aload_n (pc := 112) 1 dX5_goBackTo_112 rfl rfl ?_
  refine ev_getIc (pc := 113) fl5_49 rfl dX5_goBackTo_113 rfl (sea_k hp0) (sea_nz hp0) (sea_n9 hp0) 6 rfl ?_
  obtain ⟨c13, h⟩ := ck_some h
  obtain ⟨M14, eM14, h⟩ := lt_some h
  refine ev_cpy (pc := 116) cp5_52 rfl dX5_goBackTo_116 (Nat.le_of_ble_eq_true rfl) (by omega) (sea_ak10 hp0) (sea_anz10 hp0) (sea_a910 hp0) (sea_ak10 hk) (sea_anz10 hk) (sea_a910 hk) (by refine ⟨?_, ?_, ?_, ?_, ?_⟩ <;> omega) eM14 ?_
  refine ev_aload_n (pc := 119) 0 dX5_goBackTo_119 rfl rfl ?_
  refine ev_aload_n (pc := 120) 1 dX5_goBackTo_120 rfl rfl ?_
  refine ev_getIc (pc := 121) fl5_62 rfl dX5_goBackTo_121 rfl (sea_k hp0) (sea_nz hp0) (sea_n9 hp0) 11 rfl ?_
  obtain ⟨M15, eM15, h⟩ := lt_some h
  refine ev_putIc (pc := 124) fl5_62 rfl dX5_goBackTo_124 (sea_k hk) (sea_nz hk) (sea_n9 hk) eM15 ?_
  refine ev_aload_n (pc := 127) 0 dX5_goBackTo_127 rfl rfl ?_
  refine ev_aload_n (pc := 128) 1 dX5_goBackTo_128 rfl rfl ?_
  refine ev_getIc (pc := 129) fl5_65 rfl dX5_goBackTo_129 rfl (sea_k hp0) (sea_nz hp0) (sea_n9 hp0) 12 rfl ?_
  obtain ⟨M16, eM16, h⟩ := lt_some h
  refine ev_putIc (pc := 132) fl5_65 rfl dX5_goBackTo_132 (sea_k hk) (sea_nz hk) (sea_n9 hk) eM16 ?_
  refine ev_aload_n (pc := 135) 0 dX5_goBackTo_135 rfl rfl ?_
  refine ev_aload_n (pc := 136) 1 dX5_goBackTo_136 rfl rfl ?_
  refine ev_getIc (pc := 137) fl5_68 rfl dX5_goBackTo_137 rfl (sea_k hp0) (sea_nz hp0) (sea_n9 hp0) 13 rfl ?_
  obtain ⟨M17, eM17, h⟩ := lt_some h
  refine ev_putIc (pc := 140) fl5_68 rfl dX5_goBackTo_140 (sea_k hk) (sea_nz hk) (sea_n9 hk) eM17 ?_
  refine ev_aload_n (pc := 143) 0 dX5_goBackTo_143 rfl rfl ?_
  refine ev_aload_n (pc := 144) 1 dX5_goBackTo_144 rfl rfl ?_
  refine ev_getIc (pc := 145) fl5_39 rfl dX5_goBackTo_145 rfl (sea_k hp0) (sea_nz hp0) (sea_n9 hp0) 14 rfl ?_
  obtain ⟨M18, eM18, h⟩ := lt_some h
  refine ev_putIc (pc := 148) fl5_39 rfl dX5_goBackTo_148 (sea_k hk) (sea_nz hk) (sea_n9 hk) eM18 ?_
  refine ev_aload_n (pc := 151) 0 dX5_goBackTo_151 rfl rfl ?_
  refine ev_aload_n (pc := 152) 1 dX5_goBackTo_152 rfl rfl ?_
  refine ev_getIc (pc := 153) fl5_71 rfl dX5_goBackTo_153 rfl (sea_k hp0) (sea_nz hp0) (sea_n9 hp0) 15 rfl ?_
  obtain ⟨M19, eM19, h⟩ := lt_some h
  refine ev_putIc (pc := 156) fl5_71 rfl dX5_goBackTo_156 (sea_k hk) (sea_nz hk) (sea_n9 hk) eM19 ?_
  refine ev_aload_n (pc := 159) 1 dX5_goBackTo_159 rfl rfl ?_
  refine ev_getR (pc := 160) fl5_43 rfl dX5_goBackTo_160 rfl (sea_k hp0) (sea_nz hp0) (sea_r16 _ hp0) ?_
  refine ev_iconst (pc := 163) (x := 0) dX5_goBackTo_163 ci_0 ?_
  refine ev_aload_n (pc := 164) 0 dX5_goBackTo_164 rfl rfl ?_
  refine ev_getR (pc := 165) fl5_43 rfl dX5_goBackTo_165 rfl (sea_k hk) (sea_nz hk) (sea_r16 _ hk) ?_
  refine ev_iconst (pc := 168) (x := 0) dX5_goBackTo_168 ci_0 ?_
  refine ev_aload_n (pc := 169) 1 dX5_goBackTo_169 rfl rfl ?_
  refine ev_getIc (pc := 170) fl5_71 rfl dX5_goBackTo_170 rfl (sea_k hp0) (sea_nz hp0) (sea_n9 hp0) 15 rfl ?_
  obtain ⟨c20, h⟩ := ck_some h
  obtain ⟨M21, eM21, h⟩ := lt_some h
  refine ev_cpy (pc := 173) cp5_52 rfl dX5_goBackTo_173 (Nat.le_of_ble_eq_true rfl) (by omega) (sea_ak16 hp0) (sea_anz16 hp0) (sea_a916 hp0) (sea_ak16 hk) (sea_anz16 hk) (sea_a916 hk) (by refine ⟨?_, ?_, ?_, ?_, ?_⟩ <;> omega) eM21 ?_
  cases h
  exact ev_vret (pc := 176) dX5_goBackTo_176 rfl
def f_X5_copyFrom (k p0 : Int) (M : Mem) : Option (Mem) := lt (upM M k 0 (M p0 0)) fun M1 => lt (upM M1 k 6 (M1 p0 6)) fun M2 => lt (cpM M2 (p0 + 1) 0 (k + 1) 0 9) fun M3 => lt (cpM M3 (p0 + 6) 0 (k + 6) 0 7) fun M4 => (f_X5_goBackTo k p0 M4).bind fun q5 => some q5
set_option maxRecDepth 100000 in
set_option maxHeartbeats 4000000 in
theorem e_X5_copyFrom {g : Gm} {d : Nat} {k p0 : Int} {M N : Mem} {M' : Mem} (hd : 2 ≤ d) (hk : isSea k) (hp0 : isSea p0) (h : f_X5_copyFrom k p0 M = some M') : EvM g d mtX5_copyFrom [vR k, vR p0] (sg (mx M N)) (0, 0) vN (sg (mx M' N)) := by
  unfold f_X5_copyFrom at h
  refine EvM.of mkX5_copyFrom.2.2.2.1 (Nat.le_of_ble_eq_true rfl) ?_
  change Ev g d mtX5_copyFrom 0 [(0, vR k), (1, vR p0)] [] (sg (mx M N)) (0, 0) vN (sg (mx M' N))
  refine ev_aload_n (pc := 0) 0 dX5_copyFrom_0 rfl rfl ?_
  refine ev_aload_n (pc := 1) 1 dX5_copyFrom_1 rfl rfl ?_
  refine ev_getIc (pc := 2) fl5_46 rfl dX5_copyFrom_2 rfl (sea_k hp0) (sea_nz hp0) (sea_n9 hp0) 0 rfl ?_
  obtain ⟨M1, eM1, h⟩ := lt_some h
  refine ev_putIc (pc := 5) fl5_46 rfl dX5_copyFrom_5 (sea_k hk) (sea_nz hk) (sea_n9 hk) eM1 ?_
  refine ev_aload_n (pc := 8) 0 dX5_copyFrom_8 rfl rfl ?_
  refine ev_aload_n (pc := 9) 1 dX5_copyFrom_9 rfl rfl ?_
  refine ev_getIc (pc := 10) fl5_49 rfl dX5_copyFrom_10 rfl (sea_k hp0) (sea_nz hp0) (sea_n9 hp0) 6 rfl ?_
  obtain ⟨M2, eM2, h⟩ := lt_some h
  refine ev_putIc (pc := 13) fl5_49 rfl dX5_copyFrom_13 (sea_k hk) (sea_nz hk) (sea_n9 hk) eM2 ?_
  refine ev_aload_n (pc := 16) 1 dX5_copyFrom_16 rfl rfl ?_
  refine ev_getR (pc := 17) fl5_9 rfl dX5_copyFrom_17 rfl (sea_k hp0) (sea_nz hp0) (sea_r1 _ hp0) ?_
  refine ev_iconst (pc := 20) (x := 0) dX5_copyFrom_20 ci_0 ?_
  refine ev_aload_n (pc := 21) 0 dX5_copyFrom_21 rfl rfl ?_
  refine ev_getR (pc := 22) fl5_9 rfl dX5_copyFrom_22 rfl (sea_k hk) (sea_nz hk) (sea_r1 _ hk) ?_
  refine ev_iconst (pc := 25) (x := 0) dX5_copyFrom_25 ci_0 ?_
  refine ev_bipush (pc := 26) (x := 9) dX5_copyFrom_26 cb_9 ?_
  obtain ⟨M3, eM3, h⟩ := lt_some h
  refine ev_cpy (pc := 28) cp5_52 rfl dX5_copyFrom_28 (Nat.le_of_ble_eq_true rfl) (by omega) (sea_ak1 hp0) (sea_anz1 hp0) (sea_a91 hp0) (sea_ak1 hk) (sea_anz1 hk) (sea_a91 hk) (by refine ⟨?_, ?_, ?_, ?_, ?_⟩ <;> omega) eM3 ?_
  refine ev_aload_n (pc := 31) 1 dX5_copyFrom_31 rfl rfl ?_
  refine ev_getR (pc := 32) fl5_27 rfl dX5_copyFrom_32 rfl (sea_k hp0) (sea_nz hp0) (sea_r7 _ hp0) ?_
  refine ev_iconst (pc := 35) (x := 0) dX5_copyFrom_35 ci_0 ?_
  refine ev_aload_n (pc := 36) 0 dX5_copyFrom_36 rfl rfl ?_
  refine ev_getR (pc := 37) fl5_27 rfl dX5_copyFrom_37 rfl (sea_k hk) (sea_nz hk) (sea_r7 _ hk) ?_
  refine ev_iconst (pc := 40) (x := 0) dX5_copyFrom_40 ci_0 ?_
  refine ev_bipush (pc := 41) (x := 7) dX5_copyFrom_41 cb_7 ?_
  obtain ⟨M4, eM4, h⟩ := lt_some h
  refine ev_cpy (pc := 43) cp5_52 rfl dX5_copyFrom_43 (Nat.le_of_ble_eq_true rfl) (by omega) (sea_ak7 hp0) (sea_anz7 hp0) (sea_a97 hp0) (sea_ak7 hk) (sea_anz7 hk) (sea_a97 hk) (by refine ⟨?_, ?_, ?_, ?_, ?_⟩ <;> omega) eM4 ?_
  refine ev_aload_n (pc := 46) 0 dX5_copyFrom_46 rfl rfl ?_
  refine ev_aload_n (pc := 47) 1 dX5_copyFrom_47 rfl rfl ?_
  obtain ⟨q5, hq5, h⟩ := bd h
  refine ev_cV0 (pc := 48) [vR p0] [] rfl mkX5_goBackTo ml5_58 mnX5_goBackTo dX5_copyFrom_48 (sea_k hk) (sea_nz hk) rfl (Nat.le_of_ble_eq_true rfl) (by omega) (e_X5_goBackTo (d := d - 1) (M' := q5) (by omega) hk hp0 hq5) ?_
  cases h
  exact ev_vret (pc := 51) dX5_copyFrom_51 rfl
def f_X0_keep (k p0 : Int) (M : Mem) : Option (Mem) := ck (0 ≤ (M k 1) ∧ (M k 1) < 30) ((f_X5_copyFrom (k + 2 + 11 * (M k 1)) p0 M).bind fun q2 => lt (upM q2 k 1 (iRem (wI ((q2 k 1) + 1)) 30)) fun M3 => lt (upM M3 k 2 (min 30 (wI ((M3 k 2) + 1)))) fun M4 => some M4)
set_option maxRecDepth 100000 in
set_option maxHeartbeats 4000000 in
theorem e_X0_keep {g : Gm} {d : Nat} {k p0 : Int} {M N : Mem} {M' : Mem} (hd : 3 ≤ d) (hk : isActs k) (hp0 : isSea p0) (h : f_X0_keep k p0 M = some M') : EvM g d mtX0_keep [vR k, vR p0] (sg (mx M N)) (0, 0) vN (sg (mx M' N)) := by
  unfold f_X0_keep at h
  refine EvM.of mkX0_keep.2.2.2.1 (Nat.le_of_ble_eq_true rfl) ?_
  change Ev g d mtX0_keep 0 [(0, vR k), (1, vR p0)] [] (sg (mx M N)) (0, 0) vN (sg (mx M' N))
  refine ev_aload_n (pc := 0) 0 dX0_keep_0 rfl rfl ?_
  refine ev_getR (pc := 1) fl0_11 rfl dX0_keep_1 rfl (acts_k hk) (acts_nz hk) (acts_r0 _ hk) ?_
  refine ev_aload_n (pc := 4) 0 dX0_keep_4 rfl rfl ?_
  refine ev_getIc (pc := 5) fl0_18 rfl dX0_keep_5 rfl (acts_k hk) (acts_nz hk) (acts_n9 hk) 1 rfl ?_
  obtain ⟨c1, h⟩ := ck_some h
  refine ev_rld (pc := 8) dX0_keep_8 (by decide) (acts_ak0 hk) (acts_anz0 hk) c1.1 c1.2 (acts_seaR _ hk c1.1 c1.2) ?_
  refine ev_aload_n (pc := 9) 1 dX0_keep_9 rfl rfl ?_
  obtain ⟨q2, hq2, h⟩ := bd h
  refine ev_cV0 (pc := 10) [vR p0] [] rfl mkX5_copyFrom ml0_22 mnX5_copyFrom dX0_keep_10 (sea_k (acts_sea hk c1.1 c1.2)) (sea_nz (acts_sea hk c1.1 c1.2)) rfl (Nat.le_of_ble_eq_true rfl) (by omega) (e_X5_copyFrom (d := d - 1) (M' := q2) (by omega) (acts_sea hk c1.1 c1.2) hp0 hq2) ?_
  refine ev_aload_n (pc := 13) 0 dX0_keep_13 rfl rfl ?_
  refine ev_aload_n (pc := 14) 0 dX0_keep_14 rfl rfl ?_
  refine ev_getIc (pc := 15) fl0_18 rfl dX0_keep_15 rfl (acts_k hk) (acts_nz hk) (acts_n9 hk) 1 rfl ?_
  refine ev_iconst (pc := 18) (x := 1) dX0_keep_18 ci_1 ?_
  refine ev_iadd (pc := 19) dX0_keep_19 ?_
  refine ev_bipush (pc := 20) (x := 30) dX0_keep_20 cb_30 ?_
  refine ev_irem (pc := 22) dX0_keep_22 (by omega) ?_
  obtain ⟨M3, eM3, h⟩ := lt_some h
  refine ev_putIc (pc := 23) fl0_18 rfl dX0_keep_23 (acts_k hk) (acts_nz hk) (acts_n9 hk) eM3 ?_
  refine ev_aload_n (pc := 26) 0 dX0_keep_26 rfl rfl ?_
  refine ev_bipush (pc := 27) (x := 30) dX0_keep_27 cb_30 ?_
  refine ev_aload_n (pc := 29) 0 dX0_keep_29 rfl rfl ?_
  refine ev_getIc (pc := 30) fl0_26 rfl dX0_keep_30 rfl (acts_k hk) (acts_nz hk) (acts_n9 hk) 2 rfl ?_
  refine ev_iconst (pc := 33) (x := 1) dX0_keep_33 ci_1 ?_
  refine ev_iadd (pc := 34) dX0_keep_34 ?_
  refine ev_min (pc := 35) rfl mm0_29 (Nat.le_of_ble_eq_true rfl) (by omega) dX0_keep_35 ?_
  obtain ⟨M4, eM4, h⟩ := lt_some h
  refine ev_putIc (pc := 38) fl0_26 rfl dX0_keep_38 (acts_k hk) (acts_nz hk) (acts_n9 hk) eM4 ?_
  cases h
  exact ev_vret (pc := 41) dX0_keep_41 rfl
def f_X0_takeBack (k p0 : Int) (M : Mem) : Option (Int × Mem) := if (M k 2) ≠ 0 then (lt (upM M k 1 (iRem (wI ((wI ((M k 1) + 30)) - 1)) 30)) fun M2 => lt (upM M2 k 2 (wI ((M2 k 2) - 1))) fun M3 => ck (0 ≤ (M3 k 1) ∧ (M3 k 1) < 30) ((f_X5_goBackTo p0 (k + 2 + 11 * (M3 k 1)) M3).bind fun q5 => some ((q5 k 2), q5))) else (some ((-1), M))
set_option maxRecDepth 100000 in
set_option maxHeartbeats 4000000 in
theorem e_X0_takeBack {g : Gm} {d : Nat} {k p0 : Int} {M N : Mem} {v : Int} {M' : Mem} (hd : 2 ≤ d) (hk : isActs k) (hp0 : isSea p0) (h : f_X0_takeBack k p0 M = some (v, M')) : EvM g d mtX0_takeBack [vR k, vR p0] (sg (mx M N)) (0, 0) (vI v) (sg (mx M' N)) := by
  unfold f_X0_takeBack at h
  refine EvM.of mkX0_takeBack.2.2.2.1 (Nat.le_of_ble_eq_true rfl) ?_
  change Ev g d mtX0_takeBack 0 [(0, vR k), (1, vR p0)] [] (sg (mx M N)) (0, 0) (vI v) (sg (mx M' N))
  refine ev_aload_n (pc := 0) 0 dX0_takeBack_0 rfl rfl ?_
  refine ev_getIc (pc := 1) fl0_26 rfl dX0_takeBack_1 rfl (acts_k hk) (acts_nz hk) (acts_n9 hk) 2 rfl ?_
  refine ev_if_ne (pc := 4) (tgt := 9) dX0_takeBack_4 (by decide) (fun b1 => ?_) (fun b1 => ?_)
  · rw [if_pos b1] at h
    refine ev_aload_n (pc := 9) 0 dX0_takeBack_9 rfl rfl ?_
    refine ev_aload_n (pc := 10) 0 dX0_takeBack_10 rfl rfl ?_
    refine ev_getIc (pc := 11) fl0_18 rfl dX0_takeBack_11 rfl (acts_k hk) (acts_nz hk) (acts_n9 hk) 1 rfl ?_
    refine ev_bipush (pc := 14) (x := 30) dX0_takeBack_14 cb_30 ?_
    refine ev_iadd (pc := 16) dX0_takeBack_16 ?_
    refine ev_iconst (pc := 17) (x := 1) dX0_takeBack_17 ci_1 ?_
    refine ev_isub (pc := 18) dX0_takeBack_18 ?_
    refine ev_bipush (pc := 19) (x := 30) dX0_takeBack_19 cb_30 ?_
    refine ev_irem (pc := 21) dX0_takeBack_21 (by omega) ?_
    obtain ⟨M2, eM2, h⟩ := lt_some h
    refine ev_putIc (pc := 22) fl0_18 rfl dX0_takeBack_22 (acts_k hk) (acts_nz hk) (acts_n9 hk) eM2 ?_
    refine ev_aload_n (pc := 25) 0 dX0_takeBack_25 rfl rfl ?_
    refine ev_dup (pc := 26) rfl dX0_takeBack_26 ?_
    refine ev_getIc (pc := 27) fl0_26 rfl dX0_takeBack_27 rfl (acts_k hk) (acts_nz hk) (acts_n9 hk) 2 rfl ?_
    refine ev_iconst (pc := 30) (x := 1) dX0_takeBack_30 ci_1 ?_
    refine ev_isub (pc := 31) dX0_takeBack_31 ?_
    obtain ⟨M3, eM3, h⟩ := lt_some h
    refine ev_putIc (pc := 32) fl0_26 rfl dX0_takeBack_32 (acts_k hk) (acts_nz hk) (acts_n9 hk) eM3 ?_
    refine ev_aload_n (pc := 35) 1 dX0_takeBack_35 rfl rfl ?_
    refine ev_aload_n (pc := 36) 0 dX0_takeBack_36 rfl rfl ?_
    refine ev_getR (pc := 37) fl0_11 rfl dX0_takeBack_37 rfl (acts_k hk) (acts_nz hk) (acts_r0 _ hk) ?_
    refine ev_aload_n (pc := 40) 0 dX0_takeBack_40 rfl rfl ?_
    refine ev_getIc (pc := 41) fl0_18 rfl dX0_takeBack_41 rfl (acts_k hk) (acts_nz hk) (acts_n9 hk) 1 rfl ?_
    obtain ⟨c4, h⟩ := ck_some h
    refine ev_rld (pc := 44) dX0_takeBack_44 (by decide) (acts_ak0 hk) (acts_anz0 hk) c4.1 c4.2 (acts_seaR _ hk c4.1 c4.2) ?_
    obtain ⟨q5, hq5, h⟩ := bd h
    refine ev_cV0 (pc := 45) [vR (k + 2 + 11 * (M3 k 1))] [] rfl mkX5_goBackTo ml0_35 mnX5_goBackTo dX0_takeBack_45 (sea_k hp0) (sea_nz hp0) rfl (Nat.le_of_ble_eq_true rfl) (by omega) (e_X5_goBackTo (d := d - 1) (M' := q5) (by omega) hp0 (acts_sea hk c4.1 c4.2) hq5) ?_
    refine ev_aload_n (pc := 48) 0 dX0_takeBack_48 rfl rfl ?_
    refine ev_getIc (pc := 49) fl0_26 rfl dX0_takeBack_49 rfl (acts_k hk) (acts_nz hk) (acts_n9 hk) 2 rfl ?_
    cases h
    exact ev_iret (pc := 52) dX0_takeBack_52 rfl
  · rw [if_neg b1] at h
    refine ev_iconst (pc := 7) (x := (-1)) dX0_takeBack_7 ci_m1 ?_
    cases h
    exact ev_iret (pc := 8) dX0_takeBack_8 rfl
def f_X0_copyFrom_L2 : Nat → Int → Int → Int → Mem → Option (Mem)
  | 0, _, _, _, _ => none
  | n + 1, k, p0, x2, M => if 30 ≤ x2 then (some M) else (ck (0 ≤ x2 ∧ x2 < 30) ((f_X5_copyFrom (k + 2 + 11 * x2) (p0 + 2 + 11 * x2) M).bind fun q3 => f_X0_copyFrom_L2 n k p0 (wI (x2 + 1)) q3))
set_option maxRecDepth 100000 in
set_option maxHeartbeats 4000000 in
theorem e_X0_copyFrom_L2 {g : Gm} {d : Nat} {k p0 : Int} {r : Vv} {σ' : Sg} {N : Mem} (hd : 3 ≤ d) (hk : isActs k) (hp0 : isActs p0) : ∀ (n : Nat) {x2 : Int} {M : Mem} {q : Mem}, f_X0_copyFrom_L2 n k p0 x2 M = some q → Ev g d mtX0_copyFrom 29 [(0, vR k), (1, vR p0)] [] (sg (mx q N)) (0, 0) r σ' → Ev g d mtX0_copyFrom 2 [(0, vR k), (1, vR p0), (2, vI x2)] [] (sg (mx M N)) (0, 0) r σ' := by
  intro n
  induction n with
  | zero =>
    intro x2 M q h hk0
    rw [f_X0_copyFrom_L2.eq_1] at h
    cases h
  | succ n ih =>
    intro x2 M q h hk0
    rw [f_X0_copyFrom_L2.eq_2] at h
    refine ev_iload_n (pc := 2) 2 dX0_copyFrom_2 rfl rfl ?_
    refine ev_bipush (pc := 3) (x := 30) dX0_copyFrom_3 cb_30 ?_
    refine ev_icmp_ge (pc := 5) (tgt := 29) dX0_copyFrom_5 (by decide) (fun b1 => ?_) (fun b1 => ?_)
    · rw [if_pos b1] at h
      cases h
      refine ev_pick [0, 1] rfl ?_
      exact hk0
    · rw [if_neg b1] at h
      refine ev_aload_n (pc := 8) 0 dX0_copyFrom_8 rfl rfl ?_
      refine ev_getR (pc := 9) fl0_11 rfl dX0_copyFrom_9 rfl (acts_k hk) (acts_nz hk) (acts_r0 _ hk) ?_
      refine ev_iload_n (pc := 12) 2 dX0_copyFrom_12 rfl rfl ?_
      obtain ⟨c2, h⟩ := ck_some h
      refine ev_rld (pc := 13) dX0_copyFrom_13 (by decide) (acts_ak0 hk) (acts_anz0 hk) c2.1 c2.2 (acts_seaR _ hk c2.1 c2.2) ?_
      refine ev_aload_n (pc := 14) 1 dX0_copyFrom_14 rfl rfl ?_
      refine ev_getR (pc := 15) fl0_11 rfl dX0_copyFrom_15 rfl (acts_k hp0) (acts_nz hp0) (acts_r0 _ hp0) ?_
      refine ev_iload_n (pc := 18) 2 dX0_copyFrom_18 rfl rfl ?_
      refine ev_rld (pc := 19) dX0_copyFrom_19 (by decide) (acts_ak0 hp0) (acts_anz0 hp0) c2.1 c2.2 (acts_seaR _ hp0 c2.1 c2.2) ?_
      obtain ⟨q3, hq3, h⟩ := bd h
      refine ev_cV0 (pc := 20) [vR (p0 + 2 + 11 * x2)] [] rfl mkX5_copyFrom ml0_22 mnX5_copyFrom dX0_copyFrom_20 (sea_k (acts_sea hk c2.1 c2.2)) (sea_nz (acts_sea hk c2.1 c2.2)) rfl (Nat.le_of_ble_eq_true rfl) (by omega) (e_X5_copyFrom (d := d - 1) (M' := q3) (by omega) (acts_sea hk c2.1 c2.2) (acts_sea hp0 c2.1 c2.2) hq3) ?_
      refine ev_iinc (pc := 23) (il' := [(2, vI (wI (x2 + 1))), (0, vR k), (1, vR p0)]) 2 dX0_copyFrom_23 rfl (Nat.le_of_ble_eq_true rfl) rfl rfl ?_
      refine ev_goto (pc := 26) (tgt := 2) dX0_copyFrom_26 (by decide) ?_
      refine ev_pick [1, 2, 0] rfl ?_
      exact ih h hk0
def f_X0_copyFrom (n : Nat) (k p0 : Int) (M : Mem) : Option (Mem) := (f_X0_copyFrom_L2 n k p0 0 M).bind fun q4 => lt (upM q4 k 1 (q4 p0 1)) fun M5 => lt (upM M5 k 2 (M5 p0 2)) fun M6 => some M6
set_option maxRecDepth 100000 in
set_option maxHeartbeats 4000000 in
theorem e_X0_copyFrom {g : Gm} {d : Nat} {n : Nat} {k p0 : Int} {M N : Mem} {M' : Mem} (hd : 3 ≤ d) (hk : isActs k) (hp0 : isActs p0) (h : f_X0_copyFrom n k p0 M = some M') : EvM g d mtX0_copyFrom [vR k, vR p0] (sg (mx M N)) (0, 0) vN (sg (mx M' N)) := by
  unfold f_X0_copyFrom at h
  refine EvM.of mkX0_copyFrom.2.2.2.1 (Nat.le_of_ble_eq_true rfl) ?_
  change Ev g d mtX0_copyFrom 0 [(0, vR k), (1, vR p0)] [] (sg (mx M N)) (0, 0) vN (sg (mx M' N))
  refine ev_iconst (pc := 0) (x := 0) dX0_copyFrom_0 ci_0 ?_
  refine ev_istore_n (pc := 1) (il' := [(2, vI 0), (0, vR k), (1, vR p0)]) dX0_copyFrom_1 rfl (Nat.le_of_ble_eq_true rfl) rfl ?_
  obtain ⟨q4, hq4, h⟩ := bd h
  refine ev_pick [1, 2, 0] rfl ?_
  refine e_X0_copyFrom_L2 hd hk hp0 n hq4 ?_
  refine ev_aload_n (pc := 29) 0 dX0_copyFrom_29 rfl rfl ?_
  refine ev_aload_n (pc := 30) 1 dX0_copyFrom_30 rfl rfl ?_
  refine ev_getIc (pc := 31) fl0_18 rfl dX0_copyFrom_31 rfl (acts_k hp0) (acts_nz hp0) (acts_n9 hp0) 1 rfl ?_
  obtain ⟨M5, eM5, h⟩ := lt_some h
  refine ev_putIc (pc := 34) fl0_18 rfl dX0_copyFrom_34 (acts_k hk) (acts_nz hk) (acts_n9 hk) eM5 ?_
  refine ev_aload_n (pc := 37) 0 dX0_copyFrom_37 rfl rfl ?_
  refine ev_aload_n (pc := 38) 1 dX0_copyFrom_38 rfl rfl ?_
  refine ev_getIc (pc := 39) fl0_26 rfl dX0_copyFrom_39 rfl (acts_k hp0) (acts_nz hp0) (acts_n9 hp0) 2 rfl ?_
  obtain ⟨M6, eM6, h⟩ := lt_some h
  refine ev_putIc (pc := 42) fl0_26 rfl dX0_copyFrom_42 (acts_k hk) (acts_nz hk) (acts_n9 hk) eM6 ?_
  cases h
  exact ev_vret (pc := 45) dX0_copyFrom_45 rfl
def f_J6_bitCount_0f7a4 (p0 : Int) : Int := lt ((wI ((bAnd (wI (p0 - (bAnd (bUshr p0 1) 1431655765))) 858993459) + (bAnd (bUshr (wI (p0 - (bAnd (bUshr p0 1) 1431655765))) 2) 858993459)))) fun y1 => lt ((wI ((bAnd (wI (y1 + (bUshr y1 4))) 252645135) + (bUshr (bAnd (wI (y1 + (bUshr y1 4))) 252645135) 8)))) fun y2 => (bAnd (wI (y2 + (bUshr y2 16))) 63)
set_option maxRecDepth 100000 in
set_option maxHeartbeats 4000000 in
theorem e_J6_bitCount_0f7a4 {g : Gm} {d : Nat} {p0 : Int} {M0 : Mem} {v : Int} (hd : 0 ≤ d) (h : f_J6_bitCount_0f7a4 p0 = v) : EvM g d mtJ6_bitCount_0f7a4 [vI p0] (sg M0) (0, 0) (vI v) (sg M0) := by
  unfold f_J6_bitCount_0f7a4 at h
  refine EvM.of mkJ6_bitCount_0f7a4.2.2.2.1 (Nat.le_of_ble_eq_true rfl) ?_
  change Ev g d mtJ6_bitCount_0f7a4 0 [(0, vI p0)] [] (sg M0) (0, 0) (vI v) (sg M0)
  refine ev_iload_n (pc := 0) 0 dJ6_bitCount_0f7a4_0 rfl rfl ?_
  refine ev_iload_n (pc := 1) 0 dJ6_bitCount_0f7a4_1 rfl rfl ?_
  refine ev_iconst (pc := 2) (x := 1) dJ6_bitCount_0f7a4_2 ci_1 ?_
  refine ev_iushr (pc := 3) dJ6_bitCount_0f7a4_3 ?_
  refine ev_ldcw (pc := 4) (x := 1431655765) rfl kcJ6_265 cc_1431655765 dJ6_bitCount_0f7a4_4 ?_
  refine ev_iand (pc := 7) dJ6_bitCount_0f7a4_7 ?_
  refine ev_isub (pc := 8) dJ6_bitCount_0f7a4_8 ?_
  refine ev_istore_n (pc := 9) (il' := [(0, vI (wI (p0 - (bAnd (bUshr p0 1) 1431655765))))]) dJ6_bitCount_0f7a4_9 rfl (Nat.le_of_ble_eq_true rfl) rfl ?_
  refine ev_iload_n (pc := 10) 0 dJ6_bitCount_0f7a4_10 rfl rfl ?_
  refine ev_ldcw (pc := 11) (x := 858993459) rfl kcJ6_266 cc_858993459 dJ6_bitCount_0f7a4_11 ?_
  refine ev_iand (pc := 14) dJ6_bitCount_0f7a4_14 ?_
  refine ev_iload_n (pc := 15) 0 dJ6_bitCount_0f7a4_15 rfl rfl ?_
  refine ev_iconst (pc := 16) (x := 2) dJ6_bitCount_0f7a4_16 ci_2 ?_
  refine ev_iushr (pc := 17) dJ6_bitCount_0f7a4_17 ?_
  refine ev_ldcw (pc := 18) (x := 858993459) rfl kcJ6_266 cc_858993459 dJ6_bitCount_0f7a4_18 ?_
  refine ev_iand (pc := 21) dJ6_bitCount_0f7a4_21 ?_
  refine ev_iadd (pc := 22) dJ6_bitCount_0f7a4_22 ?_
  obtain ⟨y1, ey1, h⟩ := lt_some h
  refine ev_istore_n (pc := 23) (il' := [(0, vI y1)]) dJ6_bitCount_0f7a4_23 rfl (Nat.le_of_ble_eq_true rfl) (by rw [ey1] <;> rfl) ?_
  refine ev_iload_n (pc := 24) 0 dJ6_bitCount_0f7a4_24 rfl rfl ?_
  refine ev_iload_n (pc := 25) 0 dJ6_bitCount_0f7a4_25 rfl rfl ?_
  refine ev_iconst (pc := 26) (x := 4) dJ6_bitCount_0f7a4_26 ci_4 ?_
  refine ev_iushr (pc := 27) dJ6_bitCount_0f7a4_27 ?_
  refine ev_iadd (pc := 28) dJ6_bitCount_0f7a4_28 ?_
  refine ev_ldcw (pc := 29) (x := 252645135) rfl kcJ6_267 cc_252645135 dJ6_bitCount_0f7a4_29 ?_
  refine ev_iand (pc := 32) dJ6_bitCount_0f7a4_32 ?_
  refine ev_istore_n (pc := 33) (il' := [(0, vI (bAnd (wI (y1 + (bUshr y1 4))) 252645135))]) dJ6_bitCount_0f7a4_33 rfl (Nat.le_of_ble_eq_true rfl) rfl ?_
  refine ev_iload_n (pc := 34) 0 dJ6_bitCount_0f7a4_34 rfl rfl ?_
  refine ev_iload_n (pc := 35) 0 dJ6_bitCount_0f7a4_35 rfl rfl ?_
  refine ev_bipush (pc := 36) (x := 8) dJ6_bitCount_0f7a4_36 cb_8 ?_
  refine ev_iushr (pc := 38) dJ6_bitCount_0f7a4_38 ?_
  refine ev_iadd (pc := 39) dJ6_bitCount_0f7a4_39 ?_
  obtain ⟨y2, ey2, h⟩ := lt_some h
  refine ev_istore_n (pc := 40) (il' := [(0, vI y2)]) dJ6_bitCount_0f7a4_40 rfl (Nat.le_of_ble_eq_true rfl) (by rw [ey2] <;> rfl) ?_
  refine ev_iload_n (pc := 41) 0 dJ6_bitCount_0f7a4_41 rfl rfl ?_
  refine ev_iload_n (pc := 42) 0 dJ6_bitCount_0f7a4_42 rfl rfl ?_
  refine ev_bipush (pc := 43) (x := 16) dJ6_bitCount_0f7a4_43 cb_16 ?_
  refine ev_iushr (pc := 45) dJ6_bitCount_0f7a4_45 ?_
  refine ev_iadd (pc := 46) dJ6_bitCount_0f7a4_46 ?_
  refine ev_istore_n (pc := 47) (il' := [(0, vI (wI (y2 + (bUshr y2 16))))]) dJ6_bitCount_0f7a4_47 rfl (Nat.le_of_ble_eq_true rfl) rfl ?_
  refine ev_iload_n (pc := 48) 0 dJ6_bitCount_0f7a4_48 rfl rfl ?_
  refine ev_bipush (pc := 49) (x := 63) dJ6_bitCount_0f7a4_49 cb_63 ?_
  refine ev_iand (pc := 51) dJ6_bitCount_0f7a4_51 ?_
  cases h
  exact ev_iret (pc := 52) dJ6_bitCount_0f7a4_52 rfl
def f_X6_hasLaw (k p0 : Int) (M : Mem) : Option (Int) := if p0 < 0 then (some 0) else (if 5 ≤ p0 then (some 0) else (ck (0 ≤ p0 ∧ p0 < 5) (if (M (k + 6) p0) ≤ (M (k + 5) p0) then (some 0) else (some 1))))
set_option maxRecDepth 100000 in
set_option maxHeartbeats 4000000 in
theorem e_X6_hasLaw {g : Gm} {d : Nat} {k p0 : Int} {M N : Mem} {v : Int} (hd : 0 ≤ d) (hk : isTx k) (h : f_X6_hasLaw k p0 M = some v) : EvM g d mtX6_hasLaw [vR k, vI p0] (sg (mx M N)) (0, 0) (vI v) (sg (mx M N)) := by
  unfold f_X6_hasLaw at h
  refine EvM.of mkX6_hasLaw.2.2.2.1 (Nat.le_of_ble_eq_true rfl) ?_
  change Ev g d mtX6_hasLaw 0 [(0, vR k), (1, vI p0)] [] (sg (mx M N)) (0, 0) (vI v) (sg (mx M N))
  refine ev_iload_n (pc := 0) 1 dX6_hasLaw_0 rfl rfl ?_
  refine ev_if_lt (pc := 1) (tgt := 28) dX6_hasLaw_1 (by decide) (fun b1 => ?_) (fun b1 => ?_)
  · rw [if_pos b1] at h
    refine ev_iconst (pc := 28) (x := 0) dX6_hasLaw_28 ci_0 ?_
    cases h
    exact ev_zret (pc := 29) (Or.inl rfl) dX6_hasLaw_29 rfl
  · rw [if_neg b1] at h
    refine ev_iload_n (pc := 4) 1 dX6_hasLaw_4 rfl rfl ?_
    refine ev_iconst (pc := 5) (x := 5) dX6_hasLaw_5 ci_5 ?_
    refine ev_icmp_ge (pc := 6) (tgt := 28) dX6_hasLaw_6 (by decide) (fun b2 => ?_) (fun b2 => ?_)
    · rw [if_pos b2] at h
      refine ev_iconst (pc := 28) (x := 0) dX6_hasLaw_28 ci_0 ?_
      cases h
      exact ev_zret (pc := 29) (Or.inl rfl) dX6_hasLaw_29 rfl
    · rw [if_neg b2] at h
      refine ev_aload_n (pc := 9) 0 dX6_hasLaw_9 rfl rfl ?_
      refine ev_getR (pc := 10) fl6_24 rfl dX6_hasLaw_10 rfl (tx_k hk) (tx_nz hk) (tx_r6 _ hk) ?_
      refine ev_iload_n (pc := 13) 1 dX6_hasLaw_13 rfl rfl ?_
      obtain ⟨c3, h⟩ := ck_some h
      refine ev_ildc (pc := 14) dX6_hasLaw_14 (tx_ak6 hk) (tx_anz6 hk) (tx_a96 hk) c3.1 c3.2 ?_
      refine ev_aload_n (pc := 15) 0 dX6_hasLaw_15 rfl rfl ?_
      refine ev_getR (pc := 16) fl6_27 rfl dX6_hasLaw_16 rfl (tx_k hk) (tx_nz hk) (tx_r7 _ hk) ?_
      refine ev_iload_n (pc := 19) 1 dX6_hasLaw_19 rfl rfl ?_
      refine ev_ildc (pc := 20) dX6_hasLaw_20 (tx_ak7 hk) (tx_anz7 hk) (tx_a97 hk) c3.1 c3.2 ?_
      refine ev_icmp_ge (pc := 21) (tgt := 28) dX6_hasLaw_21 (by decide) (fun b4 => ?_) (fun b4 => ?_)
      · rw [if_pos b4] at h
        refine ev_iconst (pc := 28) (x := 0) dX6_hasLaw_28 ci_0 ?_
        cases h
        exact ev_zret (pc := 29) (Or.inl rfl) dX6_hasLaw_29 rfl
      · rw [if_neg b4] at h
        refine ev_iconst (pc := 24) (x := 1) dX6_hasLaw_24 ci_1 ?_
        refine ev_goto (pc := 25) (tgt := 29) dX6_hasLaw_25 (by decide) ?_
        cases h
        exact ev_zret (pc := 29) (Or.inr rfl) dX6_hasLaw_29 rfl
def f_X2_hasLaw (p0 : Int) (M : Mem) : Option (Int) := ck (isTx (M 0 0)) ((f_X6_hasLaw (M 0 0) (wI (p0 - 128)) M).bind fun q2 => ck (q2 = 0 ∨ q2 = 1) (some q2))
set_option maxRecDepth 100000 in
set_option maxHeartbeats 4000000 in
theorem e_X2_hasLaw {g : Gm} {d : Nat} {p0 : Int} {M N : Mem} {v : Int} (hd : 1 ≤ d) (h : f_X2_hasLaw p0 M = some v) : EvM g d mtX2_hasLaw [vR 705, vI p0] (sg (mx M N)) (0, 0) (vI v) (sg (mx M N)) := by
  unfold f_X2_hasLaw at h
  refine EvM.of mkX2_hasLaw.2.2.2.1 (Nat.le_of_ble_eq_true rfl) ?_
  change Ev g d mtX2_hasLaw 0 [(0, vR 705), (1, vI p0)] [] (sg (mx M N)) (0, 0) (vI v) (sg (mx M N))
  refine ev_aload_n (pc := 0) 0 dX2_hasLaw_0 rfl rfl ?_
  obtain ⟨c1, h⟩ := ck_some h
  refine ev_getR (pc := 1) fl2_18 rfl dX2_hasLaw_1 rfl kd_705 (by omega) (rf_705_1 _ _) ?_
  refine ev_iload_n (pc := 4) 1 dX2_hasLaw_4 rfl rfl ?_
  refine ev_sipush (pc := 5) (x := 128) dX2_hasLaw_5 cs_128 ?_
  refine ev_isub (pc := 8) dX2_hasLaw_8 ?_
  obtain ⟨q2, hq2, h⟩ := bd h
  refine ev_cV (pc := 9) [vI (wI (p0 - 128))] [] rfl mkX6_hasLaw ml2_54 mnX6_hasLaw dX2_hasLaw_9 (tx_k c1) (tx_nz c1) rfl (Nat.le_of_ble_eq_true rfl) (by omega) rfl (e_X6_hasLaw (d := d - 1) (v := q2) (by omega) c1 hq2) ?_
  obtain ⟨c3, h⟩ := ck_some h
  cases h
  exact ev_zret (pc := 12) c3 dX2_hasLaw_12 rfl
def f_X11_isBetween (p0 p1 p2 : Int) : Int := if p1 < p0 then 0 else (if p2 < p1 then 0 else 1)
set_option maxRecDepth 100000 in
set_option maxHeartbeats 4000000 in
theorem e_X11_isBetween {g : Gm} {d : Nat} {p0 p1 p2 : Int} {M0 : Mem} {v : Int} (hd : 0 ≤ d) (h : f_X11_isBetween p0 p1 p2 = v) : EvM g d mtX11_isBetween [vI p0, vI p1, vI p2] (sg M0) (0, 0) (vI v) (sg M0) := by
  unfold f_X11_isBetween at h
  refine EvM.of mkX11_isBetween.2.2.2.1 (Nat.le_of_ble_eq_true rfl) ?_
  change Ev g d mtX11_isBetween 0 [(0, vI p0), (1, vI p1), (2, vI p2)] [] (sg M0) (0, 0) (vI v) (sg M0)
  refine ev_iload_n (pc := 0) 0 dX11_isBetween_0 rfl rfl ?_
  refine ev_iload_n (pc := 1) 1 dX11_isBetween_1 rfl rfl ?_
  refine ev_icmp_gt (pc := 2) (tgt := 14) dX11_isBetween_2 (by decide) (fun b1 => ?_) (fun b1 => ?_)
  · rw [if_pos b1] at h
    refine ev_iconst (pc := 14) (x := 0) dX11_isBetween_14 ci_0 ?_
    cases h
    exact ev_zret (pc := 15) (Or.inl rfl) dX11_isBetween_15 rfl
  · rw [if_neg b1] at h
    refine ev_iload_n (pc := 5) 1 dX11_isBetween_5 rfl rfl ?_
    refine ev_iload_n (pc := 6) 2 dX11_isBetween_6 rfl rfl ?_
    refine ev_icmp_gt (pc := 7) (tgt := 14) dX11_isBetween_7 (by decide) (fun b2 => ?_) (fun b2 => ?_)
    · rw [if_pos b2] at h
      refine ev_iconst (pc := 14) (x := 0) dX11_isBetween_14 ci_0 ?_
      cases h
      exact ev_zret (pc := 15) (Or.inl rfl) dX11_isBetween_15 rfl
    · rw [if_neg b2] at h
      refine ev_iconst (pc := 10) (x := 1) dX11_isBetween_10 ci_1 ?_
      refine ev_goto (pc := 11) (tgt := 15) dX11_isBetween_11 (by decide) ?_
      cases h
      exact ev_zret (pc := 15) (Or.inr rfl) dX11_isBetween_15 rfl
theorem z_X11_isBetween (p0 p1 p2 : Int) : f_X11_isBetween p0 p1 p2 = 0 ∨ f_X11_isBetween p0 p1 p2 = 1 := by
  unfold f_X11_isBetween
  repeat' split
  all_goals first | exact Or.inl rfl | exact Or.inr rfl
def f_X2_cut (p0 : Int) : Int := if (lCmp p0 1000000) ≤ 0 then (if 0 ≤ (lCmp p0 (-1000000)) then (wI p0) else (-1000000)) else 1000000
set_option maxRecDepth 100000 in
set_option maxHeartbeats 4000000 in
theorem e_X2_cut {g : Gm} {d : Nat} {p0 : Int} {M0 : Mem} {v : Int} (hd : 0 ≤ d) (h : f_X2_cut p0 = v) : EvM g d mtX2_cut [vL p0] (sg M0) (0, 0) (vI v) (sg M0) := by
  unfold f_X2_cut at h
  refine EvM.of mkX2_cut.2.2.2.1 (Nat.le_of_ble_eq_true rfl) ?_
  change Ev g d mtX2_cut 0 [(0, vL p0)] [] (sg M0) (0, 0) (vI v) (sg M0)
  refine ev_lload_n (pc := 0) 0 dX2_cut_0 rfl rfl ?_
  refine ev_ldc2 (pc := 1) (x := 1000000) rfl kc2_98 cj_1000000 dX2_cut_1 ?_
  refine ev_lcmp (pc := 4) dX2_cut_4 ?_
  refine ev_if_le (pc := 5) (tgt := 13) dX2_cut_5 (by decide) (fun b1 => ?_) (fun b1 => ?_)
  · rw [if_pos b1] at h
    refine ev_lload_n (pc := 13) 0 dX2_cut_13 rfl rfl ?_
    refine ev_ldc2 (pc := 14) (x := (-1000000)) rfl kc2_101 cj_m1000000 dX2_cut_14 ?_
    refine ev_lcmp (pc := 17) dX2_cut_17 ?_
    refine ev_if_ge (pc := 18) (tgt := 26) dX2_cut_18 (by decide) (fun b2 => ?_) (fun b2 => ?_)
    · rw [if_pos b2] at h
      refine ev_lload_n (pc := 26) 0 dX2_cut_26 rfl rfl ?_
      refine ev_l2i (pc := 27) dX2_cut_27 ?_
      cases h
      exact ev_iret (pc := 28) dX2_cut_28 rfl
    · rw [if_neg b2] at h
      refine ev_ldc (pc := 21) (x := (-1000000)) rfl kc2_103 cc_m1000000 dX2_cut_21 ?_
      refine ev_goto (pc := 23) (tgt := 28) dX2_cut_23 (by decide) ?_
      cases h
      exact ev_iret (pc := 28) dX2_cut_28 rfl
  · rw [if_neg b1] at h
    refine ev_ldc (pc := 8) (x := 1000000) rfl kc2_100 cc_1000000 dX2_cut_8 ?_
    refine ev_goto (pc := 10) (tgt := 28) dX2_cut_10 (by decide) ?_
    cases h
    exact ev_iret (pc := 28) dX2_cut_28 rfl
def f_X2_joined (p0 p1 p2 : Int) : Option (Int) := (if p0 = 1 then (if 0 < (lCmp p1 p2) then (some 0) else (some 1)) else (if p0 = 2 then (if (lCmp p1 p2) < 0 then (some 0) else (some 1)) else (if p0 = 35 then (if (lCmp p1 p2) = 0 then (some 0) else (some 1)) else (if p0 = 42 then (some (wL (p1 * p2))) else (if p0 = 43 then (some (wL (p1 + p2))) else (if p0 = 45 then (some (wL (p1 - p2))) else (if p0 = 47 then (if (lCmp p2 0) ≠ 0 then (ck (p2 ≠ 0) (some (lDiv p1 p2))) else (some 0)) else (if p0 = 60 then (if 0 ≤ (lCmp p1 p2) then (some 0) else (some 1)) else (if p0 = 61 then (if (lCmp p1 p2) ≠ 0 then (some 0) else (some 1)) else (if p0 = 62 then (if (lCmp p1 p2) ≤ 0 then (some 0) else (some 1)) else (if p0 = 152 then (some (lOr p1 p2)) else (if p0 = 153 then (some (lAnd p1 p2)) else (some 0)))))))))))))
set_option maxRecDepth 100000 in
set_option maxHeartbeats 4000000 in
theorem e_X2_joined {g : Gm} {d : Nat} {p0 p1 p2 : Int} {M0 : Mem} {v : Int} (hd : 0 ≤ d) (h : f_X2_joined p0 p1 p2 = some v) : EvM g d mtX2_joined [vI p0, vL p1, vL p2] (sg M0) (0, 0) (vL v) (sg M0) := by
  unfold f_X2_joined at h
  refine EvM.of mkX2_joined.2.2.2.1 (Nat.le_of_ble_eq_true rfl) ?_
  change Ev g d mtX2_joined 0 [(0, vI p0), (1, vL p1), (3, vL p2)] [] (sg M0) (0, 0) (vL v) (sg M0)
  refine ev_iload_n (pc := 0) 0 dX2_joined_0 rfl rfl ?_
  by_cases b1 : p0 = 1
  · rw [if_pos b1] at h
    refine ev_lsw (pc := 1) (tgt := 182) dX2_joined_1 (by decide) (by rw [b1] <;> rfl) (by decide) ?_
    refine ev_lload_n (pc := 182) 1 dX2_joined_182 rfl rfl ?_
    refine ev_lload_n (pc := 183) 2 dX2_joined_183 rfl rfl ?_
    refine ev_lcmp (pc := 184) dX2_joined_184 ?_
    refine ev_if_gt (pc := 185) (tgt := 192) dX2_joined_185 (by decide) (fun b2 => ?_) (fun b2 => ?_)
    · rw [if_pos b2] at h
      refine ev_lconst (pc := 192) (x := 0) dX2_joined_192 cl_0 ?_
      cases h
      exact ev_lret (pc := 193) dX2_joined_193 rfl
    · rw [if_neg b2] at h
      refine ev_lconst (pc := 188) (x := 1) dX2_joined_188 cl_1 ?_
      refine ev_goto (pc := 189) (tgt := 193) dX2_joined_189 (by decide) ?_
      cases h
      exact ev_lret (pc := 193) dX2_joined_193 rfl
  · rw [if_neg b1] at h
    by_cases b3 : p0 = 2
    · rw [if_pos b3] at h
      refine ev_lsw (pc := 1) (tgt := 194) dX2_joined_1 (by decide) (by rw [b3] <;> rfl) (by decide) ?_
      refine ev_lload_n (pc := 194) 1 dX2_joined_194 rfl rfl ?_
      refine ev_lload_n (pc := 195) 2 dX2_joined_195 rfl rfl ?_
      refine ev_lcmp (pc := 196) dX2_joined_196 ?_
      refine ev_if_lt (pc := 197) (tgt := 204) dX2_joined_197 (by decide) (fun b4 => ?_) (fun b4 => ?_)
      · rw [if_pos b4] at h
        refine ev_lconst (pc := 204) (x := 0) dX2_joined_204 cl_0 ?_
        cases h
        exact ev_lret (pc := 205) dX2_joined_205 rfl
      · rw [if_neg b4] at h
        refine ev_lconst (pc := 200) (x := 1) dX2_joined_200 cl_1 ?_
        refine ev_goto (pc := 201) (tgt := 205) dX2_joined_201 (by decide) ?_
        cases h
        exact ev_lret (pc := 205) dX2_joined_205 rfl
    · rw [if_neg b3] at h
      by_cases b5 : p0 = 35
      · rw [if_pos b5] at h
        refine ev_lsw (pc := 1) (tgt := 170) dX2_joined_1 (by decide) (by rw [b5] <;> rfl) (by decide) ?_
        refine ev_lload_n (pc := 170) 1 dX2_joined_170 rfl rfl ?_
        refine ev_lload_n (pc := 171) 2 dX2_joined_171 rfl rfl ?_
        refine ev_lcmp (pc := 172) dX2_joined_172 ?_
        refine ev_if_eq (pc := 173) (tgt := 180) dX2_joined_173 (by decide) (fun b6 => ?_) (fun b6 => ?_)
        · rw [if_pos b6] at h
          refine ev_lconst (pc := 180) (x := 0) dX2_joined_180 cl_0 ?_
          cases h
          exact ev_lret (pc := 181) dX2_joined_181 rfl
        · rw [if_neg b6] at h
          refine ev_lconst (pc := 176) (x := 1) dX2_joined_176 cl_1 ?_
          refine ev_goto (pc := 177) (tgt := 181) dX2_joined_177 (by decide) ?_
          cases h
          exact ev_lret (pc := 181) dX2_joined_181 rfl
      · rw [if_neg b5] at h
        by_cases b7 : p0 = 42
        · rw [if_pos b7] at h
          refine ev_lsw (pc := 1) (tgt := 116) dX2_joined_1 (by decide) (by rw [b7] <;> rfl) (by decide) ?_
          refine ev_lload_n (pc := 116) 1 dX2_joined_116 rfl rfl ?_
          refine ev_lload_n (pc := 117) 2 dX2_joined_117 rfl rfl ?_
          refine ev_lmul (pc := 118) dX2_joined_118 ?_
          cases h
          exact ev_lret (pc := 119) dX2_joined_119 rfl
        · rw [if_neg b7] at h
          by_cases b8 : p0 = 43
          · rw [if_pos b8] at h
            refine ev_lsw (pc := 1) (tgt := 108) dX2_joined_1 (by decide) (by rw [b8] <;> rfl) (by decide) ?_
            refine ev_lload_n (pc := 108) 1 dX2_joined_108 rfl rfl ?_
            refine ev_lload_n (pc := 109) 2 dX2_joined_109 rfl rfl ?_
            refine ev_ladd (pc := 110) dX2_joined_110 ?_
            cases h
            exact ev_lret (pc := 111) dX2_joined_111 rfl
          · rw [if_neg b8] at h
            by_cases b9 : p0 = 45
            · rw [if_pos b9] at h
              refine ev_lsw (pc := 1) (tgt := 112) dX2_joined_1 (by decide) (by rw [b9] <;> rfl) (by decide) ?_
              refine ev_lload_n (pc := 112) 1 dX2_joined_112 rfl rfl ?_
              refine ev_lload_n (pc := 113) 2 dX2_joined_113 rfl rfl ?_
              refine ev_lsub (pc := 114) dX2_joined_114 ?_
              cases h
              exact ev_lret (pc := 115) dX2_joined_115 rfl
            · rw [if_neg b9] at h
              by_cases b10 : p0 = 47
              · rw [if_pos b10] at h
                refine ev_lsw (pc := 1) (tgt := 120) dX2_joined_1 (by decide) (by rw [b10] <;> rfl) (by decide) ?_
                refine ev_lload_n (pc := 120) 2 dX2_joined_120 rfl rfl ?_
                refine ev_lconst (pc := 121) (x := 0) dX2_joined_121 cl_0 ?_
                refine ev_lcmp (pc := 122) dX2_joined_122 ?_
                refine ev_if_ne (pc := 123) (tgt := 130) dX2_joined_123 (by decide) (fun b11 => ?_) (fun b11 => ?_)
                · rw [if_pos b11] at h
                  refine ev_lload_n (pc := 130) 1 dX2_joined_130 rfl rfl ?_
                  refine ev_lload_n (pc := 131) 2 dX2_joined_131 rfl rfl ?_
                  obtain ⟨c12, h⟩ := ck_some h
                  refine ev_ldiv (pc := 132) dX2_joined_132 c12 ?_
                  cases h
                  exact ev_lret (pc := 133) dX2_joined_133 rfl
                · rw [if_neg b11] at h
                  refine ev_lconst (pc := 126) (x := 0) dX2_joined_126 cl_0 ?_
                  refine ev_goto (pc := 127) (tgt := 133) dX2_joined_127 (by decide) ?_
                  cases h
                  exact ev_lret (pc := 133) dX2_joined_133 rfl
              · rw [if_neg b10] at h
                by_cases b13 : p0 = 60
                · rw [if_pos b13] at h
                  refine ev_lsw (pc := 1) (tgt := 134) dX2_joined_1 (by decide) (by rw [b13] <;> rfl) (by decide) ?_
                  refine ev_lload_n (pc := 134) 1 dX2_joined_134 rfl rfl ?_
                  refine ev_lload_n (pc := 135) 2 dX2_joined_135 rfl rfl ?_
                  refine ev_lcmp (pc := 136) dX2_joined_136 ?_
                  refine ev_if_ge (pc := 137) (tgt := 144) dX2_joined_137 (by decide) (fun b14 => ?_) (fun b14 => ?_)
                  · rw [if_pos b14] at h
                    refine ev_lconst (pc := 144) (x := 0) dX2_joined_144 cl_0 ?_
                    cases h
                    exact ev_lret (pc := 145) dX2_joined_145 rfl
                  · rw [if_neg b14] at h
                    refine ev_lconst (pc := 140) (x := 1) dX2_joined_140 cl_1 ?_
                    refine ev_goto (pc := 141) (tgt := 145) dX2_joined_141 (by decide) ?_
                    cases h
                    exact ev_lret (pc := 145) dX2_joined_145 rfl
                · rw [if_neg b13] at h
                  by_cases b15 : p0 = 61
                  · rw [if_pos b15] at h
                    refine ev_lsw (pc := 1) (tgt := 158) dX2_joined_1 (by decide) (by rw [b15] <;> rfl) (by decide) ?_
                    refine ev_lload_n (pc := 158) 1 dX2_joined_158 rfl rfl ?_
                    refine ev_lload_n (pc := 159) 2 dX2_joined_159 rfl rfl ?_
                    refine ev_lcmp (pc := 160) dX2_joined_160 ?_
                    refine ev_if_ne (pc := 161) (tgt := 168) dX2_joined_161 (by decide) (fun b16 => ?_) (fun b16 => ?_)
                    · rw [if_pos b16] at h
                      refine ev_lconst (pc := 168) (x := 0) dX2_joined_168 cl_0 ?_
                      cases h
                      exact ev_lret (pc := 169) dX2_joined_169 rfl
                    · rw [if_neg b16] at h
                      refine ev_lconst (pc := 164) (x := 1) dX2_joined_164 cl_1 ?_
                      refine ev_goto (pc := 165) (tgt := 169) dX2_joined_165 (by decide) ?_
                      cases h
                      exact ev_lret (pc := 169) dX2_joined_169 rfl
                  · rw [if_neg b15] at h
                    by_cases b17 : p0 = 62
                    · rw [if_pos b17] at h
                      refine ev_lsw (pc := 1) (tgt := 146) dX2_joined_1 (by decide) (by rw [b17] <;> rfl) (by decide) ?_
                      refine ev_lload_n (pc := 146) 1 dX2_joined_146 rfl rfl ?_
                      refine ev_lload_n (pc := 147) 2 dX2_joined_147 rfl rfl ?_
                      refine ev_lcmp (pc := 148) dX2_joined_148 ?_
                      refine ev_if_le (pc := 149) (tgt := 156) dX2_joined_149 (by decide) (fun b18 => ?_) (fun b18 => ?_)
                      · rw [if_pos b18] at h
                        refine ev_lconst (pc := 156) (x := 0) dX2_joined_156 cl_0 ?_
                        cases h
                        exact ev_lret (pc := 157) dX2_joined_157 rfl
                      · rw [if_neg b18] at h
                        refine ev_lconst (pc := 152) (x := 1) dX2_joined_152 cl_1 ?_
                        refine ev_goto (pc := 153) (tgt := 157) dX2_joined_153 (by decide) ?_
                        cases h
                        exact ev_lret (pc := 157) dX2_joined_157 rfl
                    · rw [if_neg b17] at h
                      by_cases b19 : p0 = 152
                      · rw [if_pos b19] at h
                        refine ev_lsw (pc := 1) (tgt := 210) dX2_joined_1 (by decide) (by rw [b19] <;> rfl) (by decide) ?_
                        refine ev_lload_n (pc := 210) 1 dX2_joined_210 rfl rfl ?_
                        refine ev_lload_n (pc := 211) 2 dX2_joined_211 rfl rfl ?_
                        refine ev_lor (pc := 212) dX2_joined_212 ?_
                        cases h
                        exact ev_lret (pc := 213) dX2_joined_213 rfl
                      · rw [if_neg b19] at h
                        by_cases b20 : p0 = 153
                        · rw [if_pos b20] at h
                          refine ev_lsw (pc := 1) (tgt := 206) dX2_joined_1 (by decide) (by rw [b20] <;> rfl) (by decide) ?_
                          refine ev_lload_n (pc := 206) 1 dX2_joined_206 rfl rfl ?_
                          refine ev_lload_n (pc := 207) 2 dX2_joined_207 rfl rfl ?_
                          refine ev_land (pc := 208) dX2_joined_208 ?_
                          cases h
                          exact ev_lret (pc := 209) dX2_joined_209 rfl
                        · rw [if_neg b20] at h
                          refine ev_lsw (pc := 1) (tgt := 214) (off := 213) dX2_joined_1 (by decide) (by show Op.lookupswitch.offset [(1, 181), (2, 193), (35, 169), (42, 115), (43, 107), (45, 111), (47, 119), (60, 133), (61, 157), (62, 145), (152, 209), (153, 205)] 213 _ = _; rw [Op.lookupswitch.offset_cons, if_neg (by omega), Op.lookupswitch.offset_cons, if_neg (by omega), Op.lookupswitch.offset_cons, if_neg (by omega), Op.lookupswitch.offset_cons, if_neg (by omega), Op.lookupswitch.offset_cons, if_neg (by omega), Op.lookupswitch.offset_cons, if_neg (by omega), Op.lookupswitch.offset_cons, if_neg (by omega), Op.lookupswitch.offset_cons, if_neg (by omega), Op.lookupswitch.offset_cons, if_neg (by omega), Op.lookupswitch.offset_cons, if_neg (by omega), Op.lookupswitch.offset_cons, if_neg (by omega), Op.lookupswitch.offset_cons, if_neg (by omega), Op.lookupswitch.offset_nil]) (by decide) ?_
                          refine ev_lconst (pc := 214) (x := 0) dX2_joined_214 cl_0 ?_
                          cases h
                          exact ev_lret (pc := 215) dX2_joined_215 rfl
def f_X2_named_J60 (p1 : Int) (x1 x3 x4 x5 x6 x7 : Int) (M : Mem) : Option (Int) := if x7 < 0 then (some 0) else (if x7 < (M p1 0) then (if x6 = 3 then (ck (isTx (M 0 0)) (ck (0 ≤ x1 ∧ x1 < 300) (some (M ((M 0 0) + 4) x1)))) else (if x6 = 133 then (some x3) else (if x6 = 135 then (some (M p1 11)) else (if x6 = 140 then (ck (0 ≤ x7 ∧ x7 < 9) (some (M (p1 + 2) x7))) else (if x6 = 141 then (ck (0 ≤ x7 ∧ x7 < 9) (some (M (p1 + 3) x7))) else (if x6 = 142 then (ck (0 ≤ x7 ∧ x7 < 9) (some (M (p1 + 4) x7))) else (if x6 = 146 then (ck (0 ≤ x7 ∧ x7 < 9) (some (M (p1 + 1) x7))) else (if x6 = 147 then (ck (0 ≤ x7 ∧ x7 < 9) (some (M (p1 + 5) x7))) else (if x6 = 148 then (some x4) else (if x6 = 149 then (some x5) else (some 0))))))))))) else (some 0))
set_option maxRecDepth 100000 in
set_option maxHeartbeats 4000000 in
theorem e_X2_named_J60 {g : Gm} {d : Nat} {p1 : Int} {x1 x3 x4 x5 x6 x7 : Int} {M N : Mem} {v : Int} (hd : 0 ≤ d) (hp1 : isSea p1) (h : f_X2_named_J60 p1 x1 x3 x4 x5 x6 x7 M = some v) : Ev g d mtX2_named 60 [(0, vR 705), (1, vI x1), (2, vR p1), (3, vI x3), (4, vI x4), (5, vI x5), (6, vI x6), (7, vI x7)] [] (sg (mx M N)) (0, 0) (vI v) (sg (mx M N)) := by
  unfold f_X2_named_J60 at h
  refine ev_iload (pc := 60) 7 dX2_named_60 rfl ?_
  refine ev_if_lt (pc := 62) (tgt := 74) dX2_named_62 (by decide) (fun b7 => ?_) (fun b7 => ?_)
  · rw [if_pos b7] at h
    refine ev_iconst (pc := 74) (x := 0) dX2_named_74 ci_0 ?_
    cases h
    exact ev_iret (pc := 75) dX2_named_75 rfl
  · rw [if_neg b7] at h
    refine ev_iload (pc := 65) 7 dX2_named_65 rfl ?_
    refine ev_aload_n (pc := 67) 2 dX2_named_67 rfl rfl ?_
    refine ev_getIc (pc := 68) fl2_85 rfl dX2_named_68 rfl (sea_k hp1) (sea_nz hp1) (sea_n9 hp1) 0 rfl ?_
    refine ev_icmp_lt (pc := 71) (tgt := 76) dX2_named_71 (by decide) (fun b8 => ?_) (fun b8 => ?_)
    · rw [if_pos b8] at h
      refine ev_iload (pc := 76) 6 dX2_named_76 rfl ?_
      by_cases b9 : x6 = 3
      · rw [if_pos b9] at h
        refine ev_lsw (pc := 78) (tgt := 168) dX2_named_78 (by decide) (by rw [b9] <;> rfl) (by decide) ?_
        refine ev_aload_n (pc := 168) 0 dX2_named_168 rfl rfl ?_
        obtain ⟨c10, h⟩ := ck_some h
        refine ev_getR (pc := 169) fl2_18 rfl dX2_named_169 rfl kd_705 (by omega) (rf_705_1 _ _) ?_
        refine ev_getR (pc := 172) fl2_82 rfl dX2_named_172 rfl (tx_k c10) (tx_nz c10) (tx_r5 _ c10) ?_
        refine ev_iload_n (pc := 175) 1 dX2_named_175 rfl rfl ?_
        obtain ⟨c11, h⟩ := ck_some h
        refine ev_ildc (pc := 176) dX2_named_176 (tx_ak5 c10) (tx_anz5 c10) (tx_a95 c10) c11.1 c11.2 ?_
        cases h
        exact ev_iret (pc := 177) dX2_named_177 rfl
      · rw [if_neg b9] at h
        by_cases b12 : x6 = 133
        · rw [if_pos b12] at h
          refine ev_lsw (pc := 78) (tgt := 183) dX2_named_78 (by decide) (by rw [b12] <;> rfl) (by decide) ?_
          refine ev_iload_n (pc := 183) 3 dX2_named_183 rfl rfl ?_
          cases h
          exact ev_iret (pc := 184) dX2_named_184 rfl
        · rw [if_neg b12] at h
          by_cases b13 : x6 = 135
          · rw [if_pos b13] at h
            refine ev_lsw (pc := 78) (tgt := 178) dX2_named_78 (by decide) (by rw [b13] <;> rfl) (by decide) ?_
            refine ev_aload_n (pc := 178) 2 dX2_named_178 rfl rfl ?_
            refine ev_getIc (pc := 179) fl2_89 rfl dX2_named_179 rfl (sea_k hp1) (sea_nz hp1) (sea_n9 hp1) 11 rfl ?_
            cases h
            exact ev_iret (pc := 182) dX2_named_182 rfl
          · rw [if_neg b13] at h
            by_cases b14 : x6 = 140
            · rw [if_pos b14] at h
              refine ev_lsw (pc := 78) (tgt := 193) dX2_named_78 (by decide) (by rw [b14] <;> rfl) (by decide) ?_
              refine ev_aload_n (pc := 193) 2 dX2_named_193 rfl rfl ?_
              refine ev_getR (pc := 194) fl2_37 rfl dX2_named_194 rfl (sea_k hp1) (sea_nz hp1) (sea_r2 _ hp1) ?_
              refine ev_iload (pc := 197) 7 dX2_named_197 rfl ?_
              obtain ⟨c15, h⟩ := ck_some h
              refine ev_ildc (pc := 199) dX2_named_199 (sea_ak2 hp1) (sea_anz2 hp1) (sea_a92 hp1) c15.1 c15.2 ?_
              cases h
              exact ev_iret (pc := 200) dX2_named_200 rfl
            · rw [if_neg b14] at h
              by_cases b16 : x6 = 141
              · rw [if_pos b16] at h
                refine ev_lsw (pc := 78) (tgt := 201) dX2_named_78 (by decide) (by rw [b16] <;> rfl) (by decide) ?_
                refine ev_aload_n (pc := 201) 2 dX2_named_201 rfl rfl ?_
                refine ev_getR (pc := 202) fl2_51 rfl dX2_named_202 rfl (sea_k hp1) (sea_nz hp1) (sea_r3 _ hp1) ?_
                refine ev_iload (pc := 205) 7 dX2_named_205 rfl ?_
                obtain ⟨c17, h⟩ := ck_some h
                refine ev_ildc (pc := 207) dX2_named_207 (sea_ak3 hp1) (sea_anz3 hp1) (sea_a93 hp1) c17.1 c17.2 ?_
                cases h
                exact ev_iret (pc := 208) dX2_named_208 rfl
              · rw [if_neg b16] at h
                by_cases b18 : x6 = 142
                · rw [if_pos b18] at h
                  refine ev_lsw (pc := 78) (tgt := 209) dX2_named_78 (by decide) (by rw [b18] <;> rfl) (by decide) ?_
                  refine ev_aload_n (pc := 209) 2 dX2_named_209 rfl rfl ?_
                  refine ev_getR (pc := 210) fl2_92 rfl dX2_named_210 rfl (sea_k hp1) (sea_nz hp1) (sea_r4 _ hp1) ?_
                  refine ev_iload (pc := 213) 7 dX2_named_213 rfl ?_
                  obtain ⟨c19, h⟩ := ck_some h
                  refine ev_ildc (pc := 215) dX2_named_215 (sea_ak4 hp1) (sea_anz4 hp1) (sea_a94 hp1) c19.1 c19.2 ?_
                  cases h
                  exact ev_iret (pc := 216) dX2_named_216 rfl
                · rw [if_neg b18] at h
                  by_cases b20 : x6 = 146
                  · rw [if_pos b20] at h
                    refine ev_lsw (pc := 78) (tgt := 185) dX2_named_78 (by decide) (by rw [b20] <;> rfl) (by decide) ?_
                    refine ev_aload_n (pc := 185) 2 dX2_named_185 rfl rfl ?_
                    refine ev_getR (pc := 186) fl2_48 rfl dX2_named_186 rfl (sea_k hp1) (sea_nz hp1) (sea_r1 _ hp1) ?_
                    refine ev_iload (pc := 189) 7 dX2_named_189 rfl ?_
                    obtain ⟨c21, h⟩ := ck_some h
                    refine ev_ildc (pc := 191) dX2_named_191 (sea_ak1 hp1) (sea_anz1 hp1) (sea_a91 hp1) c21.1 c21.2 ?_
                    cases h
                    exact ev_iret (pc := 192) dX2_named_192 rfl
                  · rw [if_neg b20] at h
                    by_cases b22 : x6 = 147
                    · rw [if_pos b22] at h
                      refine ev_lsw (pc := 78) (tgt := 217) dX2_named_78 (by decide) (by rw [b22] <;> rfl) (by decide) ?_
                      refine ev_aload_n (pc := 217) 2 dX2_named_217 rfl rfl ?_
                      refine ev_getR (pc := 218) fl2_95 rfl dX2_named_218 rfl (sea_k hp1) (sea_nz hp1) (sea_r5 _ hp1) ?_
                      refine ev_iload (pc := 221) 7 dX2_named_221 rfl ?_
                      obtain ⟨c23, h⟩ := ck_some h
                      refine ev_ildc (pc := 223) dX2_named_223 (sea_ak5 hp1) (sea_anz5 hp1) (sea_a95 hp1) c23.1 c23.2 ?_
                      cases h
                      exact ev_iret (pc := 224) dX2_named_224 rfl
                    · rw [if_neg b22] at h
                      by_cases b24 : x6 = 148
                      · rw [if_pos b24] at h
                        refine ev_lsw (pc := 78) (tgt := 225) dX2_named_78 (by decide) (by rw [b24] <;> rfl) (by decide) ?_
                        refine ev_iload (pc := 225) 4 dX2_named_225 rfl ?_
                        cases h
                        exact ev_iret (pc := 227) dX2_named_227 rfl
                      · rw [if_neg b24] at h
                        by_cases b25 : x6 = 149
                        · rw [if_pos b25] at h
                          refine ev_lsw (pc := 78) (tgt := 228) dX2_named_78 (by decide) (by rw [b25] <;> rfl) (by decide) ?_
                          refine ev_iload (pc := 228) 5 dX2_named_228 rfl ?_
                          cases h
                          exact ev_iret (pc := 230) dX2_named_230 rfl
                        · rw [if_neg b25] at h
                          refine ev_lsw (pc := 78) (tgt := 231) (off := 153) dX2_named_78 (by decide) (by show Op.lookupswitch.offset [(3, 90), (133, 105), (135, 100), (140, 115), (141, 123), (142, 131), (146, 107), (147, 139), (148, 147), (149, 150)] 153 _ = _; rw [Op.lookupswitch.offset_cons, if_neg (by omega), Op.lookupswitch.offset_cons, if_neg (by omega), Op.lookupswitch.offset_cons, if_neg (by omega), Op.lookupswitch.offset_cons, if_neg (by omega), Op.lookupswitch.offset_cons, if_neg (by omega), Op.lookupswitch.offset_cons, if_neg (by omega), Op.lookupswitch.offset_cons, if_neg (by omega), Op.lookupswitch.offset_cons, if_neg (by omega), Op.lookupswitch.offset_cons, if_neg (by omega), Op.lookupswitch.offset_cons, if_neg (by omega), Op.lookupswitch.offset_nil]) (by decide) ?_
                          refine ev_iconst (pc := 231) (x := 0) dX2_named_231 ci_0 ?_
                          cases h
                          exact ev_iret (pc := 232) dX2_named_232 rfl
    · rw [if_neg b8] at h
      refine ev_iconst (pc := 74) (x := 0) dX2_named_74 ci_0 ?_
      cases h
      exact ev_iret (pc := 75) dX2_named_75 rfl
def f_X2_named_J47 (p1 : Int) (x1 x3 x4 x5 s0 : Int) (M : Mem) : Option (Int) := ck (isTx (M 0 0)) (ck (0 ≤ x1 ∧ x1 < 300) (f_X2_named_J60 p1 x1 x3 x4 x5 (M ((M 0 0) + 4) x1) s0 M))
set_option maxRecDepth 100000 in
set_option maxHeartbeats 4000000 in
theorem e_X2_named_J47 {g : Gm} {d : Nat} {p1 : Int} {x1 x3 x4 x5 s0 : Int} {M N : Mem} {v : Int} (hd : 0 ≤ d) (hp1 : isSea p1) (h : f_X2_named_J47 p1 x1 x3 x4 x5 s0 M = some v) : Ev g d mtX2_named 47 [(0, vR 705), (1, vI x1), (2, vR p1), (3, vI x3), (4, vI x4), (5, vI x5)] [vI s0] (sg (mx M N)) (0, 0) (vI v) (sg (mx M N)) := by
  unfold f_X2_named_J47 at h
  refine ev_istore (pc := 47) (il' := [(7, vI s0), (0, vR 705), (1, vI x1), (2, vR p1), (3, vI x3), (4, vI x4), (5, vI x5)]) dX2_named_47 (Nat.le_of_ble_eq_true rfl) rfl ?_
  refine ev_aload_n (pc := 49) 1 dX2_named_49 rfl rfl ?_
  obtain ⟨c5, h⟩ := ck_some h
  refine ev_getR (pc := 50) fl2_18 rfl dX2_named_50 rfl kd_705 (by omega) (rf_705_1 _ _) ?_
  refine ev_getR (pc := 53) fl2_82 rfl dX2_named_53 rfl (tx_k c5) (tx_nz c5) (tx_r5 _ c5) ?_
  refine ev_iload_n (pc := 56) 2 dX2_named_56 rfl rfl ?_
  obtain ⟨c6, h⟩ := ck_some h
  refine ev_ildc (pc := 57) dX2_named_57 (tx_ak5 c5) (tx_anz5 c5) (tx_a95 c5) c6.1 c6.2 ?_
  refine ev_istore (pc := 58) (il' := [(6, vI (M ((M 0 0) + 4) x1)), (7, vI s0), (0, vR 705), (1, vI x1), (2, vR p1), (3, vI x3), (4, vI x4), (5, vI x5)]) dX2_named_58 (Nat.le_of_ble_eq_true rfl) rfl ?_
  refine ev_pick [2, 3, 4, 5, 6, 7, 0, 1] rfl ?_
  exact e_X2_named_J60 hd hp1 h
def f_X2_named_J30 (p1 : Int) (x1 x3 x4 x5 x6 : Int) (M : Mem) : Option (Int) := if x6 ≠ 150 then (f_X2_named_J47 p1 x1 x3 x4 x5 (wI (x3 + 1)) M) else (f_X2_named_J47 p1 x1 x3 x4 x5 (wI (x3 - 1)) M)
set_option maxRecDepth 100000 in
set_option maxHeartbeats 4000000 in
theorem e_X2_named_J30 {g : Gm} {d : Nat} {p1 : Int} {x1 x3 x4 x5 x6 : Int} {M N : Mem} {v : Int} (hd : 0 ≤ d) (hp1 : isSea p1) (h : f_X2_named_J30 p1 x1 x3 x4 x5 x6 M = some v) : Ev g d mtX2_named 30 [(0, vR 705), (1, vI x1), (2, vR p1), (3, vI x3), (4, vI x4), (5, vI x5), (6, vI x6)] [] (sg (mx M N)) (0, 0) (vI v) (sg (mx M N)) := by
  unfold f_X2_named_J30 at h
  refine ev_iload (pc := 30) 6 dX2_named_30 rfl ?_
  refine ev_sipush (pc := 32) (x := 150) dX2_named_32 cs_150 ?_
  refine ev_icmp_ne (pc := 35) (tgt := 44) dX2_named_35 (by decide) (fun b4 => ?_) (fun b4 => ?_)
  · rw [if_pos b4] at h
    refine ev_iload_n (pc := 44) 3 dX2_named_44 rfl rfl ?_
    refine ev_iconst (pc := 45) (x := 1) dX2_named_45 ci_1 ?_
    refine ev_iadd (pc := 46) dX2_named_46 ?_
    refine ev_pick [0, 1, 2, 3, 4, 5] rfl ?_
    exact e_X2_named_J47 hd hp1 h
  · rw [if_neg b4] at h
    refine ev_iload_n (pc := 38) 3 dX2_named_38 rfl rfl ?_
    refine ev_iconst (pc := 39) (x := 1) dX2_named_39 ci_1 ?_
    refine ev_isub (pc := 40) dX2_named_40 ?_
    refine ev_goto (pc := 41) (tgt := 47) dX2_named_41 (by decide) ?_
    refine ev_pick [0, 1, 2, 3, 4, 5] rfl ?_
    exact e_X2_named_J47 hd hp1 h
def f_X2_named (p0 p1 p2 p3 p4 : Int) (M : Mem) : Option (Int) := ck (isTx (M 0 0)) (ck (0 ≤ p0 ∧ p0 < 300) (if (M ((M 0 0) + 3) p0) = 150 then (f_X2_named_J30 p1 p0 p2 p3 p4 (M ((M 0 0) + 3) p0) M) else (if (M ((M 0 0) + 3) p0) ≠ 151 then (f_X2_named_J60 p1 p0 p2 p3 p4 (M ((M 0 0) + 3) p0) p2 M) else (f_X2_named_J30 p1 p0 p2 p3 p4 (M ((M 0 0) + 3) p0) M))))
set_option maxRecDepth 100000 in
set_option maxHeartbeats 4000000 in
theorem e_X2_named {g : Gm} {d : Nat} {p0 p1 p2 p3 p4 : Int} {M N : Mem} {v : Int} (hd : 0 ≤ d) (hp1 : isSea p1) (h : f_X2_named p0 p1 p2 p3 p4 M = some v) : EvM g d mtX2_named [vR 705, vI p0, vR p1, vI p2, vI p3, vI p4] (sg (mx M N)) (0, 0) (vI v) (sg (mx M N)) := by
  unfold f_X2_named at h
  refine EvM.of mkX2_named.2.2.2.1 (Nat.le_of_ble_eq_true rfl) ?_
  change Ev g d mtX2_named 0 [(0, vR 705), (1, vI p0), (2, vR p1), (3, vI p2), (4, vI p3), (5, vI p4)] [] (sg (mx M N)) (0, 0) (vI v) (sg (mx M N))
  refine ev_aload_n (pc := 0) 0 dX2_named_0 rfl rfl ?_
  obtain ⟨c1, h⟩ := ck_some h
  refine ev_getR (pc := 1) fl2_18 rfl dX2_named_1 rfl kd_705 (by omega) (rf_705_1 _ _) ?_
  refine ev_getR (pc := 4) fl2_64 rfl dX2_named_4 rfl (tx_k c1) (tx_nz c1) (tx_r4 _ c1) ?_
  refine ev_iload_n (pc := 7) 1 dX2_named_7 rfl rfl ?_
  obtain ⟨c2, h⟩ := ck_some h
  refine ev_ildc (pc := 8) dX2_named_8 (tx_ak4 c1) (tx_anz4 c1) (tx_a94 c1) c2.1 c2.2 ?_
  refine ev_istore (pc := 9) (il' := [(6, vI (M ((M 0 0) + 3) p0)), (0, vR 705), (1, vI p0), (2, vR p1), (3, vI p2), (4, vI p3), (5, vI p4)]) dX2_named_9 (Nat.le_of_ble_eq_true rfl) rfl ?_
  refine ev_iload_n (pc := 11) 4 dX2_named_11 rfl rfl ?_
  refine ev_istore (pc := 12) (il' := [(7, vI p2), (6, vI (M ((M 0 0) + 3) p0)), (0, vR 705), (1, vI p0), (2, vR p1), (3, vI p2), (4, vI p3), (5, vI p4)]) dX2_named_12 (Nat.le_of_ble_eq_true rfl) rfl ?_
  refine ev_iload (pc := 14) 1 dX2_named_14 rfl ?_
  refine ev_sipush (pc := 16) (x := 150) dX2_named_16 cs_150 ?_
  refine ev_icmp_eq (pc := 19) (tgt := 30) dX2_named_19 (by decide) (fun b3 => ?_) (fun b3 => ?_)
  · rw [if_pos b3] at h
    refine ev_pick [2, 3, 4, 5, 6, 7, 1] rfl ?_
    exact e_X2_named_J30 hd hp1 h
  · rw [if_neg b3] at h
    refine ev_iload (pc := 22) 1 dX2_named_22 rfl ?_
    refine ev_sipush (pc := 24) (x := 151) dX2_named_24 cs_151 ?_
    refine ev_icmp_ne (pc := 27) (tgt := 60) dX2_named_27 (by decide) (fun b26 => ?_) (fun b26 => ?_)
    · rw [if_pos b26] at h
      refine ev_pick [2, 3, 4, 5, 6, 7, 1, 0] rfl ?_
      exact e_X2_named_J60 hd hp1 h
    · rw [if_neg b26] at h
      refine ev_pick [2, 3, 4, 5, 6, 7, 1] rfl ?_
      exact e_X2_named_J30 hd hp1 h
def f_X2_valueOf_L18_J63 (n : Nat) (p1 : Int) (K : Int → Int → Mem → Option (Int × Mem)) (x1 x3 x4 x5 x6 x7 x8 : Int) (M : Mem) : Option (Int × Mem) := if x6 < 1 then (K x6 (wI (x7 + 1)) M) else (if x8 ≠ 6 then (ck (0 ≤ (wI (x6 - 1)) ∧ (wI (x6 - 1)) < 64) (lt (upM M 713 (wI (x6 - 1)) (wI (1 - (M 713 (wI (x6 - 1)))))) fun M11 => K x6 (wI (x7 + 1)) M11)) else (ck (0 ≤ (wI (x6 - 1)) ∧ (wI (x6 - 1)) < 64) (lt (upM M 713 (wI (x6 - 1)) (wI (-(M 713 (wI (x6 - 1)))))) fun M13 => K x6 (wI (x7 + 1)) M13)))
set_option maxRecDepth 100000 in
set_option maxHeartbeats 4000000 in
theorem e_X2_valueOf_L18_J63 {g : Gm} {d : Nat} {n : Nat} {p1 : Int} {K : Int → Int → Mem → Option (Int × Mem)} {x1 x3 x4 x5 x6 x7 x8 : Int} {M N : Mem} {q : Int × Mem} {r : Vv} {σ' : Sg} (hd : 1 ≤ d) (hp1 : isSea p1) (hK : ∀ {x6 x7 : Int} {M : Mem}, K x6 x7 M = some q → Ev g d mtX2_valueOf 18 [(0, vR 705), (1, vI x1), (2, vR p1), (3, vI x3), (4, vI x4), (5, vI x5), (6, vI x6), (7, vI x7)] [] (sg (mx M N)) (0, 0) r σ') (hk0 : Ev g d mtX2_valueOf 214 [(0, vR 705), (6, vI q.1)] [] (sg (mx q.2 N)) (0, 0) r σ') (h : f_X2_valueOf_L18_J63 n p1 K x1 x3 x4 x5 x6 x7 x8 M = some q) : Ev g d mtX2_valueOf 63 [(0, vR 705), (1, vI x1), (2, vR p1), (3, vI x3), (4, vI x4), (5, vI x5), (6, vI x6), (7, vI x7), (8, vI x8)] [] (sg (mx M N)) (0, 0) r σ' := by
  unfold f_X2_valueOf_L18_J63 at h
  refine ev_iload (pc := 63) 6 dX2_valueOf_63 rfl ?_
  refine ev_iconst (pc := 65) (x := 1) dX2_valueOf_65 ci_1 ?_
  refine ev_icmp_lt (pc := 66) (tgt := 208) dX2_valueOf_66 (by decide) (fun b8 => ?_) (fun b8 => ?_)
  · rw [if_pos b8] at h
    refine ev_iinc (pc := 208) (il' := [(7, vI (wI (x7 + 1))), (0, vR 705), (1, vI x1), (2, vR p1), (3, vI x3), (4, vI x4), (5, vI x5), (6, vI x6), (8, vI x8)]) 7 dX2_valueOf_208 rfl (Nat.le_of_ble_eq_true rfl) rfl rfl ?_
    refine ev_goto (pc := 211) (tgt := 18) dX2_valueOf_211 (by decide) ?_
    refine ev_pick [1, 2, 3, 4, 5, 6, 7, 0] rfl ?_
    exact hK h
  · rw [if_neg b8] at h
    refine ev_aload_n (pc := 69) 0 dX2_valueOf_69 rfl rfl ?_
    refine ev_getR (pc := 70) fl2_21 rfl dX2_valueOf_70 rfl kd_705 (by omega) (rf_705_2 _) ?_
    refine ev_iload (pc := 73) 6 dX2_valueOf_73 rfl ?_
    refine ev_iconst (pc := 75) (x := 1) dX2_valueOf_75 ci_1 ?_
    refine ev_isub (pc := 76) dX2_valueOf_76 ?_
    refine ev_iload (pc := 77) 8 dX2_valueOf_77 rfl ?_
    refine ev_bipush (pc := 79) (x := 6) dX2_valueOf_79 cb_6 ?_
    refine ev_icmp_ne (pc := 81) (tgt := 97) dX2_valueOf_81 (by decide) (fun b9 => ?_) (fun b9 => ?_)
    · rw [if_pos b9] at h
      refine ev_iconst (pc := 97) (x := 1) dX2_valueOf_97 ci_1 ?_
      refine ev_aload_n (pc := 98) 0 dX2_valueOf_98 rfl rfl ?_
      refine ev_getR (pc := 99) fl2_21 rfl dX2_valueOf_99 rfl kd_705 (by omega) (rf_705_2 _) ?_
      refine ev_iload (pc := 102) 6 dX2_valueOf_102 rfl ?_
      refine ev_iconst (pc := 104) (x := 1) dX2_valueOf_104 ci_1 ?_
      refine ev_isub (pc := 105) dX2_valueOf_105 ?_
      obtain ⟨c10, h⟩ := ck_some h
      refine ev_ildc (pc := 106) dX2_valueOf_106 kd_713 (by omega) (by omega) c10.1 c10.2 ?_
      refine ev_isub (pc := 107) dX2_valueOf_107 ?_
      obtain ⟨M11, eM11, h⟩ := lt_some h
      refine ev_istc (pc := 108) dX2_valueOf_108 kd_713 (by omega) (by omega) c10.1 c10.2 eM11 ?_
      refine ev_goto (pc := 109) (tgt := 208) dX2_valueOf_109 (by decide) ?_
      refine ev_iinc (pc := 208) (il' := [(7, vI (wI (x7 + 1))), (0, vR 705), (1, vI x1), (2, vR p1), (3, vI x3), (4, vI x4), (5, vI x5), (6, vI x6), (8, vI x8)]) 7 dX2_valueOf_208 rfl (Nat.le_of_ble_eq_true rfl) rfl rfl ?_
      refine ev_goto (pc := 211) (tgt := 18) dX2_valueOf_211 (by decide) ?_
      refine ev_pick [1, 2, 3, 4, 5, 6, 7, 0] rfl ?_
      exact hK h
    · rw [if_neg b9] at h
      refine ev_aload_n (pc := 84) 0 dX2_valueOf_84 rfl rfl ?_
      refine ev_getR (pc := 85) fl2_21 rfl dX2_valueOf_85 rfl kd_705 (by omega) (rf_705_2 _) ?_
      refine ev_iload (pc := 88) 6 dX2_valueOf_88 rfl ?_
      refine ev_iconst (pc := 90) (x := 1) dX2_valueOf_90 ci_1 ?_
      refine ev_isub (pc := 91) dX2_valueOf_91 ?_
      obtain ⟨c12, h⟩ := ck_some h
      refine ev_ildc (pc := 92) dX2_valueOf_92 kd_713 (by omega) (by omega) c12.1 c12.2 ?_
      refine ev_ineg (pc := 93) dX2_valueOf_93 ?_
      refine ev_goto (pc := 94) (tgt := 108) dX2_valueOf_94 (by decide) ?_
      obtain ⟨M13, eM13, h⟩ := lt_some h
      refine ev_istc (pc := 108) dX2_valueOf_108 kd_713 (by omega) (by omega) c12.1 c12.2 eM13 ?_
      refine ev_goto (pc := 109) (tgt := 208) dX2_valueOf_109 (by decide) ?_
      refine ev_iinc (pc := 208) (il' := [(7, vI (wI (x7 + 1))), (0, vR 705), (1, vI x1), (2, vR p1), (3, vI x3), (4, vI x4), (5, vI x5), (6, vI x6), (8, vI x8)]) 7 dX2_valueOf_208 rfl (Nat.le_of_ble_eq_true rfl) rfl rfl ?_
      refine ev_goto (pc := 211) (tgt := 18) dX2_valueOf_211 (by decide) ?_
      refine ev_pick [1, 2, 3, 4, 5, 6, 7, 0] rfl ?_
      exact hK h
def f_X2_valueOf_L18_J132 (n : Nat) (p1 : Int) (K : Int → Int → Mem → Option (Int × Mem)) (x1 x3 x4 x5 x6 x7 : Int) (M : Mem) : Option (Int × Mem) := if 64 ≤ x6 then (K x6 (wI (x7 + 1)) M) else ((f_X2_named x7 p1 x3 x4 x5 M).bind fun q17 => ck (0 ≤ x6 ∧ x6 < 64) (lt (upM M 713 x6 q17) fun M19 => K (wI (x6 + 1)) (wI (x7 + 1)) M19))
set_option maxRecDepth 100000 in
set_option maxHeartbeats 4000000 in
theorem e_X2_valueOf_L18_J132 {g : Gm} {d : Nat} {n : Nat} {p1 : Int} {K : Int → Int → Mem → Option (Int × Mem)} {x1 x3 x4 x5 x6 x7 : Int} {M N : Mem} {q : Int × Mem} {r : Vv} {σ' : Sg} (hd : 1 ≤ d) (hp1 : isSea p1) (hK : ∀ {x6 x7 : Int} {M : Mem}, K x6 x7 M = some q → Ev g d mtX2_valueOf 18 [(0, vR 705), (1, vI x1), (2, vR p1), (3, vI x3), (4, vI x4), (5, vI x5), (6, vI x6), (7, vI x7)] [] (sg (mx M N)) (0, 0) r σ') (hk0 : Ev g d mtX2_valueOf 214 [(0, vR 705), (6, vI q.1)] [] (sg (mx q.2 N)) (0, 0) r σ') (h : f_X2_valueOf_L18_J132 n p1 K x1 x3 x4 x5 x6 x7 M = some q) : Ev g d mtX2_valueOf 132 [(0, vR 705), (1, vI x1), (2, vR p1), (3, vI x3), (4, vI x4), (5, vI x5), (6, vI x6), (7, vI x7)] [] (sg (mx M N)) (0, 0) r σ' := by
  unfold f_X2_valueOf_L18_J132 at h
  refine ev_iload (pc := 132) 6 dX2_valueOf_132 rfl ?_
  refine ev_bipush (pc := 134) (x := 64) dX2_valueOf_134 cb_64 ?_
  refine ev_icmp_ge (pc := 136) (tgt := 208) dX2_valueOf_136 (by decide) (fun b16 => ?_) (fun b16 => ?_)
  · rw [if_pos b16] at h
    refine ev_iinc (pc := 208) (il' := [(7, vI (wI (x7 + 1))), (0, vR 705), (1, vI x1), (2, vR p1), (3, vI x3), (4, vI x4), (5, vI x5), (6, vI x6)]) 7 dX2_valueOf_208 rfl (Nat.le_of_ble_eq_true rfl) rfl rfl ?_
    refine ev_goto (pc := 211) (tgt := 18) dX2_valueOf_211 (by decide) ?_
    refine ev_pick [1, 2, 3, 4, 5, 6, 7, 0] rfl ?_
    exact hK h
  · rw [if_neg b16] at h
    refine ev_aload_n (pc := 139) 0 dX2_valueOf_139 rfl rfl ?_
    refine ev_getR (pc := 140) fl2_21 rfl dX2_valueOf_140 rfl kd_705 (by omega) (rf_705_2 _) ?_
    refine ev_iload (pc := 143) 6 dX2_valueOf_143 rfl ?_
    refine ev_aload_n (pc := 145) 0 dX2_valueOf_145 rfl rfl ?_
    refine ev_iload (pc := 146) 7 dX2_valueOf_146 rfl ?_
    refine ev_aload_n (pc := 148) 2 dX2_valueOf_148 rfl rfl ?_
    refine ev_iload_n (pc := 149) 3 dX2_valueOf_149 rfl rfl ?_
    refine ev_iload (pc := 150) 4 dX2_valueOf_150 rfl ?_
    refine ev_iload (pc := 152) 5 dX2_valueOf_152 rfl ?_
    obtain ⟨q17, hq17, h⟩ := bd h
    refine ev_cV (pc := 154) [vI x7, vR p1, vI x3, vI x4, vI x5] [vI x6, vR 713] rfl mkX2_named ml2_71 mnX2_named dX2_valueOf_154 kd_705 (by omega) rfl (Nat.le_of_ble_eq_true rfl) (by omega) rfl (e_X2_named (d := d - 1) (v := q17) (by omega) hp1 hq17) ?_
    obtain ⟨c18, h⟩ := ck_some h
    obtain ⟨M19, eM19, h⟩ := lt_some h
    refine ev_istc (pc := 157) dX2_valueOf_157 kd_713 (by omega) (by omega) c18.1 c18.2 eM19 ?_
    refine ev_iinc (pc := 158) (il' := [(6, vI (wI (x6 + 1))), (0, vR 705), (1, vI x1), (2, vR p1), (3, vI x3), (4, vI x4), (5, vI x5), (7, vI x7)]) 6 dX2_valueOf_158 rfl (Nat.le_of_ble_eq_true rfl) rfl rfl ?_
    refine ev_goto (pc := 161) (tgt := 208) dX2_valueOf_161 (by decide) ?_
    refine ev_iinc (pc := 208) (il' := [(7, vI (wI (x7 + 1))), (6, vI (wI (x6 + 1))), (0, vR 705), (1, vI x1), (2, vR p1), (3, vI x3), (4, vI x4), (5, vI x5)]) 7 dX2_valueOf_208 rfl (Nat.le_of_ble_eq_true rfl) rfl rfl ?_
    refine ev_goto (pc := 211) (tgt := 18) dX2_valueOf_211 (by decide) ?_
    refine ev_pick [2, 3, 4, 5, 6, 7, 1, 0] rfl ?_
    exact hK h
def f_X2_valueOf_L18 : Nat → Int → Int → Int → Int → Int → Int → Int → Mem → Option (Int × Mem)
  | 0, _, _, _, _, _, _, _, _ => none
  | n + 1, p1, x1, x3, x4, x5, x6, x7, M => ck (isTx (M 0 0)) (ck (0 ≤ (wI (x1 - 128)) ∧ (wI (x1 - 128)) < 5) (if (M ((M 0 0) + 6) (wI (x1 - 128))) ≤ x7 then (some (x6, M)) else (ck (0 ≤ x7 ∧ x7 < 300) (if (M ((M 0 0) + 3) x7) = 6 then (f_X2_valueOf_L18_J63 n p1 (fun x6 x7 M => f_X2_valueOf_L18 n p1 x1 x3 x4 x5 x6 x7 M) x1 x3 x4 x5 x6 x7 (M ((M 0 0) + 3) x7) M) else (if (M ((M 0 0) + 3) x7) ≠ 154 then (if (M ((M 0 0) + 3) x7) = 3 then (f_X2_valueOf_L18_J132 n p1 (fun x6 x7 M => f_X2_valueOf_L18 n p1 x1 x3 x4 x5 x6 x7 M) x1 x3 x4 x5 x6 x7 M) else (if (f_X11_isBetween 133 (M ((M 0 0) + 3) x7) 151) = 0 then (if x6 < 2 then (f_X2_valueOf_L18 n p1 x1 x3 x4 x5 x6 (wI (x7 + 1)) M) else (ck (0 ≤ (wI ((wI (x6 + (-1))) - 1)) ∧ (wI ((wI (x6 + (-1))) - 1)) < 64) (ck (0 ≤ (wI (x6 + (-1))) ∧ (wI (x6 + (-1))) < 64) ((f_X2_joined (M ((M 0 0) + 3) x7) (M 713 (wI ((wI (x6 + (-1))) - 1))) (M 713 (wI (x6 + (-1))))).bind fun q24 => lt (upM M 713 (wI ((wI (x6 + (-1))) - 1)) (f_X2_cut q24)) fun M25 => f_X2_valueOf_L18 n p1 x1 x3 x4 x5 (wI (x6 + (-1))) (wI (x7 + 1)) M25)))) else (f_X2_valueOf_L18_J132 n p1 (fun x6 x7 M => f_X2_valueOf_L18 n p1 x1 x3 x4 x5 x6 x7 M) x1 x3 x4 x5 x6 x7 M))) else (f_X2_valueOf_L18_J63 n p1 (fun x6 x7 M => f_X2_valueOf_L18 n p1 x1 x3 x4 x5 x6 x7 M) x1 x3 x4 x5 x6 x7 (M ((M 0 0) + 3) x7) M))))))
set_option maxRecDepth 100000 in
set_option maxHeartbeats 4000000 in
theorem e_X2_valueOf_L18 {g : Gm} {d : Nat} {p1 : Int} {x1 x3 x4 x5 : Int} {r : Vv} {σ' : Sg} {N : Mem} (hd : 1 ≤ d) (hp1 : isSea p1) : ∀ (n : Nat) {x6 x7 : Int} {M : Mem} {q : Int × Mem}, f_X2_valueOf_L18 n p1 x1 x3 x4 x5 x6 x7 M = some q → Ev g d mtX2_valueOf 214 [(0, vR 705), (6, vI q.1)] [] (sg (mx q.2 N)) (0, 0) r σ' → Ev g d mtX2_valueOf 18 [(0, vR 705), (1, vI x1), (2, vR p1), (3, vI x3), (4, vI x4), (5, vI x5), (6, vI x6), (7, vI x7)] [] (sg (mx M N)) (0, 0) r σ' := by
  intro n
  induction n with
  | zero =>
    intro x6 x7 M q h hk0
    rw [f_X2_valueOf_L18.eq_1] at h
    cases h
  | succ n ih =>
    intro x6 x7 M q h hk0
    rw [f_X2_valueOf_L18.eq_2] at h
    refine ev_iload (pc := 18) 7 dX2_valueOf_18 rfl ?_
    refine ev_aload_n (pc := 20) 0 dX2_valueOf_20 rfl rfl ?_
    obtain ⟨c3, h⟩ := ck_some h
    refine ev_getR (pc := 21) fl2_18 rfl dX2_valueOf_21 rfl kd_705 (by omega) (rf_705_1 _ _) ?_
    refine ev_getR (pc := 24) fl2_61 rfl dX2_valueOf_24 rfl (tx_k c3) (tx_nz c3) (tx_r7 _ c3) ?_
    refine ev_iload_n (pc := 27) 1 dX2_valueOf_27 rfl rfl ?_
    refine ev_sipush (pc := 28) (x := 128) dX2_valueOf_28 cs_128 ?_
    refine ev_isub (pc := 31) dX2_valueOf_31 ?_
    obtain ⟨c4, h⟩ := ck_some h
    refine ev_ildc (pc := 32) dX2_valueOf_32 (tx_ak7 c3) (tx_anz7 c3) (tx_a97 c3) c4.1 c4.2 ?_
    refine ev_icmp_ge (pc := 33) (tgt := 214) dX2_valueOf_33 (by decide) (fun b5 => ?_) (fun b5 => ?_)
    · rw [if_pos b5] at h
      cases h
      refine ev_pick [0, 6] rfl ?_
      exact hk0
    · rw [if_neg b5] at h
      refine ev_aload_n (pc := 36) 0 dX2_valueOf_36 rfl rfl ?_
      refine ev_getR (pc := 37) fl2_18 rfl dX2_valueOf_37 rfl kd_705 (by omega) (rf_705_1 _ _) ?_
      refine ev_getR (pc := 40) fl2_64 rfl dX2_valueOf_40 rfl (tx_k c3) (tx_nz c3) (tx_r4 _ c3) ?_
      refine ev_iload (pc := 43) 7 dX2_valueOf_43 rfl ?_
      obtain ⟨c6, h⟩ := ck_some h
      refine ev_ildc (pc := 45) dX2_valueOf_45 (tx_ak4 c3) (tx_anz4 c3) (tx_a94 c3) c6.1 c6.2 ?_
      refine ev_istore (pc := 46) (il' := [(8, vI (M ((M 0 0) + 3) x7)), (0, vR 705), (1, vI x1), (2, vR p1), (3, vI x3), (4, vI x4), (5, vI x5), (6, vI x6), (7, vI x7)]) dX2_valueOf_46 (Nat.le_of_ble_eq_true rfl) rfl ?_
      refine ev_iload (pc := 48) 0 dX2_valueOf_48 rfl ?_
      refine ev_bipush (pc := 50) (x := 6) dX2_valueOf_50 cb_6 ?_
      refine ev_icmp_eq (pc := 52) (tgt := 63) dX2_valueOf_52 (by decide) (fun b7 => ?_) (fun b7 => ?_)
      · rw [if_pos b7] at h
        refine ev_pick [1, 2, 3, 4, 5, 6, 7, 8, 0] rfl ?_
        exact e_X2_valueOf_L18_J63 hd hp1 (fun h9 => ih h9 hk0) hk0 h
      · rw [if_neg b7] at h
        refine ev_iload (pc := 55) 0 dX2_valueOf_55 rfl ?_
        refine ev_sipush (pc := 57) (x := 154) dX2_valueOf_57 cs_154 ?_
        refine ev_icmp_ne (pc := 60) (tgt := 112) dX2_valueOf_60 (by decide) (fun b14 => ?_) (fun b14 => ?_)
        · rw [if_pos b14] at h
          refine ev_iload (pc := 112) 0 dX2_valueOf_112 rfl ?_
          refine ev_iconst (pc := 114) (x := 3) dX2_valueOf_114 ci_3 ?_
          refine ev_icmp_eq (pc := 115) (tgt := 132) dX2_valueOf_115 (by decide) (fun b15 => ?_) (fun b15 => ?_)
          · rw [if_pos b15] at h
            refine ev_pick [1, 2, 3, 4, 5, 6, 7, 8] rfl ?_
            exact e_X2_valueOf_L18_J132 hd hp1 (fun h9 => ih h9 hk0) hk0 h
          · rw [if_neg b15] at h
            refine ev_sipush (pc := 118) (x := 133) dX2_valueOf_118 cs_133 ?_
            refine ev_iload (pc := 121) 0 dX2_valueOf_121 rfl ?_
            refine ev_sipush (pc := 123) (x := 151) dX2_valueOf_123 cs_151 ?_
            refine ev_cS (pc := 126) [vI 133, vI (M ((M 0 0) + 3) x7), vI 151] [] rfl mkX11_isBetween ml2_67 msX11_isBetween dX2_valueOf_126 rfl (Nat.le_of_ble_eq_true rfl) (by omega) rfl (e_X11_isBetween (d := d - 1) (v := (f_X11_isBetween 133 (M ((M 0 0) + 3) x7) 151)) (by omega)  rfl) ?_
            refine ev_if_eq (pc := 129) (tgt := 164) dX2_valueOf_129 (by decide) (fun b20 => ?_) (fun b20 => ?_)
            · rw [if_pos b20] at h
              refine ev_iload (pc := 164) 7 dX2_valueOf_164 rfl ?_
              refine ev_iconst (pc := 166) (x := 2) dX2_valueOf_166 ci_2 ?_
              refine ev_icmp_lt (pc := 167) (tgt := 208) dX2_valueOf_167 (by decide) (fun b21 => ?_) (fun b21 => ?_)
              · rw [if_pos b21] at h
                refine ev_iinc (pc := 208) (il' := [(7, vI (wI (x7 + 1))), (8, vI (M ((M 0 0) + 3) x7)), (0, vR 705), (1, vI x1), (2, vR p1), (3, vI x3), (4, vI x4), (5, vI x5), (6, vI x6)]) 8 dX2_valueOf_208 rfl (Nat.le_of_ble_eq_true rfl) rfl rfl ?_
                refine ev_goto (pc := 211) (tgt := 18) dX2_valueOf_211 (by decide) ?_
                refine ev_pick [2, 3, 4, 5, 6, 7, 8, 0] rfl ?_
                exact ih h hk0
              · rw [if_neg b21] at h
                refine ev_iinc (pc := 170) (il' := [(6, vI (wI (x6 + (-1)))), (8, vI (M ((M 0 0) + 3) x7)), (0, vR 705), (1, vI x1), (2, vR p1), (3, vI x3), (4, vI x4), (5, vI x5), (7, vI x7)]) 7 dX2_valueOf_170 rfl (Nat.le_of_ble_eq_true rfl) rfl rfl ?_
                refine ev_aload_n (pc := 173) 2 dX2_valueOf_173 rfl rfl ?_
                refine ev_getR (pc := 174) fl2_21 rfl dX2_valueOf_174 rfl kd_705 (by omega) (rf_705_2 _) ?_
                refine ev_iload (pc := 177) 0 dX2_valueOf_177 rfl ?_
                refine ev_iconst (pc := 179) (x := 1) dX2_valueOf_179 ci_1 ?_
                refine ev_isub (pc := 180) dX2_valueOf_180 ?_
                refine ev_iload (pc := 181) 1 dX2_valueOf_181 rfl ?_
                refine ev_aload_n (pc := 183) 2 dX2_valueOf_183 rfl rfl ?_
                refine ev_getR (pc := 184) fl2_21 rfl dX2_valueOf_184 rfl kd_705 (by omega) (rf_705_2 _) ?_
                refine ev_iload (pc := 187) 0 dX2_valueOf_187 rfl ?_
                refine ev_iconst (pc := 189) (x := 1) dX2_valueOf_189 ci_1 ?_
                refine ev_isub (pc := 190) dX2_valueOf_190 ?_
                obtain ⟨c22, h⟩ := ck_some h
                refine ev_ildc (pc := 191) dX2_valueOf_191 kd_713 (by omega) (by omega) c22.1 c22.2 ?_
                refine ev_i2l (pc := 192) dX2_valueOf_192 ?_
                refine ev_aload_n (pc := 193) 2 dX2_valueOf_193 rfl rfl ?_
                refine ev_getR (pc := 194) fl2_21 rfl dX2_valueOf_194 rfl kd_705 (by omega) (rf_705_2 _) ?_
                refine ev_iload (pc := 197) 0 dX2_valueOf_197 rfl ?_
                obtain ⟨c23, h⟩ := ck_some h
                refine ev_ildc (pc := 199) dX2_valueOf_199 kd_713 (by omega) (by omega) c23.1 c23.2 ?_
                refine ev_i2l (pc := 200) dX2_valueOf_200 ?_
                obtain ⟨q24, hq24, h⟩ := bd h
                refine ev_cS (pc := 201) [vI (M ((M 0 0) + 3) x7), vL (M 713 (wI ((wI (x6 + (-1))) - 1))), vL (M 713 (wI (x6 + (-1))))] [vI (wI ((wI (x6 + (-1))) - 1)), vR 713] rfl mkX2_joined ml2_74 msX2_joined dX2_valueOf_201 rfl (Nat.le_of_ble_eq_true rfl) (by omega) rfl (e_X2_joined (d := d - 1) (v := q24) (by omega)  hq24) ?_
                refine ev_cS (pc := 204) [vL q24] [vI (wI ((wI (x6 + (-1))) - 1)), vR 713] rfl mkX2_cut ml2_78 msX2_cut dX2_valueOf_204 rfl (Nat.le_of_ble_eq_true rfl) (by omega) rfl (e_X2_cut (d := d - 1) (v := (f_X2_cut q24)) (by omega)  rfl) ?_
                obtain ⟨M25, eM25, h⟩ := lt_some h
                refine ev_istc (pc := 207) dX2_valueOf_207 kd_713 (by omega) (by omega) c22.1 c22.2 eM25 ?_
                refine ev_iinc (pc := 208) (il' := [(7, vI (wI (x7 + 1))), (6, vI (wI (x6 + (-1)))), (8, vI (M ((M 0 0) + 3) x7)), (0, vR 705), (1, vI x1), (2, vR p1), (3, vI x3), (4, vI x4), (5, vI x5)]) 8 dX2_valueOf_208 rfl (Nat.le_of_ble_eq_true rfl) rfl rfl ?_
                refine ev_goto (pc := 211) (tgt := 18) dX2_valueOf_211 (by decide) ?_
                refine ev_pick [3, 4, 5, 6, 7, 8, 1, 0] rfl ?_
                exact ih h hk0
            · rw [if_neg b20] at h
              refine ev_pick [1, 2, 3, 4, 5, 6, 7, 8] rfl ?_
              exact e_X2_valueOf_L18_J132 hd hp1 (fun h9 => ih h9 hk0) hk0 h
        · rw [if_neg b14] at h
          refine ev_pick [1, 2, 3, 4, 5, 6, 7, 8, 0] rfl ?_
          exact e_X2_valueOf_L18_J63 hd hp1 (fun h9 => ih h9 hk0) hk0 h
def f_X2_valueOf (n : Nat) (p0 p1 p2 p3 p4 : Int) (M : Mem) : Option (Int × Mem) := ck (isTx (M 0 0)) (ck (0 ≤ (wI (p0 - 128)) ∧ (wI (p0 - 128)) < 5) ((f_X2_valueOf_L18 n p1 p0 p2 p3 p4 0 (M ((M 0 0) + 5) (wI (p0 - 128))) M).bind fun q26 => if q26.1 < 1 then (some (0, q26.2)) else (some ((q26.2 713 0), q26.2))))
set_option maxRecDepth 100000 in
set_option maxHeartbeats 4000000 in
theorem e_X2_valueOf {g : Gm} {d : Nat} {n : Nat} {p0 p1 p2 p3 p4 : Int} {M N : Mem} {v : Int} {M' : Mem} (hd : 1 ≤ d) (hp1 : isSea p1) (h : f_X2_valueOf n p0 p1 p2 p3 p4 M = some (v, M')) : EvM g d mtX2_valueOf [vR 705, vI p0, vR p1, vI p2, vI p3, vI p4] (sg (mx M N)) (0, 0) (vI v) (sg (mx M' N)) := by
  unfold f_X2_valueOf at h
  refine EvM.of mkX2_valueOf.2.2.2.1 (Nat.le_of_ble_eq_true rfl) ?_
  change Ev g d mtX2_valueOf 0 [(0, vR 705), (1, vI p0), (2, vR p1), (3, vI p2), (4, vI p3), (5, vI p4)] [] (sg (mx M N)) (0, 0) (vI v) (sg (mx M' N))
  refine ev_iconst (pc := 0) (x := 0) dX2_valueOf_0 ci_0 ?_
  refine ev_istore (pc := 1) (il' := [(6, vI 0), (0, vR 705), (1, vI p0), (2, vR p1), (3, vI p2), (4, vI p3), (5, vI p4)]) dX2_valueOf_1 (Nat.le_of_ble_eq_true rfl) rfl ?_
  refine ev_aload_n (pc := 3) 1 dX2_valueOf_3 rfl rfl ?_
  obtain ⟨c1, h⟩ := ck_some h
  refine ev_getR (pc := 4) fl2_18 rfl dX2_valueOf_4 rfl kd_705 (by omega) (rf_705_1 _ _) ?_
  refine ev_getR (pc := 7) fl2_58 rfl dX2_valueOf_7 rfl (tx_k c1) (tx_nz c1) (tx_r6 _ c1) ?_
  refine ev_iload_n (pc := 10) 2 dX2_valueOf_10 rfl rfl ?_
  refine ev_sipush (pc := 11) (x := 128) dX2_valueOf_11 cs_128 ?_
  refine ev_isub (pc := 14) dX2_valueOf_14 ?_
  obtain ⟨c2, h⟩ := ck_some h
  refine ev_ildc (pc := 15) dX2_valueOf_15 (tx_ak6 c1) (tx_anz6 c1) (tx_a96 c1) c2.1 c2.2 ?_
  refine ev_istore (pc := 16) (il' := [(7, vI (M ((M 0 0) + 5) (wI (p0 - 128)))), (6, vI 0), (0, vR 705), (1, vI p0), (2, vR p1), (3, vI p2), (4, vI p3), (5, vI p4)]) dX2_valueOf_16 (Nat.le_of_ble_eq_true rfl) rfl ?_
  obtain ⟨q26, hq26, h⟩ := bd h
  refine ev_pick [2, 3, 4, 5, 6, 7, 1, 0] rfl ?_
  refine e_X2_valueOf_L18 hd hp1 n hq26 ?_
  refine ev_iload (pc := 214) 1 dX2_valueOf_214 rfl ?_
  refine ev_iconst (pc := 216) (x := 1) dX2_valueOf_216 ci_1 ?_
  refine ev_icmp_lt (pc := 217) (tgt := 229) dX2_valueOf_217 (by decide) (fun b27 => ?_) (fun b27 => ?_)
  · rw [if_pos b27] at h
    refine ev_iconst (pc := 229) (x := 0) dX2_valueOf_229 ci_0 ?_
    cases h
    exact ev_iret (pc := 230) dX2_valueOf_230 rfl
  · rw [if_neg b27] at h
    refine ev_aload_n (pc := 220) 0 dX2_valueOf_220 rfl rfl ?_
    refine ev_getR (pc := 221) fl2_21 rfl dX2_valueOf_221 rfl kd_705 (by omega) (rf_705_2 _) ?_
    refine ev_iconst (pc := 224) (x := 0) dX2_valueOf_224 ci_0 ?_
    refine ev_ildc (pc := 225) dX2_valueOf_225 kd_713 (by omega) (by omega) (by omega) (by omega) ?_
    refine ev_goto (pc := 226) (tgt := 230) dX2_valueOf_226 (by decide) ?_
    cases h
    exact ev_iret (pc := 230) dX2_valueOf_230 rfl
def f_X2_within (p0 p1 p2 : Int) : Int := (max p0 (min p1 p2))
set_option maxRecDepth 100000 in
set_option maxHeartbeats 4000000 in
theorem e_X2_within {g : Gm} {d : Nat} {p0 p1 p2 : Int} {M0 : Mem} {v : Int} (hd : 1 ≤ d) (h : f_X2_within p0 p1 p2 = v) : EvM g d mtX2_within [vI p0, vI p1, vI p2] (sg M0) (0, 0) (vI v) (sg M0) := by
  unfold f_X2_within at h
  refine EvM.of mkX2_within.2.2.2.1 (Nat.le_of_ble_eq_true rfl) ?_
  change Ev g d mtX2_within 0 [(0, vI p0), (1, vI p1), (2, vI p2)] [] (sg M0) (0, 0) (vI v) (sg M0)
  refine ev_iload_n (pc := 0) 0 dX2_within_0 rfl rfl ?_
  refine ev_iload_n (pc := 1) 1 dX2_within_1 rfl rfl ?_
  refine ev_iload_n (pc := 2) 2 dX2_within_2 rfl rfl ?_
  refine ev_min (pc := 3) rfl mm2_55 (Nat.le_of_ble_eq_true rfl) (by omega) dX2_within_3 ?_
  refine ev_max (pc := 6) rfl mm2_42 (Nat.le_of_ble_eq_true rfl) (by omega) dX2_within_6 ?_
  cases h
  exact ev_iret (pc := 9) dX2_within_9 rfl
def f_X2_flows (n : Nat) (p0 p1 : Int) (M : Mem) : Option (Int × Mem) := (f_X2_hasLaw 131 M).bind fun q1 => if q1 = 0 then (ck (0 ≤ p1 ∧ p1 < 9) (some ((max 0 (wI ((M (p0 + 3) p1) - (wI (10 * (M (p0 + 2) p1)))))), M))) else ((f_X2_valueOf n 131 p0 p1 0 0 M).bind fun q4 => ck (0 ≤ p1 ∧ p1 < 9) (some ((f_X2_within 0 q4.1 (q4.2 (p0 + 3) p1)), q4.2)))
set_option maxRecDepth 100000 in
set_option maxHeartbeats 4000000 in
theorem e_X2_flows {g : Gm} {d : Nat} {n : Nat} {p0 p1 : Int} {M N : Mem} {v : Int} {M' : Mem} (hd : 2 ≤ d) (hp0 : isSea p0) (h : f_X2_flows n p0 p1 M = some (v, M')) : EvM g d mtX2_flows [vR 705, vR p0, vI p1] (sg (mx M N)) (0, 0) (vI v) (sg (mx M' N)) := by
  unfold f_X2_flows at h
  refine EvM.of mkX2_flows.2.2.2.1 (Nat.le_of_ble_eq_true rfl) ?_
  change Ev g d mtX2_flows 0 [(0, vR 705), (1, vR p0), (2, vI p1)] [] (sg (mx M N)) (0, 0) (vI v) (sg (mx M' N))
  refine ev_aload_n (pc := 0) 0 dX2_flows_0 rfl rfl ?_
  refine ev_sipush (pc := 1) (x := 131) dX2_flows_1 cs_131 ?_
  obtain ⟨q1, hq1, h⟩ := bd h
  refine ev_cV (pc := 4) [vI 131] [] rfl mkX2_hasLaw ml2_25 mnX2_hasLaw dX2_flows_4 kd_705 (by omega) rfl (Nat.le_of_ble_eq_true rfl) (by omega) rfl (e_X2_hasLaw (d := d - 1) (v := q1) (by omega)  hq1) ?_
  refine ev_if_eq (pc := 7) (tgt := 32) dX2_flows_7 (by decide) (fun b2 => ?_) (fun b2 => ?_)
  · rw [if_pos b2] at h
    refine ev_iconst (pc := 32) (x := 0) dX2_flows_32 ci_0 ?_
    refine ev_aload_n (pc := 33) 1 dX2_flows_33 rfl rfl ?_
    refine ev_getR (pc := 34) fl2_51 rfl dX2_flows_34 rfl (sea_k hp0) (sea_nz hp0) (sea_r3 _ hp0) ?_
    refine ev_iload_n (pc := 37) 2 dX2_flows_37 rfl rfl ?_
    obtain ⟨c3, h⟩ := ck_some h
    refine ev_ildc (pc := 38) dX2_flows_38 (sea_ak3 hp0) (sea_anz3 hp0) (sea_a93 hp0) c3.1 c3.2 ?_
    refine ev_bipush (pc := 39) (x := 10) dX2_flows_39 cb_10 ?_
    refine ev_aload_n (pc := 41) 1 dX2_flows_41 rfl rfl ?_
    refine ev_getR (pc := 42) fl2_37 rfl dX2_flows_42 rfl (sea_k hp0) (sea_nz hp0) (sea_r2 _ hp0) ?_
    refine ev_iload_n (pc := 45) 2 dX2_flows_45 rfl rfl ?_
    refine ev_ildc (pc := 46) dX2_flows_46 (sea_ak2 hp0) (sea_anz2 hp0) (sea_a92 hp0) c3.1 c3.2 ?_
    refine ev_imul (pc := 47) dX2_flows_47 ?_
    refine ev_isub (pc := 48) dX2_flows_48 ?_
    refine ev_max (pc := 49) rfl mm2_42 (Nat.le_of_ble_eq_true rfl) (by omega) dX2_flows_49 ?_
    cases h
    exact ev_iret (pc := 52) dX2_flows_52 rfl
  · rw [if_neg b2] at h
    refine ev_iconst (pc := 10) (x := 0) dX2_flows_10 ci_0 ?_
    refine ev_aload_n (pc := 11) 0 dX2_flows_11 rfl rfl ?_
    refine ev_sipush (pc := 12) (x := 131) dX2_flows_12 cs_131 ?_
    refine ev_aload_n (pc := 15) 1 dX2_flows_15 rfl rfl ?_
    refine ev_iload_n (pc := 16) 2 dX2_flows_16 rfl rfl ?_
    refine ev_iconst (pc := 17) (x := 0) dX2_flows_17 ci_0 ?_
    refine ev_iconst (pc := 18) (x := 0) dX2_flows_18 ci_0 ?_
    obtain ⟨q4, hq4, h⟩ := bd h
    refine ev_cV (pc := 19) [vI 131, vR p0, vI p1, vI 0, vI 0] [vI 0] rfl mkX2_valueOf ml2_29 mnX2_valueOf dX2_flows_19 kd_705 (by omega) rfl (Nat.le_of_ble_eq_true rfl) (by omega) rfl (e_X2_valueOf (d := d - 1) (v := q4.1) (M' := q4.2) (by omega) hp0 hq4) ?_
    refine ev_aload_n (pc := 22) 1 dX2_flows_22 rfl rfl ?_
    refine ev_getR (pc := 23) fl2_51 rfl dX2_flows_23 rfl (sea_k hp0) (sea_nz hp0) (sea_r3 _ hp0) ?_
    refine ev_iload_n (pc := 26) 2 dX2_flows_26 rfl rfl ?_
    obtain ⟨c5, h⟩ := ck_some h
    refine ev_ildc (pc := 27) dX2_flows_27 (sea_ak3 hp0) (sea_anz3 hp0) (sea_a93 hp0) c5.1 c5.2 ?_
    refine ev_cS (pc := 28) [vI 0, vI q4.1, vI (q4.2 (p0 + 3) p1)] [] rfl mkX2_within ml2_33 msX2_within dX2_flows_28 rfl (Nat.le_of_ble_eq_true rfl) (by omega) rfl (e_X2_within (d := d - 1) (v := (f_X2_within 0 q4.1 (q4.2 (p0 + 3) p1))) (by omega)  rfl) ?_
    cases h
    exact ev_iret (pc := 31) dX2_flows_31 rfl
def f_X1_letWaterOver_L2 : Nat → Int → Int → Mem → Option (Mem)
  | 0, _, _, _ => none
  | n + 1, p0, x2, M => if (M p0 0) ≤ x2 then (some M) else (ck (0 ≤ x2 ∧ x2 < 9) ((f_X2_flows n p0 x2 M).bind fun q3 => lt (upM q3.2 715 x2 q3.1) fun M4 => if (M (p0 + 3) x2) ≠ 0 then (ck ((M (p0 + 3) x2) ≠ 0) (lt (upM M4 716 x2 (iDiv (wI ((M4 (p0 + 4) x2) * (M4 715 x2))) (M (p0 + 3) x2))) fun M7 => f_X1_letWaterOver_L2 n p0 (wI (x2 + 1)) M7)) else (lt (upM M4 716 x2 0) fun M8 => f_X1_letWaterOver_L2 n p0 (wI (x2 + 1)) M8)))
set_option maxRecDepth 100000 in
set_option maxHeartbeats 4000000 in
theorem e_X1_letWaterOver_L2 {g : Gm} {d : Nat} {p0 : Int} {r : Vv} {σ' : Sg} {N : Mem} (hd : 3 ≤ d) (hp0 : isSea p0) : ∀ (n : Nat) {x2 : Int} {M : Mem} {q : Mem}, f_X1_letWaterOver_L2 n p0 x2 M = some q → Ev g d mtX1_letWaterOver 67 [(0, vR 714), (1, vR p0)] [] (sg (mx q N)) (0, 0) r σ' → Ev g d mtX1_letWaterOver 2 [(0, vR 714), (1, vR p0), (2, vI x2)] [] (sg (mx M N)) (0, 0) r σ' := by
  intro n
  induction n with
  | zero =>
    intro x2 M q h hk0
    rw [f_X1_letWaterOver_L2.eq_1] at h
    cases h
  | succ n ih =>
    intro x2 M q h hk0
    rw [f_X1_letWaterOver_L2.eq_2] at h
    refine ev_iload_n (pc := 2) 2 dX1_letWaterOver_2 rfl rfl ?_
    refine ev_aload_n (pc := 3) 1 dX1_letWaterOver_3 rfl rfl ?_
    refine ev_getIc (pc := 4) fl1_22 rfl dX1_letWaterOver_4 rfl (sea_k hp0) (sea_nz hp0) (sea_n9 hp0) 0 rfl ?_
    refine ev_icmp_ge (pc := 7) (tgt := 67) dX1_letWaterOver_7 (by decide) (fun b1 => ?_) (fun b1 => ?_)
    · rw [if_pos b1] at h
      cases h
      refine ev_pick [0, 1] rfl ?_
      exact hk0
    · rw [if_neg b1] at h
      refine ev_aload_n (pc := 10) 1 dX1_letWaterOver_10 rfl rfl ?_
      refine ev_getR (pc := 11) fl1_83 rfl dX1_letWaterOver_11 rfl (sea_k hp0) (sea_nz hp0) (sea_r3 _ hp0) ?_
      refine ev_iload_n (pc := 14) 2 dX1_letWaterOver_14 rfl rfl ?_
      obtain ⟨c2, h⟩ := ck_some h
      refine ev_ildc (pc := 15) dX1_letWaterOver_15 (sea_ak3 hp0) (sea_anz3 hp0) (sea_a93 hp0) c2.1 c2.2 ?_
      refine ev_istore_n (pc := 16) (il' := [(3, vI (M (p0 + 3) x2)), (0, vR 714), (1, vR p0), (2, vI x2)]) dX1_letWaterOver_16 rfl (Nat.le_of_ble_eq_true rfl) rfl ?_
      refine ev_aload_n (pc := 17) 1 dX1_letWaterOver_17 rfl rfl ?_
      refine ev_getR (pc := 18) fl1_9 rfl dX1_letWaterOver_18 rfl kd_714 (by omega) (rf_714_1 _) ?_
      refine ev_iload_n (pc := 21) 3 dX1_letWaterOver_21 rfl rfl ?_
      refine ev_aload_n (pc := 22) 1 dX1_letWaterOver_22 rfl rfl ?_
      refine ev_getR (pc := 23) fl1_18 rfl dX1_letWaterOver_23 rfl kd_714 (by omega) (rf_714_0 _) ?_
      refine ev_aload_n (pc := 26) 2 dX1_letWaterOver_26 rfl rfl ?_
      refine ev_iload_n (pc := 27) 3 dX1_letWaterOver_27 rfl rfl ?_
      obtain ⟨q3, hq3, h⟩ := bd h
      refine ev_cV (pc := 28) [vR p0, vI x2] [vI x2, vR 715] rfl mkX2_flows ml1_86 mnX2_flows dX1_letWaterOver_28 kd_705 (by omega) rfl (Nat.le_of_ble_eq_true rfl) (by omega) rfl (e_X2_flows (d := d - 1) (v := q3.1) (M' := q3.2) (by omega) hp0 hq3) ?_
      obtain ⟨M4, eM4, h⟩ := lt_some h
      refine ev_istc (pc := 31) dX1_letWaterOver_31 kd_715 (by omega) (by omega) c2.1 c2.2 eM4 ?_
      refine ev_aload_n (pc := 32) 1 dX1_letWaterOver_32 rfl rfl ?_
      refine ev_getR (pc := 33) fl1_15 rfl dX1_letWaterOver_33 rfl kd_714 (by omega) (rf_714_2 _) ?_
      refine ev_iload_n (pc := 36) 3 dX1_letWaterOver_36 rfl rfl ?_
      refine ev_iload_n (pc := 37) 0 dX1_letWaterOver_37 rfl rfl ?_
      refine ev_if_ne (pc := 38) (tgt := 45) dX1_letWaterOver_38 (by decide) (fun b5 => ?_) (fun b5 => ?_)
      · rw [if_pos b5] at h
        refine ev_aload_n (pc := 45) 2 dX1_letWaterOver_45 rfl rfl ?_
        refine ev_getR (pc := 46) fl1_90 rfl dX1_letWaterOver_46 rfl (sea_k hp0) (sea_nz hp0) (sea_r4 _ hp0) ?_
        refine ev_iload_n (pc := 49) 3 dX1_letWaterOver_49 rfl rfl ?_
        refine ev_ildc (pc := 50) dX1_letWaterOver_50 (sea_ak4 hp0) (sea_anz4 hp0) (sea_a94 hp0) c2.1 c2.2 ?_
        refine ev_aload_n (pc := 51) 1 dX1_letWaterOver_51 rfl rfl ?_
        refine ev_getR (pc := 52) fl1_9 rfl dX1_letWaterOver_52 rfl kd_714 (by omega) (rf_714_1 _) ?_
        refine ev_iload_n (pc := 55) 3 dX1_letWaterOver_55 rfl rfl ?_
        refine ev_ildc (pc := 56) dX1_letWaterOver_56 kd_715 (by omega) (by omega) c2.1 c2.2 ?_
        refine ev_imul (pc := 57) dX1_letWaterOver_57 ?_
        refine ev_iload_n (pc := 58) 0 dX1_letWaterOver_58 rfl rfl ?_
        obtain ⟨c6, h⟩ := ck_some h
        refine ev_idiv (pc := 59) dX1_letWaterOver_59 c6 ?_
        obtain ⟨M7, eM7, h⟩ := lt_some h
        refine ev_istc (pc := 60) dX1_letWaterOver_60 kd_716 (by omega) (by omega) c2.1 c2.2 eM7 ?_
        refine ev_iinc (pc := 61) (il' := [(2, vI (wI (x2 + 1))), (3, vI (M (p0 + 3) x2)), (0, vR 714), (1, vR p0)]) 3 dX1_letWaterOver_61 rfl (Nat.le_of_ble_eq_true rfl) rfl rfl ?_
        refine ev_goto (pc := 64) (tgt := 2) dX1_letWaterOver_64 (by decide) ?_
        refine ev_pick [2, 3, 0] rfl ?_
        exact ih h hk0
      · rw [if_neg b5] at h
        refine ev_iconst (pc := 41) (x := 0) dX1_letWaterOver_41 ci_0 ?_
        refine ev_goto (pc := 42) (tgt := 60) dX1_letWaterOver_42 (by decide) ?_
        obtain ⟨M8, eM8, h⟩ := lt_some h
        refine ev_istc (pc := 60) dX1_letWaterOver_60 kd_716 (by omega) (by omega) c2.1 c2.2 eM8 ?_
        refine ev_iinc (pc := 61) (il' := [(2, vI (wI (x2 + 1))), (3, vI (M (p0 + 3) x2)), (0, vR 714), (1, vR p0)]) 3 dX1_letWaterOver_61 rfl (Nat.le_of_ble_eq_true rfl) rfl rfl ?_
        refine ev_goto (pc := 64) (tgt := 2) dX1_letWaterOver_64 (by decide) ?_
        refine ev_pick [2, 3, 0] rfl ?_
        exact ih h hk0
def f_X1_letWaterOver_L69_J110 (n : Nat) (p0 : Int) (K : Int → Mem → Option (Mem)) (x2 x3 s0 : Int) (M : Mem) : Option (Mem) := ck (0 ≤ x2 ∧ x2 < 9) (lt (upM M (p0 + 3) x2 (min 999 (wI ((wI ((M (p0 + 3) x2) - (M 715 x2))) + x3)))) fun M16 => lt (upM M16 (p0 + 4) x2 (min 999 (wI ((wI ((M16 (p0 + 4) x2) - (M16 716 x2))) + s0)))) fun M17 => K (wI (x2 + 1)) M17)
set_option maxRecDepth 100000 in
set_option maxHeartbeats 4000000 in
theorem e_X1_letWaterOver_L69_J110 {g : Gm} {d : Nat} {n : Nat} {p0 : Int} {K : Int → Mem → Option (Mem)} {x2 x3 s0 : Int} {M N : Mem} {q : Mem} {r : Vv} {σ' : Sg} (hd : 3 ≤ d) (hp0 : isSea p0) (hK : ∀ {x2 : Int} {M : Mem}, K x2 M = some q → Ev g d mtX1_letWaterOver 69 [(0, vR 714), (1, vR p0), (2, vI x2)] [] (sg (mx M N)) (0, 0) r σ') (hk0 : Ev g d mtX1_letWaterOver 173 [(0, vR 714), (1, vR p0)] [] (sg (mx q N)) (0, 0) r σ') (h : f_X1_letWaterOver_L69_J110 n p0 K x2 x3 s0 M = some q) : Ev g d mtX1_letWaterOver 110 [(0, vR 714), (1, vR p0), (2, vI x2), (3, vI x3)] [vI s0] (sg (mx M N)) (0, 0) r σ' := by
  unfold f_X1_letWaterOver_L69_J110 at h
  refine ev_istore (pc := 110) (il' := [(4, vI s0), (0, vR 714), (1, vR p0), (2, vI x2), (3, vI x3)]) dX1_letWaterOver_110 (Nat.le_of_ble_eq_true rfl) rfl ?_
  refine ev_aload_n (pc := 112) 2 dX1_letWaterOver_112 rfl rfl ?_
  refine ev_getR (pc := 113) fl1_83 rfl dX1_letWaterOver_113 rfl (sea_k hp0) (sea_nz hp0) (sea_r3 _ hp0) ?_
  refine ev_iload_n (pc := 116) 3 dX1_letWaterOver_116 rfl rfl ?_
  refine ev_sipush (pc := 117) (x := 999) dX1_letWaterOver_117 cs_999 ?_
  refine ev_aload_n (pc := 120) 2 dX1_letWaterOver_120 rfl rfl ?_
  refine ev_getR (pc := 121) fl1_83 rfl dX1_letWaterOver_121 rfl (sea_k hp0) (sea_nz hp0) (sea_r3 _ hp0) ?_
  refine ev_iload_n (pc := 124) 3 dX1_letWaterOver_124 rfl rfl ?_
  obtain ⟨c15, h⟩ := ck_some h
  refine ev_ildc (pc := 125) dX1_letWaterOver_125 (sea_ak3 hp0) (sea_anz3 hp0) (sea_a93 hp0) c15.1 c15.2 ?_
  refine ev_aload_n (pc := 126) 1 dX1_letWaterOver_126 rfl rfl ?_
  refine ev_getR (pc := 127) fl1_9 rfl dX1_letWaterOver_127 rfl kd_714 (by omega) (rf_714_1 _) ?_
  refine ev_iload_n (pc := 130) 3 dX1_letWaterOver_130 rfl rfl ?_
  refine ev_ildc (pc := 131) dX1_letWaterOver_131 kd_715 (by omega) (by omega) c15.1 c15.2 ?_
  refine ev_isub (pc := 132) dX1_letWaterOver_132 ?_
  refine ev_iload_n (pc := 133) 4 dX1_letWaterOver_133 rfl rfl ?_
  refine ev_iadd (pc := 134) dX1_letWaterOver_134 ?_
  refine ev_min (pc := 135) rfl mm1_77 (Nat.le_of_ble_eq_true rfl) (by omega) dX1_letWaterOver_135 ?_
  obtain ⟨M16, eM16, h⟩ := lt_some h
  refine ev_istc (pc := 138) dX1_letWaterOver_138 (sea_ak3 hp0) (sea_anz3 hp0) (sea_a93 hp0) c15.1 c15.2 eM16 ?_
  refine ev_aload_n (pc := 139) 2 dX1_letWaterOver_139 rfl rfl ?_
  refine ev_getR (pc := 140) fl1_90 rfl dX1_letWaterOver_140 rfl (sea_k hp0) (sea_nz hp0) (sea_r4 _ hp0) ?_
  refine ev_iload_n (pc := 143) 3 dX1_letWaterOver_143 rfl rfl ?_
  refine ev_sipush (pc := 144) (x := 999) dX1_letWaterOver_144 cs_999 ?_
  refine ev_aload_n (pc := 147) 2 dX1_letWaterOver_147 rfl rfl ?_
  refine ev_getR (pc := 148) fl1_90 rfl dX1_letWaterOver_148 rfl (sea_k hp0) (sea_nz hp0) (sea_r4 _ hp0) ?_
  refine ev_iload_n (pc := 151) 3 dX1_letWaterOver_151 rfl rfl ?_
  refine ev_ildc (pc := 152) dX1_letWaterOver_152 (sea_ak4 hp0) (sea_anz4 hp0) (sea_a94 hp0) c15.1 c15.2 ?_
  refine ev_aload_n (pc := 153) 1 dX1_letWaterOver_153 rfl rfl ?_
  refine ev_getR (pc := 154) fl1_15 rfl dX1_letWaterOver_154 rfl kd_714 (by omega) (rf_714_2 _) ?_
  refine ev_iload_n (pc := 157) 3 dX1_letWaterOver_157 rfl rfl ?_
  refine ev_ildc (pc := 158) dX1_letWaterOver_158 kd_716 (by omega) (by omega) c15.1 c15.2 ?_
  refine ev_isub (pc := 159) dX1_letWaterOver_159 ?_
  refine ev_iload (pc := 160) 0 dX1_letWaterOver_160 rfl ?_
  refine ev_iadd (pc := 162) dX1_letWaterOver_162 ?_
  refine ev_min (pc := 163) rfl mm1_77 (Nat.le_of_ble_eq_true rfl) (by omega) dX1_letWaterOver_163 ?_
  obtain ⟨M17, eM17, h⟩ := lt_some h
  refine ev_istc (pc := 166) dX1_letWaterOver_166 (sea_ak4 hp0) (sea_anz4 hp0) (sea_a94 hp0) c15.1 c15.2 eM17 ?_
  refine ev_iinc (pc := 167) (il' := [(2, vI (wI (x2 + 1))), (4, vI s0), (0, vR 714), (1, vR p0), (3, vI x3)]) 3 dX1_letWaterOver_167 rfl (Nat.le_of_ble_eq_true rfl) rfl rfl ?_
  refine ev_goto (pc := 170) (tgt := 69) dX1_letWaterOver_170 (by decide) ?_
  refine ev_pick [2, 3, 0] rfl ?_
  exact hK h
def f_X1_letWaterOver_L69_J93 (n : Nat) (p0 : Int) (K : Int → Mem → Option (Mem)) (x2 s0 : Int) (M : Mem) : Option (Mem) := if x2 ≠ 0 then (ck (0 ≤ (wI (x2 - 1)) ∧ (wI (x2 - 1)) < 9) (f_X1_letWaterOver_L69_J110 n p0 (K) x2 s0 (M 716 (wI (x2 - 1))) M)) else (f_X1_letWaterOver_L69_J110 n p0 (K) x2 s0 0 M)
set_option maxRecDepth 100000 in
set_option maxHeartbeats 4000000 in
theorem e_X1_letWaterOver_L69_J93 {g : Gm} {d : Nat} {n : Nat} {p0 : Int} {K : Int → Mem → Option (Mem)} {x2 s0 : Int} {M N : Mem} {q : Mem} {r : Vv} {σ' : Sg} (hd : 3 ≤ d) (hp0 : isSea p0) (hK : ∀ {x2 : Int} {M : Mem}, K x2 M = some q → Ev g d mtX1_letWaterOver 69 [(0, vR 714), (1, vR p0), (2, vI x2)] [] (sg (mx M N)) (0, 0) r σ') (hk0 : Ev g d mtX1_letWaterOver 173 [(0, vR 714), (1, vR p0)] [] (sg (mx q N)) (0, 0) r σ') (h : f_X1_letWaterOver_L69_J93 n p0 K x2 s0 M = some q) : Ev g d mtX1_letWaterOver 93 [(0, vR 714), (1, vR p0), (2, vI x2)] [vI s0] (sg (mx M N)) (0, 0) r σ' := by
  unfold f_X1_letWaterOver_L69_J93 at h
  refine ev_istore_n (pc := 93) (il' := [(3, vI s0), (0, vR 714), (1, vR p0), (2, vI x2)]) dX1_letWaterOver_93 rfl (Nat.le_of_ble_eq_true rfl) rfl ?_
  refine ev_iload_n (pc := 94) 3 dX1_letWaterOver_94 rfl rfl ?_
  refine ev_if_ne (pc := 95) (tgt := 102) dX1_letWaterOver_95 (by decide) (fun b13 => ?_) (fun b13 => ?_)
  · rw [if_pos b13] at h
    refine ev_aload_n (pc := 102) 1 dX1_letWaterOver_102 rfl rfl ?_
    refine ev_getR (pc := 103) fl1_15 rfl dX1_letWaterOver_103 rfl kd_714 (by omega) (rf_714_2 _) ?_
    refine ev_iload_n (pc := 106) 3 dX1_letWaterOver_106 rfl rfl ?_
    refine ev_iconst (pc := 107) (x := 1) dX1_letWaterOver_107 ci_1 ?_
    refine ev_isub (pc := 108) dX1_letWaterOver_108 ?_
    obtain ⟨c14, h⟩ := ck_some h
    refine ev_ildc (pc := 109) dX1_letWaterOver_109 kd_716 (by omega) (by omega) c14.1 c14.2 ?_
    refine ev_pick [1, 2, 3, 0] rfl ?_
    exact e_X1_letWaterOver_L69_J110 hd hp0 hK hk0 h
  · rw [if_neg b13] at h
    refine ev_iconst (pc := 98) (x := 0) dX1_letWaterOver_98 ci_0 ?_
    refine ev_goto (pc := 99) (tgt := 110) dX1_letWaterOver_99 (by decide) ?_
    refine ev_pick [1, 2, 3, 0] rfl ?_
    exact e_X1_letWaterOver_L69_J110 hd hp0 hK hk0 h
def f_X1_letWaterOver_L69 : Nat → Int → Int → Mem → Option (Mem)
  | 0, _, _, _ => none
  | n + 1, p0, x2, M => if (M p0 0) ≤ x2 then (some M) else (if x2 ≠ 0 then (ck (0 ≤ (wI (x2 - 1)) ∧ (wI (x2 - 1)) < 9) (f_X1_letWaterOver_L69_J93 n p0 (fun x2 M => f_X1_letWaterOver_L69 n p0 x2 M) x2 (M 715 (wI (x2 - 1))) M)) else (f_X1_letWaterOver_L69_J93 n p0 (fun x2 M => f_X1_letWaterOver_L69 n p0 x2 M) x2 0 M))
set_option maxRecDepth 100000 in
set_option maxHeartbeats 4000000 in
theorem e_X1_letWaterOver_L69 {g : Gm} {d : Nat} {p0 : Int} {r : Vv} {σ' : Sg} {N : Mem} (hd : 3 ≤ d) (hp0 : isSea p0) : ∀ (n : Nat) {x2 : Int} {M : Mem} {q : Mem}, f_X1_letWaterOver_L69 n p0 x2 M = some q → Ev g d mtX1_letWaterOver 173 [(0, vR 714), (1, vR p0)] [] (sg (mx q N)) (0, 0) r σ' → Ev g d mtX1_letWaterOver 69 [(0, vR 714), (1, vR p0), (2, vI x2)] [] (sg (mx M N)) (0, 0) r σ' := by
  intro n
  induction n with
  | zero =>
    intro x2 M q h hk0
    rw [f_X1_letWaterOver_L69.eq_1] at h
    cases h
  | succ n ih =>
    intro x2 M q h hk0
    rw [f_X1_letWaterOver_L69.eq_2] at h
    refine ev_iload_n (pc := 69) 2 dX1_letWaterOver_69 rfl rfl ?_
    refine ev_aload_n (pc := 70) 1 dX1_letWaterOver_70 rfl rfl ?_
    refine ev_getIc (pc := 71) fl1_22 rfl dX1_letWaterOver_71 rfl (sea_k hp0) (sea_nz hp0) (sea_n9 hp0) 0 rfl ?_
    refine ev_icmp_ge (pc := 74) (tgt := 173) dX1_letWaterOver_74 (by decide) (fun b10 => ?_) (fun b10 => ?_)
    · rw [if_pos b10] at h
      cases h
      refine ev_pick [0, 1] rfl ?_
      exact hk0
    · rw [if_neg b10] at h
      refine ev_iload_n (pc := 77) 2 dX1_letWaterOver_77 rfl rfl ?_
      refine ev_if_ne (pc := 78) (tgt := 85) dX1_letWaterOver_78 (by decide) (fun b11 => ?_) (fun b11 => ?_)
      · rw [if_pos b11] at h
        refine ev_aload_n (pc := 85) 0 dX1_letWaterOver_85 rfl rfl ?_
        refine ev_getR (pc := 86) fl1_9 rfl dX1_letWaterOver_86 rfl kd_714 (by omega) (rf_714_1 _) ?_
        refine ev_iload_n (pc := 89) 2 dX1_letWaterOver_89 rfl rfl ?_
        refine ev_iconst (pc := 90) (x := 1) dX1_letWaterOver_90 ci_1 ?_
        refine ev_isub (pc := 91) dX1_letWaterOver_91 ?_
        obtain ⟨c12, h⟩ := ck_some h
        refine ev_ildc (pc := 92) dX1_letWaterOver_92 kd_715 (by omega) (by omega) c12.1 c12.2 ?_
        refine ev_pick [0, 1, 2] rfl ?_
        exact e_X1_letWaterOver_L69_J93 hd hp0 (fun h9 => ih h9 hk0) hk0 h
      · rw [if_neg b11] at h
        refine ev_iconst (pc := 81) (x := 0) dX1_letWaterOver_81 ci_0 ?_
        refine ev_goto (pc := 82) (tgt := 93) dX1_letWaterOver_82 (by decide) ?_
        refine ev_pick [0, 1, 2] rfl ?_
        exact e_X1_letWaterOver_L69_J93 hd hp0 (fun h9 => ih h9 hk0) hk0 h
def f_X1_letWaterOver (n : Nat) (p0 : Int) (M : Mem) : Option (Mem) := (f_X1_letWaterOver_L2 n p0 0 M).bind fun q9 => (f_X1_letWaterOver_L69 n p0 0 q9).bind fun q18 => if (q18 p0 0) ≤ 0 then (some q18) else (ck (0 ≤ (wI ((q18 p0 0) - 1)) ∧ (wI ((q18 p0 0) - 1)) < 9) (lt (upM q18 p0 12 (min 99999999 (wI ((q18 p0 12) + (q18 715 (wI ((q18 p0 0) - 1))))))) fun M21 => ck (0 ≤ (wI ((M21 p0 0) - 1)) ∧ (wI ((M21 p0 0) - 1)) < 9) (lt (upM M21 p0 13 (min 99999999 (wI ((M21 p0 13) + (M21 716 (wI ((M21 p0 0) - 1))))))) fun M23 => some M23)))
set_option maxRecDepth 100000 in
set_option maxHeartbeats 4000000 in
theorem e_X1_letWaterOver {g : Gm} {d : Nat} {n : Nat} {p0 : Int} {M N : Mem} {M' : Mem} (hd : 3 ≤ d) (hp0 : isSea p0) (h : f_X1_letWaterOver n p0 M = some M') : EvM g d mtX1_letWaterOver [vR 714, vR p0] (sg (mx M N)) (0, 0) vN (sg (mx M' N)) := by
  unfold f_X1_letWaterOver at h
  refine EvM.of mkX1_letWaterOver.2.2.2.1 (Nat.le_of_ble_eq_true rfl) ?_
  change Ev g d mtX1_letWaterOver 0 [(0, vR 714), (1, vR p0)] [] (sg (mx M N)) (0, 0) vN (sg (mx M' N))
  refine ev_iconst (pc := 0) (x := 0) dX1_letWaterOver_0 ci_0 ?_
  refine ev_istore_n (pc := 1) (il' := [(2, vI 0), (0, vR 714), (1, vR p0)]) dX1_letWaterOver_1 rfl (Nat.le_of_ble_eq_true rfl) rfl ?_
  obtain ⟨q9, hq9, h⟩ := bd h
  refine ev_pick [1, 2, 0] rfl ?_
  refine e_X1_letWaterOver_L2 hd hp0 n hq9 ?_
  refine ev_iconst (pc := 67) (x := 0) dX1_letWaterOver_67 ci_0 ?_
  refine ev_istore_n (pc := 68) (il' := [(2, vI 0), (0, vR 714), (1, vR p0)]) dX1_letWaterOver_68 rfl (Nat.le_of_ble_eq_true rfl) rfl ?_
  obtain ⟨q18, hq18, h⟩ := bd h
  refine ev_pick [1, 2, 0] rfl ?_
  refine e_X1_letWaterOver_L69 hd hp0 n hq18 ?_
  refine ev_aload_n (pc := 173) 1 dX1_letWaterOver_173 rfl rfl ?_
  refine ev_getIc (pc := 174) fl1_22 rfl dX1_letWaterOver_174 rfl (sea_k hp0) (sea_nz hp0) (sea_n9 hp0) 0 rfl ?_
  refine ev_if_le (pc := 177) (tgt := 230) dX1_letWaterOver_177 (by decide) (fun b19 => ?_) (fun b19 => ?_)
  · rw [if_pos b19] at h
    cases h
    exact ev_vret (pc := 230) dX1_letWaterOver_230 rfl
  · rw [if_neg b19] at h
    refine ev_aload_n (pc := 180) 1 dX1_letWaterOver_180 rfl rfl ?_
    refine ev_ldc (pc := 181) (x := 99999999) rfl kc1_93 cc_99999999 dX1_letWaterOver_181 ?_
    refine ev_aload_n (pc := 183) 1 dX1_letWaterOver_183 rfl rfl ?_
    refine ev_getIc (pc := 184) fl1_94 rfl dX1_letWaterOver_184 rfl (sea_k hp0) (sea_nz hp0) (sea_n9 hp0) 12 rfl ?_
    refine ev_aload_n (pc := 187) 0 dX1_letWaterOver_187 rfl rfl ?_
    refine ev_getR (pc := 188) fl1_9 rfl dX1_letWaterOver_188 rfl kd_714 (by omega) (rf_714_1 _) ?_
    refine ev_aload_n (pc := 191) 1 dX1_letWaterOver_191 rfl rfl ?_
    refine ev_getIc (pc := 192) fl1_22 rfl dX1_letWaterOver_192 rfl (sea_k hp0) (sea_nz hp0) (sea_n9 hp0) 0 rfl ?_
    refine ev_iconst (pc := 195) (x := 1) dX1_letWaterOver_195 ci_1 ?_
    refine ev_isub (pc := 196) dX1_letWaterOver_196 ?_
    obtain ⟨c20, h⟩ := ck_some h
    refine ev_ildc (pc := 197) dX1_letWaterOver_197 kd_715 (by omega) (by omega) c20.1 c20.2 ?_
    refine ev_iadd (pc := 198) dX1_letWaterOver_198 ?_
    refine ev_min (pc := 199) rfl mm1_77 (Nat.le_of_ble_eq_true rfl) (by omega) dX1_letWaterOver_199 ?_
    obtain ⟨M21, eM21, h⟩ := lt_some h
    refine ev_putIc (pc := 202) fl1_94 rfl dX1_letWaterOver_202 (sea_k hp0) (sea_nz hp0) (sea_n9 hp0) eM21 ?_
    refine ev_aload_n (pc := 205) 1 dX1_letWaterOver_205 rfl rfl ?_
    refine ev_ldc (pc := 206) (x := 99999999) rfl kc1_93 cc_99999999 dX1_letWaterOver_206 ?_
    refine ev_aload_n (pc := 208) 1 dX1_letWaterOver_208 rfl rfl ?_
    refine ev_getIc (pc := 209) fl1_97 rfl dX1_letWaterOver_209 rfl (sea_k hp0) (sea_nz hp0) (sea_n9 hp0) 13 rfl ?_
    refine ev_aload_n (pc := 212) 0 dX1_letWaterOver_212 rfl rfl ?_
    refine ev_getR (pc := 213) fl1_15 rfl dX1_letWaterOver_213 rfl kd_714 (by omega) (rf_714_2 _) ?_
    refine ev_aload_n (pc := 216) 1 dX1_letWaterOver_216 rfl rfl ?_
    refine ev_getIc (pc := 217) fl1_22 rfl dX1_letWaterOver_217 rfl (sea_k hp0) (sea_nz hp0) (sea_n9 hp0) 0 rfl ?_
    refine ev_iconst (pc := 220) (x := 1) dX1_letWaterOver_220 ci_1 ?_
    refine ev_isub (pc := 221) dX1_letWaterOver_221 ?_
    obtain ⟨c22, h⟩ := ck_some h
    refine ev_ildc (pc := 222) dX1_letWaterOver_222 kd_716 (by omega) (by omega) c22.1 c22.2 ?_
    refine ev_iadd (pc := 223) dX1_letWaterOver_223 ?_
    refine ev_min (pc := 224) rfl mm1_77 (Nat.le_of_ble_eq_true rfl) (by omega) dX1_letWaterOver_224 ?_
    obtain ⟨M23, eM23, h⟩ := lt_some h
    refine ev_putIc (pc := 227) fl1_97 rfl dX1_letWaterOver_227 (sea_k hp0) (sea_nz hp0) (sea_n9 hp0) eM23 ?_
    cases h
    exact ev_vret (pc := 230) dX1_letWaterOver_230 rfl
def f_X11_lowest_L2 : Nat → Int → Int → Option (Int)
  | 0, _, _ => none
  | n + 1, x0, x1 => if 7 ≤ x1 then (some (-1)) else (if (bAnd x0 (bShl 1 x1)) = 0 then (f_X11_lowest_L2 n x0 (wI (x1 + 1))) else (some x1))
set_option maxRecDepth 100000 in
set_option maxHeartbeats 4000000 in
theorem e_X11_lowest_L2 {g : Gm} {d : Nat} {x0 : Int} {M0 : Mem} (hd : 0 ≤ d) : ∀ (n : Nat) {x1 : Int} {v : Int}, f_X11_lowest_L2 n x0 x1 = some v → Ev g d mtX11_lowest 2 [(0, vI x0), (1, vI x1)] [] (sg M0) (0, 0) (vI v) (sg M0) := by
  intro n
  induction n with
  | zero =>
    intro x1 v h
    rw [f_X11_lowest_L2.eq_1] at h
    cases h
  | succ n ih =>
    intro x1 v h
    rw [f_X11_lowest_L2.eq_2] at h
    refine ev_iload_n (pc := 2) 1 dX11_lowest_2 rfl rfl ?_
    refine ev_bipush (pc := 3) (x := 7) dX11_lowest_3 cb_7 ?_
    refine ev_icmp_ge (pc := 5) (tgt := 24) dX11_lowest_5 (by decide) (fun b1 => ?_) (fun b1 => ?_)
    · rw [if_pos b1] at h
      refine ev_iconst (pc := 24) (x := (-1)) dX11_lowest_24 ci_m1 ?_
      cases h
      exact ev_iret (pc := 25) dX11_lowest_25 rfl
    · rw [if_neg b1] at h
      refine ev_iload_n (pc := 8) 0 dX11_lowest_8 rfl rfl ?_
      refine ev_iconst (pc := 9) (x := 1) dX11_lowest_9 ci_1 ?_
      refine ev_iload_n (pc := 10) 1 dX11_lowest_10 rfl rfl ?_
      refine ev_ishl (pc := 11) dX11_lowest_11 ?_
      refine ev_iand (pc := 12) dX11_lowest_12 ?_
      refine ev_if_eq (pc := 13) (tgt := 18) dX11_lowest_13 (by decide) (fun b2 => ?_) (fun b2 => ?_)
      · rw [if_pos b2] at h
        refine ev_iinc (pc := 18) (il' := [(1, vI (wI (x1 + 1))), (0, vI x0)]) 1 dX11_lowest_18 rfl (Nat.le_of_ble_eq_true rfl) rfl rfl ?_
        refine ev_goto (pc := 21) (tgt := 2) dX11_lowest_21 (by decide) ?_
        refine ev_pick [1, 0] rfl ?_
        exact ih h
      · rw [if_neg b2] at h
        refine ev_iload_n (pc := 16) 1 dX11_lowest_16 rfl rfl ?_
        cases h
        exact ev_iret (pc := 17) dX11_lowest_17 rfl
def f_X11_lowest (n : Nat) (p0 : Int) : Option (Int) := f_X11_lowest_L2 n p0 0
set_option maxRecDepth 100000 in
set_option maxHeartbeats 4000000 in
theorem e_X11_lowest {g : Gm} {d : Nat} {n : Nat} {p0 : Int} {M0 : Mem} {v : Int} (hd : 0 ≤ d) (h : f_X11_lowest n p0 = some v) : EvM g d mtX11_lowest [vI p0] (sg M0) (0, 0) (vI v) (sg M0) := by
  unfold f_X11_lowest at h
  refine EvM.of mkX11_lowest.2.2.2.1 (Nat.le_of_ble_eq_true rfl) ?_
  change Ev g d mtX11_lowest 0 [(0, vI p0)] [] (sg M0) (0, 0) (vI v) (sg M0)
  refine ev_iconst (pc := 0) (x := 0) dX11_lowest_0 ci_0 ?_
  refine ev_istore_n (pc := 1) (il' := [(1, vI 0), (0, vI p0)]) dX11_lowest_1 rfl (Nat.le_of_ble_eq_true rfl) rfl ?_
  refine ev_pick [1, 0] rfl ?_
  exact e_X11_lowest_L2 hd  n h
def f_X2_hauls (n : Nat) (p0 p1 p2 p3 : Int) (M : Mem) : Option (Int × Mem) := (f_X2_hasLaw 129 M).bind fun q1 => if q1 = 0 then (ck (0 ≤ p1 ∧ p1 < 9) (some ((wI ((max 0 (wI (p2 - p3))) * (M (p0 + 1) p1))), M))) else ((f_X2_valueOf n 129 p0 p1 p2 p3 M).bind fun q4 => some ((f_X2_within 0 q4.1 9999), q4.2))
set_option maxRecDepth 100000 in
set_option maxHeartbeats 4000000 in
theorem e_X2_hauls {g : Gm} {d : Nat} {n : Nat} {p0 p1 p2 p3 : Int} {M N : Mem} {v : Int} {M' : Mem} (hd : 2 ≤ d) (hp0 : isSea p0) (h : f_X2_hauls n p0 p1 p2 p3 M = some (v, M')) : EvM g d mtX2_hauls [vR 705, vR p0, vI p1, vI p2, vI p3] (sg (mx M N)) (0, 0) (vI v) (sg (mx M' N)) := by
  unfold f_X2_hauls at h
  refine EvM.of mkX2_hauls.2.2.2.1 (Nat.le_of_ble_eq_true rfl) ?_
  change Ev g d mtX2_hauls 0 [(0, vR 705), (1, vR p0), (2, vI p1), (3, vI p2), (4, vI p3)] [] (sg (mx M N)) (0, 0) (vI v) (sg (mx M' N))
  refine ev_aload_n (pc := 0) 0 dX2_hauls_0 rfl rfl ?_
  refine ev_sipush (pc := 1) (x := 129) dX2_hauls_1 cs_129 ?_
  obtain ⟨q1, hq1, h⟩ := bd h
  refine ev_cV (pc := 4) [vI 129] [] rfl mkX2_hasLaw ml2_25 mnX2_hasLaw dX2_hauls_4 kd_705 (by omega) rfl (Nat.le_of_ble_eq_true rfl) (by omega) rfl (e_X2_hasLaw (d := d - 1) (v := q1) (by omega)  hq1) ?_
  refine ev_if_eq (pc := 7) (tgt := 30) dX2_hauls_7 (by decide) (fun b2 => ?_) (fun b2 => ?_)
  · rw [if_pos b2] at h
    refine ev_iconst (pc := 30) (x := 0) dX2_hauls_30 ci_0 ?_
    refine ev_iload_n (pc := 31) 3 dX2_hauls_31 rfl rfl ?_
    refine ev_iload (pc := 32) 4 dX2_hauls_32 rfl ?_
    refine ev_isub (pc := 34) dX2_hauls_34 ?_
    refine ev_max (pc := 35) rfl mm2_42 (Nat.le_of_ble_eq_true rfl) (by omega) dX2_hauls_35 ?_
    refine ev_aload_n (pc := 38) 1 dX2_hauls_38 rfl rfl ?_
    refine ev_getR (pc := 39) fl2_48 rfl dX2_hauls_39 rfl (sea_k hp0) (sea_nz hp0) (sea_r1 _ hp0) ?_
    refine ev_iload_n (pc := 42) 2 dX2_hauls_42 rfl rfl ?_
    obtain ⟨c3, h⟩ := ck_some h
    refine ev_ildc (pc := 43) dX2_hauls_43 (sea_ak1 hp0) (sea_anz1 hp0) (sea_a91 hp0) c3.1 c3.2 ?_
    refine ev_imul (pc := 44) dX2_hauls_44 ?_
    cases h
    exact ev_iret (pc := 45) dX2_hauls_45 rfl
  · rw [if_neg b2] at h
    refine ev_iconst (pc := 10) (x := 0) dX2_hauls_10 ci_0 ?_
    refine ev_aload_n (pc := 11) 0 dX2_hauls_11 rfl rfl ?_
    refine ev_sipush (pc := 12) (x := 129) dX2_hauls_12 cs_129 ?_
    refine ev_aload_n (pc := 15) 1 dX2_hauls_15 rfl rfl ?_
    refine ev_iload_n (pc := 16) 2 dX2_hauls_16 rfl rfl ?_
    refine ev_iload_n (pc := 17) 3 dX2_hauls_17 rfl rfl ?_
    refine ev_iload (pc := 18) 4 dX2_hauls_18 rfl ?_
    obtain ⟨q4, hq4, h⟩ := bd h
    refine ev_cV (pc := 20) [vI 129, vR p0, vI p1, vI p2, vI p3] [vI 0] rfl mkX2_valueOf ml2_29 mnX2_valueOf dX2_hauls_20 kd_705 (by omega) rfl (Nat.le_of_ble_eq_true rfl) (by omega) rfl (e_X2_valueOf (d := d - 1) (v := q4.1) (M' := q4.2) (by omega) hp0 hq4) ?_
    refine ev_sipush (pc := 23) (x := 9999) dX2_hauls_23 cs_9999 ?_
    refine ev_cS (pc := 26) [vI 0, vI q4.1, vI 9999] [] rfl mkX2_within ml2_33 msX2_within dX2_hauls_26 rfl (Nat.le_of_ble_eq_true rfl) (by omega) rfl (e_X2_within (d := d - 1) (v := (f_X2_within 0 q4.1 9999)) (by omega)  rfl) ?_
    cases h
    exact ev_iret (pc := 29) dX2_hauls_29 rfl
def f_X2_takes (n : Nat) (p0 p1 p2 : Int) (M : Mem) : Option (Int × Mem) := (f_X2_hasLaw 128 M).bind fun q1 => if q1 = 0 then (ck (0 ≤ p1 ∧ p1 < 9) (some ((M (p0 + 2) p1), M))) else ((f_X2_valueOf n 128 p0 p1 p2 0 M).bind fun q4 => some ((f_X2_within 0 q4.1 9999), q4.2))
set_option maxRecDepth 100000 in
set_option maxHeartbeats 4000000 in
theorem e_X2_takes {g : Gm} {d : Nat} {n : Nat} {p0 p1 p2 : Int} {M N : Mem} {v : Int} {M' : Mem} (hd : 2 ≤ d) (hp0 : isSea p0) (h : f_X2_takes n p0 p1 p2 M = some (v, M')) : EvM g d mtX2_takes [vR 705, vR p0, vI p1, vI p2] (sg (mx M N)) (0, 0) (vI v) (sg (mx M' N)) := by
  unfold f_X2_takes at h
  refine EvM.of mkX2_takes.2.2.2.1 (Nat.le_of_ble_eq_true rfl) ?_
  change Ev g d mtX2_takes 0 [(0, vR 705), (1, vR p0), (2, vI p1), (3, vI p2)] [] (sg (mx M N)) (0, 0) (vI v) (sg (mx M' N))
  refine ev_aload_n (pc := 0) 0 dX2_takes_0 rfl rfl ?_
  refine ev_sipush (pc := 1) (x := 128) dX2_takes_1 cs_128 ?_
  obtain ⟨q1, hq1, h⟩ := bd h
  refine ev_cV (pc := 4) [vI 128] [] rfl mkX2_hasLaw ml2_25 mnX2_hasLaw dX2_takes_4 kd_705 (by omega) rfl (Nat.le_of_ble_eq_true rfl) (by omega) rfl (e_X2_hasLaw (d := d - 1) (v := q1) (by omega)  hq1) ?_
  refine ev_if_eq (pc := 7) (tgt := 31) dX2_takes_7 (by decide) (fun b2 => ?_) (fun b2 => ?_)
  · rw [if_pos b2] at h
    refine ev_aload_n (pc := 31) 1 dX2_takes_31 rfl rfl ?_
    refine ev_getR (pc := 32) fl2_37 rfl dX2_takes_32 rfl (sea_k hp0) (sea_nz hp0) (sea_r2 _ hp0) ?_
    refine ev_iload_n (pc := 35) 2 dX2_takes_35 rfl rfl ?_
    obtain ⟨c3, h⟩ := ck_some h
    refine ev_ildc (pc := 36) dX2_takes_36 (sea_ak2 hp0) (sea_anz2 hp0) (sea_a92 hp0) c3.1 c3.2 ?_
    cases h
    exact ev_iret (pc := 37) dX2_takes_37 rfl
  · rw [if_neg b2] at h
    refine ev_iconst (pc := 10) (x := 0) dX2_takes_10 ci_0 ?_
    refine ev_aload_n (pc := 11) 0 dX2_takes_11 rfl rfl ?_
    refine ev_sipush (pc := 12) (x := 128) dX2_takes_12 cs_128 ?_
    refine ev_aload_n (pc := 15) 1 dX2_takes_15 rfl rfl ?_
    refine ev_iload_n (pc := 16) 2 dX2_takes_16 rfl rfl ?_
    refine ev_iload_n (pc := 17) 3 dX2_takes_17 rfl rfl ?_
    refine ev_iconst (pc := 18) (x := 0) dX2_takes_18 ci_0 ?_
    obtain ⟨q4, hq4, h⟩ := bd h
    refine ev_cV (pc := 19) [vI 128, vR p0, vI p1, vI p2, vI 0] [vI 0] rfl mkX2_valueOf ml2_29 mnX2_valueOf dX2_takes_19 kd_705 (by omega) rfl (Nat.le_of_ble_eq_true rfl) (by omega) rfl (e_X2_valueOf (d := d - 1) (v := q4.1) (M' := q4.2) (by omega) hp0 hq4) ?_
    refine ev_sipush (pc := 22) (x := 9999) dX2_takes_22 cs_9999 ?_
    refine ev_cS (pc := 25) [vI 0, vI q4.1, vI 9999] [] rfl mkX2_within ml2_33 msX2_within dX2_takes_25 rfl (Nat.le_of_ble_eq_true rfl) (by omega) rfl (e_X2_within (d := d - 1) (v := (f_X2_within 0 q4.1 9999)) (by omega)  rfl) ?_
    refine ev_goto (pc := 28) (tgt := 37) dX2_takes_28 (by decide) ?_
    cases h
    exact ev_iret (pc := 37) dX2_takes_37 rfl
def f_X2_wears (n : Nat) (p0 p1 p2 : Int) (M : Mem) : Option (Int × Mem) := (f_X2_hasLaw 130 M).bind fun q1 => if q1 = 0 then (some (1, M)) else ((f_X2_valueOf n 130 p0 p1 p2 0 M).bind fun q3 => some ((f_X2_within 0 q3.1 100), q3.2))
set_option maxRecDepth 100000 in
set_option maxHeartbeats 4000000 in
theorem e_X2_wears {g : Gm} {d : Nat} {n : Nat} {p0 p1 p2 : Int} {M N : Mem} {v : Int} {M' : Mem} (hd : 2 ≤ d) (hp0 : isSea p0) (h : f_X2_wears n p0 p1 p2 M = some (v, M')) : EvM g d mtX2_wears [vR 705, vR p0, vI p1, vI p2] (sg (mx M N)) (0, 0) (vI v) (sg (mx M' N)) := by
  unfold f_X2_wears at h
  refine EvM.of mkX2_wears.2.2.2.1 (Nat.le_of_ble_eq_true rfl) ?_
  change Ev g d mtX2_wears 0 [(0, vR 705), (1, vR p0), (2, vI p1), (3, vI p2)] [] (sg (mx M N)) (0, 0) (vI v) (sg (mx M' N))
  refine ev_aload_n (pc := 0) 0 dX2_wears_0 rfl rfl ?_
  refine ev_sipush (pc := 1) (x := 130) dX2_wears_1 cs_130 ?_
  obtain ⟨q1, hq1, h⟩ := bd h
  refine ev_cV (pc := 4) [vI 130] [] rfl mkX2_hasLaw ml2_25 mnX2_hasLaw dX2_wears_4 kd_705 (by omega) rfl (Nat.le_of_ble_eq_true rfl) (by omega) rfl (e_X2_hasLaw (d := d - 1) (v := q1) (by omega)  hq1) ?_
  refine ev_if_eq (pc := 7) (tgt := 30) dX2_wears_7 (by decide) (fun b2 => ?_) (fun b2 => ?_)
  · rw [if_pos b2] at h
    refine ev_iconst (pc := 30) (x := 1) dX2_wears_30 ci_1 ?_
    cases h
    exact ev_iret (pc := 31) dX2_wears_31 rfl
  · rw [if_neg b2] at h
    refine ev_iconst (pc := 10) (x := 0) dX2_wears_10 ci_0 ?_
    refine ev_aload_n (pc := 11) 0 dX2_wears_11 rfl rfl ?_
    refine ev_sipush (pc := 12) (x := 130) dX2_wears_12 cs_130 ?_
    refine ev_aload_n (pc := 15) 1 dX2_wears_15 rfl rfl ?_
    refine ev_iload_n (pc := 16) 2 dX2_wears_16 rfl rfl ?_
    refine ev_iload_n (pc := 17) 3 dX2_wears_17 rfl rfl ?_
    refine ev_iconst (pc := 18) (x := 0) dX2_wears_18 ci_0 ?_
    obtain ⟨q3, hq3, h⟩ := bd h
    refine ev_cV (pc := 19) [vI 130, vR p0, vI p1, vI p2, vI 0] [vI 0] rfl mkX2_valueOf ml2_29 mnX2_valueOf dX2_wears_19 kd_705 (by omega) rfl (Nat.le_of_ble_eq_true rfl) (by omega) rfl (e_X2_valueOf (d := d - 1) (v := q3.1) (M' := q3.2) (by omega) hp0 hq3) ?_
    refine ev_bipush (pc := 22) (x := 100) dX2_wears_22 cb_100 ?_
    refine ev_cS (pc := 24) [vI 0, vI q3.1, vI 100] [] rfl mkX2_within ml2_33 msX2_within dX2_wears_24 rfl (Nat.le_of_ble_eq_true rfl) (by omega) rfl (e_X2_within (d := d - 1) (v := (f_X2_within 0 q3.1 100)) (by omega)  rfl) ?_
    refine ev_goto (pc := 27) (tgt := 31) dX2_wears_27 (by decide) ?_
    cases h
    exact ev_iret (pc := 31) dX2_wears_31 rfl
def f_X5_bound_L5_J54 (n : Nat) (k : Int) (K : Int → Int → Option (Int)) (x1 x2 x3 x4 : Int) (M : Mem) : Option (Int) := K (bOr x3 (bShl 1 x4)) (wI (x4 + 1))
set_option maxRecDepth 100000 in
set_option maxHeartbeats 4000000 in
theorem e_X5_bound_L5_J54 {g : Gm} {d : Nat} {n : Nat} {k : Int} {K : Int → Int → Option (Int)} {x1 x2 x3 x4 : Int} {M N : Mem} {q : Int} {r : Vv} {σ' : Sg} (hd : 0 ≤ d) (hk : isSea k) (hK : ∀ {x3 x4 : Int}, K x3 x4 = some q → Ev g d mtX5_bound 5 [(0, vR k), (1, vI x1), (2, vI x2), (3, vI x3), (4, vI x4)] [] (sg (mx M N)) (0, 0) r σ') (hk0 : Ev g d mtX5_bound 67 [(3, vI q)] [] (sg (mx M N)) (0, 0) r σ') (h : f_X5_bound_L5_J54 n k K x1 x2 x3 x4 M = some q) : Ev g d mtX5_bound 54 [(0, vR k), (1, vI x1), (2, vI x2), (3, vI x3), (4, vI x4)] [] (sg (mx M N)) (0, 0) r σ' := by
  unfold f_X5_bound_L5_J54 at h
  refine ev_iload_n (pc := 54) 3 dX5_bound_54 rfl rfl ?_
  refine ev_iconst (pc := 55) (x := 1) dX5_bound_55 ci_1 ?_
  refine ev_iload (pc := 56) 4 dX5_bound_56 rfl ?_
  refine ev_ishl (pc := 58) dX5_bound_58 ?_
  refine ev_ior (pc := 59) dX5_bound_59 ?_
  refine ev_istore_n (pc := 60) (il' := [(3, vI (bOr x3 (bShl 1 x4))), (0, vR k), (1, vI x1), (2, vI x2), (4, vI x4)]) dX5_bound_60 rfl (Nat.le_of_ble_eq_true rfl) rfl ?_
  refine ev_iinc (pc := 61) (il' := [(4, vI (wI (x4 + 1))), (3, vI (bOr x3 (bShl 1 x4))), (0, vR k), (1, vI x1), (2, vI x2)]) 4 dX5_bound_61 rfl (Nat.le_of_ble_eq_true rfl) rfl rfl ?_
  refine ev_goto (pc := 64) (tgt := 5) dX5_bound_64 (by decide) ?_
  refine ev_pick [2, 3, 4, 1, 0] rfl ?_
  exact hK h
def f_X5_bound_L5 : Nat → Int → Int → Int → Int → Int → Mem → Option (Int)
  | 0, _, _, _, _, _, _ => none
  | n + 1, k, x1, x2, x3, x4, M => if (M k 6) ≤ x4 then (some x3) else (ck (0 ≤ x4 ∧ x4 < 7) (if (M (k + 7) x4) ≠ x1 then (f_X5_bound_L5 n k x1 x2 x3 (wI (x4 + 1)) M) else (if x2 = 0 then (if x1 ≤ (M (k + 8) x4) then (f_X5_bound_L5 n k x1 x2 x3 (wI (x4 + 1)) M) else (f_X5_bound_L5_J54 n k (fun x3 x4 => f_X5_bound_L5 n k x1 x2 x3 x4 M) x1 x2 x3 x4 M)) else (if (M (k + 8) x4) ≤ x1 then (f_X5_bound_L5 n k x1 x2 x3 (wI (x4 + 1)) M) else (f_X5_bound_L5_J54 n k (fun x3 x4 => f_X5_bound_L5 n k x1 x2 x3 x4 M) x1 x2 x3 x4 M)))))
set_option maxRecDepth 100000 in
set_option maxHeartbeats 4000000 in
theorem e_X5_bound_L5 {g : Gm} {d : Nat} {k : Int} {x1 x2 : Int} {r : Vv} {σ' : Sg} {M N : Mem} (hd : 0 ≤ d) (hk : isSea k) : ∀ (n : Nat) {x3 x4 : Int} {q : Int}, f_X5_bound_L5 n k x1 x2 x3 x4 M = some q → Ev g d mtX5_bound 67 [(3, vI q)] [] (sg (mx M N)) (0, 0) r σ' → Ev g d mtX5_bound 5 [(0, vR k), (1, vI x1), (2, vI x2), (3, vI x3), (4, vI x4)] [] (sg (mx M N)) (0, 0) r σ' := by
  intro n
  induction n with
  | zero =>
    intro x3 x4 q h hk0
    rw [f_X5_bound_L5.eq_1] at h
    cases h
  | succ n ih =>
    intro x3 x4 q h hk0
    rw [f_X5_bound_L5.eq_2] at h
    refine ev_iload (pc := 5) 4 dX5_bound_5 rfl ?_
    refine ev_aload_n (pc := 7) 0 dX5_bound_7 rfl rfl ?_
    refine ev_getIc (pc := 8) fl5_49 rfl dX5_bound_8 rfl (sea_k hk) (sea_nz hk) (sea_n9 hk) 6 rfl ?_
    refine ev_icmp_ge (pc := 11) (tgt := 67) dX5_bound_11 (by decide) (fun b1 => ?_) (fun b1 => ?_)
    · rw [if_pos b1] at h
      cases h
      refine ev_pick [3] rfl ?_
      exact hk0
    · rw [if_neg b1] at h
      refine ev_aload_n (pc := 14) 0 dX5_bound_14 rfl rfl ?_
      refine ev_getR (pc := 15) fl5_30 rfl dX5_bound_15 rfl (sea_k hk) (sea_nz hk) (sea_r8 _ hk) ?_
      refine ev_iload (pc := 18) 4 dX5_bound_18 rfl ?_
      obtain ⟨c2, h⟩ := ck_some h
      refine ev_ildc (pc := 20) dX5_bound_20 (sea_ak8 hk) (sea_anz8 hk) (sea_a98 hk) c2.1 c2.2 ?_
      refine ev_iload_n (pc := 21) 1 dX5_bound_21 rfl rfl ?_
      refine ev_icmp_ne (pc := 22) (tgt := 61) dX5_bound_22 (by decide) (fun b3 => ?_) (fun b3 => ?_)
      · rw [if_pos b3] at h
        refine ev_iinc (pc := 61) (il' := [(4, vI (wI (x4 + 1))), (0, vR k), (1, vI x1), (2, vI x2), (3, vI x3)]) 4 dX5_bound_61 rfl (Nat.le_of_ble_eq_true rfl) rfl rfl ?_
        refine ev_goto (pc := 64) (tgt := 5) dX5_bound_64 (by decide) ?_
        refine ev_pick [1, 2, 3, 4, 0] rfl ?_
        exact ih h hk0
      · rw [if_neg b3] at h
        refine ev_iload_n (pc := 25) 2 dX5_bound_25 rfl rfl ?_
        refine ev_if_eq (pc := 26) (tgt := 43) dX5_bound_26 (by decide) (fun b4 => ?_) (fun b4 => ?_)
        · rw [if_pos b4] at h
          refine ev_aload_n (pc := 43) 0 dX5_bound_43 rfl rfl ?_
          refine ev_getR (pc := 44) fl5_33 rfl dX5_bound_44 rfl (sea_k hk) (sea_nz hk) (sea_r9 _ hk) ?_
          refine ev_iload (pc := 47) 4 dX5_bound_47 rfl ?_
          refine ev_ildc (pc := 49) dX5_bound_49 (sea_ak9 hk) (sea_anz9 hk) (sea_a99 hk) c2.1 c2.2 ?_
          refine ev_iload_n (pc := 50) 1 dX5_bound_50 rfl rfl ?_
          refine ev_icmp_ge (pc := 51) (tgt := 61) dX5_bound_51 (by decide) (fun b5 => ?_) (fun b5 => ?_)
          · rw [if_pos b5] at h
            refine ev_iinc (pc := 61) (il' := [(4, vI (wI (x4 + 1))), (0, vR k), (1, vI x1), (2, vI x2), (3, vI x3)]) 4 dX5_bound_61 rfl (Nat.le_of_ble_eq_true rfl) rfl rfl ?_
            refine ev_goto (pc := 64) (tgt := 5) dX5_bound_64 (by decide) ?_
            refine ev_pick [1, 2, 3, 4, 0] rfl ?_
            exact ih h hk0
          · rw [if_neg b5] at h
            refine ev_pick [0, 1, 2, 3, 4] rfl ?_
            exact e_X5_bound_L5_J54 hd hk (fun h9 => ih h9 hk0) hk0 h
        · rw [if_neg b4] at h
          refine ev_aload_n (pc := 29) 0 dX5_bound_29 rfl rfl ?_
          refine ev_getR (pc := 30) fl5_33 rfl dX5_bound_30 rfl (sea_k hk) (sea_nz hk) (sea_r9 _ hk) ?_
          refine ev_iload (pc := 33) 4 dX5_bound_33 rfl ?_
          refine ev_ildc (pc := 35) dX5_bound_35 (sea_ak9 hk) (sea_anz9 hk) (sea_a99 hk) c2.1 c2.2 ?_
          refine ev_iload_n (pc := 36) 1 dX5_bound_36 rfl rfl ?_
          refine ev_icmp_le (pc := 37) (tgt := 61) dX5_bound_37 (by decide) (fun b6 => ?_) (fun b6 => ?_)
          · rw [if_pos b6] at h
            refine ev_iinc (pc := 61) (il' := [(4, vI (wI (x4 + 1))), (0, vR k), (1, vI x1), (2, vI x2), (3, vI x3)]) 4 dX5_bound_61 rfl (Nat.le_of_ble_eq_true rfl) rfl rfl ?_
            refine ev_goto (pc := 64) (tgt := 5) dX5_bound_64 (by decide) ?_
            refine ev_pick [1, 2, 3, 4, 0] rfl ?_
            exact ih h hk0
          · rw [if_neg b6] at h
            refine ev_goto (pc := 40) (tgt := 54) dX5_bound_40 (by decide) ?_
            refine ev_pick [0, 1, 2, 3, 4] rfl ?_
            exact e_X5_bound_L5_J54 hd hk (fun h9 => ih h9 hk0) hk0 h
def f_X5_bound (n : Nat) (k p0 p1 : Int) (M : Mem) : Option (Int) := (f_X5_bound_L5 n k p0 p1 0 0 M).bind fun q7 => some q7
set_option maxRecDepth 100000 in
set_option maxHeartbeats 4000000 in
theorem e_X5_bound {g : Gm} {d : Nat} {n : Nat} {k p0 p1 : Int} {M N : Mem} {v : Int} (hd : 0 ≤ d) (hk : isSea k) (h : f_X5_bound n k p0 p1 M = some v) : EvM g d mtX5_bound [vR k, vI p0, vI p1] (sg (mx M N)) (0, 0) (vI v) (sg (mx M N)) := by
  unfold f_X5_bound at h
  refine EvM.of mkX5_bound.2.2.2.1 (Nat.le_of_ble_eq_true rfl) ?_
  change Ev g d mtX5_bound 0 [(0, vR k), (1, vI p0), (2, vI p1)] [] (sg (mx M N)) (0, 0) (vI v) (sg (mx M N))
  refine ev_iconst (pc := 0) (x := 0) dX5_bound_0 ci_0 ?_
  refine ev_istore_n (pc := 1) (il' := [(3, vI 0), (0, vR k), (1, vI p0), (2, vI p1)]) dX5_bound_1 rfl (Nat.le_of_ble_eq_true rfl) rfl ?_
  refine ev_iconst (pc := 2) (x := 0) dX5_bound_2 ci_0 ?_
  refine ev_istore (pc := 3) (il' := [(4, vI 0), (3, vI 0), (0, vR k), (1, vI p0), (2, vI p1)]) dX5_bound_3 (Nat.le_of_ble_eq_true rfl) rfl ?_
  obtain ⟨q7, hq7, h⟩ := bd h
  refine ev_pick [2, 3, 4, 1, 0] rfl ?_
  refine e_X5_bound_L5 hd hk n hq7 ?_
  refine ev_iload_n (pc := 67) 0 dX5_bound_67 rfl rfl ?_
  cases h
  exact ev_iret (pc := 68) dX5_bound_68 rfl
def f_X5_moveTo_J41 (k : Int) (x1 x2 : Int) (M : Mem) : Option (Mem) := ck (0 ≤ (M k 15) ∧ (M k 15) < 40) (lt (upM M (k + 10) (M k 15) (wI ((wI ((wI ((M k 11) * 100)) + (wI (x1 * 10)))) + x2))) fun M5 => lt (upM M5 k 15 (wI ((M5 k 15) + 1))) fun M6 => some M6)
set_option maxRecDepth 100000 in
set_option maxHeartbeats 4000000 in
theorem e_X5_moveTo_J41 {g : Gm} {d : Nat} {k : Int} {x1 x2 : Int} {M N : Mem} {M' : Mem} (hd : 1 ≤ d) (hk : isSea k) (h : f_X5_moveTo_J41 k x1 x2 M = some M') : Ev g d mtX5_moveTo 41 [(0, vR k), (1, vI x1), (2, vI x2)] [] (sg (mx M N)) (0, 0) vN (sg (mx M' N)) := by
  unfold f_X5_moveTo_J41 at h
  refine ev_aload_n (pc := 41) 0 dX5_moveTo_41 rfl rfl ?_
  refine ev_getR (pc := 42) fl5_43 rfl dX5_moveTo_42 rfl (sea_k hk) (sea_nz hk) (sea_r16 _ hk) ?_
  refine ev_aload_n (pc := 45) 0 dX5_moveTo_45 rfl rfl ?_
  refine ev_getIc (pc := 46) fl5_71 rfl dX5_moveTo_46 rfl (sea_k hk) (sea_nz hk) (sea_n9 hk) 15 rfl ?_
  refine ev_aload_n (pc := 49) 0 dX5_moveTo_49 rfl rfl ?_
  refine ev_getIc (pc := 50) fl5_62 rfl dX5_moveTo_50 rfl (sea_k hk) (sea_nz hk) (sea_n9 hk) 11 rfl ?_
  refine ev_bipush (pc := 53) (x := 100) dX5_moveTo_53 cb_100 ?_
  refine ev_imul (pc := 55) dX5_moveTo_55 ?_
  refine ev_iload_n (pc := 56) 1 dX5_moveTo_56 rfl rfl ?_
  refine ev_bipush (pc := 57) (x := 10) dX5_moveTo_57 cb_10 ?_
  refine ev_imul (pc := 59) dX5_moveTo_59 ?_
  refine ev_iadd (pc := 60) dX5_moveTo_60 ?_
  refine ev_iload_n (pc := 61) 2 dX5_moveTo_61 rfl rfl ?_
  refine ev_iadd (pc := 62) dX5_moveTo_62 ?_
  obtain ⟨c4, h⟩ := ck_some h
  obtain ⟨M5, eM5, h⟩ := lt_some h
  refine ev_istc (pc := 63) dX5_moveTo_63 (sea_ak16 hk) (sea_anz16 hk) (sea_a916 hk) c4.1 c4.2 eM5 ?_
  refine ev_aload_n (pc := 64) 0 dX5_moveTo_64 rfl rfl ?_
  refine ev_dup (pc := 65) rfl dX5_moveTo_65 ?_
  refine ev_getIc (pc := 66) fl5_71 rfl dX5_moveTo_66 rfl (sea_k hk) (sea_nz hk) (sea_n9 hk) 15 rfl ?_
  refine ev_iconst (pc := 69) (x := 1) dX5_moveTo_69 ci_1 ?_
  refine ev_iadd (pc := 70) dX5_moveTo_70 ?_
  obtain ⟨M6, eM6, h⟩ := lt_some h
  refine ev_putIc (pc := 71) fl5_71 rfl dX5_moveTo_71 (sea_k hk) (sea_nz hk) (sea_n9 hk) eM6 ?_
  cases h
  exact ev_vret (pc := 74) dX5_moveTo_74 rfl
def f_X5_moveTo (k p0 p1 : Int) (M : Mem) : Option (Mem) := ck (0 ≤ p0 ∧ p0 < 7) (lt (upM M (k + 7) p0 p1) fun M2 => if (M2 k 15) ≠ 40 then (f_X5_moveTo_J41 k p0 p1 M2) else (lt (cpM M2 (k + 10) 1 (k + 10) 0 39) fun M7 => lt (upM M7 k 15 (wI ((M7 k 15) - 1))) fun M8 => f_X5_moveTo_J41 k p0 p1 M8))
set_option maxRecDepth 100000 in
set_option maxHeartbeats 4000000 in
theorem e_X5_moveTo {g : Gm} {d : Nat} {k p0 p1 : Int} {M N : Mem} {M' : Mem} (hd : 1 ≤ d) (hk : isSea k) (h : f_X5_moveTo k p0 p1 M = some M') : EvM g d mtX5_moveTo [vR k, vI p0, vI p1] (sg (mx M N)) (0, 0) vN (sg (mx M' N)) := by
  unfold f_X5_moveTo at h
  refine EvM.of mkX5_moveTo.2.2.2.1 (Nat.le_of_ble_eq_true rfl) ?_
  change Ev g d mtX5_moveTo 0 [(0, vR k), (1, vI p0), (2, vI p1)] [] (sg (mx M N)) (0, 0) vN (sg (mx M' N))
  refine ev_aload_n (pc := 0) 0 dX5_moveTo_0 rfl rfl ?_
  refine ev_getR (pc := 1) fl5_30 rfl dX5_moveTo_1 rfl (sea_k hk) (sea_nz hk) (sea_r8 _ hk) ?_
  refine ev_iload_n (pc := 4) 1 dX5_moveTo_4 rfl rfl ?_
  refine ev_iload_n (pc := 5) 2 dX5_moveTo_5 rfl rfl ?_
  obtain ⟨c1, h⟩ := ck_some h
  obtain ⟨M2, eM2, h⟩ := lt_some h
  refine ev_istc (pc := 6) dX5_moveTo_6 (sea_ak8 hk) (sea_anz8 hk) (sea_a98 hk) c1.1 c1.2 eM2 ?_
  refine ev_aload_n (pc := 7) 0 dX5_moveTo_7 rfl rfl ?_
  refine ev_getIc (pc := 8) fl5_71 rfl dX5_moveTo_8 rfl (sea_k hk) (sea_nz hk) (sea_n9 hk) 15 rfl ?_
  refine ev_bipush (pc := 11) (x := 40) dX5_moveTo_11 cb_40 ?_
  refine ev_icmp_ne (pc := 13) (tgt := 41) dX5_moveTo_13 (by decide) (fun b3 => ?_) (fun b3 => ?_)
  · rw [if_pos b3] at h
    refine ev_pick [0, 1, 2] rfl ?_
    exact e_X5_moveTo_J41 hd hk h
  · rw [if_neg b3] at h
    refine ev_aload_n (pc := 16) 0 dX5_moveTo_16 rfl rfl ?_
    refine ev_getR (pc := 17) fl5_43 rfl dX5_moveTo_17 rfl (sea_k hk) (sea_nz hk) (sea_r16 _ hk) ?_
    refine ev_iconst (pc := 20) (x := 1) dX5_moveTo_20 ci_1 ?_
    refine ev_aload_n (pc := 21) 0 dX5_moveTo_21 rfl rfl ?_
    refine ev_getR (pc := 22) fl5_43 rfl dX5_moveTo_22 rfl (sea_k hk) (sea_nz hk) (sea_r16 _ hk) ?_
    refine ev_iconst (pc := 25) (x := 0) dX5_moveTo_25 ci_0 ?_
    refine ev_bipush (pc := 26) (x := 39) dX5_moveTo_26 cb_39 ?_
    obtain ⟨M7, eM7, h⟩ := lt_some h
    refine ev_cpy (pc := 28) cp5_52 rfl dX5_moveTo_28 (Nat.le_of_ble_eq_true rfl) (by omega) (sea_ak16 hk) (sea_anz16 hk) (sea_a916 hk) (sea_ak16 hk) (sea_anz16 hk) (sea_a916 hk) (by refine ⟨?_, ?_, ?_, ?_, ?_⟩ <;> omega) eM7 ?_
    refine ev_aload_n (pc := 31) 0 dX5_moveTo_31 rfl rfl ?_
    refine ev_dup (pc := 32) rfl dX5_moveTo_32 ?_
    refine ev_getIc (pc := 33) fl5_71 rfl dX5_moveTo_33 rfl (sea_k hk) (sea_nz hk) (sea_n9 hk) 15 rfl ?_
    refine ev_iconst (pc := 36) (x := 1) dX5_moveTo_36 ci_1 ?_
    refine ev_isub (pc := 37) dX5_moveTo_37 ?_
    obtain ⟨M8, eM8, h⟩ := lt_some h
    refine ev_putIc (pc := 38) fl5_71 rfl dX5_moveTo_38 (sea_k hk) (sea_nz hk) (sea_n9 hk) eM8 ?_
    refine ev_pick [0, 1, 2] rfl ?_
    exact e_X5_moveTo_J41 hd hk h
def f_X5_pay (k p0 p1 : Int) (M : Mem) : Option (Mem) := ck (0 ≤ p0 ∧ p0 < 7) (lt (upM M (k + 9) p0 (min 99999 (wI ((M (k + 9) p0) + p1)))) fun M2 => some M2)
set_option maxRecDepth 100000 in
set_option maxHeartbeats 4000000 in
theorem e_X5_pay {g : Gm} {d : Nat} {k p0 p1 : Int} {M N : Mem} {M' : Mem} (hd : 1 ≤ d) (hk : isSea k) (h : f_X5_pay k p0 p1 M = some M') : EvM g d mtX5_pay [vR k, vI p0, vI p1] (sg (mx M N)) (0, 0) vN (sg (mx M' N)) := by
  unfold f_X5_pay at h
  refine EvM.of mkX5_pay.2.2.2.1 (Nat.le_of_ble_eq_true rfl) ?_
  change Ev g d mtX5_pay 0 [(0, vR k), (1, vI p0), (2, vI p1)] [] (sg (mx M N)) (0, 0) vN (sg (mx M' N))
  refine ev_aload_n (pc := 0) 0 dX5_pay_0 rfl rfl ?_
  refine ev_getR (pc := 1) fl5_36 rfl dX5_pay_1 rfl (sea_k hk) (sea_nz hk) (sea_r10 _ hk) ?_
  refine ev_iload_n (pc := 4) 1 dX5_pay_4 rfl rfl ?_
  refine ev_ldc (pc := 5) (x := 99999) rfl kc5_80 cc_99999 dX5_pay_5 ?_
  refine ev_aload_n (pc := 7) 0 dX5_pay_7 rfl rfl ?_
  refine ev_getR (pc := 8) fl5_36 rfl dX5_pay_8 rfl (sea_k hk) (sea_nz hk) (sea_r10 _ hk) ?_
  refine ev_iload_n (pc := 11) 1 dX5_pay_11 rfl rfl ?_
  obtain ⟨c1, h⟩ := ck_some h
  refine ev_ildc (pc := 12) dX5_pay_12 (sea_ak10 hk) (sea_anz10 hk) (sea_a910 hk) c1.1 c1.2 ?_
  refine ev_iload_n (pc := 13) 2 dX5_pay_13 rfl rfl ?_
  refine ev_iadd (pc := 14) dX5_pay_14 ?_
  refine ev_min (pc := 15) rfl mm5_74 (Nat.le_of_ble_eq_true rfl) (by omega) dX5_pay_15 ?_
  obtain ⟨M2, eM2, h⟩ := lt_some h
  refine ev_istc (pc := 18) dX5_pay_18 (sea_ak10 hk) (sea_anz10 hk) (sea_a910 hk) c1.1 c1.2 eM2 ?_
  cases h
  exact ev_vret (pc := 19) dX5_pay_19 rfl
def f_X1_useRope_J169 (n : Nat) (p0 : Int) (x2 x6 x7 x8 : Int) (M : Mem) : Option (Int × Mem) := ck (0 ≤ x2 ∧ x2 < 9) ((f_X2_wears n p0 x2 (wI (x6 + x7)) M).bind fun q13 => lt (upM q13.2 (p0 + 5) x2 (min 100 (wI ((M (p0 + 5) x2) + q13.1)))) fun M14 => some (x8, M14))
set_option maxRecDepth 100000 in
set_option maxHeartbeats 4000000 in
theorem e_X1_useRope_J169 {g : Gm} {d : Nat} {n : Nat} {p0 : Int} {x2 x6 x7 x8 : Int} {M N : Mem} {v : Int} {M' : Mem} (hd : 3 ≤ d) (hp0 : isSea p0) (h : f_X1_useRope_J169 n p0 x2 x6 x7 x8 M = some (v, M')) : Ev g d mtX1_useRope 169 [(0, vR 714), (1, vR p0), (2, vI x2), (6, vI x6), (7, vI x7), (8, vI x8)] [] (sg (mx M N)) (0, 0) (vI v) (sg (mx M' N)) := by
  unfold f_X1_useRope_J169 at h
  refine ev_aload_n (pc := 169) 1 dX1_useRope_169 rfl rfl ?_
  refine ev_getR (pc := 170) fl1_28 rfl dX1_useRope_170 rfl (sea_k hp0) (sea_nz hp0) (sea_r5 _ hp0) ?_
  refine ev_iload_n (pc := 173) 2 dX1_useRope_173 rfl rfl ?_
  obtain ⟨c12, h⟩ := ck_some h
  refine ev_ildc (pc := 174) dX1_useRope_174 (sea_ak5 hp0) (sea_anz5 hp0) (sea_a95 hp0) c12.1 c12.2 ?_
  refine ev_aload_n (pc := 175) 0 dX1_useRope_175 rfl rfl ?_
  refine ev_getR (pc := 176) fl1_18 rfl dX1_useRope_176 rfl kd_714 (by omega) (rf_714_0 _) ?_
  refine ev_aload_n (pc := 179) 1 dX1_useRope_179 rfl rfl ?_
  refine ev_iload_n (pc := 180) 2 dX1_useRope_180 rfl rfl ?_
  refine ev_iload (pc := 181) 3 dX1_useRope_181 rfl ?_
  refine ev_iload (pc := 183) 4 dX1_useRope_183 rfl ?_
  refine ev_iadd (pc := 185) dX1_useRope_185 ?_
  obtain ⟨q13, hq13, h⟩ := bd h
  refine ev_cV (pc := 186) [vR p0, vI x2, vI (wI (x6 + x7))] [vI (M (p0 + 5) x2)] rfl mkX2_wears ml1_74 mnX2_wears dX1_useRope_186 kd_705 (by omega) rfl (Nat.le_of_ble_eq_true rfl) (by omega) rfl (e_X2_wears (d := d - 1) (v := q13.1) (M' := q13.2) (by omega) hp0 hq13) ?_
  refine ev_iadd (pc := 189) dX1_useRope_189 ?_
  refine ev_istore (pc := 190) (il' := [(9, vI (wI ((M (p0 + 5) x2) + q13.1))), (0, vR 714), (1, vR p0), (2, vI x2), (6, vI x6), (7, vI x7), (8, vI x8)]) dX1_useRope_190 (Nat.le_of_ble_eq_true rfl) rfl ?_
  refine ev_aload_n (pc := 192) 2 dX1_useRope_192 rfl rfl ?_
  refine ev_getR (pc := 193) fl1_28 rfl dX1_useRope_193 rfl (sea_k hp0) (sea_nz hp0) (sea_r5 _ hp0) ?_
  refine ev_iload_n (pc := 196) 3 dX1_useRope_196 rfl rfl ?_
  refine ev_bipush (pc := 197) (x := 100) dX1_useRope_197 cb_100 ?_
  refine ev_iload (pc := 199) 0 dX1_useRope_199 rfl ?_
  refine ev_min (pc := 201) rfl mm1_77 (Nat.le_of_ble_eq_true rfl) (by omega) dX1_useRope_201 ?_
  obtain ⟨M14, eM14, h⟩ := lt_some h
  refine ev_istc (pc := 204) dX1_useRope_204 (sea_ak5 hp0) (sea_anz5 hp0) (sea_a95 hp0) c12.1 c12.2 eM14 ?_
  refine ev_iload (pc := 205) 6 dX1_useRope_205 rfl ?_
  cases h
  exact ev_iret (pc := 207) dX1_useRope_207 rfl
def f_X1_useRope_J128 (n : Nat) (p0 : Int) (x2 x5 x6 x7 x8 : Int) (M : Mem) : Option (Int × Mem) := if x5 = (-1) then (f_X1_useRope_J169 n p0 x2 x6 x7 x8 M) else ((f_X2_hauls n p0 x2 x7 x6 M).bind fun q15 => (f_X5_pay p0 x5 q15.1 q15.2).bind fun q16 => (f_X5_moveTo p0 x5 x2 q16).bind fun q17 => f_X1_useRope_J169 n p0 x2 x6 x7 (bOr x8 (bShl 1 x5)) q17)
set_option maxRecDepth 100000 in
set_option maxHeartbeats 4000000 in
theorem e_X1_useRope_J128 {g : Gm} {d : Nat} {n : Nat} {p0 : Int} {x2 x5 x6 x7 x8 : Int} {M N : Mem} {v : Int} {M' : Mem} (hd : 3 ≤ d) (hp0 : isSea p0) (h : f_X1_useRope_J128 n p0 x2 x5 x6 x7 x8 M = some (v, M')) : Ev g d mtX1_useRope 128 [(0, vR 714), (1, vR p0), (2, vI x2), (5, vI x5), (6, vI x6), (7, vI x7), (8, vI x8)] [] (sg (mx M N)) (0, 0) (vI v) (sg (mx M' N)) := by
  unfold f_X1_useRope_J128 at h
  refine ev_iload (pc := 128) 3 dX1_useRope_128 rfl ?_
  refine ev_iconst (pc := 130) (x := (-1)) dX1_useRope_130 ci_m1 ?_
  refine ev_icmp_eq (pc := 131) (tgt := 169) dX1_useRope_131 (by decide) (fun b11 => ?_) (fun b11 => ?_)
  · rw [if_pos b11] at h
    refine ev_pick [0, 1, 2, 4, 5, 6] rfl ?_
    exact e_X1_useRope_J169 hd hp0 h
  · rw [if_neg b11] at h
    refine ev_aload_n (pc := 134) 1 dX1_useRope_134 rfl rfl ?_
    refine ev_iload (pc := 135) 3 dX1_useRope_135 rfl ?_
    refine ev_aload_n (pc := 137) 0 dX1_useRope_137 rfl rfl ?_
    refine ev_getR (pc := 138) fl1_18 rfl dX1_useRope_138 rfl kd_714 (by omega) (rf_714_0 _) ?_
    refine ev_aload_n (pc := 141) 1 dX1_useRope_141 rfl rfl ?_
    refine ev_iload_n (pc := 142) 2 dX1_useRope_142 rfl rfl ?_
    refine ev_iload (pc := 143) 5 dX1_useRope_143 rfl ?_
    refine ev_iload (pc := 145) 4 dX1_useRope_145 rfl ?_
    obtain ⟨q15, hq15, h⟩ := bd h
    refine ev_cV (pc := 147) [vR p0, vI x2, vI x7, vI x6] [vI x5, vR p0] rfl mkX2_hauls ml1_70 mnX2_hauls dX1_useRope_147 kd_705 (by omega) rfl (Nat.le_of_ble_eq_true rfl) (by omega) rfl (e_X2_hauls (d := d - 1) (v := q15.1) (M' := q15.2) (by omega) hp0 hq15) ?_
    obtain ⟨q16, hq16, h⟩ := bd h
    refine ev_cV0 (pc := 150) [vI x5, vI q15.1] [] rfl mkX5_pay ml1_63 mnX5_pay dX1_useRope_150 (sea_k hp0) (sea_nz hp0) rfl (Nat.le_of_ble_eq_true rfl) (by omega) (e_X5_pay (d := d - 1) (M' := q16) (by omega) hp0 hq16) ?_
    refine ev_aload_n (pc := 153) 1 dX1_useRope_153 rfl rfl ?_
    refine ev_iload (pc := 154) 3 dX1_useRope_154 rfl ?_
    refine ev_iload_n (pc := 156) 2 dX1_useRope_156 rfl rfl ?_
    obtain ⟨q17, hq17, h⟩ := bd h
    refine ev_cV0 (pc := 157) [vI x5, vI x2] [] rfl mkX5_moveTo ml1_67 mnX5_moveTo dX1_useRope_157 (sea_k hp0) (sea_nz hp0) rfl (Nat.le_of_ble_eq_true rfl) (by omega) (e_X5_moveTo (d := d - 1) (M' := q17) (by omega) hp0 hq17) ?_
    refine ev_iload (pc := 160) 6 dX1_useRope_160 rfl ?_
    refine ev_iconst (pc := 162) (x := 1) dX1_useRope_162 ci_1 ?_
    refine ev_iload (pc := 163) 3 dX1_useRope_163 rfl ?_
    refine ev_ishl (pc := 165) dX1_useRope_165 ?_
    refine ev_ior (pc := 166) dX1_useRope_166 ?_
    refine ev_istore (pc := 167) (il' := [(8, vI (bOr x8 (bShl 1 x5))), (0, vR 714), (1, vR p0), (2, vI x2), (5, vI x5), (6, vI x6), (7, vI x7)]) dX1_useRope_167 (Nat.le_of_ble_eq_true rfl) rfl ?_
    refine ev_pick [1, 2, 3, 5, 6, 0] rfl ?_
    exact e_X1_useRope_J169 hd hp0 h
def f_X1_useRope_J82 (n : Nat) (p0 : Int) (x2 x4 x5 x6 s0 : Int) (M : Mem) : Option (Int × Mem) := if x4 = (-1) then (f_X1_useRope_J128 n p0 x2 x5 x6 s0 0 M) else ((f_X2_takes n p0 x2 x6 M).bind fun q18 => (f_X5_pay p0 x4 q18.1 q18.2).bind fun q19 => (f_X5_moveTo p0 x4 (wI (x2 + 1)) q19).bind fun q20 => f_X1_useRope_J128 n p0 x2 x5 x6 s0 (bOr 0 (bShl 1 x4)) q20)
set_option maxRecDepth 100000 in
set_option maxHeartbeats 4000000 in
theorem e_X1_useRope_J82 {g : Gm} {d : Nat} {n : Nat} {p0 : Int} {x2 x4 x5 x6 s0 : Int} {M N : Mem} {v : Int} {M' : Mem} (hd : 3 ≤ d) (hp0 : isSea p0) (h : f_X1_useRope_J82 n p0 x2 x4 x5 x6 s0 M = some (v, M')) : Ev g d mtX1_useRope 82 [(0, vR 714), (1, vR p0), (2, vI x2), (4, vI x4), (5, vI x5), (6, vI x6)] [vI s0] (sg (mx M N)) (0, 0) (vI v) (sg (mx M' N)) := by
  unfold f_X1_useRope_J82 at h
  refine ev_istore (pc := 82) (il' := [(7, vI s0), (0, vR 714), (1, vR p0), (2, vI x2), (4, vI x4), (5, vI x5), (6, vI x6)]) dX1_useRope_82 (Nat.le_of_ble_eq_true rfl) rfl ?_
  refine ev_iconst (pc := 84) (x := 0) dX1_useRope_84 ci_0 ?_
  refine ev_istore (pc := 85) (il' := [(8, vI 0), (7, vI s0), (0, vR 714), (1, vR p0), (2, vI x2), (4, vI x4), (5, vI x5), (6, vI x6)]) dX1_useRope_85 (Nat.le_of_ble_eq_true rfl) rfl ?_
  refine ev_iload (pc := 87) 5 dX1_useRope_87 rfl ?_
  refine ev_iconst (pc := 89) (x := (-1)) dX1_useRope_89 ci_m1 ?_
  refine ev_icmp_eq (pc := 90) (tgt := 128) dX1_useRope_90 (by decide) (fun b10 => ?_) (fun b10 => ?_)
  · rw [if_pos b10] at h
    refine ev_pick [2, 3, 4, 6, 7, 1, 0] rfl ?_
    exact e_X1_useRope_J128 hd hp0 h
  · rw [if_neg b10] at h
    refine ev_aload_n (pc := 93) 3 dX1_useRope_93 rfl rfl ?_
    refine ev_iload (pc := 94) 5 dX1_useRope_94 rfl ?_
    refine ev_aload_n (pc := 96) 2 dX1_useRope_96 rfl rfl ?_
    refine ev_getR (pc := 97) fl1_18 rfl dX1_useRope_97 rfl kd_714 (by omega) (rf_714_0 _) ?_
    refine ev_aload_n (pc := 100) 3 dX1_useRope_100 rfl rfl ?_
    refine ev_iload_n (pc := 101) 4 dX1_useRope_101 rfl rfl ?_
    refine ev_iload (pc := 102) 7 dX1_useRope_102 rfl ?_
    obtain ⟨q18, hq18, h⟩ := bd h
    refine ev_cV (pc := 104) [vR p0, vI x2, vI x6] [vI x4, vR p0] rfl mkX2_takes ml1_58 mnX2_takes dX1_useRope_104 kd_705 (by omega) rfl (Nat.le_of_ble_eq_true rfl) (by omega) rfl (e_X2_takes (d := d - 1) (v := q18.1) (M' := q18.2) (by omega) hp0 hq18) ?_
    obtain ⟨q19, hq19, h⟩ := bd h
    refine ev_cV0 (pc := 107) [vI x4, vI q18.1] [] rfl mkX5_pay ml1_63 mnX5_pay dX1_useRope_107 (sea_k hp0) (sea_nz hp0) rfl (Nat.le_of_ble_eq_true rfl) (by omega) (e_X5_pay (d := d - 1) (M' := q19) (by omega) hp0 hq19) ?_
    refine ev_aload_n (pc := 110) 3 dX1_useRope_110 rfl rfl ?_
    refine ev_iload (pc := 111) 5 dX1_useRope_111 rfl ?_
    refine ev_iload_n (pc := 113) 4 dX1_useRope_113 rfl rfl ?_
    refine ev_iconst (pc := 114) (x := 1) dX1_useRope_114 ci_1 ?_
    refine ev_iadd (pc := 115) dX1_useRope_115 ?_
    obtain ⟨q20, hq20, h⟩ := bd h
    refine ev_cV0 (pc := 116) [vI x4, vI (wI (x2 + 1))] [] rfl mkX5_moveTo ml1_67 mnX5_moveTo dX1_useRope_116 (sea_k hp0) (sea_nz hp0) rfl (Nat.le_of_ble_eq_true rfl) (by omega) (e_X5_moveTo (d := d - 1) (M' := q20) (by omega) hp0 hq20) ?_
    refine ev_iload (pc := 119) 0 dX1_useRope_119 rfl ?_
    refine ev_iconst (pc := 121) (x := 1) dX1_useRope_121 ci_1 ?_
    refine ev_iload (pc := 122) 5 dX1_useRope_122 rfl ?_
    refine ev_ishl (pc := 124) dX1_useRope_124 ?_
    refine ev_ior (pc := 125) dX1_useRope_125 ?_
    refine ev_istore (pc := 126) (il' := [(8, vI (bOr 0 (bShl 1 x4))), (7, vI s0), (0, vR 714), (1, vR p0), (2, vI x2), (4, vI x4), (5, vI x5), (6, vI x6)]) dX1_useRope_126 (Nat.le_of_ble_eq_true rfl) rfl ?_
    refine ev_pick [2, 3, 4, 6, 7, 1, 0] rfl ?_
    exact e_X1_useRope_J128 hd hp0 h
def f_X1_useRope_J63 (n : Nat) (p0 : Int) (x2 x4 x5 s0 : Int) (M : Mem) : Option (Int × Mem) := if x5 ≠ (-1) then (ck (0 ≤ x5 ∧ x5 < 7) (f_X1_useRope_J82 n p0 x2 x4 x5 s0 (M (p0 + 6) x5) M)) else (f_X1_useRope_J82 n p0 x2 x4 x5 s0 0 M)
set_option maxRecDepth 100000 in
set_option maxHeartbeats 4000000 in
theorem e_X1_useRope_J63 {g : Gm} {d : Nat} {n : Nat} {p0 : Int} {x2 x4 x5 s0 : Int} {M N : Mem} {v : Int} {M' : Mem} (hd : 3 ≤ d) (hp0 : isSea p0) (h : f_X1_useRope_J63 n p0 x2 x4 x5 s0 M = some (v, M')) : Ev g d mtX1_useRope 63 [(0, vR 714), (1, vR p0), (2, vI x2), (4, vI x4), (5, vI x5)] [vI s0] (sg (mx M N)) (0, 0) (vI v) (sg (mx M' N)) := by
  unfold f_X1_useRope_J63 at h
  refine ev_istore (pc := 63) (il' := [(6, vI s0), (0, vR 714), (1, vR p0), (2, vI x2), (4, vI x4), (5, vI x5)]) dX1_useRope_63 (Nat.le_of_ble_eq_true rfl) rfl ?_
  refine ev_iload (pc := 65) 5 dX1_useRope_65 rfl ?_
  refine ev_iconst (pc := 67) (x := (-1)) dX1_useRope_67 ci_m1 ?_
  refine ev_icmp_ne (pc := 68) (tgt := 75) dX1_useRope_68 (by decide) (fun b8 => ?_) (fun b8 => ?_)
  · rw [if_pos b8] at h
    refine ev_aload_n (pc := 75) 2 dX1_useRope_75 rfl rfl ?_
    refine ev_getR (pc := 76) fl1_55 rfl dX1_useRope_76 rfl (sea_k hp0) (sea_nz hp0) (sea_r7 _ hp0) ?_
    refine ev_iload (pc := 79) 5 dX1_useRope_79 rfl ?_
    obtain ⟨c9, h⟩ := ck_some h
    refine ev_ildc (pc := 81) dX1_useRope_81 (sea_ak7 hp0) (sea_anz7 hp0) (sea_a97 hp0) c9.1 c9.2 ?_
    refine ev_pick [1, 2, 3, 4, 5, 0] rfl ?_
    exact e_X1_useRope_J82 hd hp0 h
  · rw [if_neg b8] at h
    refine ev_iconst (pc := 71) (x := 0) dX1_useRope_71 ci_0 ?_
    refine ev_goto (pc := 72) (tgt := 82) dX1_useRope_72 (by decide) ?_
    refine ev_pick [1, 2, 3, 4, 5, 0] rfl ?_
    exact e_X1_useRope_J82 hd hp0 h
def f_X1_useRope_J46 (n : Nat) (p0 : Int) (x2 x4 x5 : Int) (M : Mem) : Option (Int × Mem) := if x4 ≠ (-1) then (ck (0 ≤ x4 ∧ x4 < 7) (f_X1_useRope_J63 n p0 x2 x4 x5 (M (p0 + 6) x4) M)) else (f_X1_useRope_J63 n p0 x2 x4 x5 0 M)
set_option maxRecDepth 100000 in
set_option maxHeartbeats 4000000 in
theorem e_X1_useRope_J46 {g : Gm} {d : Nat} {n : Nat} {p0 : Int} {x2 x4 x5 : Int} {M N : Mem} {v : Int} {M' : Mem} (hd : 3 ≤ d) (hp0 : isSea p0) (h : f_X1_useRope_J46 n p0 x2 x4 x5 M = some (v, M')) : Ev g d mtX1_useRope 46 [(0, vR 714), (1, vR p0), (2, vI x2), (4, vI x4), (5, vI x5)] [] (sg (mx M N)) (0, 0) (vI v) (sg (mx M' N)) := by
  unfold f_X1_useRope_J46 at h
  refine ev_iload (pc := 46) 3 dX1_useRope_46 rfl ?_
  refine ev_iconst (pc := 48) (x := (-1)) dX1_useRope_48 ci_m1 ?_
  refine ev_icmp_ne (pc := 49) (tgt := 56) dX1_useRope_49 (by decide) (fun b6 => ?_) (fun b6 => ?_)
  · rw [if_pos b6] at h
    refine ev_aload_n (pc := 56) 1 dX1_useRope_56 rfl rfl ?_
    refine ev_getR (pc := 57) fl1_55 rfl dX1_useRope_57 rfl (sea_k hp0) (sea_nz hp0) (sea_r7 _ hp0) ?_
    refine ev_iload (pc := 60) 3 dX1_useRope_60 rfl ?_
    obtain ⟨c7, h⟩ := ck_some h
    refine ev_ildc (pc := 62) dX1_useRope_62 (sea_ak7 hp0) (sea_anz7 hp0) (sea_a97 hp0) c7.1 c7.2 ?_
    refine ev_pick [0, 1, 2, 3, 4] rfl ?_
    exact e_X1_useRope_J63 hd hp0 h
  · rw [if_neg b6] at h
    refine ev_iconst (pc := 52) (x := 0) dX1_useRope_52 ci_0 ?_
    refine ev_goto (pc := 53) (tgt := 63) dX1_useRope_53 (by decide) ?_
    refine ev_pick [0, 1, 2, 3, 4] rfl ?_
    exact e_X1_useRope_J63 hd hp0 h
def f_X1_useRope (n : Nat) (p0 p1 p2 : Int) (M : Mem) : Option (Int × Mem) := (f_X5_bound n p0 p1 1 M).bind fun q1 => (f_X11_lowest n (bAnd q1 (bXor p2 (-1)))).bind fun q2 => (f_X5_bound n p0 (wI (p1 + 1)) 0 M).bind fun q3 => (f_X11_lowest n (bAnd q3 (bXor p2 (-1)))).bind fun q4 => if q2 ≠ (-1) then (f_X1_useRope_J46 n p0 p1 q2 q4 M) else (if q4 ≠ (-1) then (f_X1_useRope_J46 n p0 p1 q2 q4 M) else (some (0, M)))
set_option maxRecDepth 100000 in
set_option maxHeartbeats 4000000 in
theorem e_X1_useRope {g : Gm} {d : Nat} {n : Nat} {p0 p1 p2 : Int} {M N : Mem} {v : Int} {M' : Mem} (hd : 3 ≤ d) (hp0 : isSea p0) (h : f_X1_useRope n p0 p1 p2 M = some (v, M')) : EvM g d mtX1_useRope [vR 714, vR p0, vI p1, vI p2] (sg (mx M N)) (0, 0) (vI v) (sg (mx M' N)) := by
  unfold f_X1_useRope at h
  refine EvM.of mkX1_useRope.2.2.2.1 (Nat.le_of_ble_eq_true rfl) ?_
  change Ev g d mtX1_useRope 0 [(0, vR 714), (1, vR p0), (2, vI p1), (3, vI p2)] [] (sg (mx M N)) (0, 0) (vI v) (sg (mx M' N))
  refine ev_aload_n (pc := 0) 1 dX1_useRope_0 rfl rfl ?_
  refine ev_iload_n (pc := 1) 2 dX1_useRope_1 rfl rfl ?_
  refine ev_iconst (pc := 2) (x := 1) dX1_useRope_2 ci_1 ?_
  obtain ⟨q1, hq1, h⟩ := bd h
  refine ev_cV (pc := 3) [vI p1, vI 1] [] rfl mkX5_bound ml1_48 mnX5_bound dX1_useRope_3 (sea_k hp0) (sea_nz hp0) rfl (Nat.le_of_ble_eq_true rfl) (by omega) rfl (e_X5_bound (d := d - 1) (v := q1) (by omega) hp0 hq1) ?_
  refine ev_iload_n (pc := 6) 3 dX1_useRope_6 rfl rfl ?_
  refine ev_iconst (pc := 7) (x := (-1)) dX1_useRope_7 ci_m1 ?_
  refine ev_ixor (pc := 8) dX1_useRope_8 ?_
  refine ev_iand (pc := 9) dX1_useRope_9 ?_
  obtain ⟨q2, hq2, h⟩ := bd h
  refine ev_cS (pc := 10) [vI (bAnd q1 (bXor p2 (-1)))] [] rfl mkX11_lowest ml1_52 msX11_lowest dX1_useRope_10 rfl (Nat.le_of_ble_eq_true rfl) (by omega) rfl (e_X11_lowest (d := d - 1) (v := q2) (by omega)  hq2) ?_
  refine ev_istore (pc := 13) (il' := [(4, vI q2), (0, vR 714), (1, vR p0), (2, vI p1), (3, vI p2)]) dX1_useRope_13 (Nat.le_of_ble_eq_true rfl) rfl ?_
  refine ev_aload_n (pc := 15) 2 dX1_useRope_15 rfl rfl ?_
  refine ev_iload_n (pc := 16) 3 dX1_useRope_16 rfl rfl ?_
  refine ev_iconst (pc := 17) (x := 1) dX1_useRope_17 ci_1 ?_
  refine ev_iadd (pc := 18) dX1_useRope_18 ?_
  refine ev_iconst (pc := 19) (x := 0) dX1_useRope_19 ci_0 ?_
  obtain ⟨q3, hq3, h⟩ := bd h
  refine ev_cV (pc := 20) [vI (wI (p1 + 1)), vI 0] [] rfl mkX5_bound ml1_48 mnX5_bound dX1_useRope_20 (sea_k hp0) (sea_nz hp0) rfl (Nat.le_of_ble_eq_true rfl) (by omega) rfl (e_X5_bound (d := d - 1) (v := q3) (by omega) hp0 hq3) ?_
  refine ev_iload_n (pc := 23) 4 dX1_useRope_23 rfl rfl ?_
  refine ev_iconst (pc := 24) (x := (-1)) dX1_useRope_24 ci_m1 ?_
  refine ev_ixor (pc := 25) dX1_useRope_25 ?_
  refine ev_iand (pc := 26) dX1_useRope_26 ?_
  obtain ⟨q4, hq4, h⟩ := bd h
  refine ev_cS (pc := 27) [vI (bAnd q3 (bXor p2 (-1)))] [] rfl mkX11_lowest ml1_52 msX11_lowest dX1_useRope_27 rfl (Nat.le_of_ble_eq_true rfl) (by omega) rfl (e_X11_lowest (d := d - 1) (v := q4) (by omega)  hq4) ?_
  refine ev_istore (pc := 30) (il' := [(5, vI q4), (4, vI q2), (0, vR 714), (1, vR p0), (2, vI p1), (3, vI p2)]) dX1_useRope_30 (Nat.le_of_ble_eq_true rfl) rfl ?_
  refine ev_iload (pc := 32) 1 dX1_useRope_32 rfl ?_
  refine ev_iconst (pc := 34) (x := (-1)) dX1_useRope_34 ci_m1 ?_
  refine ev_icmp_ne (pc := 35) (tgt := 46) dX1_useRope_35 (by decide) (fun b5 => ?_) (fun b5 => ?_)
  · rw [if_pos b5] at h
    refine ev_pick [2, 3, 4, 1, 0] rfl ?_
    exact e_X1_useRope_J46 hd hp0 h
  · rw [if_neg b5] at h
    refine ev_iload (pc := 38) 0 dX1_useRope_38 rfl ?_
    refine ev_iconst (pc := 40) (x := (-1)) dX1_useRope_40 ci_m1 ?_
    refine ev_icmp_ne (pc := 41) (tgt := 46) dX1_useRope_41 (by decide) (fun b21 => ?_) (fun b21 => ?_)
    · rw [if_pos b21] at h
      refine ev_pick [2, 3, 4, 1, 0] rfl ?_
      exact e_X1_useRope_J46 hd hp0 h
    · rw [if_neg b21] at h
      refine ev_iconst (pc := 44) (x := 0) dX1_useRope_44 ci_0 ?_
      cases h
      exact ev_iret (pc := 45) dX1_useRope_45 rfl
def f_X1_passOne_L4 : Nat → Int → Int → Int → Mem → Option (Int × Mem)
  | 0, _, _, _, _ => none
  | n + 1, p0, x2, x3, M => if (wI ((M p0 0) - 1)) ≤ x3 then (some (x2, M)) else (ck (0 ≤ x3 ∧ x3 < 9) (if 100 ≤ (M (p0 + 5) x3) then (f_X1_passOne_L4 n p0 x2 (wI (x3 + 1)) M) else ((f_X1_useRope n p0 x3 x2 M).bind fun q4 => f_X1_passOne_L4 n p0 (bOr x2 q4.1) (wI (x3 + 1)) q4.2)))
set_option maxRecDepth 100000 in
set_option maxHeartbeats 4000000 in
theorem e_X1_passOne_L4 {g : Gm} {d : Nat} {p0 : Int} {r : Vv} {σ' : Sg} {N : Mem} (hd : 4 ≤ d) (hp0 : isSea p0) : ∀ (n : Nat) {x2 x3 : Int} {M : Mem} {q : Int × Mem}, f_X1_passOne_L4 n p0 x2 x3 M = some q → Ev g d mtX1_passOne 41 [(0, vR 714), (1, vR p0), (2, vI q.1)] [] (sg (mx q.2 N)) (0, 0) r σ' → Ev g d mtX1_passOne 4 [(0, vR 714), (1, vR p0), (2, vI x2), (3, vI x3)] [] (sg (mx M N)) (0, 0) r σ' := by
  intro n
  induction n with
  | zero =>
    intro x2 x3 M q h hk0
    rw [f_X1_passOne_L4.eq_1] at h
    cases h
  | succ n ih =>
    intro x2 x3 M q h hk0
    rw [f_X1_passOne_L4.eq_2] at h
    refine ev_iload_n (pc := 4) 3 dX1_passOne_4 rfl rfl ?_
    refine ev_aload_n (pc := 5) 1 dX1_passOne_5 rfl rfl ?_
    refine ev_getIc (pc := 6) fl1_22 rfl dX1_passOne_6 rfl (sea_k hp0) (sea_nz hp0) (sea_n9 hp0) 0 rfl ?_
    refine ev_iconst (pc := 9) (x := 1) dX1_passOne_9 ci_1 ?_
    refine ev_isub (pc := 10) dX1_passOne_10 ?_
    refine ev_icmp_ge (pc := 11) (tgt := 41) dX1_passOne_11 (by decide) (fun b1 => ?_) (fun b1 => ?_)
    · rw [if_pos b1] at h
      cases h
      refine ev_pick [0, 1, 2] rfl ?_
      exact hk0
    · rw [if_neg b1] at h
      refine ev_aload_n (pc := 14) 1 dX1_passOne_14 rfl rfl ?_
      refine ev_getR (pc := 15) fl1_28 rfl dX1_passOne_15 rfl (sea_k hp0) (sea_nz hp0) (sea_r5 _ hp0) ?_
      refine ev_iload_n (pc := 18) 3 dX1_passOne_18 rfl rfl ?_
      obtain ⟨c2, h⟩ := ck_some h
      refine ev_ildc (pc := 19) dX1_passOne_19 (sea_ak5 hp0) (sea_anz5 hp0) (sea_a95 hp0) c2.1 c2.2 ?_
      refine ev_bipush (pc := 20) (x := 100) dX1_passOne_20 cb_100 ?_
      refine ev_icmp_ge (pc := 22) (tgt := 35) dX1_passOne_22 (by decide) (fun b3 => ?_) (fun b3 => ?_)
      · rw [if_pos b3] at h
        refine ev_iinc (pc := 35) (il' := [(3, vI (wI (x3 + 1))), (0, vR 714), (1, vR p0), (2, vI x2)]) 3 dX1_passOne_35 rfl (Nat.le_of_ble_eq_true rfl) rfl rfl ?_
        refine ev_goto (pc := 38) (tgt := 4) dX1_passOne_38 (by decide) ?_
        refine ev_pick [1, 2, 3, 0] rfl ?_
        exact ih h hk0
      · rw [if_neg b3] at h
        refine ev_iload_n (pc := 25) 2 dX1_passOne_25 rfl rfl ?_
        refine ev_aload_n (pc := 26) 0 dX1_passOne_26 rfl rfl ?_
        refine ev_aload_n (pc := 27) 1 dX1_passOne_27 rfl rfl ?_
        refine ev_iload_n (pc := 28) 3 dX1_passOne_28 rfl rfl ?_
        refine ev_iload_n (pc := 29) 2 dX1_passOne_29 rfl rfl ?_
        obtain ⟨q4, hq4, h⟩ := bd h
        refine ev_cV (pc := 30) [vR p0, vI x3, vI x2] [vI x2] rfl mkX1_useRope ml1_31 mnX1_useRope dX1_passOne_30 kd_714 (by omega) rfl (Nat.le_of_ble_eq_true rfl) (by omega) rfl (e_X1_useRope (d := d - 1) (v := q4.1) (M' := q4.2) (by omega) hp0 hq4) ?_
        refine ev_ior (pc := 33) dX1_passOne_33 ?_
        refine ev_istore_n (pc := 34) (il' := [(2, vI (bOr x2 q4.1)), (0, vR 714), (1, vR p0), (3, vI x3)]) dX1_passOne_34 rfl (Nat.le_of_ble_eq_true rfl) rfl ?_
        refine ev_iinc (pc := 35) (il' := [(3, vI (wI (x3 + 1))), (2, vI (bOr x2 q4.1)), (0, vR 714), (1, vR p0)]) 3 dX1_passOne_35 rfl (Nat.le_of_ble_eq_true rfl) rfl rfl ?_
        refine ev_goto (pc := 38) (tgt := 4) dX1_passOne_38 (by decide) ?_
        refine ev_pick [2, 3, 1, 0] rfl ?_
        exact ih h hk0
def f_X1_passOne (n : Nat) (p0 : Int) (M : Mem) : Option (Int × Mem) := (f_X1_passOne_L4 n p0 0 0 M).bind fun q5 => (f_X1_letWaterOver n p0 q5.2).bind fun q6 => lt (upM q6 p0 11 (wI ((q6 p0 11) + 1))) fun M7 => some ((f_J6_bitCount_0f7a4 q5.1), M7)
set_option maxRecDepth 100000 in
set_option maxHeartbeats 4000000 in
theorem e_X1_passOne {g : Gm} {d : Nat} {n : Nat} {p0 : Int} {M N : Mem} {v : Int} {M' : Mem} (hd : 4 ≤ d) (hp0 : isSea p0) (h : f_X1_passOne n p0 M = some (v, M')) : EvM g d mtX1_passOne [vR 714, vR p0] (sg (mx M N)) (0, 0) (vI v) (sg (mx M' N)) := by
  unfold f_X1_passOne at h
  refine EvM.of mkX1_passOne.2.2.2.1 (Nat.le_of_ble_eq_true rfl) ?_
  change Ev g d mtX1_passOne 0 [(0, vR 714), (1, vR p0)] [] (sg (mx M N)) (0, 0) (vI v) (sg (mx M' N))
  refine ev_iconst (pc := 0) (x := 0) dX1_passOne_0 ci_0 ?_
  refine ev_istore_n (pc := 1) (il' := [(2, vI 0), (0, vR 714), (1, vR p0)]) dX1_passOne_1 rfl (Nat.le_of_ble_eq_true rfl) rfl ?_
  refine ev_iconst (pc := 2) (x := 0) dX1_passOne_2 ci_0 ?_
  refine ev_istore_n (pc := 3) (il' := [(3, vI 0), (2, vI 0), (0, vR 714), (1, vR p0)]) dX1_passOne_3 rfl (Nat.le_of_ble_eq_true rfl) rfl ?_
  obtain ⟨q5, hq5, h⟩ := bd h
  refine ev_pick [2, 3, 1, 0] rfl ?_
  refine e_X1_passOne_L4 hd hp0 n hq5 ?_
  refine ev_aload_n (pc := 41) 0 dX1_passOne_41 rfl rfl ?_
  refine ev_aload_n (pc := 42) 1 dX1_passOne_42 rfl rfl ?_
  obtain ⟨q6, hq6, h⟩ := bd h
  refine ev_cV0 (pc := 43) [vR p0] [] rfl mkX1_letWaterOver ml1_35 mnX1_letWaterOver dX1_passOne_43 kd_714 (by omega) rfl (Nat.le_of_ble_eq_true rfl) (by omega) (e_X1_letWaterOver (d := d - 1) (M' := q6) (by omega) hp0 hq6) ?_
  refine ev_aload_n (pc := 46) 1 dX1_passOne_46 rfl rfl ?_
  refine ev_dup (pc := 47) rfl dX1_passOne_47 ?_
  refine ev_getIc (pc := 48) fl1_39 rfl dX1_passOne_48 rfl (sea_k hp0) (sea_nz hp0) (sea_n9 hp0) 11 rfl ?_
  refine ev_iconst (pc := 51) (x := 1) dX1_passOne_51 ci_1 ?_
  refine ev_iadd (pc := 52) dX1_passOne_52 ?_
  obtain ⟨M7, eM7, h⟩ := lt_some h
  refine ev_putIc (pc := 53) fl1_39 rfl dX1_passOne_53 (sea_k hp0) (sea_nz hp0) (sea_n9 hp0) eM7 ?_
  refine ev_iload_n (pc := 56) 2 dX1_passOne_56 rfl rfl ?_
  refine ev_cS (pc := 57) [vI q5.1] [] rfl mkJ6_bitCount_0f7a4 ml1_42 msJ6_bitCount_0f7a4 dX1_passOne_57 rfl (Nat.le_of_ble_eq_true rfl) (by omega) rfl (e_J6_bitCount_0f7a4 (d := d - 1) (v := (f_J6_bitCount_0f7a4 q5.1)) (by omega)  rfl) ?_
  cases h
  exact ev_iret (pc := 60) dX1_passOne_60 rfl
def f_X2_falls (n : Nat) (p0 p1 p2 : Int) (M : Mem) : Option (Int × Mem) := (f_X2_hasLaw 132 M).bind fun q1 => if q1 = 0 then (ck (0 ≤ p1 ∧ p1 < 9) (if (M (p0 + 3) p1) ≤ (wI (10 * (M (p0 + 2) p1))) then (some (0, M)) else (some (1, M)))) else ((f_X2_valueOf n 132 p0 p1 p2 0 M).bind fun q5 => if q5.1 = 0 then (some (0, q5.2)) else (some (1, q5.2)))
set_option maxRecDepth 100000 in
set_option maxHeartbeats 4000000 in
theorem e_X2_falls {g : Gm} {d : Nat} {n : Nat} {p0 p1 p2 : Int} {M N : Mem} {v : Int} {M' : Mem} (hd : 2 ≤ d) (hp0 : isSea p0) (h : f_X2_falls n p0 p1 p2 M = some (v, M')) : EvM g d mtX2_falls [vR 705, vR p0, vI p1, vI p2] (sg (mx M N)) (0, 0) (vI v) (sg (mx M' N)) := by
  unfold f_X2_falls at h
  refine EvM.of mkX2_falls.2.2.2.1 (Nat.le_of_ble_eq_true rfl) ?_
  change Ev g d mtX2_falls 0 [(0, vR 705), (1, vR p0), (2, vI p1), (3, vI p2)] [] (sg (mx M N)) (0, 0) (vI v) (sg (mx M' N))
  refine ev_aload_n (pc := 0) 0 dX2_falls_0 rfl rfl ?_
  refine ev_sipush (pc := 1) (x := 132) dX2_falls_1 cs_132 ?_
  obtain ⟨q1, hq1, h⟩ := bd h
  refine ev_cV (pc := 4) [vI 132] [] rfl mkX2_hasLaw ml2_25 mnX2_hasLaw dX2_falls_4 kd_705 (by omega) rfl (Nat.le_of_ble_eq_true rfl) (by omega) rfl (e_X2_hasLaw (d := d - 1) (v := q1) (by omega)  hq1) ?_
  refine ev_if_eq (pc := 7) (tgt := 30) dX2_falls_7 (by decide) (fun b2 => ?_) (fun b2 => ?_)
  · rw [if_pos b2] at h
    refine ev_aload_n (pc := 30) 1 dX2_falls_30 rfl rfl ?_
    refine ev_getR (pc := 31) fl2_51 rfl dX2_falls_31 rfl (sea_k hp0) (sea_nz hp0) (sea_r3 _ hp0) ?_
    refine ev_iload_n (pc := 34) 2 dX2_falls_34 rfl rfl ?_
    obtain ⟨c3, h⟩ := ck_some h
    refine ev_ildc (pc := 35) dX2_falls_35 (sea_ak3 hp0) (sea_anz3 hp0) (sea_a93 hp0) c3.1 c3.2 ?_
    refine ev_bipush (pc := 36) (x := 10) dX2_falls_36 cb_10 ?_
    refine ev_aload_n (pc := 38) 1 dX2_falls_38 rfl rfl ?_
    refine ev_getR (pc := 39) fl2_37 rfl dX2_falls_39 rfl (sea_k hp0) (sea_nz hp0) (sea_r2 _ hp0) ?_
    refine ev_iload_n (pc := 42) 2 dX2_falls_42 rfl rfl ?_
    refine ev_ildc (pc := 43) dX2_falls_43 (sea_ak2 hp0) (sea_anz2 hp0) (sea_a92 hp0) c3.1 c3.2 ?_
    refine ev_imul (pc := 44) dX2_falls_44 ?_
    refine ev_icmp_le (pc := 45) (tgt := 52) dX2_falls_45 (by decide) (fun b4 => ?_) (fun b4 => ?_)
    · rw [if_pos b4] at h
      refine ev_iconst (pc := 52) (x := 0) dX2_falls_52 ci_0 ?_
      cases h
      exact ev_zret (pc := 53) (Or.inl rfl) dX2_falls_53 rfl
    · rw [if_neg b4] at h
      refine ev_iconst (pc := 48) (x := 1) dX2_falls_48 ci_1 ?_
      refine ev_goto (pc := 49) (tgt := 53) dX2_falls_49 (by decide) ?_
      cases h
      exact ev_zret (pc := 53) (Or.inr rfl) dX2_falls_53 rfl
  · rw [if_neg b2] at h
    refine ev_aload_n (pc := 10) 0 dX2_falls_10 rfl rfl ?_
    refine ev_sipush (pc := 11) (x := 132) dX2_falls_11 cs_132 ?_
    refine ev_aload_n (pc := 14) 1 dX2_falls_14 rfl rfl ?_
    refine ev_iload_n (pc := 15) 2 dX2_falls_15 rfl rfl ?_
    refine ev_iload_n (pc := 16) 3 dX2_falls_16 rfl rfl ?_
    refine ev_iconst (pc := 17) (x := 0) dX2_falls_17 ci_0 ?_
    obtain ⟨q5, hq5, h⟩ := bd h
    refine ev_cV (pc := 18) [vI 132, vR p0, vI p1, vI p2, vI 0] [] rfl mkX2_valueOf ml2_29 mnX2_valueOf dX2_falls_18 kd_705 (by omega) rfl (Nat.le_of_ble_eq_true rfl) (by omega) rfl (e_X2_valueOf (d := d - 1) (v := q5.1) (M' := q5.2) (by omega) hp0 hq5) ?_
    refine ev_if_eq (pc := 21) (tgt := 28) dX2_falls_21 (by decide) (fun b6 => ?_) (fun b6 => ?_)
    · rw [if_pos b6] at h
      refine ev_iconst (pc := 28) (x := 0) dX2_falls_28 ci_0 ?_
      cases h
      exact ev_zret (pc := 29) (Or.inl rfl) dX2_falls_29 rfl
    · rw [if_neg b6] at h
      refine ev_iconst (pc := 24) (x := 1) dX2_falls_24 ci_1 ?_
      refine ev_goto (pc := 25) (tgt := 29) dX2_falls_25 (by decide) ?_
      cases h
      exact ev_zret (pc := 29) (Or.inr rfl) dX2_falls_29 rfl
def f_X3_listShips_L4 : Nat → Int → Int → Int → Int → Mem → Option (Int × Mem)
  | 0, _, _, _, _, _ => none
  | n + 1, p1, x0, x2, x3, M => if 7 ≤ x3 then (some (x2, M)) else (if 4 ≤ x2 then (some (x2, M)) else (if (bAnd x0 (bShl 1 x3)) = 0 then (f_X3_listShips_L4 n p1 x0 x2 (wI (x3 + 1)) M) else (ck (0 ≤ x2 ∧ x2 < 4) (lt (upM M p1 x2 x3) fun M5 => f_X3_listShips_L4 n p1 x0 (wI (x2 + 1)) (wI (x3 + 1)) M5))))
set_option maxRecDepth 100000 in
set_option maxHeartbeats 4000000 in
theorem e_X3_listShips_L4 {g : Gm} {d : Nat} {p1 : Int} {x0 : Int} {r : Vv} {σ' : Sg} {N : Mem} (hd : 0 ≤ d) (hp1 : K0 p1 = (20, 4) ∧ p1 ≠ 0 ∧ p1 < 801) : ∀ (n : Nat) {x2 x3 : Int} {M : Mem} {q : Int × Mem}, f_X3_listShips_L4 n p1 x0 x2 x3 M = some q → Ev g d mtX3_listShips 37 [(2, vI q.1)] [] (sg (mx q.2 N)) (0, 0) r σ' → Ev g d mtX3_listShips 4 [(0, vI x0), (1, vR p1), (2, vI x2), (3, vI x3)] [] (sg (mx M N)) (0, 0) r σ' := by
  intro n
  induction n with
  | zero =>
    intro x2 x3 M q h hk0
    rw [f_X3_listShips_L4.eq_1] at h
    cases h
  | succ n ih =>
    intro x2 x3 M q h hk0
    rw [f_X3_listShips_L4.eq_2] at h
    refine ev_iload_n (pc := 4) 3 dX3_listShips_4 rfl rfl ?_
    refine ev_bipush (pc := 5) (x := 7) dX3_listShips_5 cb_7 ?_
    refine ev_icmp_ge (pc := 7) (tgt := 37) dX3_listShips_7 (by decide) (fun b1 => ?_) (fun b1 => ?_)
    · rw [if_pos b1] at h
      cases h
      refine ev_pick [2] rfl ?_
      exact hk0
    · rw [if_neg b1] at h
      refine ev_iload_n (pc := 10) 2 dX3_listShips_10 rfl rfl ?_
      refine ev_aload_n (pc := 11) 1 dX3_listShips_11 rfl rfl ?_
      refine ev_alenI (pc := 12) 4 rfl dX3_listShips_12 hp1.1 (by decide) hp1.2.1 ?_
      refine ev_icmp_ge (pc := 13) (tgt := 37) dX3_listShips_13 (by decide) (fun b2 => ?_) (fun b2 => ?_)
      · rw [if_pos b2] at h
        cases h
        refine ev_pick [2] rfl ?_
        exact hk0
      · rw [if_neg b2] at h
        refine ev_iload_n (pc := 16) 0 dX3_listShips_16 rfl rfl ?_
        refine ev_iconst (pc := 17) (x := 1) dX3_listShips_17 ci_1 ?_
        refine ev_iload_n (pc := 18) 3 dX3_listShips_18 rfl rfl ?_
        refine ev_ishl (pc := 19) dX3_listShips_19 ?_
        refine ev_iand (pc := 20) dX3_listShips_20 ?_
        refine ev_if_eq (pc := 21) (tgt := 31) dX3_listShips_21 (by decide) (fun b3 => ?_) (fun b3 => ?_)
        · rw [if_pos b3] at h
          refine ev_iinc (pc := 31) (il' := [(3, vI (wI (x3 + 1))), (0, vI x0), (1, vR p1), (2, vI x2)]) 3 dX3_listShips_31 rfl (Nat.le_of_ble_eq_true rfl) rfl rfl ?_
          refine ev_goto (pc := 34) (tgt := 4) dX3_listShips_34 (by decide) ?_
          refine ev_pick [1, 2, 3, 0] rfl ?_
          exact ih h hk0
        · rw [if_neg b3] at h
          refine ev_aload_n (pc := 24) 1 dX3_listShips_24 rfl rfl ?_
          refine ev_iload_n (pc := 25) 2 dX3_listShips_25 rfl rfl ?_
          refine ev_iload_n (pc := 26) 3 dX3_listShips_26 rfl rfl ?_
          obtain ⟨c4, h⟩ := ck_some h
          obtain ⟨M5, eM5, h⟩ := lt_some h
          refine ev_istc (pc := 27) dX3_listShips_27 hp1.1 hp1.2.1 hp1.2.2 c4.1 c4.2 eM5 ?_
          refine ev_iinc (pc := 28) (il' := [(2, vI (wI (x2 + 1))), (0, vI x0), (1, vR p1), (3, vI x3)]) 2 dX3_listShips_28 rfl (Nat.le_of_ble_eq_true rfl) rfl rfl ?_
          refine ev_iinc (pc := 31) (il' := [(3, vI (wI (x3 + 1))), (2, vI (wI (x2 + 1))), (0, vI x0), (1, vR p1)]) 3 dX3_listShips_31 rfl (Nat.le_of_ble_eq_true rfl) rfl rfl ?_
          refine ev_goto (pc := 34) (tgt := 4) dX3_listShips_34 (by decide) ?_
          refine ev_pick [2, 3, 1, 0] rfl ?_
          exact ih h hk0
def f_X3_listShips (n : Nat) (p0 p1 : Int) (M : Mem) : Option (Int × Mem) := (f_X3_listShips_L4 n p1 p0 0 0 M).bind fun q6 => some (q6.1, q6.2)
set_option maxRecDepth 100000 in
set_option maxHeartbeats 4000000 in
theorem e_X3_listShips {g : Gm} {d : Nat} {n : Nat} {p0 p1 : Int} {M N : Mem} {v : Int} {M' : Mem} (hd : 0 ≤ d) (hp1 : K0 p1 = (20, 4) ∧ p1 ≠ 0 ∧ p1 < 801) (h : f_X3_listShips n p0 p1 M = some (v, M')) : EvM g d mtX3_listShips [vI p0, vR p1] (sg (mx M N)) (0, 0) (vI v) (sg (mx M' N)) := by
  unfold f_X3_listShips at h
  refine EvM.of mkX3_listShips.2.2.2.1 (Nat.le_of_ble_eq_true rfl) ?_
  change Ev g d mtX3_listShips 0 [(0, vI p0), (1, vR p1)] [] (sg (mx M N)) (0, 0) (vI v) (sg (mx M' N))
  refine ev_iconst (pc := 0) (x := 0) dX3_listShips_0 ci_0 ?_
  refine ev_istore_n (pc := 1) (il' := [(2, vI 0), (0, vI p0), (1, vR p1)]) dX3_listShips_1 rfl (Nat.le_of_ble_eq_true rfl) rfl ?_
  refine ev_iconst (pc := 2) (x := 0) dX3_listShips_2 ci_0 ?_
  refine ev_istore_n (pc := 3) (il' := [(3, vI 0), (2, vI 0), (0, vI p0), (1, vR p1)]) dX3_listShips_3 rfl (Nat.le_of_ble_eq_true rfl) rfl ?_
  obtain ⟨q6, hq6, h⟩ := bd h
  refine ev_pick [2, 3, 1, 0] rfl ?_
  refine e_X3_listShips_L4 hd hp1 n hq6 ?_
  refine ev_iload_n (pc := 37) 0 dX3_listShips_37 rfl rfl ?_
  cases h
  exact ev_iret (pc := 38) dX3_listShips_38 rfl
def f_X3_penceOf_L15_J62 (n : Nat) (K : Int → Int → Int → Int → Option (Int)) (x2 x3 x4 x5 x6 : Int) (M : Mem) : Option (Int) := ck (0 ≤ x5 ∧ x5 < 4) (ck (0 ≤ x6 ∧ x6 < 5) (K (wI (x2 + (M (752 + x5) x6))) (bOr x3 (bShl 1 x6)) x4 (wI (x5 + (-1)))))
set_option maxRecDepth 100000 in
set_option maxHeartbeats 4000000 in
theorem e_X3_penceOf_L15_J62 {g : Gm} {d : Nat} {n : Nat} {K : Int → Int → Int → Int → Option (Int)} {x2 x3 x4 x5 x6 : Int} {M N : Mem} {v : Int} (hd : 0 ≤ d) (hK : ∀ {x2 x3 x4 x5 : Int}, K x2 x3 x4 x5 = some v → Ev g d mtX3_penceOf 15 [(0, vR 748), (2, vI x2), (3, vI x3), (4, vI x4), (5, vI x5)] [] (sg (mx M N)) (0, 0) (vI v) (sg (mx M N))) (h : f_X3_penceOf_L15_J62 n K x2 x3 x4 x5 x6 M = some v) : Ev g d mtX3_penceOf 62 [(0, vR 748), (2, vI x2), (3, vI x3), (4, vI x4), (5, vI x5), (6, vI x6)] [] (sg (mx M N)) (0, 0) (vI v) (sg (mx M N)) := by
  unfold f_X3_penceOf_L15_J62 at h
  refine ev_iload_n (pc := 62) 2 dX3_penceOf_62 rfl rfl ?_
  refine ev_iconst (pc := 63) (x := 1) dX3_penceOf_63 ci_1 ?_
  refine ev_iload (pc := 64) 5 dX3_penceOf_64 rfl ?_
  refine ev_ishl (pc := 66) dX3_penceOf_66 ?_
  refine ev_ior (pc := 67) dX3_penceOf_67 ?_
  refine ev_istore_n (pc := 68) (il' := [(3, vI (bOr x3 (bShl 1 x6))), (0, vR 748), (2, vI x2), (4, vI x4), (5, vI x5), (6, vI x6)]) dX3_penceOf_68 rfl (Nat.le_of_ble_eq_true rfl) rfl ?_
  refine ev_iload_n (pc := 69) 2 dX3_penceOf_69 rfl rfl ?_
  refine ev_aload_n (pc := 70) 1 dX3_penceOf_70 rfl rfl ?_
  refine ev_getR (pc := 71) fl3_20 rfl dX3_penceOf_71 rfl kd_748 (by omega) (rf_748_5 _) ?_
  refine ev_iload (pc := 74) 4 dX3_penceOf_74 rfl ?_
  obtain ⟨c4, h⟩ := ck_some h
  refine ev_rld (pc := 76) dX3_penceOf_76 (by decide) kd_751 (by omega) c4.1 c4.2 (row751_R _ c4.1 c4.2) ?_
  refine ev_iload (pc := 77) 5 dX3_penceOf_77 rfl ?_
  obtain ⟨c5, h⟩ := ck_some h
  refine ev_ildc (pc := 79) dX3_penceOf_79 (row751_K c4.1 c4.2) (by have h9 := c4.1; have h8 := c4.2; omega) (by have h9 := c4.1; have h8 := c4.2; omega) c5.1 c5.2 ?_
  refine ev_iadd (pc := 80) dX3_penceOf_80 ?_
  refine ev_istore_n (pc := 81) (il' := [(2, vI (wI (x2 + (M (752 + x5) x6)))), (3, vI (bOr x3 (bShl 1 x6))), (0, vR 748), (4, vI x4), (5, vI x5), (6, vI x6)]) dX3_penceOf_81 rfl (Nat.le_of_ble_eq_true rfl) rfl ?_
  refine ev_iinc (pc := 82) (il' := [(5, vI (wI (x5 + (-1)))), (2, vI (wI (x2 + (M (752 + x5) x6)))), (3, vI (bOr x3 (bShl 1 x6))), (0, vR 748), (4, vI x4), (6, vI x6)]) 4 dX3_penceOf_82 rfl (Nat.le_of_ble_eq_true rfl) rfl rfl ?_
  refine ev_goto (pc := 85) (tgt := 15) dX3_penceOf_85 (by decide) ?_
  refine ev_pick [3, 1, 2, 4, 0] rfl ?_
  exact hK h
def f_X3_penceOf_L15 : Nat → Int → Int → Int → Int → Mem → Option (Int)
  | 0, _, _, _, _, _ => none
  | n + 1, x2, x3, x4, x5, M => if x5 < 0 then (some x2) else (ck ((wI ((M 748 4) + 1)) ≠ 0) (if (M 748 4) ≤ (iRem x4 (wI ((M 748 4) + 1))) then (f_X3_penceOf_L15_J62 n (fun x2 x3 x4 x5 => f_X3_penceOf_L15 n x2 x3 x4 x5 M) x2 x3 (iDiv x4 (wI ((M 748 4) + 1))) x5 (iRem x4 (wI ((M 748 4) + 1))) M) else (if (bAnd x3 (bShl 1 (iRem x4 (wI ((M 748 4) + 1))))) = 0 then (f_X3_penceOf_L15_J62 n (fun x2 x3 x4 x5 => f_X3_penceOf_L15 n x2 x3 x4 x5 M) x2 x3 (iDiv x4 (wI ((M 748 4) + 1))) x5 (iRem x4 (wI ((M 748 4) + 1))) M) else (some (-1)))))
set_option maxRecDepth 100000 in
set_option maxHeartbeats 4000000 in
theorem e_X3_penceOf_L15 {g : Gm} {d : Nat} {M N : Mem} (hd : 0 ≤ d) : ∀ (n : Nat) {x2 x3 x4 x5 : Int} {v : Int}, f_X3_penceOf_L15 n x2 x3 x4 x5 M = some v → Ev g d mtX3_penceOf 15 [(0, vR 748), (2, vI x2), (3, vI x3), (4, vI x4), (5, vI x5)] [] (sg (mx M N)) (0, 0) (vI v) (sg (mx M N)) := by
  intro n
  induction n with
  | zero =>
    intro x2 x3 x4 x5 v h
    rw [f_X3_penceOf_L15.eq_1] at h
    cases h
  | succ n ih =>
    intro x2 x3 x4 x5 v h
    rw [f_X3_penceOf_L15.eq_2] at h
    refine ev_iload (pc := 15) 4 dX3_penceOf_15 rfl ?_
    refine ev_if_lt (pc := 17) (tgt := 88) dX3_penceOf_17 (by decide) (fun b1 => ?_) (fun b1 => ?_)
    · rw [if_pos b1] at h
      refine ev_iload_n (pc := 88) 1 dX3_penceOf_88 rfl rfl ?_
      cases h
      exact ev_iret (pc := 89) dX3_penceOf_89 rfl
    · rw [if_neg b1] at h
      refine ev_iload (pc := 20) 3 dX3_penceOf_20 rfl ?_
      refine ev_aload_n (pc := 22) 0 dX3_penceOf_22 rfl rfl ?_
      refine ev_getIc (pc := 23) fl3_38 rfl dX3_penceOf_23 rfl kd_748 (by omega) (by omega) 4 rfl ?_
      refine ev_iconst (pc := 26) (x := 1) dX3_penceOf_26 ci_1 ?_
      refine ev_iadd (pc := 27) dX3_penceOf_27 ?_
      obtain ⟨c2, h⟩ := ck_some h
      refine ev_irem (pc := 28) dX3_penceOf_28 c2 ?_
      refine ev_istore (pc := 29) (il' := [(6, vI (iRem x4 (wI ((M 748 4) + 1)))), (0, vR 748), (2, vI x2), (3, vI x3), (4, vI x4), (5, vI x5)]) dX3_penceOf_29 (Nat.le_of_ble_eq_true rfl) rfl ?_
      refine ev_iload (pc := 31) 4 dX3_penceOf_31 rfl ?_
      refine ev_aload_n (pc := 33) 1 dX3_penceOf_33 rfl rfl ?_
      refine ev_getIc (pc := 34) fl3_38 rfl dX3_penceOf_34 rfl kd_748 (by omega) (by omega) 4 rfl ?_
      refine ev_iconst (pc := 37) (x := 1) dX3_penceOf_37 ci_1 ?_
      refine ev_iadd (pc := 38) dX3_penceOf_38 ?_
      refine ev_idiv (pc := 39) dX3_penceOf_39 c2 ?_
      refine ev_istore (pc := 40) (il' := [(4, vI (iDiv x4 (wI ((M 748 4) + 1)))), (6, vI (iRem x4 (wI ((M 748 4) + 1)))), (0, vR 748), (2, vI x2), (3, vI x3), (5, vI x5)]) dX3_penceOf_40 (Nat.le_of_ble_eq_true rfl) rfl ?_
      refine ev_iload (pc := 42) 1 dX3_penceOf_42 rfl ?_
      refine ev_aload_n (pc := 44) 2 dX3_penceOf_44 rfl rfl ?_
      refine ev_getIc (pc := 45) fl3_38 rfl dX3_penceOf_45 rfl kd_748 (by omega) (by omega) 4 rfl ?_
      refine ev_icmp_ge (pc := 48) (tgt := 62) dX3_penceOf_48 (by decide) (fun b3 => ?_) (fun b3 => ?_)
      · rw [if_pos b3] at h
        refine ev_pick [2, 3, 4, 0, 5, 1] rfl ?_
        exact e_X3_penceOf_L15_J62 hd  (fun h9 => ih h9) h
      · rw [if_neg b3] at h
        refine ev_iload_n (pc := 51) 4 dX3_penceOf_51 rfl rfl ?_
        refine ev_iconst (pc := 52) (x := 1) dX3_penceOf_52 ci_1 ?_
        refine ev_iload (pc := 53) 1 dX3_penceOf_53 rfl ?_
        refine ev_ishl (pc := 55) dX3_penceOf_55 ?_
        refine ev_iand (pc := 56) dX3_penceOf_56 ?_
        refine ev_if_eq (pc := 57) (tgt := 62) dX3_penceOf_57 (by decide) (fun b6 => ?_) (fun b6 => ?_)
        · rw [if_pos b6] at h
          refine ev_pick [2, 3, 4, 0, 5, 1] rfl ?_
          exact e_X3_penceOf_L15_J62 hd  (fun h9 => ih h9) h
        · rw [if_neg b6] at h
          refine ev_iconst (pc := 60) (x := (-1)) dX3_penceOf_60 ci_m1 ?_
          cases h
          exact ev_iret (pc := 61) dX3_penceOf_61 rfl
def f_X3_penceOf (n : Nat) (p0 : Int) (M : Mem) : Option (Int) := f_X3_penceOf_L15 n 0 0 p0 (wI ((M 748 3) - 1)) M
set_option maxRecDepth 100000 in
set_option maxHeartbeats 4000000 in
theorem e_X3_penceOf {g : Gm} {d : Nat} {n : Nat} {p0 : Int} {M N : Mem} {v : Int} (hd : 0 ≤ d) (h : f_X3_penceOf n p0 M = some v) : EvM g d mtX3_penceOf [vR 748, vI p0] (sg (mx M N)) (0, 0) (vI v) (sg (mx M N)) := by
  unfold f_X3_penceOf at h
  refine EvM.of mkX3_penceOf.2.2.2.1 (Nat.le_of_ble_eq_true rfl) ?_
  change Ev g d mtX3_penceOf 0 [(0, vR 748), (1, vI p0)] [] (sg (mx M N)) (0, 0) (vI v) (sg (mx M N))
  refine ev_iconst (pc := 0) (x := 0) dX3_penceOf_0 ci_0 ?_
  refine ev_istore_n (pc := 1) (il' := [(2, vI 0), (0, vR 748), (1, vI p0)]) dX3_penceOf_1 rfl (Nat.le_of_ble_eq_true rfl) rfl ?_
  refine ev_iconst (pc := 2) (x := 0) dX3_penceOf_2 ci_0 ?_
  refine ev_istore_n (pc := 3) (il' := [(3, vI 0), (2, vI 0), (0, vR 748), (1, vI p0)]) dX3_penceOf_3 rfl (Nat.le_of_ble_eq_true rfl) rfl ?_
  refine ev_iload_n (pc := 4) 3 dX3_penceOf_4 rfl rfl ?_
  refine ev_istore (pc := 5) (il' := [(4, vI p0), (3, vI 0), (2, vI 0), (0, vR 748), (1, vI p0)]) dX3_penceOf_5 (Nat.le_of_ble_eq_true rfl) rfl ?_
  refine ev_aload_n (pc := 7) 3 dX3_penceOf_7 rfl rfl ?_
  refine ev_getIc (pc := 8) fl3_34 rfl dX3_penceOf_8 rfl kd_748 (by omega) (by omega) 3 rfl ?_
  refine ev_iconst (pc := 11) (x := 1) dX3_penceOf_11 ci_1 ?_
  refine ev_isub (pc := 12) dX3_penceOf_12 ?_
  refine ev_istore (pc := 13) (il' := [(5, vI (wI ((M 748 3) - 1))), (4, vI p0), (3, vI 0), (2, vI 0), (0, vR 748), (1, vI p0)]) dX3_penceOf_13 (Nat.le_of_ble_eq_true rfl) rfl ?_
  refine ev_pick [4, 3, 2, 1, 0] rfl ?_
  exact e_X3_penceOf_L15 hd  n h
def f_X3_choose_L54_J88 (n : Nat) (p0 : Int) (K : Int → Mem → Option (Mem)) (x2 x5 x6 x7 s0 : Int) (M : Mem) : Option (Mem) := ck (0 ≤ x6 ∧ x6 < 4) (ck (0 ≤ (M 749 x6) ∧ (M 749 x6) < 7) ((f_X2_hauls n p0 x2 (M (p0 + 6) (M 749 x6)) s0 M).bind fun q10 => ck (0 ≤ x7 ∧ x7 < 5) (lt (upM q10.2 (752 + x6) x7 q10.1) fun M12 => K (wI (x7 + 1)) M12)))
set_option maxRecDepth 100000 in
set_option maxHeartbeats 4000000 in
theorem e_X3_choose_L54_J88 {g : Gm} {d : Nat} {n : Nat} {p0 : Int} {K : Int → Mem → Option (Mem)} {x2 x5 x6 x7 s0 : Int} {M N : Mem} {q : Mem} {r : Vv} {σ' : Sg} (hd : 3 ≤ d) (hp0 : isSea p0) (hK : ∀ {x7 : Int} {M : Mem}, K x7 M = some q → Ev g d mtX3_choose 54 [(0, vR 748), (1, vR p0), (2, vI x2), (5, vI x5), (6, vI x6), (7, vI x7)] [] (sg (mx M N)) (0, 0) r σ') (hk0 : Ev g d mtX3_choose 129 [(0, vR 748), (1, vR p0), (2, vI x2), (5, vI x5), (6, vI x6)] [] (sg (mx q N)) (0, 0) r σ') (h : f_X3_choose_L54_J88 n p0 K x2 x5 x6 x7 s0 M = some q) : Ev g d mtX3_choose 88 [(0, vR 748), (1, vR p0), (2, vI x2), (5, vI x5), (6, vI x6), (7, vI x7)] [vI s0] (sg (mx M N)) (0, 0) r σ' := by
  unfold f_X3_choose_L54_J88 at h
  refine ev_istore (pc := 88) (il' := [(8, vI s0), (0, vR 748), (1, vR p0), (2, vI x2), (5, vI x5), (6, vI x6), (7, vI x7)]) dX3_choose_88 (Nat.le_of_ble_eq_true rfl) rfl ?_
  refine ev_aload_n (pc := 90) 1 dX3_choose_90 rfl rfl ?_
  refine ev_getR (pc := 91) fl3_20 rfl dX3_choose_91 rfl kd_748 (by omega) (rf_748_5 _) ?_
  refine ev_iload (pc := 94) 5 dX3_choose_94 rfl ?_
  obtain ⟨c8, h⟩ := ck_some h
  refine ev_rld (pc := 96) dX3_choose_96 (by decide) kd_751 (by omega) c8.1 c8.2 (row751_R _ c8.1 c8.2) ?_
  refine ev_iload (pc := 97) 6 dX3_choose_97 rfl ?_
  refine ev_aload_n (pc := 99) 1 dX3_choose_99 rfl rfl ?_
  refine ev_getR (pc := 100) fl3_26 rfl dX3_choose_100 rfl kd_748 (by omega) (rf_748_0 _) ?_
  refine ev_aload_n (pc := 103) 2 dX3_choose_103 rfl rfl ?_
  refine ev_iload_n (pc := 104) 3 dX3_choose_104 rfl rfl ?_
  refine ev_aload_n (pc := 105) 2 dX3_choose_105 rfl rfl ?_
  refine ev_getR (pc := 106) fl3_41 rfl dX3_choose_106 rfl (sea_k hp0) (sea_nz hp0) (sea_r7 _ hp0) ?_
  refine ev_aload_n (pc := 109) 1 dX3_choose_109 rfl rfl ?_
  refine ev_getR (pc := 110) fl3_9 rfl dX3_choose_110 rfl kd_748 (by omega) (rf_748_1 _) ?_
  refine ev_iload (pc := 113) 5 dX3_choose_113 rfl ?_
  refine ev_ildc (pc := 115) dX3_choose_115 kd_749 (by omega) (by omega) c8.1 c8.2 ?_
  obtain ⟨c9, h⟩ := ck_some h
  refine ev_ildc (pc := 116) dX3_choose_116 (sea_ak7 hp0) (sea_anz7 hp0) (sea_a97 hp0) c9.1 c9.2 ?_
  refine ev_iload (pc := 117) 0 dX3_choose_117 rfl ?_
  obtain ⟨q10, hq10, h⟩ := bd h
  refine ev_cV (pc := 119) [vR p0, vI x2, vI (M (p0 + 6) (M 749 x6)), vI s0] [vI x7, vR (752 + x6)] rfl mkX2_hauls ml3_46 mnX2_hauls dX3_choose_119 kd_705 (by omega) rfl (Nat.le_of_ble_eq_true rfl) (by omega) rfl (e_X2_hauls (d := d - 1) (v := q10.1) (M' := q10.2) (by omega) hp0 hq10) ?_
  obtain ⟨c11, h⟩ := ck_some h
  obtain ⟨M12, eM12, h⟩ := lt_some h
  refine ev_istc (pc := 122) dX3_choose_122 (row751_K c8.1 c8.2) (by have h9 := c8.1; have h8 := c8.2; omega) (by have h9 := c8.1; have h8 := c8.2; omega) c11.1 c11.2 eM12 ?_
  refine ev_iinc (pc := 123) (il' := [(7, vI (wI (x7 + 1))), (8, vI s0), (0, vR 748), (1, vR p0), (2, vI x2), (5, vI x5), (6, vI x6)]) 6 dX3_choose_123 rfl (Nat.le_of_ble_eq_true rfl) rfl rfl ?_
  refine ev_goto (pc := 126) (tgt := 54) dX3_choose_126 (by decide) ?_
  refine ev_pick [2, 3, 4, 5, 6, 0] rfl ?_
  exact hK h
def f_X3_choose_L54 : Nat → Int → Int → Int → Int → Int → Mem → Option (Mem)
  | 0, _, _, _, _, _, _ => none
  | n + 1, p0, x2, x5, x6, x7, M => if (M 748 4) < x7 then (some M) else (if (M 748 4) ≤ x7 then (f_X3_choose_L54_J88 n p0 (fun x7 M => f_X3_choose_L54 n p0 x2 x5 x6 x7 M) x2 x5 x6 x7 0 M) else (ck (0 ≤ x7 ∧ x7 < 4) (ck (0 ≤ (M 750 x7) ∧ (M 750 x7) < 7) (f_X3_choose_L54_J88 n p0 (fun x7 M => f_X3_choose_L54 n p0 x2 x5 x6 x7 M) x2 x5 x6 x7 (M (p0 + 6) (M 750 x7)) M))))
set_option maxRecDepth 100000 in
set_option maxHeartbeats 4000000 in
theorem e_X3_choose_L54 {g : Gm} {d : Nat} {p0 : Int} {x2 x5 x6 : Int} {r : Vv} {σ' : Sg} {N : Mem} (hd : 3 ≤ d) (hp0 : isSea p0) : ∀ (n : Nat) {x7 : Int} {M : Mem} {q : Mem}, f_X3_choose_L54 n p0 x2 x5 x6 x7 M = some q → Ev g d mtX3_choose 129 [(0, vR 748), (1, vR p0), (2, vI x2), (5, vI x5), (6, vI x6)] [] (sg (mx q N)) (0, 0) r σ' → Ev g d mtX3_choose 54 [(0, vR 748), (1, vR p0), (2, vI x2), (5, vI x5), (6, vI x6), (7, vI x7)] [] (sg (mx M N)) (0, 0) r σ' := by
  intro n
  induction n with
  | zero =>
    intro x7 M q h hk0
    rw [f_X3_choose_L54.eq_1] at h
    cases h
  | succ n ih =>
    intro x7 M q h hk0
    rw [f_X3_choose_L54.eq_2] at h
    refine ev_iload (pc := 54) 5 dX3_choose_54 rfl ?_
    refine ev_aload_n (pc := 56) 0 dX3_choose_56 rfl rfl ?_
    refine ev_getIc (pc := 57) fl3_38 rfl dX3_choose_57 rfl kd_748 (by omega) (by omega) 4 rfl ?_
    refine ev_icmp_gt (pc := 60) (tgt := 129) dX3_choose_60 (by decide) (fun b6 => ?_) (fun b6 => ?_)
    · rw [if_pos b6] at h
      cases h
      refine ev_pick [0, 1, 2, 3, 4] rfl ?_
      exact hk0
    · rw [if_neg b6] at h
      refine ev_iload (pc := 63) 5 dX3_choose_63 rfl ?_
      refine ev_aload_n (pc := 65) 0 dX3_choose_65 rfl rfl ?_
      refine ev_getIc (pc := 66) fl3_38 rfl dX3_choose_66 rfl kd_748 (by omega) (by omega) 4 rfl ?_
      refine ev_icmp_ge (pc := 69) (tgt := 87) dX3_choose_69 (by decide) (fun b7 => ?_) (fun b7 => ?_)
      · rw [if_pos b7] at h
        refine ev_iconst (pc := 87) (x := 0) dX3_choose_87 ci_0 ?_
        refine ev_pick [0, 1, 2, 3, 4, 5] rfl ?_
        exact e_X3_choose_L54_J88 hd hp0 (fun h9 => ih h9 hk0) hk0 h
      · rw [if_neg b7] at h
        refine ev_aload_n (pc := 72) 1 dX3_choose_72 rfl rfl ?_
        refine ev_getR (pc := 73) fl3_41 rfl dX3_choose_73 rfl (sea_k hp0) (sea_nz hp0) (sea_r7 _ hp0) ?_
        refine ev_aload_n (pc := 76) 0 dX3_choose_76 rfl rfl ?_
        refine ev_getR (pc := 77) fl3_15 rfl dX3_choose_77 rfl kd_748 (by omega) (rf_748_2 _) ?_
        refine ev_iload (pc := 80) 5 dX3_choose_80 rfl ?_
        obtain ⟨c13, h⟩ := ck_some h
        refine ev_ildc (pc := 82) dX3_choose_82 kd_750 (by omega) (by omega) c13.1 c13.2 ?_
        obtain ⟨c14, h⟩ := ck_some h
        refine ev_ildc (pc := 83) dX3_choose_83 (sea_ak7 hp0) (sea_anz7 hp0) (sea_a97 hp0) c14.1 c14.2 ?_
        refine ev_goto (pc := 84) (tgt := 88) dX3_choose_84 (by decide) ?_
        refine ev_pick [0, 1, 2, 3, 4, 5] rfl ?_
        exact e_X3_choose_L54_J88 hd hp0 (fun h9 => ih h9 hk0) hk0 h
def f_X3_choose_L31 : Nat → Int → Int → Int → Int → Mem → Option (Int × Mem)
  | 0, _, _, _, _, _ => none
  | n + 1, p0, x2, x5, x6, M => if (M 748 3) ≤ x6 then (some (x5, M)) else ((f_X3_choose_L54 n p0 x2 (wI (x5 * (wI ((M 748 4) + 1)))) x6 0 M).bind fun q15 => f_X3_choose_L31 n p0 x2 (wI (x5 * (wI ((M 748 4) + 1)))) (wI (x6 + 1)) q15)
set_option maxRecDepth 100000 in
set_option maxHeartbeats 4000000 in
theorem e_X3_choose_L31 {g : Gm} {d : Nat} {p0 : Int} {x2 : Int} {r : Vv} {σ' : Sg} {N : Mem} (hd : 3 ≤ d) (hp0 : isSea p0) : ∀ (n : Nat) {x5 x6 : Int} {M : Mem} {q : Int × Mem}, f_X3_choose_L31 n p0 x2 x5 x6 M = some q → Ev g d mtX3_choose 135 [(0, vR 748), (5, vI q.1)] [] (sg (mx q.2 N)) (0, 0) r σ' → Ev g d mtX3_choose 31 [(0, vR 748), (1, vR p0), (2, vI x2), (5, vI x5), (6, vI x6)] [] (sg (mx M N)) (0, 0) r σ' := by
  intro n
  induction n with
  | zero =>
    intro x5 x6 M q h hk0
    rw [f_X3_choose_L31.eq_1] at h
    cases h
  | succ n ih =>
    intro x5 x6 M q h hk0
    rw [f_X3_choose_L31.eq_2] at h
    refine ev_iload (pc := 31) 4 dX3_choose_31 rfl ?_
    refine ev_aload_n (pc := 33) 0 dX3_choose_33 rfl rfl ?_
    refine ev_getIc (pc := 34) fl3_34 rfl dX3_choose_34 rfl kd_748 (by omega) (by omega) 3 rfl ?_
    refine ev_icmp_ge (pc := 37) (tgt := 135) dX3_choose_37 (by decide) (fun b5 => ?_) (fun b5 => ?_)
    · rw [if_pos b5] at h
      cases h
      refine ev_pick [0, 3] rfl ?_
      exact hk0
    · rw [if_neg b5] at h
      refine ev_iload (pc := 40) 3 dX3_choose_40 rfl ?_
      refine ev_aload_n (pc := 42) 0 dX3_choose_42 rfl rfl ?_
      refine ev_getIc (pc := 43) fl3_38 rfl dX3_choose_43 rfl kd_748 (by omega) (by omega) 4 rfl ?_
      refine ev_iconst (pc := 46) (x := 1) dX3_choose_46 ci_1 ?_
      refine ev_iadd (pc := 47) dX3_choose_47 ?_
      refine ev_imul (pc := 48) dX3_choose_48 ?_
      refine ev_istore (pc := 49) (il' := [(5, vI (wI (x5 * (wI ((M 748 4) + 1))))), (0, vR 748), (1, vR p0), (2, vI x2), (6, vI x6)]) dX3_choose_49 (Nat.le_of_ble_eq_true rfl) rfl ?_
      refine ev_iconst (pc := 51) (x := 0) dX3_choose_51 ci_0 ?_
      refine ev_istore (pc := 52) (il' := [(7, vI 0), (5, vI (wI (x5 * (wI ((M 748 4) + 1))))), (0, vR 748), (1, vR p0), (2, vI x2), (6, vI x6)]) dX3_choose_52 (Nat.le_of_ble_eq_true rfl) rfl ?_
      obtain ⟨q15, hq15, h⟩ := bd h
      refine ev_pick [2, 3, 4, 1, 5, 0] rfl ?_
      refine e_X3_choose_L54 hd hp0 n hq15 ?_
      refine ev_iinc (pc := 129) (il' := [(6, vI (wI (x6 + 1))), (0, vR 748), (1, vR p0), (2, vI x2), (5, vI (wI (x5 * (wI ((M 748 4) + 1)))))]) 4 dX3_choose_129 rfl (Nat.le_of_ble_eq_true rfl) rfl rfl ?_
      refine ev_goto (pc := 132) (tgt := 31) dX3_choose_132 (by decide) ?_
      refine ev_pick [1, 2, 3, 4, 0] rfl ?_
      exact ih h hk0
def f_X3_choose_L146 : Nat → Int → Int → Int → Int → Mem → Option (Int × Mem)
  | 0, _, _, _, _, _ => none
  | n + 1, p0, x5, x6, x7, M => if x5 ≤ x7 then (some (x6, M)) else ((f_X3_penceOf n x7 M).bind fun q19 => if q19 = (-1) then (f_X3_choose_L146 n p0 x5 x6 (wI (x7 + 1)) M) else (if (M 748 6) = (-1) then (lt (upM M 748 6 q19) fun M22 => f_X3_choose_L146 n p0 x5 x7 (wI (x7 + 1)) M22) else (if (M 748 6) ≤ q19 then (f_X3_choose_L146 n p0 x5 x6 (wI (x7 + 1)) M) else (lt (upM M 748 6 q19) fun M24 => f_X3_choose_L146 n p0 x5 x7 (wI (x7 + 1)) M24))))
set_option maxRecDepth 100000 in
set_option maxHeartbeats 4000000 in
theorem e_X3_choose_L146 {g : Gm} {d : Nat} {p0 : Int} {x5 : Int} {r : Vv} {σ' : Sg} {N : Mem} (hd : 3 ≤ d) (hp0 : isSea p0) : ∀ (n : Nat) {x6 x7 : Int} {M : Mem} {q : Int × Mem}, f_X3_choose_L146 n p0 x5 x6 x7 M = some q → Ev g d mtX3_choose 200 [(0, vR 748), (6, vI q.1)] [] (sg (mx q.2 N)) (0, 0) r σ' → Ev g d mtX3_choose 146 [(0, vR 748), (5, vI x5), (6, vI x6), (7, vI x7)] [] (sg (mx M N)) (0, 0) r σ' := by
  intro n
  induction n with
  | zero =>
    intro x6 x7 M q h hk0
    rw [f_X3_choose_L146.eq_1] at h
    cases h
  | succ n ih =>
    intro x6 x7 M q h hk0
    rw [f_X3_choose_L146.eq_2] at h
    refine ev_iload (pc := 146) 3 dX3_choose_146 rfl ?_
    refine ev_iload (pc := 148) 1 dX3_choose_148 rfl ?_
    refine ev_icmp_ge (pc := 150) (tgt := 200) dX3_choose_150 (by decide) (fun b18 => ?_) (fun b18 => ?_)
    · rw [if_pos b18] at h
      cases h
      refine ev_pick [0, 2] rfl ?_
      exact hk0
    · rw [if_neg b18] at h
      refine ev_aload_n (pc := 153) 0 dX3_choose_153 rfl rfl ?_
      refine ev_iload (pc := 154) 3 dX3_choose_154 rfl ?_
      obtain ⟨q19, hq19, h⟩ := bd h
      refine ev_cV (pc := 156) [vI x7] [] rfl mkX3_penceOf ml3_55 mnX3_penceOf dX3_choose_156 kd_748 (by omega) rfl (Nat.le_of_ble_eq_true rfl) (by omega) rfl (e_X3_penceOf (d := d - 1) (v := q19) (by omega)  hq19) ?_
      refine ev_istore (pc := 159) (il' := [(8, vI q19), (0, vR 748), (5, vI x5), (6, vI x6), (7, vI x7)]) dX3_choose_159 (Nat.le_of_ble_eq_true rfl) rfl ?_
      refine ev_iload (pc := 161) 0 dX3_choose_161 rfl ?_
      refine ev_iconst (pc := 163) (x := (-1)) dX3_choose_163 ci_m1 ?_
      refine ev_icmp_eq (pc := 164) (tgt := 194) dX3_choose_164 (by decide) (fun b20 => ?_) (fun b20 => ?_)
      · rw [if_pos b20] at h
        refine ev_iinc (pc := 194) (il' := [(7, vI (wI (x7 + 1))), (8, vI q19), (0, vR 748), (5, vI x5), (6, vI x6)]) 4 dX3_choose_194 rfl (Nat.le_of_ble_eq_true rfl) rfl rfl ?_
        refine ev_goto (pc := 197) (tgt := 146) dX3_choose_197 (by decide) ?_
        refine ev_pick [2, 3, 4, 0] rfl ?_
        exact ih h hk0
      · rw [if_neg b20] at h
        refine ev_aload_n (pc := 167) 1 dX3_choose_167 rfl rfl ?_
        refine ev_getIc (pc := 168) fl3_52 rfl dX3_choose_168 rfl kd_748 (by omega) (by omega) 6 rfl ?_
        refine ev_iconst (pc := 171) (x := (-1)) dX3_choose_171 ci_m1 ?_
        refine ev_icmp_eq (pc := 172) (tgt := 184) dX3_choose_172 (by decide) (fun b21 => ?_) (fun b21 => ?_)
        · rw [if_pos b21] at h
          refine ev_aload_n (pc := 184) 1 dX3_choose_184 rfl rfl ?_
          refine ev_iload (pc := 185) 0 dX3_choose_185 rfl ?_
          obtain ⟨M22, eM22, h⟩ := lt_some h
          refine ev_putIc (pc := 187) fl3_52 rfl dX3_choose_187 kd_748 (by omega) (by omega) eM22 ?_
          refine ev_iload (pc := 190) 4 dX3_choose_190 rfl ?_
          refine ev_istore (pc := 192) (il' := [(6, vI x7), (8, vI q19), (0, vR 748), (5, vI x5), (7, vI x7)]) dX3_choose_192 (Nat.le_of_ble_eq_true rfl) rfl ?_
          refine ev_iinc (pc := 194) (il' := [(7, vI (wI (x7 + 1))), (6, vI x7), (8, vI q19), (0, vR 748), (5, vI x5)]) 4 dX3_choose_194 rfl (Nat.le_of_ble_eq_true rfl) rfl rfl ?_
          refine ev_goto (pc := 197) (tgt := 146) dX3_choose_197 (by decide) ?_
          refine ev_pick [3, 4, 1, 0] rfl ?_
          exact ih h hk0
        · rw [if_neg b21] at h
          refine ev_iload (pc := 175) 0 dX3_choose_175 rfl ?_
          refine ev_aload_n (pc := 177) 1 dX3_choose_177 rfl rfl ?_
          refine ev_getIc (pc := 178) fl3_52 rfl dX3_choose_178 rfl kd_748 (by omega) (by omega) 6 rfl ?_
          refine ev_icmp_ge (pc := 181) (tgt := 194) dX3_choose_181 (by decide) (fun b23 => ?_) (fun b23 => ?_)
          · rw [if_pos b23] at h
            refine ev_iinc (pc := 194) (il' := [(7, vI (wI (x7 + 1))), (8, vI q19), (0, vR 748), (5, vI x5), (6, vI x6)]) 4 dX3_choose_194 rfl (Nat.le_of_ble_eq_true rfl) rfl rfl ?_
            refine ev_goto (pc := 197) (tgt := 146) dX3_choose_197 (by decide) ?_
            refine ev_pick [2, 3, 4, 0] rfl ?_
            exact ih h hk0
          · rw [if_neg b23] at h
            refine ev_aload_n (pc := 184) 1 dX3_choose_184 rfl rfl ?_
            refine ev_iload (pc := 185) 0 dX3_choose_185 rfl ?_
            obtain ⟨M24, eM24, h⟩ := lt_some h
            refine ev_putIc (pc := 187) fl3_52 rfl dX3_choose_187 kd_748 (by omega) (by omega) eM24 ?_
            refine ev_iload (pc := 190) 4 dX3_choose_190 rfl ?_
            refine ev_istore (pc := 192) (il' := [(6, vI x7), (8, vI q19), (0, vR 748), (5, vI x5), (7, vI x7)]) dX3_choose_192 (Nat.le_of_ble_eq_true rfl) rfl ?_
            refine ev_iinc (pc := 194) (il' := [(7, vI (wI (x7 + 1))), (6, vI x7), (8, vI q19), (0, vR 748), (5, vI x5)]) 4 dX3_choose_194 rfl (Nat.le_of_ble_eq_true rfl) rfl rfl ?_
            refine ev_goto (pc := 197) (tgt := 146) dX3_choose_197 (by decide) ?_
            refine ev_pick [3, 4, 1, 0] rfl ?_
            exact ih h hk0
def f_X3_choose_L208 : Nat → Int → Int → Int → Mem → Option (Mem)
  | 0, _, _, _, _ => none
  | n + 1, p0, x6, x7, M => if x7 < 0 then (some M) else (ck ((wI ((M 748 4) + 1)) ≠ 0) (ck (0 ≤ x7 ∧ x7 < 4) (lt (upM M 756 x7 (iRem x6 (wI ((M 748 4) + 1)))) fun M29 => ck ((wI ((M29 748 4) + 1)) ≠ 0) (f_X3_choose_L208 n p0 (iDiv x6 (wI ((M29 748 4) + 1))) (wI (x7 + (-1))) M29))))
set_option maxRecDepth 100000 in
set_option maxHeartbeats 4000000 in
theorem e_X3_choose_L208 {g : Gm} {d : Nat} {p0 : Int} {r : Vv} {σ' : Sg} {N : Mem} (hd : 3 ≤ d) (hp0 : isSea p0) : ∀ (n : Nat) {x6 x7 : Int} {M : Mem} {q : Mem}, f_X3_choose_L208 n p0 x6 x7 M = some q → Ev g d mtX3_choose 246 [] [] (sg (mx q N)) (0, 0) r σ' → Ev g d mtX3_choose 208 [(0, vR 748), (6, vI x6), (7, vI x7)] [] (sg (mx M N)) (0, 0) r σ' := by
  intro n
  induction n with
  | zero =>
    intro x6 x7 M q h hk0
    rw [f_X3_choose_L208.eq_1] at h
    cases h
  | succ n ih =>
    intro x6 x7 M q h hk0
    rw [f_X3_choose_L208.eq_2] at h
    refine ev_iload (pc := 208) 2 dX3_choose_208 rfl ?_
    refine ev_if_lt (pc := 210) (tgt := 246) dX3_choose_210 (by decide) (fun b26 => ?_) (fun b26 => ?_)
    · rw [if_pos b26] at h
      cases h
      refine ev_pick [] rfl ?_
      exact hk0
    · rw [if_neg b26] at h
      refine ev_aload_n (pc := 213) 0 dX3_choose_213 rfl rfl ?_
      refine ev_getR (pc := 214) fl3_23 rfl dX3_choose_214 rfl kd_748 (by omega) (rf_748_7 _) ?_
      refine ev_iload (pc := 217) 2 dX3_choose_217 rfl ?_
      refine ev_iload (pc := 219) 1 dX3_choose_219 rfl ?_
      refine ev_aload_n (pc := 221) 0 dX3_choose_221 rfl rfl ?_
      refine ev_getIc (pc := 222) fl3_38 rfl dX3_choose_222 rfl kd_748 (by omega) (by omega) 4 rfl ?_
      refine ev_iconst (pc := 225) (x := 1) dX3_choose_225 ci_1 ?_
      refine ev_iadd (pc := 226) dX3_choose_226 ?_
      obtain ⟨c27, h⟩ := ck_some h
      refine ev_irem (pc := 227) dX3_choose_227 c27 ?_
      obtain ⟨c28, h⟩ := ck_some h
      obtain ⟨M29, eM29, h⟩ := lt_some h
      refine ev_istc (pc := 228) dX3_choose_228 kd_756 (by omega) (by omega) c28.1 c28.2 eM29 ?_
      refine ev_iload (pc := 229) 1 dX3_choose_229 rfl ?_
      refine ev_aload_n (pc := 231) 0 dX3_choose_231 rfl rfl ?_
      refine ev_getIc (pc := 232) fl3_38 rfl dX3_choose_232 rfl kd_748 (by omega) (by omega) 4 rfl ?_
      refine ev_iconst (pc := 235) (x := 1) dX3_choose_235 ci_1 ?_
      refine ev_iadd (pc := 236) dX3_choose_236 ?_
      obtain ⟨c30, h⟩ := ck_some h
      refine ev_idiv (pc := 237) dX3_choose_237 c30 ?_
      refine ev_istore (pc := 238) (il' := [(6, vI (iDiv x6 (wI ((M29 748 4) + 1)))), (0, vR 748), (7, vI x7)]) dX3_choose_238 (Nat.le_of_ble_eq_true rfl) rfl ?_
      refine ev_iinc (pc := 240) (il' := [(7, vI (wI (x7 + (-1)))), (6, vI (iDiv x6 (wI ((M29 748 4) + 1)))), (0, vR 748)]) 2 dX3_choose_240 rfl (Nat.le_of_ble_eq_true rfl) rfl rfl ?_
      refine ev_goto (pc := 243) (tgt := 208) dX3_choose_243 (by decide) ?_
      refine ev_pick [2, 1, 0] rfl ?_
      exact ih h hk0
def f_X3_choose (n : Nat) (p0 p1 p2 p3 : Int) (M : Mem) : Option (Mem) := (f_X3_listShips n p2 749 M).bind fun q1 => lt (upM q1.2 748 3 q1.1) fun M2 => (f_X3_listShips n p3 750 M2).bind fun q3 => lt (upM q3.2 748 4 q3.1) fun M4 => (f_X3_choose_L31 n p0 p1 1 0 M4).bind fun q16 => lt (upM q16.2 748 6 (-1)) fun M17 => (f_X3_choose_L146 n p0 q16.1 0 0 M17).bind fun q25 => (f_X3_choose_L208 n p0 q25.1 (wI ((q25.2 748 3) - 1)) q25.2).bind fun q31 => some q31
set_option maxRecDepth 100000 in
set_option maxHeartbeats 4000000 in
theorem e_X3_choose {g : Gm} {d : Nat} {n : Nat} {p0 p1 p2 p3 : Int} {M N : Mem} {M' : Mem} (hd : 3 ≤ d) (hp0 : isSea p0) (h : f_X3_choose n p0 p1 p2 p3 M = some M') : EvM g d mtX3_choose [vR 748, vR p0, vI p1, vI p2, vI p3] (sg (mx M N)) (0, 0) vN (sg (mx M' N)) := by
  unfold f_X3_choose at h
  refine EvM.of mkX3_choose.2.2.2.1 (Nat.le_of_ble_eq_true rfl) ?_
  change Ev g d mtX3_choose 0 [(0, vR 748), (1, vR p0), (2, vI p1), (3, vI p2), (4, vI p3)] [] (sg (mx M N)) (0, 0) vN (sg (mx M' N))
  refine ev_aload_n (pc := 0) 0 dX3_choose_0 rfl rfl ?_
  refine ev_iload_n (pc := 1) 3 dX3_choose_1 rfl rfl ?_
  refine ev_aload_n (pc := 2) 0 dX3_choose_2 rfl rfl ?_
  refine ev_getR (pc := 3) fl3_9 rfl dX3_choose_3 rfl kd_748 (by omega) (rf_748_1 _) ?_
  obtain ⟨q1, hq1, h⟩ := bd h
  refine ev_cS (pc := 6) [vI p2, vR 749] [vR 748] rfl mkX3_listShips ml3_30 msX3_listShips dX3_choose_6 rfl (Nat.le_of_ble_eq_true rfl) (by omega) rfl (e_X3_listShips (d := d - 1) (v := q1.1) (M' := q1.2) (by omega) ⟨kd_749, (by omega), (by omega)⟩ hq1) ?_
  obtain ⟨M2, eM2, h⟩ := lt_some h
  refine ev_putIc (pc := 9) fl3_34 rfl dX3_choose_9 kd_748 (by omega) (by omega) eM2 ?_
  refine ev_aload_n (pc := 12) 0 dX3_choose_12 rfl rfl ?_
  refine ev_iload (pc := 13) 4 dX3_choose_13 rfl ?_
  refine ev_aload_n (pc := 15) 0 dX3_choose_15 rfl rfl ?_
  refine ev_getR (pc := 16) fl3_15 rfl dX3_choose_16 rfl kd_748 (by omega) (rf_748_2 _) ?_
  obtain ⟨q3, hq3, h⟩ := bd h
  refine ev_cS (pc := 19) [vI p3, vR 750] [vR 748] rfl mkX3_listShips ml3_30 msX3_listShips dX3_choose_19 rfl (Nat.le_of_ble_eq_true rfl) (by omega) rfl (e_X3_listShips (d := d - 1) (v := q3.1) (M' := q3.2) (by omega) ⟨kd_750, (by omega), (by omega)⟩ hq3) ?_
  obtain ⟨M4, eM4, h⟩ := lt_some h
  refine ev_putIc (pc := 22) fl3_38 rfl dX3_choose_22 kd_748 (by omega) (by omega) eM4 ?_
  refine ev_iconst (pc := 25) (x := 1) dX3_choose_25 ci_1 ?_
  refine ev_istore (pc := 26) (il' := [(5, vI 1), (0, vR 748), (1, vR p0), (2, vI p1), (3, vI p2), (4, vI p3)]) dX3_choose_26 (Nat.le_of_ble_eq_true rfl) rfl ?_
  refine ev_iconst (pc := 28) (x := 0) dX3_choose_28 ci_0 ?_
  refine ev_istore (pc := 29) (il' := [(6, vI 0), (5, vI 1), (0, vR 748), (1, vR p0), (2, vI p1), (3, vI p2), (4, vI p3)]) dX3_choose_29 (Nat.le_of_ble_eq_true rfl) rfl ?_
  obtain ⟨q16, hq16, h⟩ := bd h
  refine ev_pick [2, 3, 4, 1, 0] rfl ?_
  refine e_X3_choose_L31 hd hp0 n hq16 ?_
  refine ev_iconst (pc := 135) (x := 0) dX3_choose_135 ci_0 ?_
  refine ev_istore (pc := 136) (il' := [(6, vI 0), (0, vR 748), (5, vI q16.1)]) dX3_choose_136 (Nat.le_of_ble_eq_true rfl) rfl ?_
  refine ev_aload_n (pc := 138) 1 dX3_choose_138 rfl rfl ?_
  refine ev_iconst (pc := 139) (x := (-1)) dX3_choose_139 ci_m1 ?_
  obtain ⟨M17, eM17, h⟩ := lt_some h
  refine ev_putIc (pc := 140) fl3_52 rfl dX3_choose_140 kd_748 (by omega) (by omega) eM17 ?_
  refine ev_iconst (pc := 143) (x := 0) dX3_choose_143 ci_0 ?_
  refine ev_istore (pc := 144) (il' := [(7, vI 0), (6, vI 0), (0, vR 748), (5, vI q16.1)]) dX3_choose_144 (Nat.le_of_ble_eq_true rfl) rfl ?_
  obtain ⟨q25, hq25, h⟩ := bd h
  refine ev_pick [2, 3, 1, 0] rfl ?_
  refine e_X3_choose_L146 hd hp0 n hq25 ?_
  refine ev_aload_n (pc := 200) 0 dX3_choose_200 rfl rfl ?_
  refine ev_getIc (pc := 201) fl3_34 rfl dX3_choose_201 rfl kd_748 (by omega) (by omega) 3 rfl ?_
  refine ev_iconst (pc := 204) (x := 1) dX3_choose_204 ci_1 ?_
  refine ev_isub (pc := 205) dX3_choose_205 ?_
  refine ev_istore (pc := 206) (il' := [(7, vI (wI ((q25.2 748 3) - 1))), (0, vR 748), (6, vI q25.1)]) dX3_choose_206 (Nat.le_of_ble_eq_true rfl) rfl ?_
  obtain ⟨q31, hq31, h⟩ := bd h
  refine ev_pick [1, 2, 0] rfl ?_
  refine e_X3_choose_L208 hd hp0 n hq31 ?_
  cases h
  exact ev_vret (pc := 246) dX3_choose_246 rfl
