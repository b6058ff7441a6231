set_option linter.unusedVariables false
set_option linter.unusedSimpArgs false
/-! constructors: a sea, a text, acts -/
def c_X5 (k : Int) (l : CL) : CL := clR ((clI (clR ((clR ((clR ((clR ((clR ((clR ((clR ((clR ((clR (l ++ [((20, 9), [], [])]) k 1 ((l.length : Int) + 1)) ++ [((20, 9), [], [])]) k 2 ((l.length : Int) + 2)) ++ [((20, 9), [], [])]) k 3 ((l.length : Int) + 3)) ++ [((20, 9), [], [])]) k 4 ((l.length : Int) + 4)) ++ [((20, 9), [], [])]) k 5 ((l.length : Int) + 5)) ++ [((20, 7), [], [])]) k 7 ((l.length : Int) + 6)) ++ [((20, 7), [], [])]) k 8 ((l.length : Int) + 7)) ++ [((20, 7), [], [])]) k 9 ((l.length : Int) + 8)) ++ [((20, 7), [], [])]) k 10 ((l.length : Int) + 9)) k 14 83) ++ [((20, 40), [], [])]) k 16 ((l.length : Int) + 10)
set_option maxRecDepth 100000 in
set_option maxHeartbeats 8000000 in
theorem c_X5_ok {k : Int} {l : CL} (ok : okC l k (5, 17)) : ((c_X5 k l).length = l.length + 10 ∧ Grows l (c_X5 k l) k) ∧ ∀ {g : Gm} {d : Nat}, 1 ≤ d → EvM g d mtX5_init [vR k] (sgL l) (10, 113) vN (sgL (c_X5 k l)) := by
  obtain ⟨l1, e1⟩ : ∃ z : CL, z = l ++ [((20, 9), [], [])] := ⟨_, rfl⟩
  have n1 : l1.length = l.length + 1 := by rw [e1, List.length_append]; show l.length + 1 = _; omega
  have G1 : Grows l l1 k := by rw [e1]; exact Grows.rf.app
  have o1_k : okC l1 k (5, 17) := by rw [e1]; exact ok.app
  obtain ⟨l2, e2⟩ : ∃ z : CL, z = clR l1 k 1 ((l.length : Int) + 1) := ⟨_, rfl⟩
  have n2 : l2.length = l.length + 1 := by rw [e2, clR_len]; omega
  have G2 : Grows l l2 k := by rw [e2]; exact G1.setR o1_k.1 o1_k.2.1 (Or.inl rfl)
  have o2_k : okC l2 k (5, 17) := by rw [e2]; exact okC.ofR o1_k o1_k
  obtain ⟨l3, e3⟩ : ∃ z : CL, z = l2 ++ [((20, 9), [], [])] := ⟨_, rfl⟩
  have n3 : l3.length = l.length + 2 := by rw [e3, List.length_append]; show l2.length + 1 = _; omega
  have G3 : Grows l l3 k := by rw [e3]; exact G2.app
  have o3_k : okC l3 k (5, 17) := by rw [e3]; exact o2_k.app
  obtain ⟨l4, e4⟩ : ∃ z : CL, z = clR l3 k 2 ((l.length : Int) + 2) := ⟨_, rfl⟩
  have n4 : l4.length = l.length + 2 := by rw [e4, clR_len]; omega
  have G4 : Grows l l4 k := by rw [e4]; exact G3.setR o3_k.1 o3_k.2.1 (Or.inl rfl)
  have o4_k : okC l4 k (5, 17) := by rw [e4]; exact okC.ofR o3_k o3_k
  obtain ⟨l5, e5⟩ : ∃ z : CL, z = l4 ++ [((20, 9), [], [])] := ⟨_, rfl⟩
  have n5 : l5.length = l.length + 3 := by rw [e5, List.length_append]; show l4.length + 1 = _; omega
  have G5 : Grows l l5 k := by rw [e5]; exact G4.app
  have o5_k : okC l5 k (5, 17) := by rw [e5]; exact o4_k.app
  obtain ⟨l6, e6⟩ : ∃ z : CL, z = clR l5 k 3 ((l.length : Int) + 3) := ⟨_, rfl⟩
  have n6 : l6.length = l.length + 3 := by rw [e6, clR_len]; omega
  have G6 : Grows l l6 k := by rw [e6]; exact G5.setR o5_k.1 o5_k.2.1 (Or.inl rfl)
  have o6_k : okC l6 k (5, 17) := by rw [e6]; exact okC.ofR o5_k o5_k
  obtain ⟨l7, e7⟩ : ∃ z : CL, z = l6 ++ [((20, 9), [], [])] := ⟨_, rfl⟩
  have n7 : l7.length = l.length + 4 := by rw [e7, List.length_append]; show l6.length + 1 = _; omega
  have G7 : Grows l l7 k := by rw [e7]; exact G6.app
  have o7_k : okC l7 k (5, 17) := by rw [e7]; exact o6_k.app
  obtain ⟨l8, e8⟩ : ∃ z : CL, z = clR l7 k 4 ((l.length : Int) + 4) := ⟨_, rfl⟩
  have n8 : l8.length = l.length + 4 := by rw [e8, clR_len]; omega
  have G8 : Grows l l8 k := by rw [e8]; exact G7.setR o7_k.1 o7_k.2.1 (Or.inl rfl)
  have o8_k : okC l8 k (5, 17) := by rw [e8]; exact okC.ofR o7_k o7_k
  obtain ⟨l9, e9⟩ : ∃ z : CL, z = l8 ++ [((20, 9), [], [])] := ⟨_, rfl⟩
  have n9 : l9.length = l.length + 5 := by rw [e9, List.length_append]; show l8.length + 1 = _; omega
  have G9 : Grows l l9 k := by rw [e9]; exact G8.app
  have o9_k : okC l9 k (5, 17) := by rw [e9]; exact o8_k.app
  obtain ⟨l10, e10⟩ : ∃ z : CL, z = clR l9 k 5 ((l.length : Int) + 5) := ⟨_, rfl⟩
  have n10 : l10.length = l.length + 5 := by rw [e10, clR_len]; omega
  have G10 : Grows l l10 k := by rw [e10]; exact G9.setR o9_k.1 o9_k.2.1 (Or.inl rfl)
  have o10_k : okC l10 k (5, 17) := by rw [e10]; exact okC.ofR o9_k o9_k
  obtain ⟨l11, e11⟩ : ∃ z : CL, z = l10 ++ [((20, 7), [], [])] := ⟨_, rfl⟩
  have n11 : l11.length = l.length + 6 := by rw [e11, List.length_append]; show l10.length + 1 = _; omega
  have G11 : Grows l l11 k := by rw [e11]; exact G10.app
  have o11_k : okC l11 k (5, 17) := by rw [e11]; exact o10_k.app
  obtain ⟨l12, e12⟩ : ∃ z : CL, z = clR l11 k 7 ((l.length : Int) + 6) := ⟨_, rfl⟩
  have n12 : l12.length = l.length + 6 := by rw [e12, clR_len]; omega
  have G12 : Grows l l12 k := by rw [e12]; exact G11.setR o11_k.1 o11_k.2.1 (Or.inl rfl)
  have o12_k : okC l12 k (5, 17) := by rw [e12]; exact okC.ofR o11_k o11_k
  obtain ⟨l13, e13⟩ : ∃ z : CL, z = l12 ++ [((20, 7), [], [])] := ⟨_, rfl⟩
  have n13 : l13.length = l.length + 7 := by rw [e13, List.length_append]; show l12.length + 1 = _; omega
  have G13 : Grows l l13 k := by rw [e13]; exact G12.app
  have o13_k : okC l13 k (5, 17) := by rw [e13]; exact o12_k.app
  obtain ⟨l14, e14⟩ : ∃ z : CL, z = clR l13 k 8 ((l.length : Int) + 7) := ⟨_, rfl⟩
  have n14 : l14.length = l.length + 7 := by rw [e14, clR_len]; omega
  have G14 : Grows l l14 k := by rw [e14]; exact G13.setR o13_k.1 o13_k.2.1 (Or.inl rfl)
  have o14_k : okC l14 k (5, 17) := by rw [e14]; exact okC.ofR o13_k o13_k
  obtain ⟨l15, e15⟩ : ∃ z : CL, z = l14 ++ [((20, 7), [], [])] := ⟨_, rfl⟩
  have n15 : l15.length = l.length + 8 := by rw [e15, List.length_append]; show l14.length + 1 = _; omega
  have G15 : Grows l l15 k := by rw [e15]; exact G14.app
  have o15_k : okC l15 k (5, 17) := by rw [e15]; exact o14_k.app
  obtain ⟨l16, e16⟩ : ∃ z : CL, z = clR l15 k 9 ((l.length : Int) + 8) := ⟨_, rfl⟩
  have n16 : l16.length = l.length + 8 := by rw [e16, clR_len]; omega
  have G16 : Grows l l16 k := by rw [e16]; exact G15.setR o15_k.1 o15_k.2.1 (Or.inl rfl)
  have o16_k : okC l16 k (5, 17) := by rw [e16]; exact okC.ofR o15_k o15_k
  obtain ⟨l17, e17⟩ : ∃ z : CL, z = l16 ++ [((20, 7), [], [])] := ⟨_, rfl⟩
  have n17 : l17.length = l.length + 9 := by rw [e17, List.length_append]; show l16.length + 1 = _; omega
  have G17 : Grows l l17 k := by rw [e17]; exact G16.app
  have o17_k : okC l17 k (5, 17) := by rw [e17]; exact o16_k.app
  obtain ⟨l18, e18⟩ : ∃ z : CL, z = clR l17 k 10 ((l.length : Int) + 9) := ⟨_, rfl⟩
  have n18 : l18.length = l.length + 9 := by rw [e18, clR_len]; omega
  have G18 : Grows l l18 k := by rw [e18]; exact G17.setR o17_k.1 o17_k.2.1 (Or.inl rfl)
  have o18_k : okC l18 k (5, 17) := by rw [e18]; exact okC.ofR o17_k o17_k
  obtain ⟨l19, e19⟩ : ∃ z : CL, z = clI l18 k 14 83 := ⟨_, rfl⟩
  have n19 : l19.length = l.length + 9 := by rw [e19, clI_len]; omega
  have G19 : Grows l l19 k := by rw [e19]; exact G18.setI o18_k.1 o18_k.2.1 (Or.inl rfl)
  have o19_k : okC l19 k (5, 17) := by rw [e19]; exact okC.ofI o18_k o18_k
  obtain ⟨l20, e20⟩ : ∃ z : CL, z = l19 ++ [((20, 40), [], [])] := ⟨_, rfl⟩
  have n20 : l20.length = l.length + 10 := by rw [e20, List.length_append]; show l19.length + 1 = _; omega
  have G20 : Grows l l20 k := by rw [e20]; exact G19.app
  have o20_k : okC l20 k (5, 17) := by rw [e20]; exact o19_k.app
  obtain ⟨l21, e21⟩ : ∃ z : CL, z = clR l20 k 16 ((l.length : Int) + 10) := ⟨_, rfl⟩
  have n21 : l21.length = l.length + 10 := by rw [e21, clR_len]; omega
  have G21 : Grows l l21 k := by rw [e21]; exact G20.setR o20_k.1 o20_k.2.1 (Or.inl rfl)
  have o21_k : okC l21 k (5, 17) := by rw [e21]; exact okC.ofR o20_k o20_k
  have eF : c_X5 k l = l21 := by rw [e21, e20, e19, e18, e17, e16, e15, e14, e13, e12, e11, e10, e9, e8, e7, e6, e5, e4, e3, e2, e1, c_X5]
  rw [eF]
  refine ⟨⟨n21, G21⟩, fun {g d} hd => ?_⟩
  refine EvM.of mkX5_init.2.2.2.1 (Nat.le_of_ble_eq_true rfl) ?_
  change Ev g d mtX5_init 0 [(0, vR k)] [] (sgL l) (10, 113) vN (sgL l21)
  refine ev_aload_n (pc := 0) 0 dX5_init_0 rfl rfl ?_
  refine ev_objInit (pc := 1) rfl ob5_3 (by have h9 := ok.1; omega) (Nat.le_of_ble_eq_true rfl) (by omega) dX5_init_1 ?_
  refine ev_aload_n (pc := 4) 0 dX5_init_4 rfl rfl ?_
  refine ev_bipush (pc := 5) (x := 9) dX5_init_5 cb_9 ?_
  refine ev_newa (pc := 7) (n := 9) (b2 := (9, 104)) (t := 20) arI.1 arI.2 rfl (Nat.le_of_ble_eq_true rfl) dX5_init_7 rfl ?_
  refine ev_eqI (show ((l.length : Int) + 1) = ((l.length : Int) + 1) by omega) ?_
  refine ev_eqS e1 ?_
  refine ev_putFL (pc := 9) flF5_9 rfl rfl dX5_init_9 rfl o1_k ?_
  refine ev_eqS e2 ?_
  refine ev_aload_n (pc := 12) 0 dX5_init_12 rfl rfl ?_
  refine ev_bipush (pc := 13) (x := 9) dX5_init_13 cb_9 ?_
  refine ev_newa (pc := 15) (n := 9) (b2 := (8, 95)) (t := 20) arI.1 arI.2 rfl (Nat.le_of_ble_eq_true rfl) dX5_init_15 rfl ?_
  refine ev_eqI (show ((l2.length : Int) + 1) = ((l.length : Int) + 2) by omega) ?_
  refine ev_eqS e3 ?_
  refine ev_putFL (pc := 17) flF5_15 rfl rfl dX5_init_17 rfl o3_k ?_
  refine ev_eqS e4 ?_
  refine ev_aload_n (pc := 20) 0 dX5_init_20 rfl rfl ?_
  refine ev_bipush (pc := 21) (x := 9) dX5_init_21 cb_9 ?_
  refine ev_newa (pc := 23) (n := 9) (b2 := (7, 86)) (t := 20) arI.1 arI.2 rfl (Nat.le_of_ble_eq_true rfl) dX5_init_23 rfl ?_
  refine ev_eqI (show ((l4.length : Int) + 1) = ((l.length : Int) + 3) by omega) ?_
  refine ev_eqS e5 ?_
  refine ev_putFL (pc := 25) flF5_18 rfl rfl dX5_init_25 rfl o5_k ?_
  refine ev_eqS e6 ?_
  refine ev_aload_n (pc := 28) 0 dX5_init_28 rfl rfl ?_
  refine ev_bipush (pc := 29) (x := 9) dX5_init_29 cb_9 ?_
  refine ev_newa (pc := 31) (n := 9) (b2 := (6, 77)) (t := 20) arI.1 arI.2 rfl (Nat.le_of_ble_eq_true rfl) dX5_init_31 rfl ?_
  refine ev_eqI (show ((l6.length : Int) + 1) = ((l.length : Int) + 4) by omega) ?_
  refine ev_eqS e7 ?_
  refine ev_putFL (pc := 33) flF5_21 rfl rfl dX5_init_33 rfl o7_k ?_
  refine ev_eqS e8 ?_
  refine ev_aload_n (pc := 36) 0 dX5_init_36 rfl rfl ?_
  refine ev_bipush (pc := 37) (x := 9) dX5_init_37 cb_9 ?_
  refine ev_newa (pc := 39) (n := 9) (b2 := (5, 68)) (t := 20) arI.1 arI.2 rfl (Nat.le_of_ble_eq_true rfl) dX5_init_39 rfl ?_
  refine ev_eqI (show ((l8.length : Int) + 1) = ((l.length : Int) + 5) by omega) ?_
  refine ev_eqS e9 ?_
  refine ev_putFL (pc := 41) flF5_24 rfl rfl dX5_init_41 rfl o9_k ?_
  refine ev_eqS e10 ?_
  refine ev_aload_n (pc := 44) 0 dX5_init_44 rfl rfl ?_
  refine ev_bipush (pc := 45) (x := 7) dX5_init_45 cb_7 ?_
  refine ev_newa (pc := 47) (n := 7) (b2 := (4, 61)) (t := 20) arI.1 arI.2 rfl (Nat.le_of_ble_eq_true rfl) dX5_init_47 rfl ?_
  refine ev_eqI (show ((l10.length : Int) + 1) = ((l.length : Int) + 6) by omega) ?_
  refine ev_eqS e11 ?_
  refine ev_putFL (pc := 49) flF5_27 rfl rfl dX5_init_49 rfl o11_k ?_
  refine ev_eqS e12 ?_
  refine ev_aload_n (pc := 52) 0 dX5_init_52 rfl rfl ?_
  refine ev_bipush (pc := 53) (x := 7) dX5_init_53 cb_7 ?_
  refine ev_newa (pc := 55) (n := 7) (b2 := (3, 54)) (t := 20) arI.1 arI.2 rfl (Nat.le_of_ble_eq_true rfl) dX5_init_55 rfl ?_
  refine ev_eqI (show ((l12.length : Int) + 1) = ((l.length : Int) + 7) by omega) ?_
  refine ev_eqS e13 ?_
  refine ev_putFL (pc := 57) flF5_30 rfl rfl dX5_init_57 rfl o13_k ?_
  refine ev_eqS e14 ?_
  refine ev_aload_n (pc := 60) 0 dX5_init_60 rfl rfl ?_
  refine ev_bipush (pc := 61) (x := 7) dX5_init_61 cb_7 ?_
  refine ev_newa (pc := 63) (n := 7) (b2 := (2, 47)) (t := 20) arI.1 arI.2 rfl (Nat.le_of_ble_eq_true rfl) dX5_init_63 rfl ?_
  refine ev_eqI (show ((l14.length : Int) + 1) = ((l.length : Int) + 8) by omega) ?_
  refine ev_eqS e15 ?_
  refine ev_putFL (pc := 65) flF5_33 rfl rfl dX5_init_65 rfl o15_k ?_
  refine ev_eqS e16 ?_
  refine ev_aload_n (pc := 68) 0 dX5_init_68 rfl rfl ?_
  refine ev_bipush (pc := 69) (x := 7) dX5_init_69 cb_7 ?_
  refine ev_newa (pc := 71) (n := 7) (b2 := (1, 40)) (t := 20) arI.1 arI.2 rfl (Nat.le_of_ble_eq_true rfl) dX5_init_71 rfl ?_
  refine ev_eqI (show ((l16.length : Int) + 1) = ((l.length : Int) + 9) by omega) ?_
  refine ev_eqS e17 ?_
  refine ev_putFL (pc := 73) flF5_36 rfl rfl dX5_init_73 rfl o17_k ?_
  refine ev_eqS e18 ?_
  refine ev_aload_n (pc := 76) 0 dX5_init_76 rfl rfl ?_
  refine ev_bipush (pc := 77) (x := 83) dX5_init_77 cb_83 ?_
  refine ev_putIL (pc := 79) fl5_39 rfl dX5_init_79 o18_k ?_
  refine ev_eqS e19 ?_
  refine ev_aload_n (pc := 82) 0 dX5_init_82 rfl rfl ?_
  refine ev_bipush (pc := 83) (x := 40) dX5_init_83 cb_40 ?_
  refine ev_newa (pc := 85) (n := 40) (b2 := (0, 0)) (t := 20) arI.1 arI.2 rfl (Nat.le_of_ble_eq_true rfl) dX5_init_85 rfl ?_
  refine ev_eqI (show ((l19.length : Int) + 1) = ((l.length : Int) + 10) by omega) ?_
  refine ev_eqS e20 ?_
  refine ev_putFL (pc := 87) flF5_43 rfl rfl dX5_init_87 rfl o20_k ?_
  refine ev_eqS e21 ?_
  exact ev_vret (pc := 90) dX5_init_90 rfl
def c_X6 (k : Int) (l : CL) : CL := clR ((clR ((clR ((clR ((clR ((clR (l ++ [((20, 24), [], [])]) k 1 ((l.length : Int) + 1)) ++ [((20, 96), [], [])]) k 2 ((l.length : Int) + 2)) ++ [((20, 300), [], [])]) k 4 ((l.length : Int) + 3)) ++ [((20, 300), [], [])]) k 5 ((l.length : Int) + 4)) ++ [((20, 5), [], [])]) k 6 ((l.length : Int) + 5)) ++ [((20, 5), [], [])]) k 7 ((l.length : Int) + 6)
set_option maxRecDepth 100000 in
set_option maxHeartbeats 8000000 in
theorem c_X6_ok {k : Int} {l : CL} (ok : okC l k (6, 8)) : ((c_X6 k l).length = l.length + 6 ∧ Grows l (c_X6 k l) k) ∧ ∀ {g : Gm} {d : Nat}, 1 ≤ d → EvM g d mtX6_init [vR k] (sgL l) (6, 730) vN (sgL (c_X6 k l)) := by
  obtain ⟨l1, e1⟩ : ∃ z : CL, z = l ++ [((20, 24), [], [])] := ⟨_, rfl⟩
  have n1 : l1.length = l.length + 1 := by rw [e1, List.length_append]; show l.length + 1 = _; omega
  have G1 : Grows l l1 k := by rw [e1]; exact Grows.rf.app
  have o1_k : okC l1 k (6, 8) := by rw [e1]; exact ok.app
  obtain ⟨l2, e2⟩ : ∃ z : CL, z = clR l1 k 1 ((l.length : Int) + 1) := ⟨_, rfl⟩
  have n2 : l2.length = l.length + 1 := by rw [e2, clR_len]; omega
  have G2 : Grows l l2 k := by rw [e2]; exact G1.setR o1_k.1 o1_k.2.1 (Or.inl rfl)
  have o2_k : okC l2 k (6, 8) := by rw [e2]; exact okC.ofR o1_k o1_k
  obtain ⟨l3, e3⟩ : ∃ z : CL, z = l2 ++ [((20, 96), [], [])] := ⟨_, rfl⟩
  have n3 : l3.length = l.length + 2 := by rw [e3, List.length_append]; show l2.length + 1 = _; omega
  have G3 : Grows l l3 k := by rw [e3]; exact G2.app
  have o3_k : okC l3 k (6, 8) := by rw [e3]; exact o2_k.app
  obtain ⟨l4, e4⟩ : ∃ z : CL, z = clR l3 k 2 ((l.length : Int) + 2) := ⟨_, rfl⟩
  have n4 : l4.length = l.length + 2 := by rw [e4, clR_len]; omega
  have G4 : Grows l l4 k := by rw [e4]; exact G3.setR o3_k.1 o3_k.2.1 (Or.inl rfl)
  have o4_k : okC l4 k (6, 8) := by rw [e4]; exact okC.ofR o3_k o3_k
  obtain ⟨l5, e5⟩ : ∃ z : CL, z = l4 ++ [((20, 300), [], [])] := ⟨_, rfl⟩
  have n5 : l5.length = l.length + 3 := by rw [e5, List.length_append]; show l4.length + 1 = _; omega
  have G5 : Grows l l5 k := by rw [e5]; exact G4.app
  have o5_k : okC l5 k (6, 8) := by rw [e5]; exact o4_k.app
  obtain ⟨l6, e6⟩ : ∃ z : CL, z = clR l5 k 4 ((l.length : Int) + 3) := ⟨_, rfl⟩
  have n6 : l6.length = l.length + 3 := by rw [e6, clR_len]; omega
  have G6 : Grows l l6 k := by rw [e6]; exact G5.setR o5_k.1 o5_k.2.1 (Or.inl rfl)
  have o6_k : okC l6 k (6, 8) := by rw [e6]; exact okC.ofR o5_k o5_k
  obtain ⟨l7, e7⟩ : ∃ z : CL, z = l6 ++ [((20, 300), [], [])] := ⟨_, rfl⟩
  have n7 : l7.length = l.length + 4 := by rw [e7, List.length_append]; show l6.length + 1 = _; omega
  have G7 : Grows l l7 k := by rw [e7]; exact G6.app
  have o7_k : okC l7 k (6, 8) := by rw [e7]; exact o6_k.app
  obtain ⟨l8, e8⟩ : ∃ z : CL, z = clR l7 k 5 ((l.length : Int) + 4) := ⟨_, rfl⟩
  have n8 : l8.length = l.length + 4 := by rw [e8, clR_len]; omega
  have G8 : Grows l l8 k := by rw [e8]; exact G7.setR o7_k.1 o7_k.2.1 (Or.inl rfl)
  have o8_k : okC l8 k (6, 8) := by rw [e8]; exact okC.ofR o7_k o7_k
  obtain ⟨l9, e9⟩ : ∃ z : CL, z = l8 ++ [((20, 5), [], [])] := ⟨_, rfl⟩
  have n9 : l9.length = l.length + 5 := by rw [e9, List.length_append]; show l8.length + 1 = _; omega
  have G9 : Grows l l9 k := by rw [e9]; exact G8.app
  have o9_k : okC l9 k (6, 8) := by rw [e9]; exact o8_k.app
  obtain ⟨l10, e10⟩ : ∃ z : CL, z = clR l9 k 6 ((l.length : Int) + 5) := ⟨_, rfl⟩
  have n10 : l10.length = l.length + 5 := by rw [e10, clR_len]; omega
  have G10 : Grows l l10 k := by rw [e10]; exact G9.setR o9_k.1 o9_k.2.1 (Or.inl rfl)
  have o10_k : okC l10 k (6, 8) := by rw [e10]; exact okC.ofR o9_k o9_k
  obtain ⟨l11, e11⟩ : ∃ z : CL, z = l10 ++ [((20, 5), [], [])] := ⟨_, rfl⟩
  have n11 : l11.length = l.length + 6 := by rw [e11, List.length_append]; show l10.length + 1 = _; omega
  have G11 : Grows l l11 k := by rw [e11]; exact G10.app
  have o11_k : okC l11 k (6, 8) := by rw [e11]; exact o10_k.app
  obtain ⟨l12, e12⟩ : ∃ z : CL, z = clR l11 k 7 ((l.length : Int) + 6) := ⟨_, rfl⟩
  have n12 : l12.length = l.length + 6 := by rw [e12, clR_len]; omega
  have G12 : Grows l l12 k := by rw [e12]; exact G11.setR o11_k.1 o11_k.2.1 (Or.inl rfl)
  have o12_k : okC l12 k (6, 8) := by rw [e12]; exact okC.ofR o11_k o11_k
  have eF : c_X6 k l = l12 := by rw [e12, e11, e10, e9, e8, e7, e6, e5, e4, e3, e2, e1, c_X6]
  rw [eF]
  refine ⟨⟨n12, G12⟩, fun {g d} hd => ?_⟩
  refine EvM.of mkX6_init.2.2.2.1 (Nat.le_of_ble_eq_true rfl) ?_
  change Ev g d mtX6_init 0 [(0, vR k)] [] (sgL l) (6, 730) vN (sgL l12)
  refine ev_aload_n (pc := 0) 0 dX6_init_0 rfl rfl ?_
  refine ev_objInit (pc := 1) rfl ob6_3 (by have h9 := ok.1; omega) (Nat.le_of_ble_eq_true rfl) (by omega) dX6_init_1 ?_
  refine ev_aload_n (pc := 4) 0 dX6_init_4 rfl rfl ?_
  refine ev_bipush (pc := 5) (x := 24) dX6_init_5 cb_24 ?_
  refine ev_newa (pc := 7) (n := 24) (b2 := (5, 706)) (t := 20) arI.1 arI.2 rfl (Nat.le_of_ble_eq_true rfl) dX6_init_7 rfl ?_
  refine ev_eqI (show ((l.length : Int) + 1) = ((l.length : Int) + 1) by omega) ?_
  refine ev_eqS e1 ?_
  refine ev_putFL (pc := 9) flF6_9 rfl rfl dX6_init_9 rfl o1_k ?_
  refine ev_eqS e2 ?_
  refine ev_aload_n (pc := 12) 0 dX6_init_12 rfl rfl ?_
  refine ev_bipush (pc := 13) (x := 96) dX6_init_13 cb_96 ?_
  refine ev_newa (pc := 15) (n := 96) (b2 := (4, 610)) (t := 20) arI.1 arI.2 rfl (Nat.le_of_ble_eq_true rfl) dX6_init_15 rfl ?_
  refine ev_eqI (show ((l2.length : Int) + 1) = ((l.length : Int) + 2) by omega) ?_
  refine ev_eqS e3 ?_
  refine ev_putFL (pc := 17) flF6_15 rfl rfl dX6_init_17 rfl o3_k ?_
  refine ev_eqS e4 ?_
  refine ev_aload_n (pc := 20) 0 dX6_init_20 rfl rfl ?_
  refine ev_sipush (pc := 21) (x := 300) dX6_init_21 cs_300 ?_
  refine ev_newa (pc := 24) (n := 300) (b2 := (3, 310)) (t := 20) arI.1 arI.2 rfl (Nat.le_of_ble_eq_true rfl) dX6_init_24 rfl ?_
  refine ev_eqI (show ((l4.length : Int) + 1) = ((l.length : Int) + 3) by omega) ?_
  refine ev_eqS e5 ?_
  refine ev_putFL (pc := 26) flF6_18 rfl rfl dX6_init_26 rfl o5_k ?_
  refine ev_eqS e6 ?_
  refine ev_aload_n (pc := 29) 0 dX6_init_29 rfl rfl ?_
  refine ev_sipush (pc := 30) (x := 300) dX6_init_30 cs_300 ?_
  refine ev_newa (pc := 33) (n := 300) (b2 := (2, 10)) (t := 20) arI.1 arI.2 rfl (Nat.le_of_ble_eq_true rfl) dX6_init_33 rfl ?_
  refine ev_eqI (show ((l6.length : Int) + 1) = ((l.length : Int) + 4) by omega) ?_
  refine ev_eqS e7 ?_
  refine ev_putFL (pc := 35) flF6_21 rfl rfl dX6_init_35 rfl o7_k ?_
  refine ev_eqS e8 ?_
  refine ev_aload_n (pc := 38) 0 dX6_init_38 rfl rfl ?_
  refine ev_iconst (pc := 39) (x := 5) dX6_init_39 ci_5 ?_
  refine ev_newa (pc := 40) (n := 5) (b2 := (1, 5)) (t := 20) arI.1 arI.2 rfl (Nat.le_of_ble_eq_true rfl) dX6_init_40 rfl ?_
  refine ev_eqI (show ((l8.length : Int) + 1) = ((l.length : Int) + 5) by omega) ?_
  refine ev_eqS e9 ?_
  refine ev_putFL (pc := 42) flF6_24 rfl rfl dX6_init_42 rfl o9_k ?_
  refine ev_eqS e10 ?_
  refine ev_aload_n (pc := 45) 0 dX6_init_45 rfl rfl ?_
  refine ev_iconst (pc := 46) (x := 5) dX6_init_46 ci_5 ?_
  refine ev_newa (pc := 47) (n := 5) (b2 := (0, 0)) (t := 20) arI.1 arI.2 rfl (Nat.le_of_ble_eq_true rfl) dX6_init_47 rfl ?_
  refine ev_eqI (show ((l10.length : Int) + 1) = ((l.length : Int) + 6) by omega) ?_
  refine ev_eqS e11 ?_
  refine ev_putFL (pc := 49) flF6_27 rfl rfl dX6_init_49 rfl o11_k ?_
  refine ev_eqS e12 ?_
  exact ev_vret (pc := 52) dX6_init_52 rfl
def c_X0 (k : Int) (l : CL) : CL := clR (c_X5 ((l.length : Int) + 321) ((clR (c_X5 ((l.length : Int) + 310) ((clR (c_X5 ((l.length : Int) + 299) ((clR (c_X5 ((l.length : Int) + 288) ((clR (c_X5 ((l.length : Int) + 277) ((clR (c_X5 ((l.length : Int) + 266) ((clR (c_X5 ((l.length : Int) + 255) ((clR (c_X5 ((l.length : Int) + 244) ((clR (c_X5 ((l.length : Int) + 233) ((clR (c_X5 ((l.length : Int) + 222) ((clR (c_X5 ((l.length : Int) + 211) ((clR (c_X5 ((l.length : Int) + 200) ((clR (c_X5 ((l.length : Int) + 189) ((clR (c_X5 ((l.length : Int) + 178) ((clR (c_X5 ((l.length : Int) + 167) ((clR (c_X5 ((l.length : Int) + 156) ((clR (c_X5 ((l.length : Int) + 145) ((clR (c_X5 ((l.length : Int) + 134) ((clR (c_X5 ((l.length : Int) + 123) ((clR (c_X5 ((l.length : Int) + 112) ((clR (c_X5 ((l.length : Int) + 101) ((clR (c_X5 ((l.length : Int) + 90) ((clR (c_X5 ((l.length : Int) + 79) ((clR (c_X5 ((l.length : Int) + 68) ((clR (c_X5 ((l.length : Int) + 57) ((clR (c_X5 ((l.length : Int) + 46) ((clR (c_X5 ((l.length : Int) + 35) ((clR (c_X5 ((l.length : Int) + 24) ((clR (c_X5 ((l.length : Int) + 13) ((clR (c_X5 ((l.length : Int) + 2) ((clR (l ++ [((24, 30), [], [])]) k 0 ((l.length : Int) + 1)) ++ [((5, 17), [], [])])) ((l.length : Int) + 1) 0 ((l.length : Int) + 2)) ++ [((5, 17), [], [])])) ((l.length : Int) + 1) 1 ((l.length : Int) + 13)) ++ [((5, 17), [], [])])) ((l.length : Int) + 1) 2 ((l.length : Int) + 24)) ++ [((5, 17), [], [])])) ((l.length : Int) + 1) 3 ((l.length : Int) + 35)) ++ [((5, 17), [], [])])) ((l.length : Int) + 1) 4 ((l.length : Int) + 46)) ++ [((5, 17), [], [])])) ((l.length : Int) + 1) 5 ((l.length : Int) + 57)) ++ [((5, 17), [], [])])) ((l.length : Int) + 1) 6 ((l.length : Int) + 68)) ++ [((5, 17), [], [])])) ((l.length : Int) + 1) 7 ((l.length : Int) + 79)) ++ [((5, 17), [], [])])) ((l.length : Int) + 1) 8 ((l.length : Int) + 90)) ++ [((5, 17), [], [])])) ((l.length : Int) + 1) 9 ((l.length : Int) + 101)) ++ [((5, 17), [], [])])) ((l.length : Int) + 1) 10 ((l.length : Int) + 112)) ++ [((5, 17), [], [])])) ((l.length : Int) + 1) 11 ((l.length : Int) + 123)) ++ [((5, 17), [], [])])) ((l.length : Int) + 1) 12 ((l.length : Int) + 134)) ++ [((5, 17), [], [])])) ((l.length : Int) + 1) 13 ((l.length : Int) + 145)) ++ [((5, 17), [], [])])) ((l.length : Int) + 1) 14 ((l.length : Int) + 156)) ++ [((5, 17), [], [])])) ((l.length : Int) + 1) 15 ((l.length : Int) + 167)) ++ [((5, 17), [], [])])) ((l.length : Int) + 1) 16 ((l.length : Int) + 178)) ++ [((5, 17), [], [])])) ((l.length : Int) + 1) 17 ((l.length : Int) + 189)) ++ [((5, 17), [], [])])) ((l.length : Int) + 1) 18 ((l.length : Int) + 200)) ++ [((5, 17), [], [])])) ((l.length : Int) + 1) 19 ((l.length : Int) + 211)) ++ [((5, 17), [], [])])) ((l.length : Int) + 1) 20 ((l.length : Int) + 222)) ++ [((5, 17), [], [])])) ((l.length : Int) + 1) 21 ((l.length : Int) + 233)) ++ [((5, 17), [], [])])) ((l.length : Int) + 1) 22 ((l.length : Int) + 244)) ++ [((5, 17), [], [])])) ((l.length : Int) + 1) 23 ((l.length : Int) + 255)) ++ [((5, 17), [], [])])) ((l.length : Int) + 1) 24 ((l.length : Int) + 266)) ++ [((5, 17), [], [])])) ((l.length : Int) + 1) 25 ((l.length : Int) + 277)) ++ [((5, 17), [], [])])) ((l.length : Int) + 1) 26 ((l.length : Int) + 288)) ++ [((5, 17), [], [])])) ((l.length : Int) + 1) 27 ((l.length : Int) + 299)) ++ [((5, 17), [], [])])) ((l.length : Int) + 1) 28 ((l.length : Int) + 310)) ++ [((5, 17), [], [])])) ((l.length : Int) + 1) 29 ((l.length : Int) + 321)
set_option maxRecDepth 100000 in
set_option maxHeartbeats 8000000 in
theorem c_X0_ok {k : Int} {l : CL} (ok : okC l k (0, 3)) : ((c_X0 k l).length = l.length + 331 ∧ Grows l (c_X0 k l) k) ∧ ∀ {g : Gm} {d : Nat}, 2 ≤ d → EvM g d mtX0_init [vR k] (sgL l) (331, 3930) vN (sgL (c_X0 k l)) := by
  obtain ⟨l1, e1⟩ : ∃ z : CL, z = l ++ [((24, 30), [], [])] := ⟨_, rfl⟩
  have n1 : l1.length = l.length + 1 := by rw [e1, List.length_append]; show l.length + 1 = _; omega
  have G1 : Grows l l1 k := by rw [e1]; exact Grows.rf.app
  have o1_k : okC l1 k (0, 3) := by rw [e1]; exact ok.app
  have o1_1 : okC l1 ((l.length : Int) + 1) (24, 30) := by rw [e1]; exact okC.mk1 (by omega) rfl
  obtain ⟨l2, e2⟩ : ∃ z : CL, z = clR l1 k 0 ((l.length : Int) + 1) := ⟨_, rfl⟩
  have n2 : l2.length = l.length + 1 := by rw [e2, clR_len]; omega
  have G2 : Grows l l2 k := by rw [e2]; exact G1.setR o1_k.1 o1_k.2.1 (Or.inl rfl)
  have o2_k : okC l2 k (0, 3) := by rw [e2]; exact okC.ofR o1_k o1_k
  have o2_1 : okC l2 ((l.length : Int) + 1) (24, 30) := by rw [e2]; exact okC.ofR o1_k o1_1
  have f2_k_0 : fldR l2 k 0 ((l.length : Int) + 1) := by rw [e2]; exact fld_Rnew o1_k
  obtain ⟨l3, e3⟩ : ∃ z : CL, z = l2 ++ [((5, 17), [], [])] := ⟨_, rfl⟩
  have n3 : l3.length = l.length + 2 := by rw [e3, List.length_append]; show l2.length + 1 = _; omega
  have G3 : Grows l l3 k := by rw [e3]; exact G2.app
  have o3_k : okC l3 k (0, 3) := by rw [e3]; exact o2_k.app
  have o3_1 : okC l3 ((l.length : Int) + 1) (24, 30) := by rw [e3]; exact o2_1.app
  have f3_k_0 : fldR l3 k 0 ((l.length : Int) + 1) := by rw [e3]; exact fld_app o2_k f2_k_0
  have o3_2 : okC l3 ((l.length : Int) + 2) (5, 17) := by rw [e3]; exact okC.mk1 (by omega) rfl
  obtain ⟨l4, e4⟩ : ∃ z : CL, z = c_X5 ((l.length : Int) + 2) l3 := ⟨_, rfl⟩
  have C4 := c_X5_ok o3_2
  have n4 : l4.length = l.length + 12 := by have h9 := C4.1.1; rw [e4]; omega
  have G4 : Grows l l4 k := by rw [e4]; exact G3.tr C4.1.2.1 (Or.inr (by omega))
  have o4_k : okC l4 k (0, 3) := by rw [e4]; exact o3_k.grow C4.1.2.1
  have o4_1 : okC l4 ((l.length : Int) + 1) (24, 30) := by rw [e4]; exact o3_1.grow C4.1.2.1
  have o4_2 : okC l4 ((l.length : Int) + 2) (5, 17) := by rw [e4]; exact o3_2.grow C4.1.2.1
  have f4_k_0 : fldR l4 k 0 ((l.length : Int) + 1) := by rw [e4]; exact fld_grow o3_k C4.1.2.1 (by have h9 := o3_k.2.1; omega) f3_k_0
  obtain ⟨l5, e5⟩ : ∃ z : CL, z = clR l4 ((l.length : Int) + 1) 0 ((l.length : Int) + 2) := ⟨_, rfl⟩
  have n5 : l5.length = l.length + 12 := by rw [e5, clR_len]; omega
  have G5 : Grows l l5 k := by rw [e5]; exact G4.setR o4_1.1 o4_1.2.1 (Or.inr (by omega))
  have o5_k : okC l5 k (0, 3) := by rw [e5]; exact okC.ofR o4_1 o4_k
  have o5_1 : okC l5 ((l.length : Int) + 1) (24, 30) := by rw [e5]; exact okC.ofR o4_1 o4_1
  have f5_k_0 : fldR l5 k 0 ((l.length : Int) + 1) := by rw [e5]; exact fld_Rne o4_1 o4_k (by have h9 := o4_k.2.1; omega) f4_k_0
  obtain ⟨l6, e6⟩ : ∃ z : CL, z = l5 ++ [((5, 17), [], [])] := ⟨_, rfl⟩
  have n6 : l6.length = l.length + 13 := by rw [e6, List.length_append]; show l5.length + 1 = _; omega
  have G6 : Grows l l6 k := by rw [e6]; exact G5.app
  have o6_k : okC l6 k (0, 3) := by rw [e6]; exact o5_k.app
  have o6_1 : okC l6 ((l.length : Int) + 1) (24, 30) := by rw [e6]; exact o5_1.app
  have f6_k_0 : fldR l6 k 0 ((l.length : Int) + 1) := by rw [e6]; exact fld_app o5_k f5_k_0
  have o6_13 : okC l6 ((l.length : Int) + 13) (5, 17) := by rw [e6]; exact okC.mk1 (by omega) rfl
  obtain ⟨l7, e7⟩ : ∃ z : CL, z = c_X5 ((l.length : Int) + 13) l6 := ⟨_, rfl⟩
  have C7 := c_X5_ok o6_13
  have n7 : l7.length = l.length + 23 := by have h9 := C7.1.1; rw [e7]; omega
  have G7 : Grows l l7 k := by rw [e7]; exact G6.tr C7.1.2.1 (Or.inr (by omega))
  have o7_k : okC l7 k (0, 3) := by rw [e7]; exact o6_k.grow C7.1.2.1
  have o7_1 : okC l7 ((l.length : Int) + 1) (24, 30) := by rw [e7]; exact o6_1.grow C7.1.2.1
  have o7_13 : okC l7 ((l.length : Int) + 13) (5, 17) := by rw [e7]; exact o6_13.grow C7.1.2.1
  have f7_k_0 : fldR l7 k 0 ((l.length : Int) + 1) := by rw [e7]; exact fld_grow o6_k C7.1.2.1 (by have h9 := o6_k.2.1; omega) f6_k_0
  obtain ⟨l8, e8⟩ : ∃ z : CL, z = clR l7 ((l.length : Int) + 1) 1 ((l.length : Int) + 13) := ⟨_, rfl⟩
  have n8 : l8.length = l.length + 23 := by rw [e8, clR_len]; omega
  have G8 : Grows l l8 k := by rw [e8]; exact G7.setR o7_1.1 o7_1.2.1 (Or.inr (by omega))
  have o8_k : okC l8 k (0, 3) := by rw [e8]; exact okC.ofR o7_1 o7_k
  have o8_1 : okC l8 ((l.length : Int) + 1) (24, 30) := by rw [e8]; exact okC.ofR o7_1 o7_1
  have f8_k_0 : fldR l8 k 0 ((l.length : Int) + 1) := by rw [e8]; exact fld_Rne o7_1 o7_k (by have h9 := o7_k.2.1; omega) f7_k_0
  obtain ⟨l9, e9⟩ : ∃ z : CL, z = l8 ++ [((5, 17), [], [])] := ⟨_, rfl⟩
  have n9 : l9.length = l.length + 24 := by rw [e9, List.length_append]; show l8.length + 1 = _; omega
  have G9 : Grows l l9 k := by rw [e9]; exact G8.app
  have o9_k : okC l9 k (0, 3) := by rw [e9]; exact o8_k.app
  have o9_1 : okC l9 ((l.length : Int) + 1) (24, 30) := by rw [e9]; exact o8_1.app
  have f9_k_0 : fldR l9 k 0 ((l.length : Int) + 1) := by rw [e9]; exact fld_app o8_k f8_k_0
  have o9_24 : okC l9 ((l.length : Int) + 24) (5, 17) := by rw [e9]; exact okC.mk1 (by omega) rfl
  obtain ⟨l10, e10⟩ : ∃ z : CL, z = c_X5 ((l.length : Int) + 24) l9 := ⟨_, rfl⟩
  have C10 := c_X5_ok o9_24
  have n10 : l10.length = l.length + 34 := by have h9 := C10.1.1; rw [e10]; omega
  have G10 : Grows l l10 k := by rw [e10]; exact G9.tr C10.1.2.1 (Or.inr (by omega))
  have o10_k : okC l10 k (0, 3) := by rw [e10]; exact o9_k.grow C10.1.2.1
  have o10_1 : okC l10 ((l.length : Int) + 1) (24, 30) := by rw [e10]; exact o9_1.grow C10.1.2.1
  have o10_24 : okC l10 ((l.length : Int) + 24) (5, 17) := by rw [e10]; exact o9_24.grow C10.1.2.1
  have f10_k_0 : fldR l10 k 0 ((l.length : Int) + 1) := by rw [e10]; exact fld_grow o9_k C10.1.2.1 (by have h9 := o9_k.2.1; omega) f9_k_0
  obtain ⟨l11, e11⟩ : ∃ z : CL, z = clR l10 ((l.length : Int) + 1) 2 ((l.length : Int) + 24) := ⟨_, rfl⟩
  have n11 : l11.length = l.length + 34 := by rw [e11, clR_len]; omega
  have G11 : Grows l l11 k := by rw [e11]; exact G10.setR o10_1.1 o10_1.2.1 (Or.inr (by omega))
  have o11_k : okC l11 k (0, 3) := by rw [e11]; exact okC.ofR o10_1 o10_k
  have o11_1 : okC l11 ((l.length : Int) + 1) (24, 30) := by rw [e11]; exact okC.ofR o10_1 o10_1
  have f11_k_0 : fldR l11 k 0 ((l.length : Int) + 1) := by rw [e11]; exact fld_Rne o10_1 o10_k (by have h9 := o10_k.2.1; omega) f10_k_0
  obtain ⟨l12, e12⟩ : ∃ z : CL, z = l11 ++ [((5, 17), [], [])] := ⟨_, rfl⟩
  have n12 : l12.length = l.length + 35 := by rw [e12, List.length_append]; show l11.length + 1 = _; omega
  have G12 : Grows l l12 k := by rw [e12]; exact G11.app
  have o12_k : okC l12 k (0, 3) := by rw [e12]; exact o11_k.app
  have o12_1 : okC l12 ((l.length : Int) + 1) (24, 30) := by rw [e12]; exact o11_1.app
  have f12_k_0 : fldR l12 k 0 ((l.length : Int) + 1) := by rw [e12]; exact fld_app o11_k f11_k_0
  have o12_35 : okC l12 ((l.length : Int) + 35) (5, 17) := by rw [e12]; exact okC.mk1 (by omega) rfl
  obtain ⟨l13, e13⟩ : ∃ z : CL, z = c_X5 ((l.length : Int) + 35) l12 := ⟨_, rfl⟩
  have C13 := c_X5_ok o12_35
  have n13 : l13.length = l.length + 45 := by have h9 := C13.1.1; rw [e13]; omega
  have G13 : Grows l l13 k := by rw [e13]; exact G12.tr C13.1.2.1 (Or.inr (by omega))
  have o13_k : okC l13 k (0, 3) := by rw [e13]; exact o12_k.grow C13.1.2.1
  have o13_1 : okC l13 ((l.length : Int) + 1) (24, 30) := by rw [e13]; exact o12_1.grow C13.1.2.1
  have o13_35 : okC l13 ((l.length : Int) + 35) (5, 17) := by rw [e13]; exact o12_35.grow C13.1.2.1
  have f13_k_0 : fldR l13 k 0 ((l.length : Int) + 1) := by rw [e13]; exact fld_grow o12_k C13.1.2.1 (by have h9 := o12_k.2.1; omega) f12_k_0
  obtain ⟨l14, e14⟩ : ∃ z : CL, z = clR l13 ((l.length : Int) + 1) 3 ((l.length : Int) + 35) := ⟨_, rfl⟩
  have n14 : l14.length = l.length + 45 := by rw [e14, clR_len]; omega
  have G14 : Grows l l14 k := by rw [e14]; exact G13.setR o13_1.1 o13_1.2.1 (Or.inr (by omega))
  have o14_k : okC l14 k (0, 3) := by rw [e14]; exact okC.ofR o13_1 o13_k
  have o14_1 : okC l14 ((l.length : Int) + 1) (24, 30) := by rw [e14]; exact okC.ofR o13_1 o13_1
  have f14_k_0 : fldR l14 k 0 ((l.length : Int) + 1) := by rw [e14]; exact fld_Rne o13_1 o13_k (by have h9 := o13_k.2.1; omega) f13_k_0
  obtain ⟨l15, e15⟩ : ∃ z : CL, z = l14 ++ [((5, 17), [], [])] := ⟨_, rfl⟩
  have n15 : l15.length = l.length + 46 := by rw [e15, List.length_append]; show l14.length + 1 = _; omega
  have G15 : Grows l l15 k := by rw [e15]; exact G14.app
  have o15_k : okC l15 k (0, 3) := by rw [e15]; exact o14_k.app
  have o15_1 : okC l15 ((l.length : Int) + 1) (24, 30) := by rw [e15]; exact o14_1.app
  have f15_k_0 : fldR l15 k 0 ((l.length : Int) + 1) := by rw [e15]; exact fld_app o14_k f14_k_0
  have o15_46 : okC l15 ((l.length : Int) + 46) (5, 17) := by rw [e15]; exact okC.mk1 (by omega) rfl
  obtain ⟨l16, e16⟩ : ∃ z : CL, z = c_X5 ((l.length : Int) + 46) l15 := ⟨_, rfl⟩
  have C16 := c_X5_ok o15_46
  have n16 : l16.length = l.length + 56 := by have h9 := C16.1.1; rw [e16]; omega
  have G16 : Grows l l16 k := by rw [e16]; exact G15.tr C16.1.2.1 (Or.inr (by omega))
  have o16_k : okC l16 k (0, 3) := by rw [e16]; exact o15_k.grow C16.1.2.1
  have o16_1 : okC l16 ((l.length : Int) + 1) (24, 30) := by rw [e16]; exact o15_1.grow C16.1.2.1
  have o16_46 : okC l16 ((l.length : Int) + 46) (5, 17) := by rw [e16]; exact o15_46.grow C16.1.2.1
  have f16_k_0 : fldR l16 k 0 ((l.length : Int) + 1) := by rw [e16]; exact fld_grow o15_k C16.1.2.1 (by have h9 := o15_k.2.1; omega) f15_k_0
  obtain ⟨l17, e17⟩ : ∃ z : CL, z = clR l16 ((l.length : Int) + 1) 4 ((l.length : Int) + 46) := ⟨_, rfl⟩
  have n17 : l17.length = l.length + 56 := by rw [e17, clR_len]; omega
  have G17 : Grows l l17 k := by rw [e17]; exact G16.setR o16_1.1 o16_1.2.1 (Or.inr (by omega))
  have o17_k : okC l17 k (0, 3) := by rw [e17]; exact okC.ofR o16_1 o16_k
  have o17_1 : okC l17 ((l.length : Int) + 1) (24, 30) := by rw [e17]; exact okC.ofR o16_1 o16_1
  have f17_k_0 : fldR l17 k 0 ((l.length : Int) + 1) := by rw [e17]; exact fld_Rne o16_1 o16_k (by have h9 := o16_k.2.1; omega) f16_k_0
  obtain ⟨l18, e18⟩ : ∃ z : CL, z = l17 ++ [((5, 17), [], [])] := ⟨_, rfl⟩
  have n18 : l18.length = l.length + 57 := by rw [e18, List.length_append]; show l17.length + 1 = _; omega
  have G18 : Grows l l18 k := by rw [e18]; exact G17.app
  have o18_k : okC l18 k (0, 3) := by rw [e18]; exact o17_k.app
  have o18_1 : okC l18 ((l.length : Int) + 1) (24, 30) := by rw [e18]; exact o17_1.app
  have f18_k_0 : fldR l18 k 0 ((l.length : Int) + 1) := by rw [e18]; exact fld_app o17_k f17_k_0
  have o18_57 : okC l18 ((l.length : Int) + 57) (5, 17) := by rw [e18]; exact okC.mk1 (by omega) rfl
  obtain ⟨l19, e19⟩ : ∃ z : CL, z = c_X5 ((l.length : Int) + 57) l18 := ⟨_, rfl⟩
  have C19 := c_X5_ok o18_57
  have n19 : l19.length = l.length + 67 := by have h9 := C19.1.1; rw [e19]; omega
  have G19 : Grows l l19 k := by rw [e19]; exact G18.tr C19.1.2.1 (Or.inr (by omega))
  have o19_k : okC l19 k (0, 3) := by rw [e19]; exact o18_k.grow C19.1.2.1
  have o19_1 : okC l19 ((l.length : Int) + 1) (24, 30) := by rw [e19]; exact o18_1.grow C19.1.2.1
  have o19_57 : okC l19 ((l.length : Int) + 57) (5, 17) := by rw [e19]; exact o18_57.grow C19.1.2.1
  have f19_k_0 : fldR l19 k 0 ((l.length : Int) + 1) := by rw [e19]; exact fld_grow o18_k C19.1.2.1 (by have h9 := o18_k.2.1; omega) f18_k_0
  obtain ⟨l20, e20⟩ : ∃ z : CL, z = clR l19 ((l.length : Int) + 1) 5 ((l.length : Int) + 57) := ⟨_, rfl⟩
  have n20 : l20.length = l.length + 67 := by rw [e20, clR_len]; omega
  have G20 : Grows l l20 k := by rw [e20]; exact G19.setR o19_1.1 o19_1.2.1 (Or.inr (by omega))
  have o20_k : okC l20 k (0, 3) := by rw [e20]; exact okC.ofR o19_1 o19_k
  have o20_1 : okC l20 ((l.length : Int) + 1) (24, 30) := by rw [e20]; exact okC.ofR o19_1 o19_1
  have f20_k_0 : fldR l20 k 0 ((l.length : Int) + 1) := by rw [e20]; exact fld_Rne o19_1 o19_k (by have h9 := o19_k.2.1; omega) f19_k_0
  obtain ⟨l21, e21⟩ : ∃ z : CL, z = l20 ++ [((5, 17), [], [])] := ⟨_, rfl⟩
  have n21 : l21.length = l.length + 68 := by rw [e21, List.length_append]; show l20.length + 1 = _; omega
  have G21 : Grows l l21 k := by rw [e21]; exact G20.app
  have o21_k : okC l21 k (0, 3) := by rw [e21]; exact o20_k.app
  have o21_1 : okC l21 ((l.length : Int) + 1) (24, 30) := by rw [e21]; exact o20_1.app
  have f21_k_0 : fldR l21 k 0 ((l.length : Int) + 1) := by rw [e21]; exact fld_app o20_k f20_k_0
  have o21_68 : okC l21 ((l.length : Int) + 68) (5, 17) := by rw [e21]; exact okC.mk1 (by omega) rfl
  obtain ⟨l22, e22⟩ : ∃ z : CL, z = c_X5 ((l.length : Int) + 68) l21 := ⟨_, rfl⟩
  have C22 := c_X5_ok o21_68
  have n22 : l22.length = l.length + 78 := by have h9 := C22.1.1; rw [e22]; omega
  have G22 : Grows l l22 k := by rw [e22]; exact G21.tr C22.1.2.1 (Or.inr (by omega))
  have o22_k : okC l22 k (0, 3) := by rw [e22]; exact o21_k.grow C22.1.2.1
  have o22_1 : okC l22 ((l.length : Int) + 1) (24, 30) := by rw [e22]; exact o21_1.grow C22.1.2.1
  have o22_68 : okC l22 ((l.length : Int) + 68) (5, 17) := by rw [e22]; exact o21_68.grow C22.1.2.1
  have f22_k_0 : fldR l22 k 0 ((l.length : Int) + 1) := by rw [e22]; exact fld_grow o21_k C22.1.2.1 (by have h9 := o21_k.2.1; omega) f21_k_0
  obtain ⟨l23, e23⟩ : ∃ z : CL, z = clR l22 ((l.length : Int) + 1) 6 ((l.length : Int) + 68) := ⟨_, rfl⟩
  have n23 : l23.length = l.length + 78 := by rw [e23, clR_len]; omega
  have G23 : Grows l l23 k := by rw [e23]; exact G22.setR o22_1.1 o22_1.2.1 (Or.inr (by omega))
  have o23_k : okC l23 k (0, 3) := by rw [e23]; exact okC.ofR o22_1 o22_k
  have o23_1 : okC l23 ((l.length : Int) + 1) (24, 30) := by rw [e23]; exact okC.ofR o22_1 o22_1
  have f23_k_0 : fldR l23 k 0 ((l.length : Int) + 1) := by rw [e23]; exact fld_Rne o22_1 o22_k (by have h9 := o22_k.2.1; omega) f22_k_0
  obtain ⟨l24, e24⟩ : ∃ z : CL, z = l23 ++ [((5, 17), [], [])] := ⟨_, rfl⟩
  have n24 : l24.length = l.length + 79 := by rw [e24, List.length_append]; show l23.length + 1 = _; omega
  have G24 : Grows l l24 k := by rw [e24]; exact G23.app
  have o24_k : okC l24 k (0, 3) := by rw [e24]; exact o23_k.app
  have o24_1 : okC l24 ((l.length : Int) + 1) (24, 30) := by rw [e24]; exact o23_1.app
  have f24_k_0 : fldR l24 k 0 ((l.length : Int) + 1) := by rw [e24]; exact fld_app o23_k f23_k_0
  have o24_79 : okC l24 ((l.length : Int) + 79) (5, 17) := by rw [e24]; exact okC.mk1 (by omega) rfl
  obtain ⟨l25, e25⟩ : ∃ z : CL, z = c_X5 ((l.length : Int) + 79) l24 := ⟨_, rfl⟩
  have C25 := c_X5_ok o24_79
  have n25 : l25.length = l.length + 89 := by have h9 := C25.1.1; rw [e25]; omega
  have G25 : Grows l l25 k := by rw [e25]; exact G24.tr C25.1.2.1 (Or.inr (by omega))
  have o25_k : okC l25 k (0, 3) := by rw [e25]; exact o24_k.grow C25.1.2.1
  have o25_1 : okC l25 ((l.length : Int) + 1) (24, 30) := by rw [e25]; exact o24_1.grow C25.1.2.1
  have o25_79 : okC l25 ((l.length : Int) + 79) (5, 17) := by rw [e25]; exact o24_79.grow C25.1.2.1
  have f25_k_0 : fldR l25 k 0 ((l.length : Int) + 1) := by rw [e25]; exact fld_grow o24_k C25.1.2.1 (by have h9 := o24_k.2.1; omega) f24_k_0
  obtain ⟨l26, e26⟩ : ∃ z : CL, z = clR l25 ((l.length : Int) + 1) 7 ((l.length : Int) + 79) := ⟨_, rfl⟩
  have n26 : l26.length = l.length + 89 := by rw [e26, clR_len]; omega
  have G26 : Grows l l26 k := by rw [e26]; exact G25.setR o25_1.1 o25_1.2.1 (Or.inr (by omega))
  have o26_k : okC l26 k (0, 3) := by rw [e26]; exact okC.ofR o25_1 o25_k
  have o26_1 : okC l26 ((l.length : Int) + 1) (24, 30) := by rw [e26]; exact okC.ofR o25_1 o25_1
  have f26_k_0 : fldR l26 k 0 ((l.length : Int) + 1) := by rw [e26]; exact fld_Rne o25_1 o25_k (by have h9 := o25_k.2.1; omega) f25_k_0
  obtain ⟨l27, e27⟩ : ∃ z : CL, z = l26 ++ [((5, 17), [], [])] := ⟨_, rfl⟩
  have n27 : l27.length = l.length + 90 := by rw [e27, List.length_append]; show l26.length + 1 = _; omega
  have G27 : Grows l l27 k := by rw [e27]; exact G26.app
  have o27_k : okC l27 k (0, 3) := by rw [e27]; exact o26_k.app
  have o27_1 : okC l27 ((l.length : Int) + 1) (24, 30) := by rw [e27]; exact o26_1.app
  have f27_k_0 : fldR l27 k 0 ((l.length : Int) + 1) := by rw [e27]; exact fld_app o26_k f26_k_0
  have o27_90 : okC l27 ((l.length : Int) + 90) (5, 17) := by rw [e27]; exact okC.mk1 (by omega) rfl
  obtain ⟨l28, e28⟩ : ∃ z : CL, z = c_X5 ((l.length : Int) + 90) l27 := ⟨_, rfl⟩
  have C28 := c_X5_ok o27_90
  have n28 : l28.length = l.length + 100 := by have h9 := C28.1.1; rw [e28]; omega
  have G28 : Grows l l28 k := by rw [e28]; exact G27.tr C28.1.2.1 (Or.inr (by omega))
  have o28_k : okC l28 k (0, 3) := by rw [e28]; exact o27_k.grow C28.1.2.1
  have o28_1 : okC l28 ((l.length : Int) + 1) (24, 30) := by rw [e28]; exact o27_1.grow C28.1.2.1
  have o28_90 : okC l28 ((l.length : Int) + 90) (5, 17) := by rw [e28]; exact o27_90.grow C28.1.2.1
  have f28_k_0 : fldR l28 k 0 ((l.length : Int) + 1) := by rw [e28]; exact fld_grow o27_k C28.1.2.1 (by have h9 := o27_k.2.1; omega) f27_k_0
  obtain ⟨l29, e29⟩ : ∃ z : CL, z = clR l28 ((l.length : Int) + 1) 8 ((l.length : Int) + 90) := ⟨_, rfl⟩
  have n29 : l29.length = l.length + 100 := by rw [e29, clR_len]; omega
  have G29 : Grows l l29 k := by rw [e29]; exact G28.setR o28_1.1 o28_1.2.1 (Or.inr (by omega))
  have o29_k : okC l29 k (0, 3) := by rw [e29]; exact okC.ofR o28_1 o28_k
  have o29_1 : okC l29 ((l.length : Int) + 1) (24, 30) := by rw [e29]; exact okC.ofR o28_1 o28_1
  have f29_k_0 : fldR l29 k 0 ((l.length : Int) + 1) := by rw [e29]; exact fld_Rne o28_1 o28_k (by have h9 := o28_k.2.1; omega) f28_k_0
  obtain ⟨l30, e30⟩ : ∃ z : CL, z = l29 ++ [((5, 17), [], [])] := ⟨_, rfl⟩
  have n30 : l30.length = l.length + 101 := by rw [e30, List.length_append]; show l29.length + 1 = _; omega
  have G30 : Grows l l30 k := by rw [e30]; exact G29.app
  have o30_k : okC l30 k (0, 3) := by rw [e30]; exact o29_k.app
  have o30_1 : okC l30 ((l.length : Int) + 1) (24, 30) := by rw [e30]; exact o29_1.app
  have f30_k_0 : fldR l30 k 0 ((l.length : Int) + 1) := by rw [e30]; exact fld_app o29_k f29_k_0
  have o30_101 : okC l30 ((l.length : Int) + 101) (5, 17) := by rw [e30]; exact okC.mk1 (by omega) rfl
  obtain ⟨l31, e31⟩ : ∃ z : CL, z = c_X5 ((l.length : Int) + 101) l30 := ⟨_, rfl⟩
  have C31 := c_X5_ok o30_101
  have n31 : l31.length = l.length + 111 := by have h9 := C31.1.1; rw [e31]; omega
  have G31 : Grows l l31 k := by rw [e31]; exact G30.tr C31.1.2.1 (Or.inr (by omega))
  have o31_k : okC l31 k (0, 3) := by rw [e31]; exact o30_k.grow C31.1.2.1
  have o31_1 : okC l31 ((l.length : Int) + 1) (24, 30) := by rw [e31]; exact o30_1.grow C31.1.2.1
  have o31_101 : okC l31 ((l.length : Int) + 101) (5, 17) := by rw [e31]; exact o30_101.grow C31.1.2.1
  have f31_k_0 : fldR l31 k 0 ((l.length : Int) + 1) := by rw [e31]; exact fld_grow o30_k C31.1.2.1 (by have h9 := o30_k.2.1; omega) f30_k_0
  obtain ⟨l32, e32⟩ : ∃ z : CL, z = clR l31 ((l.length : Int) + 1) 9 ((l.length : Int) + 101) := ⟨_, rfl⟩
  have n32 : l32.length = l.length + 111 := by rw [e32, clR_len]; omega
  have G32 : Grows l l32 k := by rw [e32]; exact G31.setR o31_1.1 o31_1.2.1 (Or.inr (by omega))
  have o32_k : okC l32 k (0, 3) := by rw [e32]; exact okC.ofR o31_1 o31_k
  have o32_1 : okC l32 ((l.length : Int) + 1) (24, 30) := by rw [e32]; exact okC.ofR o31_1 o31_1
  have f32_k_0 : fldR l32 k 0 ((l.length : Int) + 1) := by rw [e32]; exact fld_Rne o31_1 o31_k (by have h9 := o31_k.2.1; omega) f31_k_0
  obtain ⟨l33, e33⟩ : ∃ z : CL, z = l32 ++ [((5, 17), [], [])] := ⟨_, rfl⟩
  have n33 : l33.length = l.length + 112 := by rw [e33, List.length_append]; show l32.length + 1 = _; omega
  have G33 : Grows l l33 k := by rw [e33]; exact G32.app
  have o33_k : okC l33 k (0, 3) := by rw [e33]; exact o32_k.app
  have o33_1 : okC l33 ((l.length : Int) + 1) (24, 30) := by rw [e33]; exact o32_1.app
  have f33_k_0 : fldR l33 k 0 ((l.length : Int) + 1) := by rw [e33]; exact fld_app o32_k f32_k_0
  have o33_112 : okC l33 ((l.length : Int) + 112) (5, 17) := by rw [e33]; exact okC.mk1 (by omega) rfl
  obtain ⟨l34, e34⟩ : ∃ z : CL, z = c_X5 ((l.length : Int) + 112) l33 := ⟨_, rfl⟩
  have C34 := c_X5_ok o33_112
  have n34 : l34.length = l.length + 122 := by have h9 := C34.1.1; rw [e34]; omega
  have G34 : Grows l l34 k := by rw [e34]; exact G33.tr C34.1.2.1 (Or.inr (by omega))
  have o34_k : okC l34 k (0, 3) := by rw [e34]; exact o33_k.grow C34.1.2.1
  have o34_1 : okC l34 ((l.length : Int) + 1) (24, 30) := by rw [e34]; exact o33_1.grow C34.1.2.1
  have o34_112 : okC l34 ((l.length : Int) + 112) (5, 17) := by rw [e34]; exact o33_112.grow C34.1.2.1
  have f34_k_0 : fldR l34 k 0 ((l.length : Int) + 1) := by rw [e34]; exact fld_grow o33_k C34.1.2.1 (by have h9 := o33_k.2.1; omega) f33_k_0
  obtain ⟨l35, e35⟩ : ∃ z : CL, z = clR l34 ((l.length : Int) + 1) 10 ((l.length : Int) + 112) := ⟨_, rfl⟩
  have n35 : l35.length = l.length + 122 := by rw [e35, clR_len]; omega
  have G35 : Grows l l35 k := by rw [e35]; exact G34.setR o34_1.1 o34_1.2.1 (Or.inr (by omega))
  have o35_k : okC l35 k (0, 3) := by rw [e35]; exact okC.ofR o34_1 o34_k
  have o35_1 : okC l35 ((l.length : Int) + 1) (24, 30) := by rw [e35]; exact okC.ofR o34_1 o34_1
  have f35_k_0 : fldR l35 k 0 ((l.length : Int) + 1) := by rw [e35]; exact fld_Rne o34_1 o34_k (by have h9 := o34_k.2.1; omega) f34_k_0
  obtain ⟨l36, e36⟩ : ∃ z : CL, z = l35 ++ [((5, 17), [], [])] := ⟨_, rfl⟩
  have n36 : l36.length = l.length + 123 := by rw [e36, List.length_append]; show l35.length + 1 = _; omega
  have G36 : Grows l l36 k := by rw [e36]; exact G35.app
  have o36_k : okC l36 k (0, 3) := by rw [e36]; exact o35_k.app
  have o36_1 : okC l36 ((l.length : Int) + 1) (24, 30) := by rw [e36]; exact o35_1.app
  have f36_k_0 : fldR l36 k 0 ((l.length : Int) + 1) := by rw [e36]; exact fld_app o35_k f35_k_0
  have o36_123 : okC l36 ((l.length : Int) + 123) (5, 17) := by rw [e36]; exact okC.mk1 (by omega) rfl
  obtain ⟨l37, e37⟩ : ∃ z : CL, z = c_X5 ((l.length : Int) + 123) l36 := ⟨_, rfl⟩
  have C37 := c_X5_ok o36_123
  have n37 : l37.length = l.length + 133 := by have h9 := C37.1.1; rw [e37]; omega
  have G37 : Grows l l37 k := by rw [e37]; exact G36.tr C37.1.2.1 (Or.inr (by omega))
  have o37_k : okC l37 k (0, 3) := by rw [e37]; exact o36_k.grow C37.1.2.1
  have o37_1 : okC l37 ((l.length : Int) + 1) (24, 30) := by rw [e37]; exact o36_1.grow C37.1.2.1
  have o37_123 : okC l37 ((l.length : Int) + 123) (5, 17) := by rw [e37]; exact o36_123.grow C37.1.2.1
  have f37_k_0 : fldR l37 k 0 ((l.length : Int) + 1) := by rw [e37]; exact fld_grow o36_k C37.1.2.1 (by have h9 := o36_k.2.1; omega) f36_k_0
  obtain ⟨l38, e38⟩ : ∃ z : CL, z = clR l37 ((l.length : Int) + 1) 11 ((l.length : Int) + 123) := ⟨_, rfl⟩
  have n38 : l38.length = l.length + 133 := by rw [e38, clR_len]; omega
  have G38 : Grows l l38 k := by rw [e38]; exact G37.setR o37_1.1 o37_1.2.1 (Or.inr (by omega))
  have o38_k : okC l38 k (0, 3) := by rw [e38]; exact okC.ofR o37_1 o37_k
  have o38_1 : okC l38 ((l.length : Int) + 1) (24, 30) := by rw [e38]; exact okC.ofR o37_1 o37_1
  have f38_k_0 : fldR l38 k 0 ((l.length : Int) + 1) := by rw [e38]; exact fld_Rne o37_1 o37_k (by have h9 := o37_k.2.1; omega) f37_k_0
  obtain ⟨l39, e39⟩ : ∃ z : CL, z = l38 ++ [((5, 17), [], [])] := ⟨_, rfl⟩
  have n39 : l39.length = l.length + 134 := by rw [e39, List.length_append]; show l38.length + 1 = _; omega
  have G39 : Grows l l39 k := by rw [e39]; exact G38.app
  have o39_k : okC l39 k (0, 3) := by rw [e39]; exact o38_k.app
  have o39_1 : okC l39 ((l.length : Int) + 1) (24, 30) := by rw [e39]; exact o38_1.app
  have f39_k_0 : fldR l39 k 0 ((l.length : Int) + 1) := by rw [e39]; exact fld_app o38_k f38_k_0
  have o39_134 : okC l39 ((l.length : Int) + 134) (5, 17) := by rw [e39]; exact okC.mk1 (by omega) rfl
  obtain ⟨l40, e40⟩ : ∃ z : CL, z = c_X5 ((l.length : Int) + 134) l39 := ⟨_, rfl⟩
  have C40 := c_X5_ok o39_134
  have n40 : l40.length = l.length + 144 := by have h9 := C40.1.1; rw [e40]; omega
  have G40 : Grows l l40 k := by rw [e40]; exact G39.tr C40.1.2.1 (Or.inr (by omega))
  have o40_k : okC l40 k (0, 3) := by rw [e40]; exact o39_k.grow C40.1.2.1
  have o40_1 : okC l40 ((l.length : Int) + 1) (24, 30) := by rw [e40]; exact o39_1.grow C40.1.2.1
  have o40_134 : okC l40 ((l.length : Int) + 134) (5, 17) := by rw [e40]; exact o39_134.grow C40.1.2.1
  have f40_k_0 : fldR l40 k 0 ((l.length : Int) + 1) := by rw [e40]; exact fld_grow o39_k C40.1.2.1 (by have h9 := o39_k.2.1; omega) f39_k_0
  obtain ⟨l41, e41⟩ : ∃ z : CL, z = clR l40 ((l.length : Int) + 1) 12 ((l.length : Int) + 134) := ⟨_, rfl⟩
  have n41 : l41.length = l.length + 144 := by rw [e41, clR_len]; omega
  have G41 : Grows l l41 k := by rw [e41]; exact G40.setR o40_1.1 o40_1.2.1 (Or.inr (by omega))
  have o41_k : okC l41 k (0, 3) := by rw [e41]; exact okC.ofR o40_1 o40_k
  have o41_1 : okC l41 ((l.length : Int) + 1) (24, 30) := by rw [e41]; exact okC.ofR o40_1 o40_1
  have f41_k_0 : fldR l41 k 0 ((l.length : Int) + 1) := by rw [e41]; exact fld_Rne o40_1 o40_k (by have h9 := o40_k.2.1; omega) f40_k_0
  obtain ⟨l42, e42⟩ : ∃ z : CL, z = l41 ++ [((5, 17), [], [])] := ⟨_, rfl⟩
  have n42 : l42.length = l.length + 145 := by rw [e42, List.length_append]; show l41.length + 1 = _; omega
  have G42 : Grows l l42 k := by rw [e42]; exact G41.app
  have o42_k : okC l42 k (0, 3) := by rw [e42]; exact o41_k.app
  have o42_1 : okC l42 ((l.length : Int) + 1) (24, 30) := by rw [e42]; exact o41_1.app
  have f42_k_0 : fldR l42 k 0 ((l.length : Int) + 1) := by rw [e42]; exact fld_app o41_k f41_k_0
  have o42_145 : okC l42 ((l.length : Int) + 145) (5, 17) := by rw [e42]; exact okC.mk1 (by omega) rfl
  obtain ⟨l43, e43⟩ : ∃ z : CL, z = c_X5 ((l.length : Int) + 145) l42 := ⟨_, rfl⟩
  have C43 := c_X5_ok o42_145
  have n43 : l43.length = l.length + 155 := by have h9 := C43.1.1; rw [e43]; omega
  have G43 : Grows l l43 k := by rw [e43]; exact G42.tr C43.1.2.1 (Or.inr (by omega))
  have o43_k : okC l43 k (0, 3) := by rw [e43]; exact o42_k.grow C43.1.2.1
  have o43_1 : okC l43 ((l.length : Int) + 1) (24, 30) := by rw [e43]; exact o42_1.grow C43.1.2.1
  have o43_145 : okC l43 ((l.length : Int) + 145) (5, 17) := by rw [e43]; exact o42_145.grow C43.1.2.1
  have f43_k_0 : fldR l43 k 0 ((l.length : Int) + 1) := by rw [e43]; exact fld_grow o42_k C43.1.2.1 (by have h9 := o42_k.2.1; omega) f42_k_0
  obtain ⟨l44, e44⟩ : ∃ z : CL, z = clR l43 ((l.length : Int) + 1) 13 ((l.length : Int) + 145) := ⟨_, rfl⟩
  have n44 : l44.length = l.length + 155 := by rw [e44, clR_len]; omega
  have G44 : Grows l l44 k := by rw [e44]; exact G43.setR o43_1.1 o43_1.2.1 (Or.inr (by omega))
  have o44_k : okC l44 k (0, 3) := by rw [e44]; exact okC.ofR o43_1 o43_k
  have o44_1 : okC l44 ((l.length : Int) + 1) (24, 30) := by rw [e44]; exact okC.ofR o43_1 o43_1
  have f44_k_0 : fldR l44 k 0 ((l.length : Int) + 1) := by rw [e44]; exact fld_Rne o43_1 o43_k (by have h9 := o43_k.2.1; omega) f43_k_0
  obtain ⟨l45, e45⟩ : ∃ z : CL, z = l44 ++ [((5, 17), [], [])] := ⟨_, rfl⟩
  have n45 : l45.length = l.length + 156 := by rw [e45, List.length_append]; show l44.length + 1 = _; omega
  have G45 : Grows l l45 k := by rw [e45]; exact G44.app
  have o45_k : okC l45 k (0, 3) := by rw [e45]; exact o44_k.app
  have o45_1 : okC l45 ((l.length : Int) + 1) (24, 30) := by rw [e45]; exact o44_1.app
  have f45_k_0 : fldR l45 k 0 ((l.length : Int) + 1) := by rw [e45]; exact fld_app o44_k f44_k_0
  have o45_156 : okC l45 ((l.length : Int) + 156) (5, 17) := by rw [e45]; exact okC.mk1 (by omega) rfl
  obtain ⟨l46, e46⟩ : ∃ z : CL, z = c_X5 ((l.length : Int) + 156) l45 := ⟨_, rfl⟩
  have C46 := c_X5_ok o45_156
  have n46 : l46.length = l.length + 166 := by have h9 := C46.1.1; rw [e46]; omega
  have G46 : Grows l l46 k := by rw [e46]; exact G45.tr C46.1.2.1 (Or.inr (by omega))
  have o46_k : okC l46 k (0, 3) := by rw [e46]; exact o45_k.grow C46.1.2.1
  have o46_1 : okC l46 ((l.length : Int) + 1) (24, 30) := by rw [e46]; exact o45_1.grow C46.1.2.1
  have o46_156 : okC l46 ((l.length : Int) + 156) (5, 17) := by rw [e46]; exact o45_156.grow C46.1.2.1
  have f46_k_0 : fldR l46 k 0 ((l.length : Int) + 1) := by rw [e46]; exact fld_grow o45_k C46.1.2.1 (by have h9 := o45_k.2.1; omega) f45_k_0
  obtain ⟨l47, e47⟩ : ∃ z : CL, z = clR l46 ((l.length : Int) + 1) 14 ((l.length : Int) + 156) := ⟨_, rfl⟩
  have n47 : l47.length = l.length + 166 := by rw [e47, clR_len]; omega
  have G47 : Grows l l47 k := by rw [e47]; exact G46.setR o46_1.1 o46_1.2.1 (Or.inr (by omega))
  have o47_k : okC l47 k (0, 3) := by rw [e47]; exact okC.ofR o46_1 o46_k
  have o47_1 : okC l47 ((l.length : Int) + 1) (24, 30) := by rw [e47]; exact okC.ofR o46_1 o46_1
  have f47_k_0 : fldR l47 k 0 ((l.length : Int) + 1) := by rw [e47]; exact fld_Rne o46_1 o46_k (by have h9 := o46_k.2.1; omega) f46_k_0
  obtain ⟨l48, e48⟩ : ∃ z : CL, z = l47 ++ [((5, 17), [], [])] := ⟨_, rfl⟩
  have n48 : l48.length = l.length + 167 := by rw [e48, List.length_append]; show l47.length + 1 = _; omega
  have G48 : Grows l l48 k := by rw [e48]; exact G47.app
  have o48_k : okC l48 k (0, 3) := by rw [e48]; exact o47_k.app
  have o48_1 : okC l48 ((l.length : Int) + 1) (24, 30) := by rw [e48]; exact o47_1.app
  have f48_k_0 : fldR l48 k 0 ((l.length : Int) + 1) := by rw [e48]; exact fld_app o47_k f47_k_0
  have o48_167 : okC l48 ((l.length : Int) + 167) (5, 17) := by rw [e48]; exact okC.mk1 (by omega) rfl
  obtain ⟨l49, e49⟩ : ∃ z : CL, z = c_X5 ((l.length : Int) + 167) l48 := ⟨_, rfl⟩
  have C49 := c_X5_ok o48_167
  have n49 : l49.length = l.length + 177 := by have h9 := C49.1.1; rw [e49]; omega
  have G49 : Grows l l49 k := by rw [e49]; exact G48.tr C49.1.2.1 (Or.inr (by omega))
  have o49_k : okC l49 k (0, 3) := by rw [e49]; exact o48_k.grow C49.1.2.1
  have o49_1 : okC l49 ((l.length : Int) + 1) (24, 30) := by rw [e49]; exact o48_1.grow C49.1.2.1
  have o49_167 : okC l49 ((l.length : Int) + 167) (5, 17) := by rw [e49]; exact o48_167.grow C49.1.2.1
  have f49_k_0 : fldR l49 k 0 ((l.length : Int) + 1) := by rw [e49]; exact fld_grow o48_k C49.1.2.1 (by have h9 := o48_k.2.1; omega) f48_k_0
  obtain ⟨l50, e50⟩ : ∃ z : CL, z = clR l49 ((l.length : Int) + 1) 15 ((l.length : Int) + 167) := ⟨_, rfl⟩
  have n50 : l50.length = l.length + 177 := by rw [e50, clR_len]; omega
  have G50 : Grows l l50 k := by rw [e50]; exact G49.setR o49_1.1 o49_1.2.1 (Or.inr (by omega))
  have o50_k : okC l50 k (0, 3) := by rw [e50]; exact okC.ofR o49_1 o49_k
  have o50_1 : okC l50 ((l.length : Int) + 1) (24, 30) := by rw [e50]; exact okC.ofR o49_1 o49_1
  have f50_k_0 : fldR l50 k 0 ((l.length : Int) + 1) := by rw [e50]; exact fld_Rne o49_1 o49_k (by have h9 := o49_k.2.1; omega) f49_k_0
  obtain ⟨l51, e51⟩ : ∃ z : CL, z = l50 ++ [((5, 17), [], [])] := ⟨_, rfl⟩
  have n51 : l51.length = l.length + 178 := by rw [e51, List.length_append]; show l50.length + 1 = _; omega
  have G51 : Grows l l51 k := by rw [e51]; exact G50.app
  have o51_k : okC l51 k (0, 3) := by rw [e51]; exact o50_k.app
  have o51_1 : okC l51 ((l.length : Int) + 1) (24, 30) := by rw [e51]; exact o50_1.app
  have f51_k_0 : fldR l51 k 0 ((l.length : Int) + 1) := by rw [e51]; exact fld_app o50_k f50_k_0
  have o51_178 : okC l51 ((l.length : Int) + 178) (5, 17) := by rw [e51]; exact okC.mk1 (by omega) rfl
  obtain ⟨l52, e52⟩ : ∃ z : CL, z = c_X5 ((l.length : Int) + 178) l51 := ⟨_, rfl⟩
  have C52 := c_X5_ok o51_178
  have n52 : l52.length = l.length + 188 := by have h9 := C52.1.1; rw [e52]; omega
  have G52 : Grows l l52 k := by rw [e52]; exact G51.tr C52.1.2.1 (Or.inr (by omega))
  have o52_k : okC l52 k (0, 3) := by rw [e52]; exact o51_k.grow C52.1.2.1
  have o52_1 : okC l52 ((l.length : Int) + 1) (24, 30) := by rw [e52]; exact o51_1.grow C52.1.2.1
  have o52_178 : okC l52 ((l.length : Int) + 178) (5, 17) := by rw [e52]; exact o51_178.grow C52.1.2.1
  have f52_k_0 : fldR l52 k 0 ((l.length : Int) + 1) := by rw [e52]; exact fld_grow o51_k C52.1.2.1 (by have h9 := o51_k.2.1; omega) f51_k_0
  obtain ⟨l53, e53⟩ : ∃ z : CL, z = clR l52 ((l.length : Int) + 1) 16 ((l.length : Int) + 178) := ⟨_, rfl⟩
  have n53 : l53.length = l.length + 188 := by rw [e53, clR_len]; omega
  have G53 : Grows l l53 k := by rw [e53]; exact G52.setR o52_1.1 o52_1.2.1 (Or.inr (by omega))
  have o53_k : okC l53 k (0, 3) := by rw [e53]; exact okC.ofR o52_1 o52_k
  have o53_1 : okC l53 ((l.length : Int) + 1) (24, 30) := by rw [e53]; exact okC.ofR o52_1 o52_1
  have f53_k_0 : fldR l53 k 0 ((l.length : Int) + 1) := by rw [e53]; exact fld_Rne o52_1 o52_k (by have h9 := o52_k.2.1; omega) f52_k_0
  obtain ⟨l54, e54⟩ : ∃ z : CL, z = l53 ++ [((5, 17), [], [])] := ⟨_, rfl⟩
  have n54 : l54.length = l.length + 189 := by rw [e54, List.length_append]; show l53.length + 1 = _; omega
  have G54 : Grows l l54 k := by rw [e54]; exact G53.app
  have o54_k : okC l54 k (0, 3) := by rw [e54]; exact o53_k.app
  have o54_1 : okC l54 ((l.length : Int) + 1) (24, 30) := by rw [e54]; exact o53_1.app
  have f54_k_0 : fldR l54 k 0 ((l.length : Int) + 1) := by rw [e54]; exact fld_app o53_k f53_k_0
  have o54_189 : okC l54 ((l.length : Int) + 189) (5, 17) := by rw [e54]; exact okC.mk1 (by omega) rfl
  obtain ⟨l55, e55⟩ : ∃ z : CL, z = c_X5 ((l.length : Int) + 189) l54 := ⟨_, rfl⟩
  have C55 := c_X5_ok o54_189
  have n55 : l55.length = l.length + 199 := by have h9 := C55.1.1; rw [e55]; omega
  have G55 : Grows l l55 k := by rw [e55]; exact G54.tr C55.1.2.1 (Or.inr (by omega))
  have o55_k : okC l55 k (0, 3) := by rw [e55]; exact o54_k.grow C55.1.2.1
  have o55_1 : okC l55 ((l.length : Int) + 1) (24, 30) := by rw [e55]; exact o54_1.grow C55.1.2.1
  have o55_189 : okC l55 ((l.length : Int) + 189) (5, 17) := by rw [e55]; exact o54_189.grow C55.1.2.1
  have f55_k_0 : fldR l55 k 0 ((l.length : Int) + 1) := by rw [e55]; exact fld_grow o54_k C55.1.2.1 (by have h9 := o54_k.2.1; omega) f54_k_0
  obtain ⟨l56, e56⟩ : ∃ z : CL, z = clR l55 ((l.length : Int) + 1) 17 ((l.length : Int) + 189) := ⟨_, rfl⟩
  have n56 : l56.length = l.length + 199 := by rw [e56, clR_len]; omega
  have G56 : Grows l l56 k := by rw [e56]; exact G55.setR o55_1.1 o55_1.2.1 (Or.inr (by omega))
  have o56_k : okC l56 k (0, 3) := by rw [e56]; exact okC.ofR o55_1 o55_k
  have o56_1 : okC l56 ((l.length : Int) + 1) (24, 30) := by rw [e56]; exact okC.ofR o55_1 o55_1
  have f56_k_0 : fldR l56 k 0 ((l.length : Int) + 1) := by rw [e56]; exact fld_Rne o55_1 o55_k (by have h9 := o55_k.2.1; omega) f55_k_0
  obtain ⟨l57, e57⟩ : ∃ z : CL, z = l56 ++ [((5, 17), [], [])] := ⟨_, rfl⟩
  have n57 : l57.length = l.length + 200 := by rw [e57, List.length_append]; show l56.length + 1 = _; omega
  have G57 : Grows l l57 k := by rw [e57]; exact G56.app
  have o57_k : okC l57 k (0, 3) := by rw [e57]; exact o56_k.app
  have o57_1 : okC l57 ((l.length : Int) + 1) (24, 30) := by rw [e57]; exact o56_1.app
  have f57_k_0 : fldR l57 k 0 ((l.length : Int) + 1) := by rw [e57]; exact fld_app o56_k f56_k_0
  have o57_200 : okC l57 ((l.length : Int) + 200) (5, 17) := by rw [e57]; exact okC.mk1 (by omega) rfl
  obtain ⟨l58, e58⟩ : ∃ z : CL, z = c_X5 ((l.length : Int) + 200) l57 := ⟨_, rfl⟩
  have C58 := c_X5_ok o57_200
  have n58 : l58.length = l.length + 210 := by have h9 := C58.1.1; rw [e58]; omega
  have G58 : Grows l l58 k := by rw [e58]; exact G57.tr C58.1.2.1 (Or.inr (by omega))
  have o58_k : okC l58 k (0, 3) := by rw [e58]; exact o57_k.grow C58.1.2.1
  have o58_1 : okC l58 ((l.length : Int) + 1) (24, 30) := by rw [e58]; exact o57_1.grow C58.1.2.1
  have o58_200 : okC l58 ((l.length : Int) + 200) (5, 17) := by rw [e58]; exact o57_200.grow C58.1.2.1
  have f58_k_0 : fldR l58 k 0 ((l.length : Int) + 1) := by rw [e58]; exact fld_grow o57_k C58.1.2.1 (by have h9 := o57_k.2.1; omega) f57_k_0
  obtain ⟨l59, e59⟩ : ∃ z : CL, z = clR l58 ((l.length : Int) + 1) 18 ((l.length : Int) + 200) := ⟨_, rfl⟩
  have n59 : l59.length = l.length + 210 := by rw [e59, clR_len]; omega
  have G59 : Grows l l59 k := by rw [e59]; exact G58.setR o58_1.1 o58_1.2.1 (Or.inr (by omega))
  have o59_k : okC l59 k (0, 3) := by rw [e59]; exact okC.ofR o58_1 o58_k
  have o59_1 : okC l59 ((l.length : Int) + 1) (24, 30) := by rw [e59]; exact okC.ofR o58_1 o58_1
  have f59_k_0 : fldR l59 k 0 ((l.length : Int) + 1) := by rw [e59]; exact fld_Rne o58_1 o58_k (by have h9 := o58_k.2.1; omega) f58_k_0
  obtain ⟨l60, e60⟩ : ∃ z : CL, z = l59 ++ [((5, 17), [], [])] := ⟨_, rfl⟩
  have n60 : l60.length = l.length + 211 := by rw [e60, List.length_append]; show l59.length + 1 = _; omega
  have G60 : Grows l l60 k := by rw [e60]; exact G59.app
  have o60_k : okC l60 k (0, 3) := by rw [e60]; exact o59_k.app
  have o60_1 : okC l60 ((l.length : Int) + 1) (24, 30) := by rw [e60]; exact o59_1.app
  have f60_k_0 : fldR l60 k 0 ((l.length : Int) + 1) := by rw [e60]; exact fld_app o59_k f59_k_0
  have o60_211 : okC l60 ((l.length : Int) + 211) (5, 17) := by rw [e60]; exact okC.mk1 (by omega) rfl
  obtain ⟨l61, e61⟩ : ∃ z : CL, z = c_X5 ((l.length : Int) + 211) l60 := ⟨_, rfl⟩
  have C61 := c_X5_ok o60_211
  have n61 : l61.length = l.length + 221 := by have h9 := C61.1.1; rw [e61]; omega
  have G61 : Grows l l61 k := by rw [e61]; exact G60.tr C61.1.2.1 (Or.inr (by omega))
  have o61_k : okC l61 k (0, 3) := by rw [e61]; exact o60_k.grow C61.1.2.1
  have o61_1 : okC l61 ((l.length : Int) + 1) (24, 30) := by rw [e61]; exact o60_1.grow C61.1.2.1
  have o61_211 : okC l61 ((l.length : Int) + 211) (5, 17) := by rw [e61]; exact o60_211.grow C61.1.2.1
  have f61_k_0 : fldR l61 k 0 ((l.length : Int) + 1) := by rw [e61]; exact fld_grow o60_k C61.1.2.1 (by have h9 := o60_k.2.1; omega) f60_k_0
  obtain ⟨l62, e62⟩ : ∃ z : CL, z = clR l61 ((l.length : Int) + 1) 19 ((l.length : Int) + 211) := ⟨_, rfl⟩
  have n62 : l62.length = l.length + 221 := by rw [e62, clR_len]; omega
  have G62 : Grows l l62 k := by rw [e62]; exact G61.setR o61_1.1 o61_1.2.1 (Or.inr (by omega))
  have o62_k : okC l62 k (0, 3) := by rw [e62]; exact okC.ofR o61_1 o61_k
  have o62_1 : okC l62 ((l.length : Int) + 1) (24, 30) := by rw [e62]; exact okC.ofR o61_1 o61_1
  have f62_k_0 : fldR l62 k 0 ((l.length : Int) + 1) := by rw [e62]; exact fld_Rne o61_1 o61_k (by have h9 := o61_k.2.1; omega) f61_k_0
  obtain ⟨l63, e63⟩ : ∃ z : CL, z = l62 ++ [((5, 17), [], [])] := ⟨_, rfl⟩
  have n63 : l63.length = l.length + 222 := by rw [e63, List.length_append]; show l62.length + 1 = _; omega
  have G63 : Grows l l63 k := by rw [e63]; exact G62.app
  have o63_k : okC l63 k (0, 3) := by rw [e63]; exact o62_k.app
  have o63_1 : okC l63 ((l.length : Int) + 1) (24, 30) := by rw [e63]; exact o62_1.app
  have f63_k_0 : fldR l63 k 0 ((l.length : Int) + 1) := by rw [e63]; exact fld_app o62_k f62_k_0
  have o63_222 : okC l63 ((l.length : Int) + 222) (5, 17) := by rw [e63]; exact okC.mk1 (by omega) rfl
  obtain ⟨l64, e64⟩ : ∃ z : CL, z = c_X5 ((l.length : Int) + 222) l63 := ⟨_, rfl⟩
  have C64 := c_X5_ok o63_222
  have n64 : l64.length = l.length + 232 := by have h9 := C64.1.1; rw [e64]; omega
  have G64 : Grows l l64 k := by rw [e64]; exact G63.tr C64.1.2.1 (Or.inr (by omega))
  have o64_k : okC l64 k (0, 3) := by rw [e64]; exact o63_k.grow C64.1.2.1
  have o64_1 : okC l64 ((l.length : Int) + 1) (24, 30) := by rw [e64]; exact o63_1.grow C64.1.2.1
  have o64_222 : okC l64 ((l.length : Int) + 222) (5, 17) := by rw [e64]; exact o63_222.grow C64.1.2.1
  have f64_k_0 : fldR l64 k 0 ((l.length : Int) + 1) := by rw [e64]; exact fld_grow o63_k C64.1.2.1 (by have h9 := o63_k.2.1; omega) f63_k_0
  obtain ⟨l65, e65⟩ : ∃ z : CL, z = clR l64 ((l.length : Int) + 1) 20 ((l.length : Int) + 222) := ⟨_, rfl⟩
  have n65 : l65.length = l.length + 232 := by rw [e65, clR_len]; omega
  have G65 : Grows l l65 k := by rw [e65]; exact G64.setR o64_1.1 o64_1.2.1 (Or.inr (by omega))
  have o65_k : okC l65 k (0, 3) := by rw [e65]; exact okC.ofR o64_1 o64_k
  have o65_1 : okC l65 ((l.length : Int) + 1) (24, 30) := by rw [e65]; exact okC.ofR o64_1 o64_1
  have f65_k_0 : fldR l65 k 0 ((l.length : Int) + 1) := by rw [e65]; exact fld_Rne o64_1 o64_k (by have h9 := o64_k.2.1; omega) f64_k_0
  obtain ⟨l66, e66⟩ : ∃ z : CL, z = l65 ++ [((5, 17), [], [])] := ⟨_, rfl⟩
  have n66 : l66.length = l.length + 233 := by rw [e66, List.length_append]; show l65.length + 1 = _; omega
  have G66 : Grows l l66 k := by rw [e66]; exact G65.app
  have o66_k : okC l66 k (0, 3) := by rw [e66]; exact o65_k.app
  have o66_1 : okC l66 ((l.length : Int) + 1) (24, 30) := by rw [e66]; exact o65_1.app
  have f66_k_0 : fldR l66 k 0 ((l.length : Int) + 1) := by rw [e66]; exact fld_app o65_k f65_k_0
  have o66_233 : okC l66 ((l.length : Int) + 233) (5, 17) := by rw [e66]; exact okC.mk1 (by omega) rfl
  obtain ⟨l67, e67⟩ : ∃ z : CL, z = c_X5 ((l.length : Int) + 233) l66 := ⟨_, rfl⟩
  have C67 := c_X5_ok o66_233
  have n67 : l67.length = l.length + 243 := by have h9 := C67.1.1; rw [e67]; omega
  have G67 : Grows l l67 k := by rw [e67]; exact G66.tr C67.1.2.1 (Or.inr (by omega))
  have o67_k : okC l67 k (0, 3) := by rw [e67]; exact o66_k.grow C67.1.2.1
  have o67_1 : okC l67 ((l.length : Int) + 1) (24, 30) := by rw [e67]; exact o66_1.grow C67.1.2.1
  have o67_233 : okC l67 ((l.length : Int) + 233) (5, 17) := by rw [e67]; exact o66_233.grow C67.1.2.1
  have f67_k_0 : fldR l67 k 0 ((l.length : Int) + 1) := by rw [e67]; exact fld_grow o66_k C67.1.2.1 (by have h9 := o66_k.2.1; omega) f66_k_0
  obtain ⟨l68, e68⟩ : ∃ z : CL, z = clR l67 ((l.length : Int) + 1) 21 ((l.length : Int) + 233) := ⟨_, rfl⟩
  have n68 : l68.length = l.length + 243 := by rw [e68, clR_len]; omega
  have G68 : Grows l l68 k := by rw [e68]; exact G67.setR o67_1.1 o67_1.2.1 (Or.inr (by omega))
  have o68_k : okC l68 k (0, 3) := by rw [e68]; exact okC.ofR o67_1 o67_k
  have o68_1 : okC l68 ((l.length : Int) + 1) (24, 30) := by rw [e68]; exact okC.ofR o67_1 o67_1
  have f68_k_0 : fldR l68 k 0 ((l.length : Int) + 1) := by rw [e68]; exact fld_Rne o67_1 o67_k (by have h9 := o67_k.2.1; omega) f67_k_0
  obtain ⟨l69, e69⟩ : ∃ z : CL, z = l68 ++ [((5, 17), [], [])] := ⟨_, rfl⟩
  have n69 : l69.length = l.length + 244 := by rw [e69, List.length_append]; show l68.length + 1 = _; omega
  have G69 : Grows l l69 k := by rw [e69]; exact G68.app
  have o69_k : okC l69 k (0, 3) := by rw [e69]; exact o68_k.app
  have o69_1 : okC l69 ((l.length : Int) + 1) (24, 30) := by rw [e69]; exact o68_1.app
  have f69_k_0 : fldR l69 k 0 ((l.length : Int) + 1) := by rw [e69]; exact fld_app o68_k f68_k_0
  have o69_244 : okC l69 ((l.length : Int) + 244) (5, 17) := by rw [e69]; exact okC.mk1 (by omega) rfl
  obtain ⟨l70, e70⟩ : ∃ z : CL, z = c_X5 ((l.length : Int) + 244) l69 := ⟨_, rfl⟩
  have C70 := c_X5_ok o69_244
  have n70 : l70.length = l.length + 254 := by have h9 := C70.1.1; rw [e70]; omega
  have G70 : Grows l l70 k := by rw [e70]; exact G69.tr C70.1.2.1 (Or.inr (by omega))
  have o70_k : okC l70 k (0, 3) := by rw [e70]; exact o69_k.grow C70.1.2.1
  have o70_1 : okC l70 ((l.length : Int) + 1) (24, 30) := by rw [e70]; exact o69_1.grow C70.1.2.1
  have o70_244 : okC l70 ((l.length : Int) + 244) (5, 17) := by rw [e70]; exact o69_244.grow C70.1.2.1
  have f70_k_0 : fldR l70 k 0 ((l.length : Int) + 1) := by rw [e70]; exact fld_grow o69_k C70.1.2.1 (by have h9 := o69_k.2.1; omega) f69_k_0
  obtain ⟨l71, e71⟩ : ∃ z : CL, z = clR l70 ((l.length : Int) + 1) 22 ((l.length : Int) + 244) := ⟨_, rfl⟩
  have n71 : l71.length = l.length + 254 := by rw [e71, clR_len]; omega
  have G71 : Grows l l71 k := by rw [e71]; exact G70.setR o70_1.1 o70_1.2.1 (Or.inr (by omega))
  have o71_k : okC l71 k (0, 3) := by rw [e71]; exact okC.ofR o70_1 o70_k
  have o71_1 : okC l71 ((l.length : Int) + 1) (24, 30) := by rw [e71]; exact okC.ofR o70_1 o70_1
  have f71_k_0 : fldR l71 k 0 ((l.length : Int) + 1) := by rw [e71]; exact fld_Rne o70_1 o70_k (by have h9 := o70_k.2.1; omega) f70_k_0
  obtain ⟨l72, e72⟩ : ∃ z : CL, z = l71 ++ [((5, 17), [], [])] := ⟨_, rfl⟩
  have n72 : l72.length = l.length + 255 := by rw [e72, List.length_append]; show l71.length + 1 = _; omega
  have G72 : Grows l l72 k := by rw [e72]; exact G71.app
  have o72_k : okC l72 k (0, 3) := by rw [e72]; exact o71_k.app
  have o72_1 : okC l72 ((l.length : Int) + 1) (24, 30) := by rw [e72]; exact o71_1.app
  have f72_k_0 : fldR l72 k 0 ((l.length : Int) + 1) := by rw [e72]; exact fld_app o71_k f71_k_0
  have o72_255 : okC l72 ((l.length : Int) + 255) (5, 17) := by rw [e72]; exact okC.mk1 (by omega) rfl
  obtain ⟨l73, e73⟩ : ∃ z : CL, z = c_X5 ((l.length : Int) + 255) l72 := ⟨_, rfl⟩
  have C73 := c_X5_ok o72_255
  have n73 : l73.length = l.length + 265 := by have h9 := C73.1.1; rw [e73]; omega
  have G73 : Grows l l73 k := by rw [e73]; exact G72.tr C73.1.2.1 (Or.inr (by omega))
  have o73_k : okC l73 k (0, 3) := by rw [e73]; exact o72_k.grow C73.1.2.1
  have o73_1 : okC l73 ((l.length : Int) + 1) (24, 30) := by rw [e73]; exact o72_1.grow C73.1.2.1
  have o73_255 : okC l73 ((l.length : Int) + 255) (5, 17) := by rw [e73]; exact o72_255.grow C73.1.2.1
  have f73_k_0 : fldR l73 k 0 ((l.length : Int) + 1) := by rw [e73]; exact fld_grow o72_k C73.1.2.1 (by have h9 := o72_k.2.1; omega) f72_k_0
  obtain ⟨l74, e74⟩ : ∃ z : CL, z = clR l73 ((l.length : Int) + 1) 23 ((l.length : Int) + 255) := ⟨_, rfl⟩
  have n74 : l74.length = l.length + 265 := by rw [e74, clR_len]; omega
  have G74 : Grows l l74 k := by rw [e74]; exact G73.setR o73_1.1 o73_1.2.1 (Or.inr (by omega))
  have o74_k : okC l74 k (0, 3) := by rw [e74]; exact okC.ofR o73_1 o73_k
  have o74_1 : okC l74 ((l.length : Int) + 1) (24, 30) := by rw [e74]; exact okC.ofR o73_1 o73_1
  have f74_k_0 : fldR l74 k 0 ((l.length : Int) + 1) := by rw [e74]; exact fld_Rne o73_1 o73_k (by have h9 := o73_k.2.1; omega) f73_k_0
  obtain ⟨l75, e75⟩ : ∃ z : CL, z = l74 ++ [((5, 17), [], [])] := ⟨_, rfl⟩
  have n75 : l75.length = l.length + 266 := by rw [e75, List.length_append]; show l74.length + 1 = _; omega
  have G75 : Grows l l75 k := by rw [e75]; exact G74.app
  have o75_k : okC l75 k (0, 3) := by rw [e75]; exact o74_k.app
  have o75_1 : okC l75 ((l.length : Int) + 1) (24, 30) := by rw [e75]; exact o74_1.app
  have f75_k_0 : fldR l75 k 0 ((l.length : Int) + 1) := by rw [e75]; exact fld_app o74_k f74_k_0
  have o75_266 : okC l75 ((l.length : Int) + 266) (5, 17) := by rw [e75]; exact okC.mk1 (by omega) rfl
  obtain ⟨l76, e76⟩ : ∃ z : CL, z = c_X5 ((l.length : Int) + 266) l75 := ⟨_, rfl⟩
  have C76 := c_X5_ok o75_266
  have n76 : l76.length = l.length + 276 := by have h9 := C76.1.1; rw [e76]; omega
  have G76 : Grows l l76 k := by rw [e76]; exact G75.tr C76.1.2.1 (Or.inr (by omega))
  have o76_k : okC l76 k (0, 3) := by rw [e76]; exact o75_k.grow C76.1.2.1
  have o76_1 : okC l76 ((l.length : Int) + 1) (24, 30) := by rw [e76]; exact o75_1.grow C76.1.2.1
  have o76_266 : okC l76 ((l.length : Int) + 266) (5, 17) := by rw [e76]; exact o75_266.grow C76.1.2.1
  have f76_k_0 : fldR l76 k 0 ((l.length : Int) + 1) := by rw [e76]; exact fld_grow o75_k C76.1.2.1 (by have h9 := o75_k.2.1; omega) f75_k_0
  obtain ⟨l77, e77⟩ : ∃ z : CL, z = clR l76 ((l.length : Int) + 1) 24 ((l.length : Int) + 266) := ⟨_, rfl⟩
  have n77 : l77.length = l.length + 276 := by rw [e77, clR_len]; omega
  have G77 : Grows l l77 k := by rw [e77]; exact G76.setR o76_1.1 o76_1.2.1 (Or.inr (by omega))
  have o77_k : okC l77 k (0, 3) := by rw [e77]; exact okC.ofR o76_1 o76_k
  have o77_1 : okC l77 ((l.length : Int) + 1) (24, 30) := by rw [e77]; exact okC.ofR o76_1 o76_1
  have f77_k_0 : fldR l77 k 0 ((l.length : Int) + 1) := by rw [e77]; exact fld_Rne o76_1 o76_k (by have h9 := o76_k.2.1; omega) f76_k_0
  obtain ⟨l78, e78⟩ : ∃ z : CL, z = l77 ++ [((5, 17), [], [])] := ⟨_, rfl⟩
  have n78 : l78.length = l.length + 277 := by rw [e78, List.length_append]; show l77.length + 1 = _; omega
  have G78 : Grows l l78 k := by rw [e78]; exact G77.app
  have o78_k : okC l78 k (0, 3) := by rw [e78]; exact o77_k.app
  have o78_1 : okC l78 ((l.length : Int) + 1) (24, 30) := by rw [e78]; exact o77_1.app
  have f78_k_0 : fldR l78 k 0 ((l.length : Int) + 1) := by rw [e78]; exact fld_app o77_k f77_k_0
  have o78_277 : okC l78 ((l.length : Int) + 277) (5, 17) := by rw [e78]; exact okC.mk1 (by omega) rfl
  obtain ⟨l79, e79⟩ : ∃ z : CL, z = c_X5 ((l.length : Int) + 277) l78 := ⟨_, rfl⟩
  have C79 := c_X5_ok o78_277
  have n79 : l79.length = l.length + 287 := by have h9 := C79.1.1; rw [e79]; omega
  have G79 : Grows l l79 k := by rw [e79]; exact G78.tr C79.1.2.1 (Or.inr (by omega))
  have o79_k : okC l79 k (0, 3) := by rw [e79]; exact o78_k.grow C79.1.2.1
  have o79_1 : okC l79 ((l.length : Int) + 1) (24, 30) := by rw [e79]; exact o78_1.grow C79.1.2.1
  have o79_277 : okC l79 ((l.length : Int) + 277) (5, 17) := by rw [e79]; exact o78_277.grow C79.1.2.1
  have f79_k_0 : fldR l79 k 0 ((l.length : Int) + 1) := by rw [e79]; exact fld_grow o78_k C79.1.2.1 (by have h9 := o78_k.2.1; omega) f78_k_0
  obtain ⟨l80, e80⟩ : ∃ z : CL, z = clR l79 ((l.length : Int) + 1) 25 ((l.length : Int) + 277) := ⟨_, rfl⟩
  have n80 : l80.length = l.length + 287 := by rw [e80, clR_len]; omega
  have G80 : Grows l l80 k := by rw [e80]; exact G79.setR o79_1.1 o79_1.2.1 (Or.inr (by omega))
  have o80_k : okC l80 k (0, 3) := by rw [e80]; exact okC.ofR o79_1 o79_k
  have o80_1 : okC l80 ((l.length : Int) + 1) (24, 30) := by rw [e80]; exact okC.ofR o79_1 o79_1
  have f80_k_0 : fldR l80 k 0 ((l.length : Int) + 1) := by rw [e80]; exact fld_Rne o79_1 o79_k (by have h9 := o79_k.2.1; omega) f79_k_0
  obtain ⟨l81, e81⟩ : ∃ z : CL, z = l80 ++ [((5, 17), [], [])] := ⟨_, rfl⟩
  have n81 : l81.length = l.length + 288 := by rw [e81, List.length_append]; show l80.length + 1 = _; omega
  have G81 : Grows l l81 k := by rw [e81]; exact G80.app
  have o81_k : okC l81 k (0, 3) := by rw [e81]; exact o80_k.app
  have o81_1 : okC l81 ((l.length : Int) + 1) (24, 30) := by rw [e81]; exact o80_1.app
  have f81_k_0 : fldR l81 k 0 ((l.length : Int) + 1) := by rw [e81]; exact fld_app o80_k f80_k_0
  have o81_288 : okC l81 ((l.length : Int) + 288) (5, 17) := by rw [e81]; exact okC.mk1 (by omega) rfl
  obtain ⟨l82, e82⟩ : ∃ z : CL, z = c_X5 ((l.length : Int) + 288) l81 := ⟨_, rfl⟩
  have C82 := c_X5_ok o81_288
  have n82 : l82.length = l.length + 298 := by have h9 := C82.1.1; rw [e82]; omega
  have G82 : Grows l l82 k := by rw [e82]; exact G81.tr C82.1.2.1 (Or.inr (by omega))
  have o82_k : okC l82 k (0, 3) := by rw [e82]; exact o81_k.grow C82.1.2.1
  have o82_1 : okC l82 ((l.length : Int) + 1) (24, 30) := by rw [e82]; exact o81_1.grow C82.1.2.1
  have o82_288 : okC l82 ((l.length : Int) + 288) (5, 17) := by rw [e82]; exact o81_288.grow C82.1.2.1
  have f82_k_0 : fldR l82 k 0 ((l.length : Int) + 1) := by rw [e82]; exact fld_grow o81_k C82.1.2.1 (by have h9 := o81_k.2.1; omega) f81_k_0
  obtain ⟨l83, e83⟩ : ∃ z : CL, z = clR l82 ((l.length : Int) + 1) 26 ((l.length : Int) + 288) := ⟨_, rfl⟩
  have n83 : l83.length = l.length + 298 := by rw [e83, clR_len]; omega
  have G83 : Grows l l83 k := by rw [e83]; exact G82.setR o82_1.1 o82_1.2.1 (Or.inr (by omega))
  have o83_k : okC l83 k (0, 3) := by rw [e83]; exact okC.ofR o82_1 o82_k
  have o83_1 : okC l83 ((l.length : Int) + 1) (24, 30) := by rw [e83]; exact okC.ofR o82_1 o82_1
  have f83_k_0 : fldR l83 k 0 ((l.length : Int) + 1) := by rw [e83]; exact fld_Rne o82_1 o82_k (by have h9 := o82_k.2.1; omega) f82_k_0
  obtain ⟨l84, e84⟩ : ∃ z : CL, z = l83 ++ [((5, 17), [], [])] := ⟨_, rfl⟩
  have n84 : l84.length = l.length + 299 := by rw [e84, List.length_append]; show l83.length + 1 = _; omega
  have G84 : Grows l l84 k := by rw [e84]; exact G83.app
  have o84_k : okC l84 k (0, 3) := by rw [e84]; exact o83_k.app
  have o84_1 : okC l84 ((l.length : Int) + 1) (24, 30) := by rw [e84]; exact o83_1.app
  have f84_k_0 : fldR l84 k 0 ((l.length : Int) + 1) := by rw [e84]; exact fld_app o83_k f83_k_0
  have o84_299 : okC l84 ((l.length : Int) + 299) (5, 17) := by rw [e84]; exact okC.mk1 (by omega) rfl
  obtain ⟨l85, e85⟩ : ∃ z : CL, z = c_X5 ((l.length : Int) + 299) l84 := ⟨_, rfl⟩
  have C85 := c_X5_ok o84_299
  have n85 : l85.length = l.length + 309 := by have h9 := C85.1.1; rw [e85]; omega
  have G85 : Grows l l85 k := by rw [e85]; exact G84.tr C85.1.2.1 (Or.inr (by omega))
  have o85_k : okC l85 k (0, 3) := by rw [e85]; exact o84_k.grow C85.1.2.1
  have o85_1 : okC l85 ((l.length : Int) + 1) (24, 30) := by rw [e85]; exact o84_1.grow C85.1.2.1
  have o85_299 : okC l85 ((l.length : Int) + 299) (5, 17) := by rw [e85]; exact o84_299.grow C85.1.2.1
  have f85_k_0 : fldR l85 k 0 ((l.length : Int) + 1) := by rw [e85]; exact fld_grow o84_k C85.1.2.1 (by have h9 := o84_k.2.1; omega) f84_k_0
  obtain ⟨l86, e86⟩ : ∃ z : CL, z = clR l85 ((l.length : Int) + 1) 27 ((l.length : Int) + 299) := ⟨_, rfl⟩
  have n86 : l86.length = l.length + 309 := by rw [e86, clR_len]; omega
  have G86 : Grows l l86 k := by rw [e86]; exact G85.setR o85_1.1 o85_1.2.1 (Or.inr (by omega))
  have o86_k : okC l86 k (0, 3) := by rw [e86]; exact okC.ofR o85_1 o85_k
  have o86_1 : okC l86 ((l.length : Int) + 1) (24, 30) := by rw [e86]; exact okC.ofR o85_1 o85_1
  have f86_k_0 : fldR l86 k 0 ((l.length : Int) + 1) := by rw [e86]; exact fld_Rne o85_1 o85_k (by have h9 := o85_k.2.1; omega) f85_k_0
  obtain ⟨l87, e87⟩ : ∃ z : CL, z = l86 ++ [((5, 17), [], [])] := ⟨_, rfl⟩
  have n87 : l87.length = l.length + 310 := by rw [e87, List.length_append]; show l86.length + 1 = _; omega
  have G87 : Grows l l87 k := by rw [e87]; exact G86.app
  have o87_k : okC l87 k (0, 3) := by rw [e87]; exact o86_k.app
  have o87_1 : okC l87 ((l.length : Int) + 1) (24, 30) := by rw [e87]; exact o86_1.app
  have f87_k_0 : fldR l87 k 0 ((l.length : Int) + 1) := by rw [e87]; exact fld_app o86_k f86_k_0
  have o87_310 : okC l87 ((l.length : Int) + 310) (5, 17) := by rw [e87]; exact okC.mk1 (by omega) rfl
  obtain ⟨l88, e88⟩ : ∃ z : CL, z = c_X5 ((l.length : Int) + 310) l87 := ⟨_, rfl⟩
  have C88 := c_X5_ok o87_310
  have n88 : l88.length = l.length + 320 := by have h9 := C88.1.1; rw [e88]; omega
  have G88 : Grows l l88 k := by rw [e88]; exact G87.tr C88.1.2.1 (Or.inr (by omega))
  have o88_k : okC l88 k (0, 3) := by rw [e88]; exact o87_k.grow C88.1.2.1
  have o88_1 : okC l88 ((l.length : Int) + 1) (24, 30) := by rw [e88]; exact o87_1.grow C88.1.2.1
  have o88_310 : okC l88 ((l.length : Int) + 310) (5, 17) := by rw [e88]; exact o87_310.grow C88.1.2.1
  have f88_k_0 : fldR l88 k 0 ((l.length : Int) + 1) := by rw [e88]; exact fld_grow o87_k C88.1.2.1 (by have h9 := o87_k.2.1; omega) f87_k_0
  obtain ⟨l89, e89⟩ : ∃ z : CL, z = clR l88 ((l.length : Int) + 1) 28 ((l.length : Int) + 310) := ⟨_, rfl⟩
  have n89 : l89.length = l.length + 320 := by rw [e89, clR_len]; omega
  have G89 : Grows l l89 k := by rw [e89]; exact G88.setR o88_1.1 o88_1.2.1 (Or.inr (by omega))
  have o89_k : okC l89 k (0, 3) := by rw [e89]; exact okC.ofR o88_1 o88_k
  have o89_1 : okC l89 ((l.length : Int) + 1) (24, 30) := by rw [e89]; exact okC.ofR o88_1 o88_1
  have f89_k_0 : fldR l89 k 0 ((l.length : Int) + 1) := by rw [e89]; exact fld_Rne o88_1 o88_k (by have h9 := o88_k.2.1; omega) f88_k_0
  obtain ⟨l90, e90⟩ : ∃ z : CL, z = l89 ++ [((5, 17), [], [])] := ⟨_, rfl⟩
  have n90 : l90.length = l.length + 321 := by rw [e90, List.length_append]; show l89.length + 1 = _; omega
  have G90 : Grows l l90 k := by rw [e90]; exact G89.app
  have o90_k : okC l90 k (0, 3) := by rw [e90]; exact o89_k.app
  have o90_1 : okC l90 ((l.length : Int) + 1) (24, 30) := by rw [e90]; exact o89_1.app
  have o90_321 : okC l90 ((l.length : Int) + 321) (5, 17) := by rw [e90]; exact okC.mk1 (by omega) rfl
  obtain ⟨l91, e91⟩ : ∃ z : CL, z = c_X5 ((l.length : Int) + 321) l90 := ⟨_, rfl⟩
  have C91 := c_X5_ok o90_321
  have n91 : l91.length = l.length + 331 := by have h9 := C91.1.1; rw [e91]; omega
  have G91 : Grows l l91 k := by rw [e91]; exact G90.tr C91.1.2.1 (Or.inr (by omega))
  have o91_k : okC l91 k (0, 3) := by rw [e91]; exact o90_k.grow C91.1.2.1
  have o91_1 : okC l91 ((l.length : Int) + 1) (24, 30) := by rw [e91]; exact o90_1.grow C91.1.2.1
  have o91_321 : okC l91 ((l.length : Int) + 321) (5, 17) := by rw [e91]; exact o90_321.grow C91.1.2.1
  obtain ⟨l92, e92⟩ : ∃ z : CL, z = clR l91 ((l.length : Int) + 1) 29 ((l.length : Int) + 321) := ⟨_, rfl⟩
  have n92 : l92.length = l.length + 331 := by rw [e92, clR_len]; omega
  have G92 : Grows l l92 k := by rw [e92]; exact G91.setR o91_1.1 o91_1.2.1 (Or.inr (by omega))
  have o92_k : okC l92 k (0, 3) := by rw [e92]; exact okC.ofR o91_1 o91_k
  have eF : c_X0 k l = l92 := by rw [e92, e91, e90, e89, e88, e87, e86, e85, e84, e83, e82, e81, e80, e79, e78, e77, e76, e75, e74, e73, e72, e71, e70, e69, e68, e67, e66, e65, e64, e63, e62, e61, e60, e59, e58, e57, e56, e55, e54, e53, e52, e51, e50, e49, e48, e47, e46, e45, e44, e43, e42, e41, e40, e39, e38, e37, e36, e35, e34, e33, e32, e31, e30, e29, e28, e27, e26, e25, e24, e23, e22, e21, e20, e19, e18, e17, e16, e15, e14, e13, e12, e11, e10, e9, e8, e7, e6, e5, e4, e3, e2, e1, c_X0]
  rw [eF]
  refine ⟨⟨n92, G92⟩, fun {g d} hd => ?_⟩
  refine EvM.of mkX0_init.2.2.2.1 (Nat.le_of_ble_eq_true rfl) ?_
  change Ev g d mtX0_init 0 [(0, vR k)] [] (sgL l) (331, 3930) vN (sgL l92)
  refine ev_aload_n (pc := 0) 0 dX0_init_0 rfl rfl ?_
  refine ev_objInit (pc := 1) rfl ob0_3 (by have h9 := ok.1; omega) (Nat.le_of_ble_eq_true rfl) (by omega) dX0_init_1 ?_
  refine ev_aload_n (pc := 4) 0 dX0_init_4 rfl rfl ?_
  refine ev_bipush (pc := 5) (x := 30) dX0_init_5 cb_30 ?_
  refine ev_anew (pc := 7) (n := 30) (t := 24) (b2 := (330, 3900)) rfl ⟨rfl, by decide, by decide⟩ an0_9 rfl (by decide) dX0_init_7 rfl ?_
  refine ev_eqI (show ((l.length : Int) + 1) = ((l.length : Int) + 1) by omega) ?_
  refine ev_eqS e1 ?_
  refine ev_putFL (pc := 10) flF0_11 rfl rfl dX0_init_10 rfl o1_k ?_
  refine ev_eqS e2 ?_
  refine ev_iconst (pc := 13) (x := 0) dX0_init_13 ci_0 ?_
  refine ev_istore_n (pc := 14) (il' := [(1, vI 0), (0, vR k)]) dX0_init_14 rfl (Nat.le_of_ble_eq_true rfl) rfl ?_
  refine ev_iload_n (pc := 15) 0 dX0_init_15 rfl rfl ?_
  refine ev_bipush (pc := 16) (x := 30) dX0_init_16 cb_30 ?_
  refine ev_icmp_ge (pc := 18) (tgt := 40) dX0_init_18 (by decide) (fun h9 => absurd h9 (by decide)) (fun _ => ?_)
  refine ev_aload_n (pc := 21) 1 dX0_init_21 rfl rfl ?_
  refine ev_getRL (pc := 22) fl0_11 rfl dX0_init_22 rfl o2_k f2_k_0 ?_
  refine ev_iload_n (pc := 25) 0 dX0_init_25 rfl rfl ?_
  refine ev_new (pc := 26) (b2 := (329, 3883)) rfl nl0_9 df5 dX0_init_26 rfl ?_
  refine ev_eqI (show ((l2.length : Int) + 1) = ((l.length : Int) + 2) by omega) ?_
  refine ev_eqS e3 ?_
  refine ev_dup (pc := 29) rfl dX0_init_29 ?_
  refine ev_callI (pc := 30) (b1 := (10, 113)) (b2 := (319, 3770)) (as1 := []) (st := [vR ((l.length : Int) + 2), vI 0, vR ((l.length : Int) + 1)]) (q := vN) (d' := d - 1) rfl mkX5_init ⟨rfl, rfl⟩ ml0_17 miX5_init (by have h9 := o3_2.1; omega) rfl (Nat.le_of_ble_eq_true rfl) (by omega) rfl dX0_init_30 (C4.2 (d := d - 1) (by omega)) ?_
  change Ev g d mtX0_init _ _ [vR ((l.length : Int) + 2), vI 0, vR ((l.length : Int) + 1)] _ _ _ _
  refine ev_eqS e4 ?_
  refine ev_aast (pc := 33) (i := 0) ⟨rfl, by decide, by decide⟩ ⟨TX5, rfl⟩ (by decide) o4_1 o4_2 (by decide) (by decide) dX0_init_33 ?_
  refine ev_eqS e5 ?_
  refine ev_iinc (pc := 34) (y := 1) (il' := [(1, vI 1), (0, vR k)]) 0 dX0_init_34 rfl (Nat.le_of_ble_eq_true rfl) (by decide) rfl ?_
  refine ev_goto (pc := 37) (tgt := 15) dX0_init_37 (by decide) ?_
  refine ev_iload_n (pc := 15) 0 dX0_init_15 rfl rfl ?_
  refine ev_bipush (pc := 16) (x := 30) dX0_init_16 cb_30 ?_
  refine ev_icmp_ge (pc := 18) (tgt := 40) dX0_init_18 (by decide) (fun h9 => absurd h9 (by decide)) (fun _ => ?_)
  refine ev_aload_n (pc := 21) 1 dX0_init_21 rfl rfl ?_
  refine ev_getRL (pc := 22) fl0_11 rfl dX0_init_22 rfl o5_k f5_k_0 ?_
  refine ev_iload_n (pc := 25) 0 dX0_init_25 rfl rfl ?_
  refine ev_new (pc := 26) (b2 := (318, 3753)) rfl nl0_9 df5 dX0_init_26 rfl ?_
  refine ev_eqI (show ((l5.length : Int) + 1) = ((l.length : Int) + 13) by omega) ?_
  refine ev_eqS e6 ?_
  refine ev_dup (pc := 29) rfl dX0_init_29 ?_
  refine ev_callI (pc := 30) (b1 := (10, 113)) (b2 := (308, 3640)) (as1 := []) (st := [vR ((l.length : Int) + 13), vI 1, vR ((l.length : Int) + 1)]) (q := vN) (d' := d - 1) rfl mkX5_init ⟨rfl, rfl⟩ ml0_17 miX5_init (by have h9 := o6_13.1; omega) rfl (Nat.le_of_ble_eq_true rfl) (by omega) rfl dX0_init_30 (C7.2 (d := d - 1) (by omega)) ?_
  change Ev g d mtX0_init _ _ [vR ((l.length : Int) + 13), vI 1, vR ((l.length : Int) + 1)] _ _ _ _
  refine ev_eqS e7 ?_
  refine ev_aast (pc := 33) (i := 1) ⟨rfl, by decide, by decide⟩ ⟨TX5, rfl⟩ (by decide) o7_1 o7_13 (by decide) (by decide) dX0_init_33 ?_
  refine ev_eqS e8 ?_
  refine ev_iinc (pc := 34) (y := 2) (il' := [(1, vI 2), (0, vR k)]) 0 dX0_init_34 rfl (Nat.le_of_ble_eq_true rfl) (by decide) rfl ?_
  refine ev_goto (pc := 37) (tgt := 15) dX0_init_37 (by decide) ?_
  refine ev_iload_n (pc := 15) 0 dX0_init_15 rfl rfl ?_
  refine ev_bipush (pc := 16) (x := 30) dX0_init_16 cb_30 ?_
  refine ev_icmp_ge (pc := 18) (tgt := 40) dX0_init_18 (by decide) (fun h9 => absurd h9 (by decide)) (fun _ => ?_)
  refine ev_aload_n (pc := 21) 1 dX0_init_21 rfl rfl ?_
  refine ev_getRL (pc := 22) fl0_11 rfl dX0_init_22 rfl o8_k f8_k_0 ?_
  refine ev_iload_n (pc := 25) 0 dX0_init_25 rfl rfl ?_
  refine ev_new (pc := 26) (b2 := (307, 3623)) rfl nl0_9 df5 dX0_init_26 rfl ?_
  refine ev_eqI (show ((l8.length : Int) + 1) = ((l.length : Int) + 24) by omega) ?_
  refine ev_eqS e9 ?_
  refine ev_dup (pc := 29) rfl dX0_init_29 ?_
  refine ev_callI (pc := 30) (b1 := (10, 113)) (b2 := (297, 3510)) (as1 := []) (st := [vR ((l.length : Int) + 24), vI 2, vR ((l.length : Int) + 1)]) (q := vN) (d' := d - 1) rfl mkX5_init ⟨rfl, rfl⟩ ml0_17 miX5_init (by have h9 := o9_24.1; omega) rfl (Nat.le_of_ble_eq_true rfl) (by omega) rfl dX0_init_30 (C10.2 (d := d - 1) (by omega)) ?_
  change Ev g d mtX0_init _ _ [vR ((l.length : Int) + 24), vI 2, vR ((l.length : Int) + 1)] _ _ _ _
  refine ev_eqS e10 ?_
  refine ev_aast (pc := 33) (i := 2) ⟨rfl, by decide, by decide⟩ ⟨TX5, rfl⟩ (by decide) o10_1 o10_24 (by decide) (by decide) dX0_init_33 ?_
  refine ev_eqS e11 ?_
  refine ev_iinc (pc := 34) (y := 3) (il' := [(1, vI 3), (0, vR k)]) 0 dX0_init_34 rfl (Nat.le_of_ble_eq_true rfl) (by decide) rfl ?_
  refine ev_goto (pc := 37) (tgt := 15) dX0_init_37 (by decide) ?_
  refine ev_iload_n (pc := 15) 0 dX0_init_15 rfl rfl ?_
  refine ev_bipush (pc := 16) (x := 30) dX0_init_16 cb_30 ?_
  refine ev_icmp_ge (pc := 18) (tgt := 40) dX0_init_18 (by decide) (fun h9 => absurd h9 (by decide)) (fun _ => ?_)
  refine ev_aload_n (pc := 21) 1 dX0_init_21 rfl rfl ?_
  refine ev_getRL (pc := 22) fl0_11 rfl dX0_init_22 rfl o11_k f11_k_0 ?_
  refine ev_iload_n (pc := 25) 0 dX0_init_25 rfl rfl ?_
  refine ev_new (pc := 26) (b2 := (296, 3493)) rfl nl0_9 df5 dX0_init_26 rfl ?_
  refine ev_eqI (show ((l11.length : Int) + 1) = ((l.length : Int) + 35) by omega) ?_
  refine ev_eqS e12 ?_
  refine ev_dup (pc := 29) rfl dX0_init_29 ?_
  refine ev_callI (pc := 30) (b1 := (10, 113)) (b2 := (286, 3380)) (as1 := []) (st := [vR ((l.length : Int) + 35), vI 3, vR ((l.length : Int) + 1)]) (q := vN) (d' := d - 1) rfl mkX5_init ⟨rfl, rfl⟩ ml0_17 miX5_init (by have h9 := o12_35.1; omega) rfl (Nat.le_of_ble_eq_true rfl) (by omega) rfl dX0_init_30 (C13.2 (d := d - 1) (by omega)) ?_
  change Ev g d mtX0_init _ _ [vR ((l.length : Int) + 35), vI 3, vR ((l.length : Int) + 1)] _ _ _ _
  refine ev_eqS e13 ?_
  refine ev_aast (pc := 33) (i := 3) ⟨rfl, by decide, by decide⟩ ⟨TX5, rfl⟩ (by decide) o13_1 o13_35 (by decide) (by decide) dX0_init_33 ?_
  refine ev_eqS e14 ?_
  refine ev_iinc (pc := 34) (y := 4) (il' := [(1, vI 4), (0, vR k)]) 0 dX0_init_34 rfl (Nat.le_of_ble_eq_true rfl) (by decide) rfl ?_
  refine ev_goto (pc := 37) (tgt := 15) dX0_init_37 (by decide) ?_
  refine ev_iload_n (pc := 15) 0 dX0_init_15 rfl rfl ?_
  refine ev_bipush (pc := 16) (x := 30) dX0_init_16 cb_30 ?_
  refine ev_icmp_ge (pc := 18) (tgt := 40) dX0_init_18 (by decide) (fun h9 => absurd h9 (by decide)) (fun _ => ?_)
  refine ev_aload_n (pc := 21) 1 dX0_init_21 rfl rfl ?_
  refine ev_getRL (pc := 22) fl0_11 rfl dX0_init_22 rfl o14_k f14_k_0 ?_
  refine ev_iload_n (pc := 25) 0 dX0_init_25 rfl rfl ?_
  refine ev_new (pc := 26) (b2 := (285, 3363)) rfl nl0_9 df5 dX0_init_26 rfl ?_
  refine ev_eqI (show ((l14.length : Int) + 1) = ((l.length : Int) + 46) by omega) ?_
  refine ev_eqS e15 ?_
  refine ev_dup (pc := 29) rfl dX0_init_29 ?_
  refine ev_callI (pc := 30) (b1 := (10, 113)) (b2 := (275, 3250)) (as1 := []) (st := [vR ((l.length : Int) + 46), vI 4, vR ((l.length : Int) + 1)]) (q := vN) (d' := d - 1) rfl mkX5_init ⟨rfl, rfl⟩ ml0_17 miX5_init (by have h9 := o15_46.1; omega) rfl (Nat.le_of_ble_eq_true rfl) (by omega) rfl dX0_init_30 (C16.2 (d := d - 1) (by omega)) ?_
  change Ev g d mtX0_init _ _ [vR ((l.length : Int) + 46), vI 4, vR ((l.length : Int) + 1)] _ _ _ _
  refine ev_eqS e16 ?_
  refine ev_aast (pc := 33) (i := 4) ⟨rfl, by decide, by decide⟩ ⟨TX5, rfl⟩ (by decide) o16_1 o16_46 (by decide) (by decide) dX0_init_33 ?_
  refine ev_eqS e17 ?_
  refine ev_iinc (pc := 34) (y := 5) (il' := [(1, vI 5), (0, vR k)]) 0 dX0_init_34 rfl (Nat.le_of_ble_eq_true rfl) (by decide) rfl ?_
  refine ev_goto (pc := 37) (tgt := 15) dX0_init_37 (by decide) ?_
  refine ev_iload_n (pc := 15) 0 dX0_init_15 rfl rfl ?_
  refine ev_bipush (pc := 16) (x := 30) dX0_init_16 cb_30 ?_
  refine ev_icmp_ge (pc := 18) (tgt := 40) dX0_init_18 (by decide) (fun h9 => absurd h9 (by decide)) (fun _ => ?_)
  refine ev_aload_n (pc := 21) 1 dX0_init_21 rfl rfl ?_
  refine ev_getRL (pc := 22) fl0_11 rfl dX0_init_22 rfl o17_k f17_k_0 ?_
  refine ev_iload_n (pc := 25) 0 dX0_init_25 rfl rfl ?_
  refine ev_new (pc := 26) (b2 := (274, 3233)) rfl nl0_9 df5 dX0_init_26 rfl ?_
  refine ev_eqI (show ((l17.length : Int) + 1) = ((l.length : Int) + 57) by omega) ?_
  refine ev_eqS e18 ?_
  refine ev_dup (pc := 29) rfl dX0_init_29 ?_
  refine ev_callI (pc := 30) (b1 := (10, 113)) (b2 := (264, 3120)) (as1 := []) (st := [vR ((l.length : Int) + 57), vI 5, vR ((l.length : Int) + 1)]) (q := vN) (d' := d - 1) rfl mkX5_init ⟨rfl, rfl⟩ ml0_17 miX5_init (by have h9 := o18_57.1; omega) rfl (Nat.le_of_ble_eq_true rfl) (by omega) rfl dX0_init_30 (C19.2 (d := d - 1) (by omega)) ?_
  change Ev g d mtX0_init _ _ [vR ((l.length : Int) + 57), vI 5, vR ((l.length : Int) + 1)] _ _ _ _
  refine ev_eqS e19 ?_
  refine ev_aast (pc := 33) (i := 5) ⟨rfl, by decide, by decide⟩ ⟨TX5, rfl⟩ (by decide) o19_1 o19_57 (by decide) (by decide) dX0_init_33 ?_
  refine ev_eqS e20 ?_
  refine ev_iinc (pc := 34) (y := 6) (il' := [(1, vI 6), (0, vR k)]) 0 dX0_init_34 rfl (Nat.le_of_ble_eq_true rfl) (by decide) rfl ?_
  refine ev_goto (pc := 37) (tgt := 15) dX0_init_37 (by decide) ?_
  refine ev_iload_n (pc := 15) 0 dX0_init_15 rfl rfl ?_
  refine ev_bipush (pc := 16) (x := 30) dX0_init_16 cb_30 ?_
  refine ev_icmp_ge (pc := 18) (tgt := 40) dX0_init_18 (by decide) (fun h9 => absurd h9 (by decide)) (fun _ => ?_)
  refine ev_aload_n (pc := 21) 1 dX0_init_21 rfl rfl ?_
  refine ev_getRL (pc := 22) fl0_11 rfl dX0_init_22 rfl o20_k f20_k_0 ?_
  refine ev_iload_n (pc := 25) 0 dX0_init_25 rfl rfl ?_
  refine ev_new (pc := 26) (b2 := (263, 3103)) rfl nl0_9 df5 dX0_init_26 rfl ?_
  refine ev_eqI (show ((l20.length : Int) + 1) = ((l.length : Int) + 68) by omega) ?_
  refine ev_eqS e21 ?_
  refine ev_dup (pc := 29) rfl dX0_init_29 ?_
  refine ev_callI (pc := 30) (b1 := (10, 113)) (b2 := (253, 2990)) (as1 := []) (st := [vR ((l.length : Int) + 68), vI 6, vR ((l.length : Int) + 1)]) (q := vN) (d' := d - 1) rfl mkX5_init ⟨rfl, rfl⟩ ml0_17 miX5_init (by have h9 := o21_68.1; omega) rfl (Nat.le_of_ble_eq_true rfl) (by omega) rfl dX0_init_30 (C22.2 (d := d - 1) (by omega)) ?_
  change Ev g d mtX0_init _ _ [vR ((l.length : Int) + 68), vI 6, vR ((l.length : Int) + 1)] _ _ _ _
  refine ev_eqS e22 ?_
  refine ev_aast (pc := 33) (i := 6) ⟨rfl, by decide, by decide⟩ ⟨TX5, rfl⟩ (by decide) o22_1 o22_68 (by decide) (by decide) dX0_init_33 ?_
  refine ev_eqS e23 ?_
  refine ev_iinc (pc := 34) (y := 7) (il' := [(1, vI 7), (0, vR k)]) 0 dX0_init_34 rfl (Nat.le_of_ble_eq_true rfl) (by decide) rfl ?_
  refine ev_goto (pc := 37) (tgt := 15) dX0_init_37 (by decide) ?_
  refine ev_iload_n (pc := 15) 0 dX0_init_15 rfl rfl ?_
  refine ev_bipush (pc := 16) (x := 30) dX0_init_16 cb_30 ?_
  refine ev_icmp_ge (pc := 18) (tgt := 40) dX0_init_18 (by decide) (fun h9 => absurd h9 (by decide)) (fun _ => ?_)
  refine ev_aload_n (pc := 21) 1 dX0_init_21 rfl rfl ?_
  refine ev_getRL (pc := 22) fl0_11 rfl dX0_init_22 rfl o23_k f23_k_0 ?_
  refine ev_iload_n (pc := 25) 0 dX0_init_25 rfl rfl ?_
  refine ev_new (pc := 26) (b2 := (252, 2973)) rfl nl0_9 df5 dX0_init_26 rfl ?_
  refine ev_eqI (show ((l23.length : Int) + 1) = ((l.length : Int) + 79) by omega) ?_
  refine ev_eqS e24 ?_
  refine ev_dup (pc := 29) rfl dX0_init_29 ?_
  refine ev_callI (pc := 30) (b1 := (10, 113)) (b2 := (242, 2860)) (as1 := []) (st := [vR ((l.length : Int) + 79), vI 7, vR ((l.length : Int) + 1)]) (q := vN) (d' := d - 1) rfl mkX5_init ⟨rfl, rfl⟩ ml0_17 miX5_init (by have h9 := o24_79.1; omega) rfl (Nat.le_of_ble_eq_true rfl) (by omega) rfl dX0_init_30 (C25.2 (d := d - 1) (by omega)) ?_
  change Ev g d mtX0_init _ _ [vR ((l.length : Int) + 79), vI 7, vR ((l.length : Int) + 1)] _ _ _ _
  refine ev_eqS e25 ?_
  refine ev_aast (pc := 33) (i := 7) ⟨rfl, by decide, by decide⟩ ⟨TX5, rfl⟩ (by decide) o25_1 o25_79 (by decide) (by decide) dX0_init_33 ?_
  refine ev_eqS e26 ?_
  refine ev_iinc (pc := 34) (y := 8) (il' := [(1, vI 8), (0, vR k)]) 0 dX0_init_34 rfl (Nat.le_of_ble_eq_true rfl) (by decide) rfl ?_
  refine ev_goto (pc := 37) (tgt := 15) dX0_init_37 (by decide) ?_
  refine ev_iload_n (pc := 15) 0 dX0_init_15 rfl rfl ?_
  refine ev_bipush (pc := 16) (x := 30) dX0_init_16 cb_30 ?_
  refine ev_icmp_ge (pc := 18) (tgt := 40) dX0_init_18 (by decide) (fun h9 => absurd h9 (by decide)) (fun _ => ?_)
  refine ev_aload_n (pc := 21) 1 dX0_init_21 rfl rfl ?_
  refine ev_getRL (pc := 22) fl0_11 rfl dX0_init_22 rfl o26_k f26_k_0 ?_
  refine ev_iload_n (pc := 25) 0 dX0_init_25 rfl rfl ?_
  refine ev_new (pc := 26) (b2 := (241, 2843)) rfl nl0_9 df5 dX0_init_26 rfl ?_
  refine ev_eqI (show ((l26.length : Int) + 1) = ((l.length : Int) + 90) by omega) ?_
  refine ev_eqS e27 ?_
  refine ev_dup (pc := 29) rfl dX0_init_29 ?_
  refine ev_callI (pc := 30) (b1 := (10, 113)) (b2 := (231, 2730)) (as1 := []) (st := [vR ((l.length : Int) + 90), vI 8, vR ((l.length : Int) + 1)]) (q := vN) (d' := d - 1) rfl mkX5_init ⟨rfl, rfl⟩ ml0_17 miX5_init (by have h9 := o27_90.1; omega) rfl (Nat.le_of_ble_eq_true rfl) (by omega) rfl dX0_init_30 (C28.2 (d := d - 1) (by omega)) ?_
  change Ev g d mtX0_init _ _ [vR ((l.length : Int) + 90), vI 8, vR ((l.length : Int) + 1)] _ _ _ _
  refine ev_eqS e28 ?_
  refine ev_aast (pc := 33) (i := 8) ⟨rfl, by decide, by decide⟩ ⟨TX5, rfl⟩ (by decide) o28_1 o28_90 (by decide) (by decide) dX0_init_33 ?_
  refine ev_eqS e29 ?_
  refine ev_iinc (pc := 34) (y := 9) (il' := [(1, vI 9), (0, vR k)]) 0 dX0_init_34 rfl (Nat.le_of_ble_eq_true rfl) (by decide) rfl ?_
  refine ev_goto (pc := 37) (tgt := 15) dX0_init_37 (by decide) ?_
  refine ev_iload_n (pc := 15) 0 dX0_init_15 rfl rfl ?_
  refine ev_bipush (pc := 16) (x := 30) dX0_init_16 cb_30 ?_
  refine ev_icmp_ge (pc := 18) (tgt := 40) dX0_init_18 (by decide) (fun h9 => absurd h9 (by decide)) (fun _ => ?_)
  refine ev_aload_n (pc := 21) 1 dX0_init_21 rfl rfl ?_
  refine ev_getRL (pc := 22) fl0_11 rfl dX0_init_22 rfl o29_k f29_k_0 ?_
  refine ev_iload_n (pc := 25) 0 dX0_init_25 rfl rfl ?_
  refine ev_new (pc := 26) (b2 := (230, 2713)) rfl nl0_9 df5 dX0_init_26 rfl ?_
  refine ev_eqI (show ((l29.length : Int) + 1) = ((l.length : Int) + 101) by omega) ?_
  refine ev_eqS e30 ?_
  refine ev_dup (pc := 29) rfl dX0_init_29 ?_
  refine ev_callI (pc := 30) (b1 := (10, 113)) (b2 := (220, 2600)) (as1 := []) (st := [vR ((l.length : Int) + 101), vI 9, vR ((l.length : Int) + 1)]) (q := vN) (d' := d - 1) rfl mkX5_init ⟨rfl, rfl⟩ ml0_17 miX5_init (by have h9 := o30_101.1; omega) rfl (Nat.le_of_ble_eq_true rfl) (by omega) rfl dX0_init_30 (C31.2 (d := d - 1) (by omega)) ?_
  change Ev g d mtX0_init _ _ [vR ((l.length : Int) + 101), vI 9, vR ((l.length : Int) + 1)] _ _ _ _
  refine ev_eqS e31 ?_
  refine ev_aast (pc := 33) (i := 9) ⟨rfl, by decide, by decide⟩ ⟨TX5, rfl⟩ (by decide) o31_1 o31_101 (by decide) (by decide) dX0_init_33 ?_
  refine ev_eqS e32 ?_
  refine ev_iinc (pc := 34) (y := 10) (il' := [(1, vI 10), (0, vR k)]) 0 dX0_init_34 rfl (Nat.le_of_ble_eq_true rfl) (by decide) rfl ?_
  refine ev_goto (pc := 37) (tgt := 15) dX0_init_37 (by decide) ?_
  refine ev_iload_n (pc := 15) 0 dX0_init_15 rfl rfl ?_
  refine ev_bipush (pc := 16) (x := 30) dX0_init_16 cb_30 ?_
  refine ev_icmp_ge (pc := 18) (tgt := 40) dX0_init_18 (by decide) (fun h9 => absurd h9 (by decide)) (fun _ => ?_)
  refine ev_aload_n (pc := 21) 1 dX0_init_21 rfl rfl ?_
  refine ev_getRL (pc := 22) fl0_11 rfl dX0_init_22 rfl o32_k f32_k_0 ?_
  refine ev_iload_n (pc := 25) 0 dX0_init_25 rfl rfl ?_
  refine ev_new (pc := 26) (b2 := (219, 2583)) rfl nl0_9 df5 dX0_init_26 rfl ?_
  refine ev_eqI (show ((l32.length : Int) + 1) = ((l.length : Int) + 112) by omega) ?_
  refine ev_eqS e33 ?_
  refine ev_dup (pc := 29) rfl dX0_init_29 ?_
  refine ev_callI (pc := 30) (b1 := (10, 113)) (b2 := (209, 2470)) (as1 := []) (st := [vR ((l.length : Int) + 112), vI 10, vR ((l.length : Int) + 1)]) (q := vN) (d' := d - 1) rfl mkX5_init ⟨rfl, rfl⟩ ml0_17 miX5_init (by have h9 := o33_112.1; omega) rfl (Nat.le_of_ble_eq_true rfl) (by omega) rfl dX0_init_30 (C34.2 (d := d - 1) (by omega)) ?_
  change Ev g d mtX0_init _ _ [vR ((l.length : Int) + 112), vI 10, vR ((l.length : Int) + 1)] _ _ _ _
  refine ev_eqS e34 ?_
  refine ev_aast (pc := 33) (i := 10) ⟨rfl, by decide, by decide⟩ ⟨TX5, rfl⟩ (by decide) o34_1 o34_112 (by decide) (by decide) dX0_init_33 ?_
  refine ev_eqS e35 ?_
  refine ev_iinc (pc := 34) (y := 11) (il' := [(1, vI 11), (0, vR k)]) 0 dX0_init_34 rfl (Nat.le_of_ble_eq_true rfl) (by decide) rfl ?_
  refine ev_goto (pc := 37) (tgt := 15) dX0_init_37 (by decide) ?_
  refine ev_iload_n (pc := 15) 0 dX0_init_15 rfl rfl ?_
  refine ev_bipush (pc := 16) (x := 30) dX0_init_16 cb_30 ?_
  refine ev_icmp_ge (pc := 18) (tgt := 40) dX0_init_18 (by decide) (fun h9 => absurd h9 (by decide)) (fun _ => ?_)
  refine ev_aload_n (pc := 21) 1 dX0_init_21 rfl rfl ?_
  refine ev_getRL (pc := 22) fl0_11 rfl dX0_init_22 rfl o35_k f35_k_0 ?_
  refine ev_iload_n (pc := 25) 0 dX0_init_25 rfl rfl ?_
  refine ev_new (pc := 26) (b2 := (208, 2453)) rfl nl0_9 df5 dX0_init_26 rfl ?_
  refine ev_eqI (show ((l35.length : Int) + 1) = ((l.length : Int) + 123) by omega) ?_
  refine ev_eqS e36 ?_
  refine ev_dup (pc := 29) rfl dX0_init_29 ?_
  refine ev_callI (pc := 30) (b1 := (10, 113)) (b2 := (198, 2340)) (as1 := []) (st := [vR ((l.length : Int) + 123), vI 11, vR ((l.length : Int) + 1)]) (q := vN) (d' := d - 1) rfl mkX5_init ⟨rfl, rfl⟩ ml0_17 miX5_init (by have h9 := o36_123.1; omega) rfl (Nat.le_of_ble_eq_true rfl) (by omega) rfl dX0_init_30 (C37.2 (d := d - 1) (by omega)) ?_
  change Ev g d mtX0_init _ _ [vR ((l.length : Int) + 123), vI 11, vR ((l.length : Int) + 1)] _ _ _ _
  refine ev_eqS e37 ?_
  refine ev_aast (pc := 33) (i := 11) ⟨rfl, by decide, by decide⟩ ⟨TX5, rfl⟩ (by decide) o37_1 o37_123 (by decide) (by decide) dX0_init_33 ?_
  refine ev_eqS e38 ?_
  refine ev_iinc (pc := 34) (y := 12) (il' := [(1, vI 12), (0, vR k)]) 0 dX0_init_34 rfl (Nat.le_of_ble_eq_true rfl) (by decide) rfl ?_
  refine ev_goto (pc := 37) (tgt := 15) dX0_init_37 (by decide) ?_
  refine ev_iload_n (pc := 15) 0 dX0_init_15 rfl rfl ?_
  refine ev_bipush (pc := 16) (x := 30) dX0_init_16 cb_30 ?_
  refine ev_icmp_ge (pc := 18) (tgt := 40) dX0_init_18 (by decide) (fun h9 => absurd h9 (by decide)) (fun _ => ?_)
  refine ev_aload_n (pc := 21) 1 dX0_init_21 rfl rfl ?_
  refine ev_getRL (pc := 22) fl0_11 rfl dX0_init_22 rfl o38_k f38_k_0 ?_
  refine ev_iload_n (pc := 25) 0 dX0_init_25 rfl rfl ?_
  refine ev_new (pc := 26) (b2 := (197, 2323)) rfl nl0_9 df5 dX0_init_26 rfl ?_
  refine ev_eqI (show ((l38.length : Int) + 1) = ((l.length : Int) + 134) by omega) ?_
  refine ev_eqS e39 ?_
  refine ev_dup (pc := 29) rfl dX0_init_29 ?_
  refine ev_callI (pc := 30) (b1 := (10, 113)) (b2 := (187, 2210)) (as1 := []) (st := [vR ((l.length : Int) + 134), vI 12, vR ((l.length : Int) + 1)]) (q := vN) (d' := d - 1) rfl mkX5_init ⟨rfl, rfl⟩ ml0_17 miX5_init (by have h9 := o39_134.1; omega) rfl (Nat.le_of_ble_eq_true rfl) (by omega) rfl dX0_init_30 (C40.2 (d := d - 1) (by omega)) ?_
  change Ev g d mtX0_init _ _ [vR ((l.length : Int) + 134), vI 12, vR ((l.length : Int) + 1)] _ _ _ _
  refine ev_eqS e40 ?_
  refine ev_aast (pc := 33) (i := 12) ⟨rfl, by decide, by decide⟩ ⟨TX5, rfl⟩ (by decide) o40_1 o40_134 (by decide) (by decide) dX0_init_33 ?_
  refine ev_eqS e41 ?_
  refine ev_iinc (pc := 34) (y := 13) (il' := [(1, vI 13), (0, vR k)]) 0 dX0_init_34 rfl (Nat.le_of_ble_eq_true rfl) (by decide) rfl ?_
  refine ev_goto (pc := 37) (tgt := 15) dX0_init_37 (by decide) ?_
  refine ev_iload_n (pc := 15) 0 dX0_init_15 rfl rfl ?_
  refine ev_bipush (pc := 16) (x := 30) dX0_init_16 cb_30 ?_
  refine ev_icmp_ge (pc := 18) (tgt := 40) dX0_init_18 (by decide) (fun h9 => absurd h9 (by decide)) (fun _ => ?_)
  refine ev_aload_n (pc := 21) 1 dX0_init_21 rfl rfl ?_
  refine ev_getRL (pc := 22) fl0_11 rfl dX0_init_22 rfl o41_k f41_k_0 ?_
  refine ev_iload_n (pc := 25) 0 dX0_init_25 rfl rfl ?_
  refine ev_new (pc := 26) (b2 := (186, 2193)) rfl nl0_9 df5 dX0_init_26 rfl ?_
  refine ev_eqI (show ((l41.length : Int) + 1) = ((l.length : Int) + 145) by omega) ?_
  refine ev_eqS e42 ?_
  refine ev_dup (pc := 29) rfl dX0_init_29 ?_
  refine ev_callI (pc := 30) (b1 := (10, 113)) (b2 := (176, 2080)) (as1 := []) (st := [vR ((l.length : Int) + 145), vI 13, vR ((l.length : Int) + 1)]) (q := vN) (d' := d - 1) rfl mkX5_init ⟨rfl, rfl⟩ ml0_17 miX5_init (by have h9 := o42_145.1; omega) rfl (Nat.le_of_ble_eq_true rfl) (by omega) rfl dX0_init_30 (C43.2 (d := d - 1) (by omega)) ?_
  change Ev g d mtX0_init _ _ [vR ((l.length : Int) + 145), vI 13, vR ((l.length : Int) + 1)] _ _ _ _
  refine ev_eqS e43 ?_
  refine ev_aast (pc := 33) (i := 13) ⟨rfl, by decide, by decide⟩ ⟨TX5, rfl⟩ (by decide) o43_1 o43_145 (by decide) (by decide) dX0_init_33 ?_
  refine ev_eqS e44 ?_
  refine ev_iinc (pc := 34) (y := 14) (il' := [(1, vI 14), (0, vR k)]) 0 dX0_init_34 rfl (Nat.le_of_ble_eq_true rfl) (by decide) rfl ?_
  refine ev_goto (pc := 37) (tgt := 15) dX0_init_37 (by decide) ?_
  refine ev_iload_n (pc := 15) 0 dX0_init_15 rfl rfl ?_
  refine ev_bipush (pc := 16) (x := 30) dX0_init_16 cb_30 ?_
  refine ev_icmp_ge (pc := 18) (tgt := 40) dX0_init_18 (by decide) (fun h9 => absurd h9 (by decide)) (fun _ => ?_)
  refine ev_aload_n (pc := 21) 1 dX0_init_21 rfl rfl ?_
  refine ev_getRL (pc := 22) fl0_11 rfl dX0_init_22 rfl o44_k f44_k_0 ?_
  refine ev_iload_n (pc := 25) 0 dX0_init_25 rfl rfl ?_
  refine ev_new (pc := 26) (b2 := (175, 2063)) rfl nl0_9 df5 dX0_init_26 rfl ?_
  refine ev_eqI (show ((l44.length : Int) + 1) = ((l.length : Int) + 156) by omega) ?_
  refine ev_eqS e45 ?_
  refine ev_dup (pc := 29) rfl dX0_init_29 ?_
  refine ev_callI (pc := 30) (b1 := (10, 113)) (b2 := (165, 1950)) (as1 := []) (st := [vR ((l.length : Int) + 156), vI 14, vR ((l.length : Int) + 1)]) (q := vN) (d' := d - 1) rfl mkX5_init ⟨rfl, rfl⟩ ml0_17 miX5_init (by have h9 := o45_156.1; omega) rfl (Nat.le_of_ble_eq_true rfl) (by omega) rfl dX0_init_30 (C46.2 (d := d - 1) (by omega)) ?_
  change Ev g d mtX0_init _ _ [vR ((l.length : Int) + 156), vI 14, vR ((l.length : Int) + 1)] _ _ _ _
  refine ev_eqS e46 ?_
  refine ev_aast (pc := 33) (i := 14) ⟨rfl, by decide, by decide⟩ ⟨TX5, rfl⟩ (by decide) o46_1 o46_156 (by decide) (by decide) dX0_init_33 ?_
  refine ev_eqS e47 ?_
  refine ev_iinc (pc := 34) (y := 15) (il' := [(1, vI 15), (0, vR k)]) 0 dX0_init_34 rfl (Nat.le_of_ble_eq_true rfl) (by decide) rfl ?_
  refine ev_goto (pc := 37) (tgt := 15) dX0_init_37 (by decide) ?_
  refine ev_iload_n (pc := 15) 0 dX0_init_15 rfl rfl ?_
  refine ev_bipush (pc := 16) (x := 30) dX0_init_16 cb_30 ?_
  refine ev_icmp_ge (pc := 18) (tgt := 40) dX0_init_18 (by decide) (fun h9 => absurd h9 (by decide)) (fun _ => ?_)
  refine ev_aload_n (pc := 21) 1 dX0_init_21 rfl rfl ?_
  refine ev_getRL (pc := 22) fl0_11 rfl dX0_init_22 rfl o47_k f47_k_0 ?_
  refine ev_iload_n (pc := 25) 0 dX0_init_25 rfl rfl ?_
  refine ev_new (pc := 26) (b2 := (164, 1933)) rfl nl0_9 df5 dX0_init_26 rfl ?_
  refine ev_eqI (show ((l47.length : Int) + 1) = ((l.length : Int) + 167) by omega) ?_
  refine ev_eqS e48 ?_
  refine ev_dup (pc := 29) rfl dX0_init_29 ?_
  refine ev_callI (pc := 30) (b1 := (10, 113)) (b2 := (154, 1820)) (as1 := []) (st := [vR ((l.length : Int) + 167), vI 15, vR ((l.length : Int) + 1)]) (q := vN) (d' := d - 1) rfl mkX5_init ⟨rfl, rfl⟩ ml0_17 miX5_init (by have h9 := o48_167.1; omega) rfl (Nat.le_of_ble_eq_true rfl) (by omega) rfl dX0_init_30 (C49.2 (d := d - 1) (by omega)) ?_
  change Ev g d mtX0_init _ _ [vR ((l.length : Int) + 167), vI 15, vR ((l.length : Int) + 1)] _ _ _ _
  refine ev_eqS e49 ?_
  refine ev_aast (pc := 33) (i := 15) ⟨rfl, by decide, by decide⟩ ⟨TX5, rfl⟩ (by decide) o49_1 o49_167 (by decide) (by decide) dX0_init_33 ?_
  refine ev_eqS e50 ?_
  refine ev_iinc (pc := 34) (y := 16) (il' := [(1, vI 16), (0, vR k)]) 0 dX0_init_34 rfl (Nat.le_of_ble_eq_true rfl) (by decide) rfl ?_
  refine ev_goto (pc := 37) (tgt := 15) dX0_init_37 (by decide) ?_
  refine ev_iload_n (pc := 15) 0 dX0_init_15 rfl rfl ?_
  refine ev_bipush (pc := 16) (x := 30) dX0_init_16 cb_30 ?_
  refine ev_icmp_ge (pc := 18) (tgt := 40) dX0_init_18 (by decide) (fun h9 => absurd h9 (by decide)) (fun _ => ?_)
  refine ev_aload_n (pc := 21) 1 dX0_init_21 rfl rfl ?_
  refine ev_getRL (pc := 22) fl0_11 rfl dX0_init_22 rfl o50_k f50_k_0 ?_
  refine ev_iload_n (pc := 25) 0 dX0_init_25 rfl rfl ?_
  refine ev_new (pc := 26) (b2 := (153, 1803)) rfl nl0_9 df5 dX0_init_26 rfl ?_
  refine ev_eqI (show ((l50.length : Int) + 1) = ((l.length : Int) + 178) by omega) ?_
  refine ev_eqS e51 ?_
  refine ev_dup (pc := 29) rfl dX0_init_29 ?_
  refine ev_callI (pc := 30) (b1 := (10, 113)) (b2 := (143, 1690)) (as1 := []) (st := [vR ((l.length : Int) + 178), vI 16, vR ((l.length : Int) + 1)]) (q := vN) (d' := d - 1) rfl mkX5_init ⟨rfl, rfl⟩ ml0_17 miX5_init (by have h9 := o51_178.1; omega) rfl (Nat.le_of_ble_eq_true rfl) (by omega) rfl dX0_init_30 (C52.2 (d := d - 1) (by omega)) ?_
  change Ev g d mtX0_init _ _ [vR ((l.length : Int) + 178), vI 16, vR ((l.length : Int) + 1)] _ _ _ _
  refine ev_eqS e52 ?_
  refine ev_aast (pc := 33) (i := 16) ⟨rfl, by decide, by decide⟩ ⟨TX5, rfl⟩ (by decide) o52_1 o52_178 (by decide) (by decide) dX0_init_33 ?_
  refine ev_eqS e53 ?_
  refine ev_iinc (pc := 34) (y := 17) (il' := [(1, vI 17), (0, vR k)]) 0 dX0_init_34 rfl (Nat.le_of_ble_eq_true rfl) (by decide) rfl ?_
  refine ev_goto (pc := 37) (tgt := 15) dX0_init_37 (by decide) ?_
  refine ev_iload_n (pc := 15) 0 dX0_init_15 rfl rfl ?_
  refine ev_bipush (pc := 16) (x := 30) dX0_init_16 cb_30 ?_
  refine ev_icmp_ge (pc := 18) (tgt := 40) dX0_init_18 (by decide) (fun h9 => absurd h9 (by decide)) (fun _ => ?_)
  refine ev_aload_n (pc := 21) 1 dX0_init_21 rfl rfl ?_
  refine ev_getRL (pc := 22) fl0_11 rfl dX0_init_22 rfl o53_k f53_k_0 ?_
  refine ev_iload_n (pc := 25) 0 dX0_init_25 rfl rfl ?_
  refine ev_new (pc := 26) (b2 := (142, 1673)) rfl nl0_9 df5 dX0_init_26 rfl ?_
  refine ev_eqI (show ((l53.length : Int) + 1) = ((l.length : Int) + 189) by omega) ?_
  refine ev_eqS e54 ?_
  refine ev_dup (pc := 29) rfl dX0_init_29 ?_
  refine ev_callI (pc := 30) (b1 := (10, 113)) (b2 := (132, 1560)) (as1 := []) (st := [vR ((l.length : Int) + 189), vI 17, vR ((l.length : Int) + 1)]) (q := vN) (d' := d - 1) rfl mkX5_init ⟨rfl, rfl⟩ ml0_17 miX5_init (by have h9 := o54_189.1; omega) rfl (Nat.le_of_ble_eq_true rfl) (by omega) rfl dX0_init_30 (C55.2 (d := d - 1) (by omega)) ?_
  change Ev g d mtX0_init _ _ [vR ((l.length : Int) + 189), vI 17, vR ((l.length : Int) + 1)] _ _ _ _
  refine ev_eqS e55 ?_
  refine ev_aast (pc := 33) (i := 17) ⟨rfl, by decide, by decide⟩ ⟨TX5, rfl⟩ (by decide) o55_1 o55_189 (by decide) (by decide) dX0_init_33 ?_
  refine ev_eqS e56 ?_
  refine ev_iinc (pc := 34) (y := 18) (il' := [(1, vI 18), (0, vR k)]) 0 dX0_init_34 rfl (Nat.le_of_ble_eq_true rfl) (by decide) rfl ?_
  refine ev_goto (pc := 37) (tgt := 15) dX0_init_37 (by decide) ?_
  refine ev_iload_n (pc := 15) 0 dX0_init_15 rfl rfl ?_
  refine ev_bipush (pc := 16) (x := 30) dX0_init_16 cb_30 ?_
  refine ev_icmp_ge (pc := 18) (tgt := 40) dX0_init_18 (by decide) (fun h9 => absurd h9 (by decide)) (fun _ => ?_)
  refine ev_aload_n (pc := 21) 1 dX0_init_21 rfl rfl ?_
  refine ev_getRL (pc := 22) fl0_11 rfl dX0_init_22 rfl o56_k f56_k_0 ?_
  refine ev_iload_n (pc := 25) 0 dX0_init_25 rfl rfl ?_
  refine ev_new (pc := 26) (b2 := (131, 1543)) rfl nl0_9 df5 dX0_init_26 rfl ?_
  refine ev_eqI (show ((l56.length : Int) + 1) = ((l.length : Int) + 200) by omega) ?_
  refine ev_eqS e57 ?_
  refine ev_dup (pc := 29) rfl dX0_init_29 ?_
  refine ev_callI (pc := 30) (b1 := (10, 113)) (b2 := (121, 1430)) (as1 := []) (st := [vR ((l.length : Int) + 200), vI 18, vR ((l.length : Int) + 1)]) (q := vN) (d' := d - 1) rfl mkX5_init ⟨rfl, rfl⟩ ml0_17 miX5_init (by have h9 := o57_200.1; omega) rfl (Nat.le_of_ble_eq_true rfl) (by omega) rfl dX0_init_30 (C58.2 (d := d - 1) (by omega)) ?_
  change Ev g d mtX0_init _ _ [vR ((l.length : Int) + 200), vI 18, vR ((l.length : Int) + 1)] _ _ _ _
  refine ev_eqS e58 ?_
  refine ev_aast (pc := 33) (i := 18) ⟨rfl, by decide, by decide⟩ ⟨TX5, rfl⟩ (by decide) o58_1 o58_200 (by decide) (by decide) dX0_init_33 ?_
  refine ev_eqS e59 ?_
  refine ev_iinc (pc := 34) (y := 19) (il' := [(1, vI 19), (0, vR k)]) 0 dX0_init_34 rfl (Nat.le_of_ble_eq_true rfl) (by decide) rfl ?_
  refine ev_goto (pc := 37) (tgt := 15) dX0_init_37 (by decide) ?_
  refine ev_iload_n (pc := 15) 0 dX0_init_15 rfl rfl ?_
  refine ev_bipush (pc := 16) (x := 30) dX0_init_16 cb_30 ?_
  refine ev_icmp_ge (pc := 18) (tgt := 40) dX0_init_18 (by decide) (fun h9 => absurd h9 (by decide)) (fun _ => ?_)
  refine ev_aload_n (pc := 21) 1 dX0_init_21 rfl rfl ?_
  refine ev_getRL (pc := 22) fl0_11 rfl dX0_init_22 rfl o59_k f59_k_0 ?_
  refine ev_iload_n (pc := 25) 0 dX0_init_25 rfl rfl ?_
  refine ev_new (pc := 26) (b2 := (120, 1413)) rfl nl0_9 df5 dX0_init_26 rfl ?_
  refine ev_eqI (show ((l59.length : Int) + 1) = ((l.length : Int) + 211) by omega) ?_
  refine ev_eqS e60 ?_
  refine ev_dup (pc := 29) rfl dX0_init_29 ?_
  refine ev_callI (pc := 30) (b1 := (10, 113)) (b2 := (110, 1300)) (as1 := []) (st := [vR ((l.length : Int) + 211), vI 19, vR ((l.length : Int) + 1)]) (q := vN) (d' := d - 1) rfl mkX5_init ⟨rfl, rfl⟩ ml0_17 miX5_init (by have h9 := o60_211.1; omega) rfl (Nat.le_of_ble_eq_true rfl) (by omega) rfl dX0_init_30 (C61.2 (d := d - 1) (by omega)) ?_
  change Ev g d mtX0_init _ _ [vR ((l.length : Int) + 211), vI 19, vR ((l.length : Int) + 1)] _ _ _ _
  refine ev_eqS e61 ?_
  refine ev_aast (pc := 33) (i := 19) ⟨rfl, by decide, by decide⟩ ⟨TX5, rfl⟩ (by decide) o61_1 o61_211 (by decide) (by decide) dX0_init_33 ?_
  refine ev_eqS e62 ?_
  refine ev_iinc (pc := 34) (y := 20) (il' := [(1, vI 20), (0, vR k)]) 0 dX0_init_34 rfl (Nat.le_of_ble_eq_true rfl) (by decide) rfl ?_
  refine ev_goto (pc := 37) (tgt := 15) dX0_init_37 (by decide) ?_
  refine ev_iload_n (pc := 15) 0 dX0_init_15 rfl rfl ?_
  refine ev_bipush (pc := 16) (x := 30) dX0_init_16 cb_30 ?_
  refine ev_icmp_ge (pc := 18) (tgt := 40) dX0_init_18 (by decide) (fun h9 => absurd h9 (by decide)) (fun _ => ?_)
  refine ev_aload_n (pc := 21) 1 dX0_init_21 rfl rfl ?_
  refine ev_getRL (pc := 22) fl0_11 rfl dX0_init_22 rfl o62_k f62_k_0 ?_
  refine ev_iload_n (pc := 25) 0 dX0_init_25 rfl rfl ?_
  refine ev_new (pc := 26) (b2 := (109, 1283)) rfl nl0_9 df5 dX0_init_26 rfl ?_
  refine ev_eqI (show ((l62.length : Int) + 1) = ((l.length : Int) + 222) by omega) ?_
  refine ev_eqS e63 ?_
  refine ev_dup (pc := 29) rfl dX0_init_29 ?_
  refine ev_callI (pc := 30) (b1 := (10, 113)) (b2 := (99, 1170)) (as1 := []) (st := [vR ((l.length : Int) + 222), vI 20, vR ((l.length : Int) + 1)]) (q := vN) (d' := d - 1) rfl mkX5_init ⟨rfl, rfl⟩ ml0_17 miX5_init (by have h9 := o63_222.1; omega) rfl (Nat.le_of_ble_eq_true rfl) (by omega) rfl dX0_init_30 (C64.2 (d := d - 1) (by omega)) ?_
  change Ev g d mtX0_init _ _ [vR ((l.length : Int) + 222), vI 20, vR ((l.length : Int) + 1)] _ _ _ _
  refine ev_eqS e64 ?_
  refine ev_aast (pc := 33) (i := 20) ⟨rfl, by decide, by decide⟩ ⟨TX5, rfl⟩ (by decide) o64_1 o64_222 (by decide) (by decide) dX0_init_33 ?_
  refine ev_eqS e65 ?_
  refine ev_iinc (pc := 34) (y := 21) (il' := [(1, vI 21), (0, vR k)]) 0 dX0_init_34 rfl (Nat.le_of_ble_eq_true rfl) (by decide) rfl ?_
  refine ev_goto (pc := 37) (tgt := 15) dX0_init_37 (by decide) ?_
  refine ev_iload_n (pc := 15) 0 dX0_init_15 rfl rfl ?_
  refine ev_bipush (pc := 16) (x := 30) dX0_init_16 cb_30 ?_
  refine ev_icmp_ge (pc := 18) (tgt := 40) dX0_init_18 (by decide) (fun h9 => absurd h9 (by decide)) (fun _ => ?_)
  refine ev_aload_n (pc := 21) 1 dX0_init_21 rfl rfl ?_
  refine ev_getRL (pc := 22) fl0_11 rfl dX0_init_22 rfl o65_k f65_k_0 ?_
  refine ev_iload_n (pc := 25) 0 dX0_init_25 rfl rfl ?_
  refine ev_new (pc := 26) (b2 := (98, 1153)) rfl nl0_9 df5 dX0_init_26 rfl ?_
  refine ev_eqI (show ((l65.length : Int) + 1) = ((l.length : Int) + 233) by omega) ?_
  refine ev_eqS e66 ?_
  refine ev_dup (pc := 29) rfl dX0_init_29 ?_
  refine ev_callI (pc := 30) (b1 := (10, 113)) (b2 := (88, 1040)) (as1 := []) (st := [vR ((l.length : Int) + 233), vI 21, vR ((l.length : Int) + 1)]) (q := vN) (d' := d - 1) rfl mkX5_init ⟨rfl, rfl⟩ ml0_17 miX5_init (by have h9 := o66_233.1; omega) rfl (Nat.le_of_ble_eq_true rfl) (by omega) rfl dX0_init_30 (C67.2 (d := d - 1) (by omega)) ?_
  change Ev g d mtX0_init _ _ [vR ((l.length : Int) + 233), vI 21, vR ((l.length : Int) + 1)] _ _ _ _
  refine ev_eqS e67 ?_
  refine ev_aast (pc := 33) (i := 21) ⟨rfl, by decide, by decide⟩ ⟨TX5, rfl⟩ (by decide) o67_1 o67_233 (by decide) (by decide) dX0_init_33 ?_
  refine ev_eqS e68 ?_
  refine ev_iinc (pc := 34) (y := 22) (il' := [(1, vI 22), (0, vR k)]) 0 dX0_init_34 rfl (Nat.le_of_ble_eq_true rfl) (by decide) rfl ?_
  refine ev_goto (pc := 37) (tgt := 15) dX0_init_37 (by decide) ?_
  refine ev_iload_n (pc := 15) 0 dX0_init_15 rfl rfl ?_
  refine ev_bipush (pc := 16) (x := 30) dX0_init_16 cb_30 ?_
  refine ev_icmp_ge (pc := 18) (tgt := 40) dX0_init_18 (by decide) (fun h9 => absurd h9 (by decide)) (fun _ => ?_)
  refine ev_aload_n (pc := 21) 1 dX0_init_21 rfl rfl ?_
  refine ev_getRL (pc := 22) fl0_11 rfl dX0_init_22 rfl o68_k f68_k_0 ?_
  refine ev_iload_n (pc := 25) 0 dX0_init_25 rfl rfl ?_
  refine ev_new (pc := 26) (b2 := (87, 1023)) rfl nl0_9 df5 dX0_init_26 rfl ?_
  refine ev_eqI (show ((l68.length : Int) + 1) = ((l.length : Int) + 244) by omega) ?_
  refine ev_eqS e69 ?_
  refine ev_dup (pc := 29) rfl dX0_init_29 ?_
  refine ev_callI (pc := 30) (b1 := (10, 113)) (b2 := (77, 910)) (as1 := []) (st := [vR ((l.length : Int) + 244), vI 22, vR ((l.length : Int) + 1)]) (q := vN) (d' := d - 1) rfl mkX5_init ⟨rfl, rfl⟩ ml0_17 miX5_init (by have h9 := o69_244.1; omega) rfl (Nat.le_of_ble_eq_true rfl) (by omega) rfl dX0_init_30 (C70.2 (d := d - 1) (by omega)) ?_
  change Ev g d mtX0_init _ _ [vR ((l.length : Int) + 244), vI 22, vR ((l.length : Int) + 1)] _ _ _ _
  refine ev_eqS e70 ?_
  refine ev_aast (pc := 33) (i := 22) ⟨rfl, by decide, by decide⟩ ⟨TX5, rfl⟩ (by decide) o70_1 o70_244 (by decide) (by decide) dX0_init_33 ?_
  refine ev_eqS e71 ?_
  refine ev_iinc (pc := 34) (y := 23) (il' := [(1, vI 23), (0, vR k)]) 0 dX0_init_34 rfl (Nat.le_of_ble_eq_true rfl) (by decide) rfl ?_
  refine ev_goto (pc := 37) (tgt := 15) dX0_init_37 (by decide) ?_
  refine ev_iload_n (pc := 15) 0 dX0_init_15 rfl rfl ?_
  refine ev_bipush (pc := 16) (x := 30) dX0_init_16 cb_30 ?_
  refine ev_icmp_ge (pc := 18) (tgt := 40) dX0_init_18 (by decide) (fun h9 => absurd h9 (by decide)) (fun _ => ?_)
  refine ev_aload_n (pc := 21) 1 dX0_init_21 rfl rfl ?_
  refine ev_getRL (pc := 22) fl0_11 rfl dX0_init_22 rfl o71_k f71_k_0 ?_
  refine ev_iload_n (pc := 25) 0 dX0_init_25 rfl rfl ?_
  refine ev_new (pc := 26) (b2 := (76, 893)) rfl nl0_9 df5 dX0_init_26 rfl ?_
  refine ev_eqI (show ((l71.length : Int) + 1) = ((l.length : Int) + 255) by omega) ?_
  refine ev_eqS e72 ?_
  refine ev_dup (pc := 29) rfl dX0_init_29 ?_
  refine ev_callI (pc := 30) (b1 := (10, 113)) (b2 := (66, 780)) (as1 := []) (st := [vR ((l.length : Int) + 255), vI 23, vR ((l.length : Int) + 1)]) (q := vN) (d' := d - 1) rfl mkX5_init ⟨rfl, rfl⟩ ml0_17 miX5_init (by have h9 := o72_255.1; omega) rfl (Nat.le_of_ble_eq_true rfl) (by omega) rfl dX0_init_30 (C73.2 (d := d - 1) (by omega)) ?_
  change Ev g d mtX0_init _ _ [vR ((l.length : Int) + 255), vI 23, vR ((l.length : Int) + 1)] _ _ _ _
  refine ev_eqS e73 ?_
  refine ev_aast (pc := 33) (i := 23) ⟨rfl, by decide, by decide⟩ ⟨TX5, rfl⟩ (by decide) o73_1 o73_255 (by decide) (by decide) dX0_init_33 ?_
  refine ev_eqS e74 ?_
  refine ev_iinc (pc := 34) (y := 24) (il' := [(1, vI 24), (0, vR k)]) 0 dX0_init_34 rfl (Nat.le_of_ble_eq_true rfl) (by decide) rfl ?_
  refine ev_goto (pc := 37) (tgt := 15) dX0_init_37 (by decide) ?_
  refine ev_iload_n (pc := 15) 0 dX0_init_15 rfl rfl ?_
  refine ev_bipush (pc := 16) (x := 30) dX0_init_16 cb_30 ?_
  refine ev_icmp_ge (pc := 18) (tgt := 40) dX0_init_18 (by decide) (fun h9 => absurd h9 (by decide)) (fun _ => ?_)
  refine ev_aload_n (pc := 21) 1 dX0_init_21 rfl rfl ?_
  refine ev_getRL (pc := 22) fl0_11 rfl dX0_init_22 rfl o74_k f74_k_0 ?_
  refine ev_iload_n (pc := 25) 0 dX0_init_25 rfl rfl ?_
  refine ev_new (pc := 26) (b2 := (65, 763)) rfl nl0_9 df5 dX0_init_26 rfl ?_
  refine ev_eqI (show ((l74.length : Int) + 1) = ((l.length : Int) + 266) by omega) ?_
  refine ev_eqS e75 ?_
  refine ev_dup (pc := 29) rfl dX0_init_29 ?_
  refine ev_callI (pc := 30) (b1 := (10, 113)) (b2 := (55, 650)) (as1 := []) (st := [vR ((l.length : Int) + 266), vI 24, vR ((l.length : Int) + 1)]) (q := vN) (d' := d - 1) rfl mkX5_init ⟨rfl, rfl⟩ ml0_17 miX5_init (by have h9 := o75_266.1; omega) rfl (Nat.le_of_ble_eq_true rfl) (by omega) rfl dX0_init_30 (C76.2 (d := d - 1) (by omega)) ?_
  change Ev g d mtX0_init _ _ [vR ((l.length : Int) + 266), vI 24, vR ((l.length : Int) + 1)] _ _ _ _
  refine ev_eqS e76 ?_
  refine ev_aast (pc := 33) (i := 24) ⟨rfl, by decide, by decide⟩ ⟨TX5, rfl⟩ (by decide) o76_1 o76_266 (by decide) (by decide) dX0_init_33 ?_
  refine ev_eqS e77 ?_
  refine ev_iinc (pc := 34) (y := 25) (il' := [(1, vI 25), (0, vR k)]) 0 dX0_init_34 rfl (Nat.le_of_ble_eq_true rfl) (by decide) rfl ?_
  refine ev_goto (pc := 37) (tgt := 15) dX0_init_37 (by decide) ?_
  refine ev_iload_n (pc := 15) 0 dX0_init_15 rfl rfl ?_
  refine ev_bipush (pc := 16) (x := 30) dX0_init_16 cb_30 ?_
  refine ev_icmp_ge (pc := 18) (tgt := 40) dX0_init_18 (by decide) (fun h9 => absurd h9 (by decide)) (fun _ => ?_)
  refine ev_aload_n (pc := 21) 1 dX0_init_21 rfl rfl ?_
  refine ev_getRL (pc := 22) fl0_11 rfl dX0_init_22 rfl o77_k f77_k_0 ?_
  refine ev_iload_n (pc := 25) 0 dX0_init_25 rfl rfl ?_
  refine ev_new (pc := 26) (b2 := (54, 633)) rfl nl0_9 df5 dX0_init_26 rfl ?_
  refine ev_eqI (show ((l77.length : Int) + 1) = ((l.length : Int) + 277) by omega) ?_
  refine ev_eqS e78 ?_
  refine ev_dup (pc := 29) rfl dX0_init_29 ?_
  refine ev_callI (pc := 30) (b1 := (10, 113)) (b2 := (44, 520)) (as1 := []) (st := [vR ((l.length : Int) + 277), vI 25, vR ((l.length : Int) + 1)]) (q := vN) (d' := d - 1) rfl mkX5_init ⟨rfl, rfl⟩ ml0_17 miX5_init (by have h9 := o78_277.1; omega) rfl (Nat.le_of_ble_eq_true rfl) (by omega) rfl dX0_init_30 (C79.2 (d := d - 1) (by omega)) ?_
  change Ev g d mtX0_init _ _ [vR ((l.length : Int) + 277), vI 25, vR ((l.length : Int) + 1)] _ _ _ _
  refine ev_eqS e79 ?_
  refine ev_aast (pc := 33) (i := 25) ⟨rfl, by decide, by decide⟩ ⟨TX5, rfl⟩ (by decide) o79_1 o79_277 (by decide) (by decide) dX0_init_33 ?_
  refine ev_eqS e80 ?_
  refine ev_iinc (pc := 34) (y := 26) (il' := [(1, vI 26), (0, vR k)]) 0 dX0_init_34 rfl (Nat.le_of_ble_eq_true rfl) (by decide) rfl ?_
  refine ev_goto (pc := 37) (tgt := 15) dX0_init_37 (by decide) ?_
  refine ev_iload_n (pc := 15) 0 dX0_init_15 rfl rfl ?_
  refine ev_bipush (pc := 16) (x := 30) dX0_init_16 cb_30 ?_
  refine ev_icmp_ge (pc := 18) (tgt := 40) dX0_init_18 (by decide) (fun h9 => absurd h9 (by decide)) (fun _ => ?_)
  refine ev_aload_n (pc := 21) 1 dX0_init_21 rfl rfl ?_
  refine ev_getRL (pc := 22) fl0_11 rfl dX0_init_22 rfl o80_k f80_k_0 ?_
  refine ev_iload_n (pc := 25) 0 dX0_init_25 rfl rfl ?_
  refine ev_new (pc := 26) (b2 := (43, 503)) rfl nl0_9 df5 dX0_init_26 rfl ?_
  refine ev_eqI (show ((l80.length : Int) + 1) = ((l.length : Int) + 288) by omega) ?_
  refine ev_eqS e81 ?_
  refine ev_dup (pc := 29) rfl dX0_init_29 ?_
  refine ev_callI (pc := 30) (b1 := (10, 113)) (b2 := (33, 390)) (as1 := []) (st := [vR ((l.length : Int) + 288), vI 26, vR ((l.length : Int) + 1)]) (q := vN) (d' := d - 1) rfl mkX5_init ⟨rfl, rfl⟩ ml0_17 miX5_init (by have h9 := o81_288.1; omega) rfl (Nat.le_of_ble_eq_true rfl) (by omega) rfl dX0_init_30 (C82.2 (d := d - 1) (by omega)) ?_
  change Ev g d mtX0_init _ _ [vR ((l.length : Int) + 288), vI 26, vR ((l.length : Int) + 1)] _ _ _ _
  refine ev_eqS e82 ?_
  refine ev_aast (pc := 33) (i := 26) ⟨rfl, by decide, by decide⟩ ⟨TX5, rfl⟩ (by decide) o82_1 o82_288 (by decide) (by decide) dX0_init_33 ?_
  refine ev_eqS e83 ?_
  refine ev_iinc (pc := 34) (y := 27) (il' := [(1, vI 27), (0, vR k)]) 0 dX0_init_34 rfl (Nat.le_of_ble_eq_true rfl) (by decide) rfl ?_
  refine ev_goto (pc := 37) (tgt := 15) dX0_init_37 (by decide) ?_
  refine ev_iload_n (pc := 15) 0 dX0_init_15 rfl rfl ?_
  refine ev_bipush (pc := 16) (x := 30) dX0_init_16 cb_30 ?_
  refine ev_icmp_ge (pc := 18) (tgt := 40) dX0_init_18 (by decide) (fun h9 => absurd h9 (by decide)) (fun _ => ?_)
  refine ev_aload_n (pc := 21) 1 dX0_init_21 rfl rfl ?_
  refine ev_getRL (pc := 22) fl0_11 rfl dX0_init_22 rfl o83_k f83_k_0 ?_
  refine ev_iload_n (pc := 25) 0 dX0_init_25 rfl rfl ?_
  refine ev_new (pc := 26) (b2 := (32, 373)) rfl nl0_9 df5 dX0_init_26 rfl ?_
  refine ev_eqI (show ((l83.length : Int) + 1) = ((l.length : Int) + 299) by omega) ?_
  refine ev_eqS e84 ?_
  refine ev_dup (pc := 29) rfl dX0_init_29 ?_
  refine ev_callI (pc := 30) (b1 := (10, 113)) (b2 := (22, 260)) (as1 := []) (st := [vR ((l.length : Int) + 299), vI 27, vR ((l.length : Int) + 1)]) (q := vN) (d' := d - 1) rfl mkX5_init ⟨rfl, rfl⟩ ml0_17 miX5_init (by have h9 := o84_299.1; omega) rfl (Nat.le_of_ble_eq_true rfl) (by omega) rfl dX0_init_30 (C85.2 (d := d - 1) (by omega)) ?_
  change Ev g d mtX0_init _ _ [vR ((l.length : Int) + 299), vI 27, vR ((l.length : Int) + 1)] _ _ _ _
  refine ev_eqS e85 ?_
  refine ev_aast (pc := 33) (i := 27) ⟨rfl, by decide, by decide⟩ ⟨TX5, rfl⟩ (by decide) o85_1 o85_299 (by decide) (by decide) dX0_init_33 ?_
  refine ev_eqS e86 ?_
  refine ev_iinc (pc := 34) (y := 28) (il' := [(1, vI 28), (0, vR k)]) 0 dX0_init_34 rfl (Nat.le_of_ble_eq_true rfl) (by decide) rfl ?_
  refine ev_goto (pc := 37) (tgt := 15) dX0_init_37 (by decide) ?_
  refine ev_iload_n (pc := 15) 0 dX0_init_15 rfl rfl ?_
  refine ev_bipush (pc := 16) (x := 30) dX0_init_16 cb_30 ?_
  refine ev_icmp_ge (pc := 18) (tgt := 40) dX0_init_18 (by decide) (fun h9 => absurd h9 (by decide)) (fun _ => ?_)
  refine ev_aload_n (pc := 21) 1 dX0_init_21 rfl rfl ?_
  refine ev_getRL (pc := 22) fl0_11 rfl dX0_init_22 rfl o86_k f86_k_0 ?_
  refine ev_iload_n (pc := 25) 0 dX0_init_25 rfl rfl ?_
  refine ev_new (pc := 26) (b2 := (21, 243)) rfl nl0_9 df5 dX0_init_26 rfl ?_
  refine ev_eqI (show ((l86.length : Int) + 1) = ((l.length : Int) + 310) by omega) ?_
  refine ev_eqS e87 ?_
  refine ev_dup (pc := 29) rfl dX0_init_29 ?_
  refine ev_callI (pc := 30) (b1 := (10, 113)) (b2 := (11, 130)) (as1 := []) (st := [vR ((l.length : Int) + 310), vI 28, vR ((l.length : Int) + 1)]) (q := vN) (d' := d - 1) rfl mkX5_init ⟨rfl, rfl⟩ ml0_17 miX5_init (by have h9 := o87_310.1; omega) rfl (Nat.le_of_ble_eq_true rfl) (by omega) rfl dX0_init_30 (C88.2 (d := d - 1) (by omega)) ?_
  change Ev g d mtX0_init _ _ [vR ((l.length : Int) + 310), vI 28, vR ((l.length : Int) + 1)] _ _ _ _
  refine ev_eqS e88 ?_
  refine ev_aast (pc := 33) (i := 28) ⟨rfl, by decide, by decide⟩ ⟨TX5, rfl⟩ (by decide) o88_1 o88_310 (by decide) (by decide) dX0_init_33 ?_
  refine ev_eqS e89 ?_
  refine ev_iinc (pc := 34) (y := 29) (il' := [(1, vI 29), (0, vR k)]) 0 dX0_init_34 rfl (Nat.le_of_ble_eq_true rfl) (by decide) rfl ?_
  refine ev_goto (pc := 37) (tgt := 15) dX0_init_37 (by decide) ?_
  refine ev_iload_n (pc := 15) 0 dX0_init_15 rfl rfl ?_
  refine ev_bipush (pc := 16) (x := 30) dX0_init_16 cb_30 ?_
  refine ev_icmp_ge (pc := 18) (tgt := 40) dX0_init_18 (by decide) (fun h9 => absurd h9 (by decide)) (fun _ => ?_)
  refine ev_aload_n (pc := 21) 1 dX0_init_21 rfl rfl ?_
  refine ev_getRL (pc := 22) fl0_11 rfl dX0_init_22 rfl o89_k f89_k_0 ?_
  refine ev_iload_n (pc := 25) 0 dX0_init_25 rfl rfl ?_
  refine ev_new (pc := 26) (b2 := (10, 113)) rfl nl0_9 df5 dX0_init_26 rfl ?_
  refine ev_eqI (show ((l89.length : Int) + 1) = ((l.length : Int) + 321) by omega) ?_
  refine ev_eqS e90 ?_
  refine ev_dup (pc := 29) rfl dX0_init_29 ?_
  refine ev_callI (pc := 30) (b1 := (10, 113)) (b2 := (0, 0)) (as1 := []) (st := [vR ((l.length : Int) + 321), vI 29, vR ((l.length : Int) + 1)]) (q := vN) (d' := d - 1) rfl mkX5_init ⟨rfl, rfl⟩ ml0_17 miX5_init (by have h9 := o90_321.1; omega) rfl (Nat.le_of_ble_eq_true rfl) (by omega) rfl dX0_init_30 (C91.2 (d := d - 1) (by omega)) ?_
  change Ev g d mtX0_init _ _ [vR ((l.length : Int) + 321), vI 29, vR ((l.length : Int) + 1)] _ _ _ _
  refine ev_eqS e91 ?_
  refine ev_aast (pc := 33) (i := 29) ⟨rfl, by decide, by decide⟩ ⟨TX5, rfl⟩ (by decide) o91_1 o91_321 (by decide) (by decide) dX0_init_33 ?_
  refine ev_eqS e92 ?_
  refine ev_iinc (pc := 34) (y := 30) (il' := [(1, vI 30), (0, vR k)]) 0 dX0_init_34 rfl (Nat.le_of_ble_eq_true rfl) (by decide) rfl ?_
  refine ev_goto (pc := 37) (tgt := 15) dX0_init_37 (by decide) ?_
  refine ev_iload_n (pc := 15) 0 dX0_init_15 rfl rfl ?_
  refine ev_bipush (pc := 16) (x := 30) dX0_init_16 cb_30 ?_
  refine ev_icmp_ge (pc := 18) (tgt := 40) dX0_init_18 (by decide) (fun _ => ?_) (fun h9 => absurd (by decide) h9)
  exact ev_vret (pc := 40) dX0_init_40 rfl
