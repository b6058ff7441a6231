set_option linter.unusedVariables false
set_option linter.unusedSimpArgs false
/-! constructors: a sea, a text, acts -/
def c_X5 (k : Int) (l : CL) : CL := clR ((clI (clR ((clR ((clR ((clR ((clR ((clR ((clR ((clR ((clR (l ++ [((20, 9), [], [])]) k 1 ((l.length : Int) + 1)) ++ [((20, 9), [], [])]) k 2 ((l.length : Int) + 2)) ++ [((20, 9), [], [])]) k 3 ((l.length : Int) + 3)) ++ [((20, 9), [], [])]) k 4 ((l.length : Int) + 4)) ++ [((20, 9), [], [])]) k 5 ((l.length : Int) + 5)) ++ [((20, 7), [], [])]) k 7 ((l.length : Int) + 6)) ++ [((20, 7), [], [])]) k 8 ((l.length : Int) + 7)) ++ [((20, 7), [], [])]) k 9 ((l.length : Int) + 8)) ++ [((20, 7), [], [])]) k 10 ((l.length : Int) + 9)) k 14 83) ++ [((20, 40), [], [])]) k 16 ((l.length : Int) + 10)
set_option maxRecDepth 100000 in
set_option maxHeartbeats 8000000 in
theorem c_X5_ok {k : Int} {l : CL} (ok : okC l k (5, 17)) : ((c_X5 k l).length = l.length + 10 ∧ Grows l (c_X5 k l) k) ∧ ∀ {g : Gm} {d : Nat}, 1 ≤ d → EvM g d mtX5_init [vR k] (sgL l) (10, 113) vN (sgL (c_X5 k l)) := by
  obtain ⟨l1, e1⟩ : ∃ z : CL, z = l ++ [((20, 9), [], [])] := ⟨_, rfl⟩
  have n1 : l1.length = l.length + 1 := len_push e1 rfl
  have G1 : Grows l l1 k := by rw [e1]; exact Grows.rf.app
  have o1_k : okC l1 k (5, 17) := by rw [e1]; exact ok.app
  obtain ⟨l2, e2⟩ : ∃ z : CL, z = clR l1 k 1 ((l.length : Int) + 1) := ⟨_, rfl⟩
  have n2 : l2.length = l.length + 1 := len_setR e2 n1
  have G2 : Grows l l2 k := by rw [e2]; exact G1.setR o1_k.1 o1_k.2.1 (Or.inl rfl)
  have o2_k : okC l2 k (5, 17) := by rw [e2]; exact okC.ofR o1_k o1_k
  obtain ⟨l3, e3⟩ : ∃ z : CL, z = l2 ++ [((20, 9), [], [])] := ⟨_, rfl⟩
  have n3 : l3.length = l.length + 2 := len_push e3 n2
  have G3 : Grows l l3 k := by rw [e3]; exact G2.app
  have o3_k : okC l3 k (5, 17) := by rw [e3]; exact o2_k.app
  obtain ⟨l4, e4⟩ : ∃ z : CL, z = clR l3 k 2 ((l.length : Int) + 2) := ⟨_, rfl⟩
  have n4 : l4.length = l.length + 2 := len_setR e4 n3
  have G4 : Grows l l4 k := by rw [e4]; exact G3.setR o3_k.1 o3_k.2.1 (Or.inl rfl)
  have o4_k : okC l4 k (5, 17) := by rw [e4]; exact okC.ofR o3_k o3_k
  obtain ⟨l5, e5⟩ : ∃ z : CL, z = l4 ++ [((20, 9), [], [])] := ⟨_, rfl⟩
  have n5 : l5.length = l.length + 3 := len_push e5 n4
  have G5 : Grows l l5 k := by rw [e5]; exact G4.app
  have o5_k : okC l5 k (5, 17) := by rw [e5]; exact o4_k.app
  obtain ⟨l6, e6⟩ : ∃ z : CL, z = clR l5 k 3 ((l.length : Int) + 3) := ⟨_, rfl⟩
  have n6 : l6.length = l.length + 3 := len_setR e6 n5
  have G6 : Grows l l6 k := by rw [e6]; exact G5.setR o5_k.1 o5_k.2.1 (Or.inl rfl)
  have o6_k : okC l6 k (5, 17) := by rw [e6]; exact okC.ofR o5_k o5_k
  obtain ⟨l7, e7⟩ : ∃ z : CL, z = l6 ++ [((20, 9), [], [])] := ⟨_, rfl⟩
  have n7 : l7.length = l.length + 4 := len_push e7 n6
  have G7 : Grows l l7 k := by rw [e7]; exact G6.app
  have o7_k : okC l7 k (5, 17) := by rw [e7]; exact o6_k.app
  obtain ⟨l8, e8⟩ : ∃ z : CL, z = clR l7 k 4 ((l.length : Int) + 4) := ⟨_, rfl⟩
  have n8 : l8.length = l.length + 4 := len_setR e8 n7
  have G8 : Grows l l8 k := by rw [e8]; exact G7.setR o7_k.1 o7_k.2.1 (Or.inl rfl)
  have o8_k : okC l8 k (5, 17) := by rw [e8]; exact okC.ofR o7_k o7_k
  obtain ⟨l9, e9⟩ : ∃ z : CL, z = l8 ++ [((20, 9), [], [])] := ⟨_, rfl⟩
  have n9 : l9.length = l.length + 5 := len_push e9 n8
  have G9 : Grows l l9 k := by rw [e9]; exact G8.app
  have o9_k : okC l9 k (5, 17) := by rw [e9]; exact o8_k.app
  obtain ⟨l10, e10⟩ : ∃ z : CL, z = clR l9 k 5 ((l.length : Int) + 5) := ⟨_, rfl⟩
  have n10 : l10.length = l.length + 5 := len_setR e10 n9
  have G10 : Grows l l10 k := by rw [e10]; exact G9.setR o9_k.1 o9_k.2.1 (Or.inl rfl)
  have o10_k : okC l10 k (5, 17) := by rw [e10]; exact okC.ofR o9_k o9_k
  obtain ⟨l11, e11⟩ : ∃ z : CL, z = l10 ++ [((20, 7), [], [])] := ⟨_, rfl⟩
  have n11 : l11.length = l.length + 6 := len_push e11 n10
  have G11 : Grows l l11 k := by rw [e11]; exact G10.app
  have o11_k : okC l11 k (5, 17) := by rw [e11]; exact o10_k.app
  obtain ⟨l12, e12⟩ : ∃ z : CL, z = clR l11 k 7 ((l.length : Int) + 6) := ⟨_, rfl⟩
  have n12 : l12.length = l.length + 6 := len_setR e12 n11
  have G12 : Grows l l12 k := by rw [e12]; exact G11.setR o11_k.1 o11_k.2.1 (Or.inl rfl)
  have o12_k : okC l12 k (5, 17) := by rw [e12]; exact okC.ofR o11_k o11_k
  obtain ⟨l13, e13⟩ : ∃ z : CL, z = l12 ++ [((20, 7), [], [])] := ⟨_, rfl⟩
  have n13 : l13.length = l.length + 7 := len_push e13 n12
  have G13 : Grows l l13 k := by rw [e13]; exact G12.app
  have o13_k : okC l13 k (5, 17) := by rw [e13]; exact o12_k.app
  obtain ⟨l14, e14⟩ : ∃ z : CL, z = clR l13 k 8 ((l.length : Int) + 7) := ⟨_, rfl⟩
  have n14 : l14.length = l.length + 7 := len_setR e14 n13
  have G14 : Grows l l14 k := by rw [e14]; exact G13.setR o13_k.1 o13_k.2.1 (Or.inl rfl)
  have o14_k : okC l14 k (5, 17) := by rw [e14]; exact okC.ofR o13_k o13_k
  obtain ⟨l15, e15⟩ : ∃ z : CL, z = l14 ++ [((20, 7), [], [])] := ⟨_, rfl⟩
  have n15 : l15.length = l.length + 8 := len_push e15 n14
  have G15 : Grows l l15 k := by rw [e15]; exact G14.app
  have o15_k : okC l15 k (5, 17) := by rw [e15]; exact o14_k.app
  obtain ⟨l16, e16⟩ : ∃ z : CL, z = clR l15 k 9 ((l.length : Int) + 8) := ⟨_, rfl⟩
  have n16 : l16.length = l.length + 8 := len_setR e16 n15
  have G16 : Grows l l16 k := by rw [e16]; exact G15.setR o15_k.1 o15_k.2.1 (Or.inl rfl)
  have o16_k : okC l16 k (5, 17) := by rw [e16]; exact okC.ofR o15_k o15_k
  obtain ⟨l17, e17⟩ : ∃ z : CL, z = l16 ++ [((20, 7), [], [])] := ⟨_, rfl⟩
  have n17 : l17.length = l.length + 9 := len_push e17 n16
  have G17 : Grows l l17 k := by rw [e17]; exact G16.app
  have o17_k : okC l17 k (5, 17) := by rw [e17]; exact o16_k.app
  obtain ⟨l18, e18⟩ : ∃ z : CL, z = clR l17 k 10 ((l.length : Int) + 9) := ⟨_, rfl⟩
  have n18 : l18.length = l.length + 9 := len_setR e18 n17
  have G18 : Grows l l18 k := by rw [e18]; exact G17.setR o17_k.1 o17_k.2.1 (Or.inl rfl)
  have o18_k : okC l18 k (5, 17) := by rw [e18]; exact okC.ofR o17_k o17_k
  obtain ⟨l19, e19⟩ : ∃ z : CL, z = clI l18 k 14 83 := ⟨_, rfl⟩
  have n19 : l19.length = l.length + 9 := len_setI e19 n18
  have G19 : Grows l l19 k := by rw [e19]; exact G18.setI o18_k.1 o18_k.2.1 (Or.inl rfl)
  have o19_k : okC l19 k (5, 17) := by rw [e19]; exact okC.ofI o18_k o18_k
  obtain ⟨l20, e20⟩ : ∃ z : CL, z = l19 ++ [((20, 40), [], [])] := ⟨_, rfl⟩
  have n20 : l20.length = l.length + 10 := len_push e20 n19
  have G20 : Grows l l20 k := by rw [e20]; exact G19.app
  have o20_k : okC l20 k (5, 17) := by rw [e20]; exact o19_k.app
  obtain ⟨l21, e21⟩ : ∃ z : CL, z = clR l20 k 16 ((l.length : Int) + 10) := ⟨_, rfl⟩
  have n21 : l21.length = l.length + 10 := len_setR e21 n20
  have G21 : Grows l l21 k := by rw [e21]; exact G20.setR o20_k.1 o20_k.2.1 (Or.inl rfl)
  have o21_k : okC l21 k (5, 17) := by rw [e21]; exact okC.ofR o20_k o20_k
  have eF : c_X5 k l = l21 := by rw [e21, e20, e19, e18, e17, e16, e15, e14, e13, e12, e11, e10, e9, e8, e7, e6, e5, e4, e3, e2, e1, c_X5]
  rw [eF]
  refine ⟨⟨n21, G21⟩, fun {g d} hd => ?_⟩
  refine EvM.of mkX5_init.2.2.2.1 (Nat.le_of_ble_eq_true rfl) ?_
  change Ev g d mtX5_init 0 [(0, vR k)] [] (sgL l) (10, 113) vN (sgL l21)
  refine ev_aload_n (pc := 0) 0 dX5_init_0 rfl rfl ?_
  refine ev_objInit (pc := 1) rfl ob5_3 ok.ne0 (Nat.le_of_ble_eq_true rfl) (Nat.le_trans (by decide) hd) dX5_init_1 ?_
  refine ev_aload_n (pc := 4) 0 dX5_init_4 rfl rfl ?_
  refine ev_bipush (pc := 5) (x := 9) dX5_init_5 cb_9 ?_
  refine ev_newa (pc := 7) (n := 9) (b2 := (9, 104)) (t := 20) arI.1 arI.2 rfl (Nat.le_of_ble_eq_true rfl) dX5_init_7 rfl ?_
  refine ev_eqI (id_new rfl (z := 1) rfl) ?_
  refine ev_eqS e1 ?_
  refine ev_putFL (pc := 9) flF5_9 rfl rfl dX5_init_9 rfl o1_k ?_
  refine ev_eqS e2 ?_
  refine ev_aload_n (pc := 12) 0 dX5_init_12 rfl rfl ?_
  refine ev_bipush (pc := 13) (x := 9) dX5_init_13 cb_9 ?_
  refine ev_newa (pc := 15) (n := 9) (b2 := (8, 95)) (t := 20) arI.1 arI.2 rfl (Nat.le_of_ble_eq_true rfl) dX5_init_15 rfl ?_
  refine ev_eqI (id_new n2 (z := 2) rfl) ?_
  refine ev_eqS e3 ?_
  refine ev_putFL (pc := 17) flF5_15 rfl rfl dX5_init_17 rfl o3_k ?_
  refine ev_eqS e4 ?_
  refine ev_aload_n (pc := 20) 0 dX5_init_20 rfl rfl ?_
  refine ev_bipush (pc := 21) (x := 9) dX5_init_21 cb_9 ?_
  refine ev_newa (pc := 23) (n := 9) (b2 := (7, 86)) (t := 20) arI.1 arI.2 rfl (Nat.le_of_ble_eq_true rfl) dX5_init_23 rfl ?_
  refine ev_eqI (id_new n4 (z := 3) rfl) ?_
  refine ev_eqS e5 ?_
  refine ev_putFL (pc := 25) flF5_18 rfl rfl dX5_init_25 rfl o5_k ?_
  refine ev_eqS e6 ?_
  refine ev_aload_n (pc := 28) 0 dX5_init_28 rfl rfl ?_
  refine ev_bipush (pc := 29) (x := 9) dX5_init_29 cb_9 ?_
  refine ev_newa (pc := 31) (n := 9) (b2 := (6, 77)) (t := 20) arI.1 arI.2 rfl (Nat.le_of_ble_eq_true rfl) dX5_init_31 rfl ?_
  refine ev_eqI (id_new n6 (z := 4) rfl) ?_
  refine ev_eqS e7 ?_
  refine ev_putFL (pc := 33) flF5_21 rfl rfl dX5_init_33 rfl o7_k ?_
  refine ev_eqS e8 ?_
  refine ev_aload_n (pc := 36) 0 dX5_init_36 rfl rfl ?_
  refine ev_bipush (pc := 37) (x := 9) dX5_init_37 cb_9 ?_
  refine ev_newa (pc := 39) (n := 9) (b2 := (5, 68)) (t := 20) arI.1 arI.2 rfl (Nat.le_of_ble_eq_true rfl) dX5_init_39 rfl ?_
  refine ev_eqI (id_new n8 (z := 5) rfl) ?_
  refine ev_eqS e9 ?_
  refine ev_putFL (pc := 41) flF5_24 rfl rfl dX5_init_41 rfl o9_k ?_
  refine ev_eqS e10 ?_
  refine ev_aload_n (pc := 44) 0 dX5_init_44 rfl rfl ?_
  refine ev_bipush (pc := 45) (x := 7) dX5_init_45 cb_7 ?_
  refine ev_newa (pc := 47) (n := 7) (b2 := (4, 61)) (t := 20) arI.1 arI.2 rfl (Nat.le_of_ble_eq_true rfl) dX5_init_47 rfl ?_
  refine ev_eqI (id_new n10 (z := 6) rfl) ?_
  refine ev_eqS e11 ?_
  refine ev_putFL (pc := 49) flF5_27 rfl rfl dX5_init_49 rfl o11_k ?_
  refine ev_eqS e12 ?_
  refine ev_aload_n (pc := 52) 0 dX5_init_52 rfl rfl ?_
  refine ev_bipush (pc := 53) (x := 7) dX5_init_53 cb_7 ?_
  refine ev_newa (pc := 55) (n := 7) (b2 := (3, 54)) (t := 20) arI.1 arI.2 rfl (Nat.le_of_ble_eq_true rfl) dX5_init_55 rfl ?_
  refine ev_eqI (id_new n12 (z := 7) rfl) ?_
  refine ev_eqS e13 ?_
  refine ev_putFL (pc := 57) flF5_30 rfl rfl dX5_init_57 rfl o13_k ?_
  refine ev_eqS e14 ?_
  refine ev_aload_n (pc := 60) 0 dX5_init_60 rfl rfl ?_
  refine ev_bipush (pc := 61) (x := 7) dX5_init_61 cb_7 ?_
  refine ev_newa (pc := 63) (n := 7) (b2 := (2, 47)) (t := 20) arI.1 arI.2 rfl (Nat.le_of_ble_eq_true rfl) dX5_init_63 rfl ?_
  refine ev_eqI (id_new n14 (z := 8) rfl) ?_
  refine ev_eqS e15 ?_
  refine ev_putFL (pc := 65) flF5_33 rfl rfl dX5_init_65 rfl o15_k ?_
  refine ev_eqS e16 ?_
  refine ev_aload_n (pc := 68) 0 dX5_init_68 rfl rfl ?_
  refine ev_bipush (pc := 69) (x := 7) dX5_init_69 cb_7 ?_
  refine ev_newa (pc := 71) (n := 7) (b2 := (1, 40)) (t := 20) arI.1 arI.2 rfl (Nat.le_of_ble_eq_true rfl) dX5_init_71 rfl ?_
  refine ev_eqI (id_new n16 (z := 9) rfl) ?_
  refine ev_eqS e17 ?_
  refine ev_putFL (pc := 73) flF5_36 rfl rfl dX5_init_73 rfl o17_k ?_
  refine ev_eqS e18 ?_
  refine ev_aload_n (pc := 76) 0 dX5_init_76 rfl rfl ?_
  refine ev_bipush (pc := 77) (x := 83) dX5_init_77 cb_83 ?_
  refine ev_putIL (pc := 79) fl5_39 rfl dX5_init_79 o18_k ?_
  refine ev_eqS e19 ?_
  refine ev_aload_n (pc := 82) 0 dX5_init_82 rfl rfl ?_
  refine ev_bipush (pc := 83) (x := 40) dX5_init_83 cb_40 ?_
  refine ev_newa (pc := 85) (n := 40) (b2 := (0, 0)) (t := 20) arI.1 arI.2 rfl (Nat.le_of_ble_eq_true rfl) dX5_init_85 rfl ?_
  refine ev_eqI (id_new n19 (z := 10) rfl) ?_
  refine ev_eqS e20 ?_
  refine ev_putFL (pc := 87) flF5_43 rfl rfl dX5_init_87 rfl o20_k ?_
  refine ev_eqS e21 ?_
  exact ev_vret (pc := 90) dX5_init_90 rfl
def c_X6 (k : Int) (l : CL) : CL := clR ((clR ((clR ((clR ((clR ((clR (l ++ [((20, 24), [], [])]) k 1 ((l.length : Int) + 1)) ++ [((20, 96), [], [])]) k 2 ((l.length : Int) + 2)) ++ [((20, 300), [], [])]) k 4 ((l.length : Int) + 3)) ++ [((20, 300), [], [])]) k 5 ((l.length : Int) + 4)) ++ [((20, 5), [], [])]) k 6 ((l.length : Int) + 5)) ++ [((20, 5), [], [])]) k 7 ((l.length : Int) + 6)
set_option maxRecDepth 100000 in
set_option maxHeartbeats 8000000 in
theorem c_X6_ok {k : Int} {l : CL} (ok : okC l k (6, 8)) : ((c_X6 k l).length = l.length + 6 ∧ Grows l (c_X6 k l) k) ∧ ∀ {g : Gm} {d : Nat}, 1 ≤ d → EvM g d mtX6_init [vR k] (sgL l) (6, 730) vN (sgL (c_X6 k l)) := by
  obtain ⟨l1, e1⟩ : ∃ z : CL, z = l ++ [((20, 24), [], [])] := ⟨_, rfl⟩
  have n1 : l1.length = l.length + 1 := len_push e1 rfl
  have G1 : Grows l l1 k := by rw [e1]; exact Grows.rf.app
  have o1_k : okC l1 k (6, 8) := by rw [e1]; exact ok.app
  obtain ⟨l2, e2⟩ : ∃ z : CL, z = clR l1 k 1 ((l.length : Int) + 1) := ⟨_, rfl⟩
  have n2 : l2.length = l.length + 1 := len_setR e2 n1
  have G2 : Grows l l2 k := by rw [e2]; exact G1.setR o1_k.1 o1_k.2.1 (Or.inl rfl)
  have o2_k : okC l2 k (6, 8) := by rw [e2]; exact okC.ofR o1_k o1_k
  obtain ⟨l3, e3⟩ : ∃ z : CL, z = l2 ++ [((20, 96), [], [])] := ⟨_, rfl⟩
  have n3 : l3.length = l.length + 2 := len_push e3 n2
  have G3 : Grows l l3 k := by rw [e3]; exact G2.app
  have o3_k : okC l3 k (6, 8) := by rw [e3]; exact o2_k.app
  obtain ⟨l4, e4⟩ : ∃ z : CL, z = clR l3 k 2 ((l.length : Int) + 2) := ⟨_, rfl⟩
  have n4 : l4.length = l.length + 2 := len_setR e4 n3
  have G4 : Grows l l4 k := by rw [e4]; exact G3.setR o3_k.1 o3_k.2.1 (Or.inl rfl)
  have o4_k : okC l4 k (6, 8) := by rw [e4]; exact okC.ofR o3_k o3_k
  obtain ⟨l5, e5⟩ : ∃ z : CL, z = l4 ++ [((20, 300), [], [])] := ⟨_, rfl⟩
  have n5 : l5.length = l.length + 3 := len_push e5 n4
  have G5 : Grows l l5 k := by rw [e5]; exact G4.app
  have o5_k : okC l5 k (6, 8) := by rw [e5]; exact o4_k.app
  obtain ⟨l6, e6⟩ : ∃ z : CL, z = clR l5 k 4 ((l.length : Int) + 3) := ⟨_, rfl⟩
  have n6 : l6.length = l.length + 3 := len_setR e6 n5
  have G6 : Grows l l6 k := by rw [e6]; exact G5.setR o5_k.1 o5_k.2.1 (Or.inl rfl)
  have o6_k : okC l6 k (6, 8) := by rw [e6]; exact okC.ofR o5_k o5_k
  obtain ⟨l7, e7⟩ : ∃ z : CL, z = l6 ++ [((20, 300), [], [])] := ⟨_, rfl⟩
  have n7 : l7.length = l.length + 4 := len_push e7 n6
  have G7 : Grows l l7 k := by rw [e7]; exact G6.app
  have o7_k : okC l7 k (6, 8) := by rw [e7]; exact o6_k.app
  obtain ⟨l8, e8⟩ : ∃ z : CL, z = clR l7 k 5 ((l.length : Int) + 4) := ⟨_, rfl⟩
  have n8 : l8.length = l.length + 4 := len_setR e8 n7
  have G8 : Grows l l8 k := by rw [e8]; exact G7.setR o7_k.1 o7_k.2.1 (Or.inl rfl)
  have o8_k : okC l8 k (6, 8) := by rw [e8]; exact okC.ofR o7_k o7_k
  obtain ⟨l9, e9⟩ : ∃ z : CL, z = l8 ++ [((20, 5), [], [])] := ⟨_, rfl⟩
  have n9 : l9.length = l.length + 5 := len_push e9 n8
  have G9 : Grows l l9 k := by rw [e9]; exact G8.app
  have o9_k : okC l9 k (6, 8) := by rw [e9]; exact o8_k.app
  obtain ⟨l10, e10⟩ : ∃ z : CL, z = clR l9 k 6 ((l.length : Int) + 5) := ⟨_, rfl⟩
  have n10 : l10.length = l.length + 5 := len_setR e10 n9
  have G10 : Grows l l10 k := by rw [e10]; exact G9.setR o9_k.1 o9_k.2.1 (Or.inl rfl)
  have o10_k : okC l10 k (6, 8) := by rw [e10]; exact okC.ofR o9_k o9_k
  obtain ⟨l11, e11⟩ : ∃ z : CL, z = l10 ++ [((20, 5), [], [])] := ⟨_, rfl⟩
  have n11 : l11.length = l.length + 6 := len_push e11 n10
  have G11 : Grows l l11 k := by rw [e11]; exact G10.app
  have o11_k : okC l11 k (6, 8) := by rw [e11]; exact o10_k.app
  obtain ⟨l12, e12⟩ : ∃ z : CL, z = clR l11 k 7 ((l.length : Int) + 6) := ⟨_, rfl⟩
  have n12 : l12.length = l.length + 6 := len_setR e12 n11
  have G12 : Grows l l12 k := by rw [e12]; exact G11.setR o11_k.1 o11_k.2.1 (Or.inl rfl)
  have o12_k : okC l12 k (6, 8) := by rw [e12]; exact okC.ofR o11_k o11_k
  have eF : c_X6 k l = l12 := by rw [e12, e11, e10, e9, e8, e7, e6, e5, e4, e3, e2, e1, c_X6]
  rw [eF]
  refine ⟨⟨n12, G12⟩, fun {g d} hd => ?_⟩
  refine EvM.of mkX6_init.2.2.2.1 (Nat.le_of_ble_eq_true rfl) ?_
  change Ev g d mtX6_init 0 [(0, vR k)] [] (sgL l) (6, 730) vN (sgL l12)
  refine ev_aload_n (pc := 0) 0 dX6_init_0 rfl rfl ?_
  refine ev_objInit (pc := 1) rfl ob6_3 ok.ne0 (Nat.le_of_ble_eq_true rfl) (Nat.le_trans (by decide) hd) dX6_init_1 ?_
  refine ev_aload_n (pc := 4) 0 dX6_init_4 rfl rfl ?_
  refine ev_bipush (pc := 5) (x := 24) dX6_init_5 cb_24 ?_
  refine ev_newa (pc := 7) (n := 24) (b2 := (5, 706)) (t := 20) arI.1 arI.2 rfl (Nat.le_of_ble_eq_true rfl) dX6_init_7 rfl ?_
  refine ev_eqI (id_new rfl (z := 1) rfl) ?_
  refine ev_eqS e1 ?_
  refine ev_putFL (pc := 9) flF6_9 rfl rfl dX6_init_9 rfl o1_k ?_
  refine ev_eqS e2 ?_
  refine ev_aload_n (pc := 12) 0 dX6_init_12 rfl rfl ?_
  refine ev_bipush (pc := 13) (x := 96) dX6_init_13 cb_96 ?_
  refine ev_newa (pc := 15) (n := 96) (b2 := (4, 610)) (t := 20) arI.1 arI.2 rfl (Nat.le_of_ble_eq_true rfl) dX6_init_15 rfl ?_
  refine ev_eqI (id_new n2 (z := 2) rfl) ?_
  refine ev_eqS e3 ?_
  refine ev_putFL (pc := 17) flF6_15 rfl rfl dX6_init_17 rfl o3_k ?_
  refine ev_eqS e4 ?_
  refine ev_aload_n (pc := 20) 0 dX6_init_20 rfl rfl ?_
  refine ev_sipush (pc := 21) (x := 300) dX6_init_21 cs_300 ?_
  refine ev_newa (pc := 24) (n := 300) (b2 := (3, 310)) (t := 20) arI.1 arI.2 rfl (Nat.le_of_ble_eq_true rfl) dX6_init_24 rfl ?_
  refine ev_eqI (id_new n4 (z := 3) rfl) ?_
  refine ev_eqS e5 ?_
  refine ev_putFL (pc := 26) flF6_18 rfl rfl dX6_init_26 rfl o5_k ?_
  refine ev_eqS e6 ?_
  refine ev_aload_n (pc := 29) 0 dX6_init_29 rfl rfl ?_
  refine ev_sipush (pc := 30) (x := 300) dX6_init_30 cs_300 ?_
  refine ev_newa (pc := 33) (n := 300) (b2 := (2, 10)) (t := 20) arI.1 arI.2 rfl (Nat.le_of_ble_eq_true rfl) dX6_init_33 rfl ?_
  refine ev_eqI (id_new n6 (z := 4) rfl) ?_
  refine ev_eqS e7 ?_
  refine ev_putFL (pc := 35) flF6_21 rfl rfl dX6_init_35 rfl o7_k ?_
  refine ev_eqS e8 ?_
  refine ev_aload_n (pc := 38) 0 dX6_init_38 rfl rfl ?_
  refine ev_iconst (pc := 39) (x := 5) dX6_init_39 ci_5 ?_
  refine ev_newa (pc := 40) (n := 5) (b2 := (1, 5)) (t := 20) arI.1 arI.2 rfl (Nat.le_of_ble_eq_true rfl) dX6_init_40 rfl ?_
  refine ev_eqI (id_new n8 (z := 5) rfl) ?_
  refine ev_eqS e9 ?_
  refine ev_putFL (pc := 42) flF6_24 rfl rfl dX6_init_42 rfl o9_k ?_
  refine ev_eqS e10 ?_
  refine ev_aload_n (pc := 45) 0 dX6_init_45 rfl rfl ?_
  refine ev_iconst (pc := 46) (x := 5) dX6_init_46 ci_5 ?_
  refine ev_newa (pc := 47) (n := 5) (b2 := (0, 0)) (t := 20) arI.1 arI.2 rfl (Nat.le_of_ble_eq_true rfl) dX6_init_47 rfl ?_
  refine ev_eqI (id_new n10 (z := 6) rfl) ?_
  refine ev_eqS e11 ?_
  refine ev_putFL (pc := 49) flF6_27 rfl rfl dX6_init_49 rfl o11_k ?_
  refine ev_eqS e12 ?_
  exact ev_vret (pc := 52) dX6_init_52 rfl
/-- one sea into the row of acts -/
def stX0 (a : Int) (i : Nat) (l : CL) : CL := clR (c_X5 ((l.length : Int) + 1) (l ++ [((5, 17), [], [])])) a i ((l.length : Int) + 1)
theorem it_X0 {k a : Int} {i : Nat} {l : CL} (ok : okC l k (0, 3)) (f0 : fldR l k 0 a) (oa : okC l a (24, 30)) (ne : k ≠ a) :
    ((stX0 a i l).length = l.length + 11 ∧ Grows l (stX0 a i l) a) ∧ ∀ {g : Gm} {d : Nat} {b2 : Nat × Nat} {r : Vv} {σ : Sg}, 2 ≤ d → i < 30 → Ev g d mtX0_init 15 [(1, vI ((i : Int) + 1)), (0, vR k)] [] (sgL (stX0 a i l)) b2 r σ → Ev g d mtX0_init 15 [(1, vI (i : Int)), (0, vR k)] [] (sgL l) (b2.1 + 11, b2.2 + 130) r σ := by
  obtain ⟨l1, e1⟩ : ∃ z : CL, z = l ++ [((5, 17), [], [])] := ⟨_, rfl⟩
  have o1 : okC l1 ((l.length : Int) + 1) (5, 17) := by rw [e1]; exact okC.mk1 rfl rfl
  have a1 : okC l1 a (24, 30) := by rw [e1]; exact oa.app
  have G1 : Grows l l1 a := by rw [e1]; exact Grows.rf.app
  have n1 : l1.length = l.length + 1 := len_push (a := 0) e1 rfl
  obtain ⟨l2, e2⟩ : ∃ z : CL, z = c_X5 ((l.length : Int) + 1) l1 := ⟨_, rfl⟩
  have C2 := c_X5_ok o1
  have n2 : l2.length = l.length + 11 := len_call e2 C2.1.1 n1
  have o2 : okC l2 ((l.length : Int) + 1) (5, 17) := by rw [e2]; exact o1.grow C2.1.2
  have a2 : okC l2 a (24, 30) := by rw [e2]; exact a1.grow C2.1.2
  have G2 : Grows l l2 a := by rw [e2]; exact G1.tr C2.1.2 (Or.inr (lt_new (by decide)))
  obtain ⟨l3, e3⟩ : ∃ z : CL, z = clR l2 a i ((l.length : Int) + 1) := ⟨_, rfl⟩
  have n3 : l3.length = l.length + 11 := len_setR e3 n2
  have G3 : Grows l l3 a := by rw [e3]; exact G2.setR a2.1 a2.2.1 (Or.inl rfl)
  have eF : stX0 a i l = l3 := by rw [e3, e2, e1, stX0]
  rw [eF]
  refine ⟨⟨n3, G3⟩, fun {g d b2 r σ} hd hi h => ?_⟩
  refine ev_iload_n (pc := 15) 0 dX0_init_15 rfl rfl ?_
  refine ev_bipush (pc := 16) (x := 30) dX0_init_16 cb_30 ?_
  refine ev_icmp_ge (pc := 18) (tgt := 40) dX0_init_18 (by decide) (fun h9 => absurd h9 (by omega)) (fun _ => ?_)
  refine ev_aload_n (pc := 21) 1 dX0_init_21 rfl rfl ?_
  refine ev_getRL (pc := 22) fl0_11 rfl dX0_init_22 rfl ok f0 ?_
  refine ev_iload_n (pc := 25) 0 dX0_init_25 rfl rfl ?_
  refine ev_new (pc := 26) (b2 := (10 + b2.1, 113 + b2.2)) rfl nl0_9 df5 dX0_init_26 (Prod.ext (by dsimp only; omega) (by dsimp only; omega)) ?_
  refine ev_eqS e1 ?_
  refine ev_dup (pc := 29) rfl dX0_init_29 ?_
  refine ev_callI (pc := 30) (b1 := (10, 113)) (b2 := b2) (as1 := []) (st := [vR ((l.length : Int) + 1), vI (i : Int), vR a]) (q := vN) (d' := d - 1) rfl mkX5_init ⟨rfl, rfl⟩ ml0_17 miX5_init o1.ne0 rfl (Nat.le_of_ble_eq_true rfl) (by omega) rfl dX0_init_30 (C2.2 (d := d - 1) (by omega)) ?_
  change Ev g d mtX0_init _ _ [vR ((l.length : Int) + 1), vI (i : Int), vR a] _ _ _ _
  refine ev_eqS e2 ?_
  refine ev_aast (pc := 33) (i := (i : Int)) ⟨rfl, by decide, by decide⟩ ⟨TX5, rfl⟩ (by decide) a2 o2 (by omega) (by omega) dX0_init_33 ?_
  refine ev_eqS e3 ?_
  refine ev_iinc (pc := 34) (y := (i : Int) + 1) (il' := [(1, vI ((i : Int) + 1)), (0, vR k)]) 0 dX0_init_34 rfl (Nat.le_of_ble_eq_true rfl) (p_wI (by omega) (by omega)) rfl ?_
  refine ev_goto (pc := 37) (tgt := 15) dX0_init_37 (by decide) ?_
  exact h
def lpX0 (a : Int) : Nat → Nat → CL → CL
  | 0, _, l => l
  | m + 1, i, l => lpX0 a m (i + 1) (stX0 a i l)
theorem lp_X0 {k a : Int} (ne : k ≠ a) : ∀ (m i : Nat) (l : CL), i + m = 30 → okC l k (0, 3) → fldR l k 0 a → okC l a (24, 30) → ((lpX0 a m i l).length = l.length + 11 * m ∧ Grows l (lpX0 a m i l) a) ∧ ∀ {g : Gm} {d : Nat} {b2 : Nat × Nat} {r : Vv} {σ : Sg}, 2 ≤ d → Ev g d mtX0_init 40 [(1, vI 30), (0, vR k)] [] (sgL (lpX0 a m i l)) b2 r σ → Ev g d mtX0_init 15 [(1, vI (i : Int)), (0, vR k)] [] (sgL l) (b2.1 + 11 * m, b2.2 + 130 * m) r σ := by
  intro m
  induction m with
  | zero =>
    intro i l hi ok f0 oa
    refine ⟨⟨rfl, Grows.rf⟩, fun {g d b2 r σ} hd h => ?_⟩
    have i30 : (i : Int) = 30 := by omega
    refine ev_iload_n (pc := 15) 0 dX0_init_15 rfl rfl ?_
    refine ev_bipush (pc := 16) (x := 30) dX0_init_16 cb_30 ?_
    refine ev_icmp_ge (pc := 18) (tgt := 40) dX0_init_18 (by decide) (fun _ => ?_) (fun h9 => absurd (by omega) h9)
    rw [i30]
    exact h
  | succ m ih =>
    intro i l hi ok f0 oa
    obtain ⟨⟨h1, h2⟩, h3⟩ := it_X0 (i := i) ok f0 oa ne
    obtain ⟨⟨g1, g2⟩, g3⟩ := ih (i + 1) (stX0 a i l) (by omega) (ok.grow h2) (fld_grow ok h2 ne f0) (oa.grow h2)
    refine ⟨⟨by show (lpX0 a m (i + 1) (stX0 a i l)).length = _; omega, h2.tr g2 (Or.inl rfl)⟩, fun {g d b2 r σ} hd h => ?_⟩
    have := h3 (d := d) hd (by omega) (g3 hd h)
    have e : ((b2.1 + 11 * m, b2.2 + 130 * m).1 + 11, (b2.1 + 11 * m, b2.2 + 130 * m).2 + 130) = (b2.1 + 11 * (m + 1), b2.2 + 130 * (m + 1)) := Prod.ext (by dsimp only; omega) (by dsimp only; omega)
    rw [e] at this
    exact this
def c_X0 (k : Int) (l : CL) : CL := lpX0 ((l.length : Int) + 1) 30 0 (clR (l ++ [((24, 30), [], [])]) k 0 ((l.length : Int) + 1))
theorem c_X0_ok {k : Int} {l : CL} (ok : okC l k (0, 3)) : ((c_X0 k l).length = l.length + 331 ∧ Grows l (c_X0 k l) k) ∧ ∀ {g : Gm} {d : Nat}, 2 ≤ d → EvM g d mtX0_init [vR k] (sgL l) (331, 3930) vN (sgL (c_X0 k l)) := by
  obtain ⟨l1, e1⟩ : ∃ z : CL, z = l ++ [((24, 30), [], [])] := ⟨_, rfl⟩
  have n1 : l1.length = l.length + 1 := len_push (a := 0) e1 rfl
  have G1 : Grows l l1 k := by rw [e1]; exact Grows.rf.app
  have o1 : okC l1 k (0, 3) := by rw [e1]; exact ok.app
  have a1 : okC l1 ((l.length : Int) + 1) (24, 30) := by rw [e1]; exact okC.mk1 rfl rfl
  obtain ⟨l2, e2⟩ : ∃ z : CL, z = clR l1 k 0 ((l.length : Int) + 1) := ⟨_, rfl⟩
  have n2 : l2.length = l.length + 1 := len_setR e2 n1
  have G2 : Grows l l2 k := by rw [e2]; exact G1.setR o1.1 o1.2.1 (Or.inl rfl)
  have o2 : okC l2 k (0, 3) := by rw [e2]; exact okC.ofR o1 o1
  have a2 : okC l2 ((l.length : Int) + 1) (24, 30) := by rw [e2]; exact okC.ofR o1 a1
  have f2 : fldR l2 k 0 ((l.length : Int) + 1) := by rw [e2]; exact fld_Rnew o1
  have ne : k ≠ (l.length : Int) + 1 := ne_old ok (by decide)
  obtain ⟨⟨h1, h2⟩, h3⟩ := lp_X0 ne 30 0 l2 rfl o2 f2 a2
  have eF : c_X0 k l = lpX0 ((l.length : Int) + 1) 30 0 l2 := by rw [e2, e1, c_X0]
  rw [eF]
  refine ⟨⟨by omega, G2.tr h2 (Or.inr (lt_new (by decide)))⟩, fun {g d} hd => ?_⟩
  refine EvM.of mkX0_init.2.2.2.1 (Nat.le_of_ble_eq_true rfl) ?_
  change Ev g d mtX0_init 0 [(0, vR k)] [] (sgL l) (331, 3930) vN (sgL (lpX0 ((l.length : Int) + 1) 30 0 l2))
  refine ev_aload_n (pc := 0) 0 dX0_init_0 rfl rfl ?_
  refine ev_objInit (pc := 1) rfl ob0_3 ok.ne0 (Nat.le_of_ble_eq_true rfl) (by omega) dX0_init_1 ?_
  refine ev_aload_n (pc := 4) 0 dX0_init_4 rfl rfl ?_
  refine ev_bipush (pc := 5) (x := 30) dX0_init_5 cb_30 ?_
  refine ev_anew (pc := 7) (n := 30) (t := 24) (b2 := (330, 3900)) rfl ⟨rfl, by decide, by decide⟩ an0_9 rfl (by decide) dX0_init_7 rfl ?_
  refine ev_eqS e1 ?_
  refine ev_putFL (pc := 10) flF0_11 rfl rfl dX0_init_10 rfl o1 ?_
  refine ev_eqS e2 ?_
  refine ev_iconst (pc := 13) (x := 0) dX0_init_13 ci_0 ?_
  refine ev_istore_n (pc := 14) (il' := [(1, vI 0), (0, vR k)]) dX0_init_14 rfl (Nat.le_of_ble_eq_true rfl) rfl ?_
  refine h3 (b2 := (0, 0)) hd ?_
  exact ev_vret (pc := 40) dX0_init_40 rfl
