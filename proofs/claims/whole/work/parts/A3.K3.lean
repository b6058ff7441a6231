set_option linter.unusedVariables false
set_option linter.unusedSimpArgs false
/-! constructors: the others of the class -/
def c_X7 (k : Int) (l : CL) : CL := clR ((clR ((clR ((clR ((clR (l ++ [((20, 8), [], [])]) k 1 ((l.length : Int) + 1)) ++ [((20, 8), [], [])]) k 2 ((l.length : Int) + 2)) ++ [((20, 10), [], [])]) k 4 ((l.length : Int) + 3)) ++ [((20, 10), [], [])]) k 5 ((l.length : Int) + 4)) ++ [((20, 15), [], [])]) k 7 ((l.length : Int) + 5)
set_option maxRecDepth 100000 in
set_option maxHeartbeats 8000000 in
theorem c_X7_ok {k : Int} {l : CL} (ok : okC l k (7, 8)) : ((c_X7 k l).length = l.length + 5 ∧ Grows l (c_X7 k l) k) ∧ ∀ {g : Gm} {d : Nat}, 1 ≤ d → EvM g d mtX7_init [vR k] (sgL l) (5, 51) vN (sgL (c_X7 k l)) := by
  obtain ⟨l1, e1⟩ : ∃ z : CL, z = l ++ [((20, 8), [], [])] := ⟨_, rfl⟩
  have n1 : l1.length = l.length + 1 := len_push e1 rfl
  have G1 : Grows l l1 k := by rw [e1]; exact Grows.rf.app
  have o1_k : okC l1 k (7, 8) := by rw [e1]; exact ok.app
  obtain ⟨l2, e2⟩ : ∃ z : CL, z = clR l1 k 1 ((l.length : Int) + 1) := ⟨_, rfl⟩
  have n2 : l2.length = l.length + 1 := len_setR e2 n1
  have G2 : Grows l l2 k := by rw [e2]; exact G1.setR o1_k.1 o1_k.2.1 (Or.inl rfl)
  have o2_k : okC l2 k (7, 8) := by rw [e2]; exact okC.ofR o1_k o1_k
  obtain ⟨l3, e3⟩ : ∃ z : CL, z = l2 ++ [((20, 8), [], [])] := ⟨_, rfl⟩
  have n3 : l3.length = l.length + 2 := len_push e3 n2
  have G3 : Grows l l3 k := by rw [e3]; exact G2.app
  have o3_k : okC l3 k (7, 8) := by rw [e3]; exact o2_k.app
  obtain ⟨l4, e4⟩ : ∃ z : CL, z = clR l3 k 2 ((l.length : Int) + 2) := ⟨_, rfl⟩
  have n4 : l4.length = l.length + 2 := len_setR e4 n3
  have G4 : Grows l l4 k := by rw [e4]; exact G3.setR o3_k.1 o3_k.2.1 (Or.inl rfl)
  have o4_k : okC l4 k (7, 8) := by rw [e4]; exact okC.ofR o3_k o3_k
  obtain ⟨l5, e5⟩ : ∃ z : CL, z = l4 ++ [((20, 10), [], [])] := ⟨_, rfl⟩
  have n5 : l5.length = l.length + 3 := len_push e5 n4
  have G5 : Grows l l5 k := by rw [e5]; exact G4.app
  have o5_k : okC l5 k (7, 8) := by rw [e5]; exact o4_k.app
  obtain ⟨l6, e6⟩ : ∃ z : CL, z = clR l5 k 4 ((l.length : Int) + 3) := ⟨_, rfl⟩
  have n6 : l6.length = l.length + 3 := len_setR e6 n5
  have G6 : Grows l l6 k := by rw [e6]; exact G5.setR o5_k.1 o5_k.2.1 (Or.inl rfl)
  have o6_k : okC l6 k (7, 8) := by rw [e6]; exact okC.ofR o5_k o5_k
  obtain ⟨l7, e7⟩ : ∃ z : CL, z = l6 ++ [((20, 10), [], [])] := ⟨_, rfl⟩
  have n7 : l7.length = l.length + 4 := len_push e7 n6
  have G7 : Grows l l7 k := by rw [e7]; exact G6.app
  have o7_k : okC l7 k (7, 8) := by rw [e7]; exact o6_k.app
  obtain ⟨l8, e8⟩ : ∃ z : CL, z = clR l7 k 5 ((l.length : Int) + 4) := ⟨_, rfl⟩
  have n8 : l8.length = l.length + 4 := len_setR e8 n7
  have G8 : Grows l l8 k := by rw [e8]; exact G7.setR o7_k.1 o7_k.2.1 (Or.inl rfl)
  have o8_k : okC l8 k (7, 8) := by rw [e8]; exact okC.ofR o7_k o7_k
  obtain ⟨l9, e9⟩ : ∃ z : CL, z = l8 ++ [((20, 15), [], [])] := ⟨_, rfl⟩
  have n9 : l9.length = l.length + 5 := len_push e9 n8
  have G9 : Grows l l9 k := by rw [e9]; exact G8.app
  have o9_k : okC l9 k (7, 8) := by rw [e9]; exact o8_k.app
  obtain ⟨l10, e10⟩ : ∃ z : CL, z = clR l9 k 7 ((l.length : Int) + 5) := ⟨_, rfl⟩
  have n10 : l10.length = l.length + 5 := len_setR e10 n9
  have G10 : Grows l l10 k := by rw [e10]; exact G9.setR o9_k.1 o9_k.2.1 (Or.inl rfl)
  have o10_k : okC l10 k (7, 8) := by rw [e10]; exact okC.ofR o9_k o9_k
  have eF : c_X7 k l = l10 := by rw [e10, e9, e8, e7, e6, e5, e4, e3, e2, e1, c_X7]
  rw [eF]
  refine ⟨⟨n10, G10⟩, fun {g d} hd => ?_⟩
  refine EvM.of mkX7_init.2.2.2.1 (Nat.le_of_ble_eq_true rfl) ?_
  change Ev g d mtX7_init 0 [(0, vR k)] [] (sgL l) (5, 51) vN (sgL l10)
  refine ev_aload_n (pc := 0) 0 dX7_init_0 rfl rfl ?_
  refine ev_objInit (pc := 1) rfl ob7_3 ok.ne0 (Nat.le_of_ble_eq_true rfl) (Nat.le_trans (by decide) hd) dX7_init_1 ?_
  refine ev_aload_n (pc := 4) 0 dX7_init_4 rfl rfl ?_
  refine ev_bipush (pc := 5) (x := 8) dX7_init_5 cb_8 ?_
  refine ev_newa (pc := 7) (n := 8) (b2 := (4, 43)) (t := 20) arI.1 arI.2 rfl (Nat.le_of_ble_eq_true rfl) dX7_init_7 rfl ?_
  refine ev_eqI (id_new rfl (z := 1) rfl) ?_
  refine ev_eqS e1 ?_
  refine ev_putFL (pc := 9) flF7_9 rfl rfl dX7_init_9 rfl o1_k ?_
  refine ev_eqS e2 ?_
  refine ev_aload_n (pc := 12) 0 dX7_init_12 rfl rfl ?_
  refine ev_bipush (pc := 13) (x := 8) dX7_init_13 cb_8 ?_
  refine ev_newa (pc := 15) (n := 8) (b2 := (3, 35)) (t := 20) arI.1 arI.2 rfl (Nat.le_of_ble_eq_true rfl) dX7_init_15 rfl ?_
  refine ev_eqI (id_new n2 (z := 2) rfl) ?_
  refine ev_eqS e3 ?_
  refine ev_putFL (pc := 17) flF7_15 rfl rfl dX7_init_17 rfl o3_k ?_
  refine ev_eqS e4 ?_
  refine ev_aload_n (pc := 20) 0 dX7_init_20 rfl rfl ?_
  refine ev_bipush (pc := 21) (x := 10) dX7_init_21 cb_10 ?_
  refine ev_newa (pc := 23) (n := 10) (b2 := (2, 25)) (t := 20) arI.1 arI.2 rfl (Nat.le_of_ble_eq_true rfl) dX7_init_23 rfl ?_
  refine ev_eqI (id_new n4 (z := 3) rfl) ?_
  refine ev_eqS e5 ?_
  refine ev_putFL (pc := 25) flF7_18 rfl rfl dX7_init_25 rfl o5_k ?_
  refine ev_eqS e6 ?_
  refine ev_aload_n (pc := 28) 0 dX7_init_28 rfl rfl ?_
  refine ev_bipush (pc := 29) (x := 10) dX7_init_29 cb_10 ?_
  refine ev_newa (pc := 31) (n := 10) (b2 := (1, 15)) (t := 20) arI.1 arI.2 rfl (Nat.le_of_ble_eq_true rfl) dX7_init_31 rfl ?_
  refine ev_eqI (id_new n6 (z := 4) rfl) ?_
  refine ev_eqS e7 ?_
  refine ev_putFL (pc := 33) flF7_21 rfl rfl dX7_init_33 rfl o7_k ?_
  refine ev_eqS e8 ?_
  refine ev_aload_n (pc := 36) 0 dX7_init_36 rfl rfl ?_
  refine ev_bipush (pc := 37) (x := 15) dX7_init_37 cb_15 ?_
  refine ev_newa (pc := 39) (n := 15) (b2 := (0, 0)) (t := 20) arI.1 arI.2 rfl (Nat.le_of_ble_eq_true rfl) dX7_init_39 rfl ?_
  refine ev_eqI (id_new n8 (z := 5) rfl) ?_
  refine ev_eqS e9 ?_
  refine ev_putFL (pc := 41) flF7_24 rfl rfl dX7_init_41 rfl o9_k ?_
  refine ev_eqS e10 ?_
  exact ev_vret (pc := 44) dX7_init_44 rfl
def c_X10 (k : Int) (l : CL) : CL := clI (clR (c_X7 ((l.length : Int) + 344) ((clR (c_X0 ((l.length : Int) + 12) ((clR (c_X5 ((l.length : Int) + 1) (l ++ [((5, 17), [], [])])) k 0 ((l.length : Int) + 1)) ++ [((0, 3), [], [])])) k 1 ((l.length : Int) + 12)) ++ [((7, 8), [], [])])) k 2 ((l.length : Int) + 344)) k 4 (-1)
set_option maxRecDepth 100000 in
set_option maxHeartbeats 8000000 in
theorem c_X10_ok {k : Int} {l : CL} (ok : okC l k (10, 5)) : ((c_X10 k l).length = l.length + 349 ∧ Grows l (c_X10 k l) k ∧ fldR (c_X10 k l) k 0 ((l.length : Int) + 1) ∧ fldR (c_X10 k l) k 1 ((l.length : Int) + 12) ∧ fldR (c_X10 k l) k 2 ((l.length : Int) + 344) ∧ True) ∧ ∀ {g : Gm} {d : Nat}, 3 ≤ d → EvM g d mtX10_init [vR k] (sgL l) (349, 4122) vN (sgL (c_X10 k l)) := by
  obtain ⟨l1, e1⟩ : ∃ z : CL, z = l ++ [((5, 17), [], [])] := ⟨_, rfl⟩
  have n1 : l1.length = l.length + 1 := len_push e1 rfl
  have G1 : Grows l l1 k := by rw [e1]; exact Grows.rf.app
  have o1_k : okC l1 k (10, 5) := by rw [e1]; exact ok.app
  have o1_1 : okC l1 ((l.length : Int) + 1) (5, 17) := by rw [e1]; exact okC.mk1 (id_new rfl rfl).symm rfl
  obtain ⟨l2, e2⟩ : ∃ z : CL, z = c_X5 ((l.length : Int) + 1) l1 := ⟨_, rfl⟩
  have C2 := c_X5_ok o1_1
  have n2 : l2.length = l.length + 11 := len_call e2 C2.1.1 n1
  have G2 : Grows l l2 k := by rw [e2]; exact G1.tr C2.1.2 (Or.inr (lt_new (by decide)))
  have o2_k : okC l2 k (10, 5) := by rw [e2]; exact o1_k.grow C2.1.2
  obtain ⟨l3, e3⟩ : ∃ z : CL, z = clR l2 k 0 ((l.length : Int) + 1) := ⟨_, rfl⟩
  have n3 : l3.length = l.length + 11 := len_setR e3 n2
  have G3 : Grows l l3 k := by rw [e3]; exact G2.setR o2_k.1 o2_k.2.1 (Or.inl rfl)
  have o3_k : okC l3 k (10, 5) := by rw [e3]; exact okC.ofR o2_k o2_k
  have f3_k_0 : fldR l3 k 0 ((l.length : Int) + 1) := by rw [e3]; exact fld_Rnew o2_k
  obtain ⟨l4, e4⟩ : ∃ z : CL, z = l3 ++ [((0, 3), [], [])] := ⟨_, rfl⟩
  have n4 : l4.length = l.length + 12 := len_push e4 n3
  have G4 : Grows l l4 k := by rw [e4]; exact G3.app
  have o4_k : okC l4 k (10, 5) := by rw [e4]; exact o3_k.app
  have f4_k_0 : fldR l4 k 0 ((l.length : Int) + 1) := by rw [e4]; exact fld_app o3_k f3_k_0
  have o4_12 : okC l4 ((l.length : Int) + 12) (0, 3) := by rw [e4]; exact okC.mk1 (id_new n3 rfl).symm rfl
  obtain ⟨l5, e5⟩ : ∃ z : CL, z = c_X0 ((l.length : Int) + 12) l4 := ⟨_, rfl⟩
  have C5 := c_X0_ok o4_12
  have n5 : l5.length = l.length + 343 := len_call e5 C5.1.1 n4
  have G5 : Grows l l5 k := by rw [e5]; exact G4.tr C5.1.2 (Or.inr (lt_new (by decide)))
  have o5_k : okC l5 k (10, 5) := by rw [e5]; exact o4_k.grow C5.1.2
  have f5_k_0 : fldR l5 k 0 ((l.length : Int) + 1) := by rw [e5]; exact fld_grow o4_k C5.1.2 (ne_old ok (by decide)) f4_k_0
  obtain ⟨l6, e6⟩ : ∃ z : CL, z = clR l5 k 1 ((l.length : Int) + 12) := ⟨_, rfl⟩
  have n6 : l6.length = l.length + 343 := len_setR e6 n5
  have G6 : Grows l l6 k := by rw [e6]; exact G5.setR o5_k.1 o5_k.2.1 (Or.inl rfl)
  have o6_k : okC l6 k (10, 5) := by rw [e6]; exact okC.ofR o5_k o5_k
  have f6_k_0 : fldR l6 k 0 ((l.length : Int) + 1) := by rw [e6]; exact fld_Rsame o5_k (by decide) f5_k_0
  have f6_k_1 : fldR l6 k 1 ((l.length : Int) + 12) := by rw [e6]; exact fld_Rnew o5_k
  obtain ⟨l7, e7⟩ : ∃ z : CL, z = l6 ++ [((7, 8), [], [])] := ⟨_, rfl⟩
  have n7 : l7.length = l.length + 344 := len_push e7 n6
  have G7 : Grows l l7 k := by rw [e7]; exact G6.app
  have o7_k : okC l7 k (10, 5) := by rw [e7]; exact o6_k.app
  have f7_k_0 : fldR l7 k 0 ((l.length : Int) + 1) := by rw [e7]; exact fld_app o6_k f6_k_0
  have f7_k_1 : fldR l7 k 1 ((l.length : Int) + 12) := by rw [e7]; exact fld_app o6_k f6_k_1
  have o7_344 : okC l7 ((l.length : Int) + 344) (7, 8) := by rw [e7]; exact okC.mk1 (id_new n6 rfl).symm rfl
  obtain ⟨l8, e8⟩ : ∃ z : CL, z = c_X7 ((l.length : Int) + 344) l7 := ⟨_, rfl⟩
  have C8 := c_X7_ok o7_344
  have n8 : l8.length = l.length + 349 := len_call e8 C8.1.1 n7
  have G8 : Grows l l8 k := by rw [e8]; exact G7.tr C8.1.2 (Or.inr (lt_new (by decide)))
  have o8_k : okC l8 k (10, 5) := by rw [e8]; exact o7_k.grow C8.1.2
  have f8_k_0 : fldR l8 k 0 ((l.length : Int) + 1) := by rw [e8]; exact fld_grow o7_k C8.1.2 (ne_old ok (by decide)) f7_k_0
  have f8_k_1 : fldR l8 k 1 ((l.length : Int) + 12) := by rw [e8]; exact fld_grow o7_k C8.1.2 (ne_old ok (by decide)) f7_k_1
  obtain ⟨l9, e9⟩ : ∃ z : CL, z = clR l8 k 2 ((l.length : Int) + 344) := ⟨_, rfl⟩
  have n9 : l9.length = l.length + 349 := len_setR e9 n8
  have G9 : Grows l l9 k := by rw [e9]; exact G8.setR o8_k.1 o8_k.2.1 (Or.inl rfl)
  have o9_k : okC l9 k (10, 5) := by rw [e9]; exact okC.ofR o8_k o8_k
  have f9_k_0 : fldR l9 k 0 ((l.length : Int) + 1) := by rw [e9]; exact fld_Rsame o8_k (by decide) f8_k_0
  have f9_k_1 : fldR l9 k 1 ((l.length : Int) + 12) := by rw [e9]; exact fld_Rsame o8_k (by decide) f8_k_1
  have f9_k_2 : fldR l9 k 2 ((l.length : Int) + 344) := by rw [e9]; exact fld_Rnew o8_k
  obtain ⟨l10, e10⟩ : ∃ z : CL, z = clI l9 k 4 (-1) := ⟨_, rfl⟩
  have n10 : l10.length = l.length + 349 := len_setI e10 n9
  have G10 : Grows l l10 k := by rw [e10]; exact G9.setI o9_k.1 o9_k.2.1 (Or.inl rfl)
  have o10_k : okC l10 k (10, 5) := by rw [e10]; exact okC.ofI o9_k o9_k
  have f10_k_0 : fldR l10 k 0 ((l.length : Int) + 1) := by rw [e10]; exact fld_I o9_k o9_k f9_k_0
  have f10_k_1 : fldR l10 k 1 ((l.length : Int) + 12) := by rw [e10]; exact fld_I o9_k o9_k f9_k_1
  have f10_k_2 : fldR l10 k 2 ((l.length : Int) + 344) := by rw [e10]; exact fld_I o9_k o9_k f9_k_2
  have eF : c_X10 k l = l10 := by rw [e10, e9, e8, e7, e6, e5, e4, e3, e2, e1, c_X10]
  rw [eF]
  refine ⟨⟨n10, G10, f10_k_0, f10_k_1, f10_k_2, trivial⟩, fun {g d} hd => ?_⟩
  refine EvM.of mkX10_init.2.2.2.1 (Nat.le_of_ble_eq_true rfl) ?_
  change Ev g d mtX10_init 0 [(0, vR k)] [] (sgL l) (349, 4122) vN (sgL l10)
  refine ev_aload_n (pc := 0) 0 dX10_init_0 rfl rfl ?_
  refine ev_objInit (pc := 1) rfl ob10_3 ok.ne0 (Nat.le_of_ble_eq_true rfl) (Nat.le_trans (by decide) hd) dX10_init_1 ?_
  refine ev_aload_n (pc := 4) 0 dX10_init_4 rfl rfl ?_
  refine ev_new (pc := 5) (b2 := (348, 4105)) rfl nl10_9 df5 dX10_init_5 rfl ?_
  refine ev_eqI (id_new rfl (z := 1) rfl) ?_
  refine ev_eqS e1 ?_
  refine ev_dup (pc := 8) rfl dX10_init_8 ?_
  refine ev_callI (pc := 9) (b1 := (10, 113)) (b2 := (338, 3992)) (as1 := []) (st := [vR ((l.length : Int) + 1), vR k]) (q := vN) (d' := d - 1) rfl mkX5_init ⟨rfl, rfl⟩ ml10_11 miX5_init o1_1.ne0 rfl (Nat.le_of_ble_eq_true rfl) (dd1 (Nat.le_trans (by decide) hd)) rfl dX10_init_9 (C2.2 (d := d - 1) (dd2 (n := 1) (Nat.le_trans (by decide) hd))) ?_
  change Ev g d mtX10_init _ _ [vR ((l.length : Int) + 1), vR k] _ _ _ _
  refine ev_eqS e2 ?_
  refine ev_putFL (pc := 12) flF10_12 rfl rfl dX10_init_12 rfl o2_k ?_
  refine ev_eqS e3 ?_
  refine ev_aload_n (pc := 15) 0 dX10_init_15 rfl rfl ?_
  refine ev_new (pc := 16) (b2 := (337, 3989)) rfl nl10_18 df0 dX10_init_16 rfl ?_
  refine ev_eqI (id_new n3 (z := 12) rfl) ?_
  refine ev_eqS e4 ?_
  refine ev_dup (pc := 19) rfl dX10_init_19 ?_
  refine ev_callI (pc := 20) (b1 := (331, 3930)) (b2 := (6, 59)) (as1 := []) (st := [vR ((l.length : Int) + 12), vR k]) (q := vN) (d' := d - 1) rfl mkX0_init ⟨rfl, rfl⟩ ml10_20 miX0_init o4_12.ne0 rfl (Nat.le_of_ble_eq_true rfl) (dd1 (Nat.le_trans (by decide) hd)) rfl dX10_init_20 (C5.2 (d := d - 1) (dd2 (n := 2) (Nat.le_trans (by decide) hd))) ?_
  change Ev g d mtX10_init _ _ [vR ((l.length : Int) + 12), vR k] _ _ _ _
  refine ev_eqS e5 ?_
  refine ev_putFL (pc := 23) flF10_21 rfl rfl dX10_init_23 rfl o5_k ?_
  refine ev_eqS e6 ?_
  refine ev_aload_n (pc := 26) 0 dX10_init_26 rfl rfl ?_
  refine ev_new (pc := 27) (b2 := (5, 51)) rfl nl10_25 df7 dX10_init_27 rfl ?_
  refine ev_eqI (id_new n6 (z := 344) rfl) ?_
  refine ev_eqS e7 ?_
  refine ev_dup (pc := 30) rfl dX10_init_30 ?_
  refine ev_callI (pc := 31) (b1 := (5, 51)) (b2 := (0, 0)) (as1 := []) (st := [vR ((l.length : Int) + 344), vR k]) (q := vN) (d' := d - 1) rfl mkX7_init ⟨rfl, rfl⟩ ml10_27 miX7_init o7_344.ne0 rfl (Nat.le_of_ble_eq_true rfl) (dd1 (Nat.le_trans (by decide) hd)) rfl dX10_init_31 (C8.2 (d := d - 1) (dd2 (n := 1) (Nat.le_trans (by decide) hd))) ?_
  change Ev g d mtX10_init _ _ [vR ((l.length : Int) + 344), vR k] _ _ _ _
  refine ev_eqS e8 ?_
  refine ev_putFL (pc := 34) flF10_28 rfl rfl dX10_init_34 rfl o8_k ?_
  refine ev_eqS e9 ?_
  refine ev_aload_n (pc := 37) 0 dX10_init_37 rfl rfl ?_
  refine ev_iconst (pc := 38) (x := (-1)) dX10_init_38 ci_m1 ?_
  refine ev_putIL (pc := 39) fl10_32 rfl dX10_init_39 o9_k ?_
  refine ev_eqS e10 ?_
  exact ev_vret (pc := 42) dX10_init_42 rfl
def c_X4 (k : Int) (l : CL) : CL := clI (clI (clR (l ++ [((20, 300), [], [])]) k 0 ((l.length : Int) + 1)) k 2 (-1)) k 3 (-1)
set_option maxRecDepth 100000 in
set_option maxHeartbeats 8000000 in
theorem c_X4_ok {k : Int} {l : CL} (ok : okC l k (4, 10)) : ((c_X4 k l).length = l.length + 1 ∧ Grows l (c_X4 k l) k) ∧ ∀ {g : Gm} {d : Nat}, 1 ≤ d → EvM g d mtX4_init [vR k] (sgL l) (1, 300) vN (sgL (c_X4 k l)) := by
  obtain ⟨l1, e1⟩ : ∃ z : CL, z = l ++ [((20, 300), [], [])] := ⟨_, rfl⟩
  have n1 : l1.length = l.length + 1 := len_push e1 rfl
  have G1 : Grows l l1 k := by rw [e1]; exact Grows.rf.app
  have o1_k : okC l1 k (4, 10) := by rw [e1]; exact ok.app
  obtain ⟨l2, e2⟩ : ∃ z : CL, z = clR l1 k 0 ((l.length : Int) + 1) := ⟨_, rfl⟩
  have n2 : l2.length = l.length + 1 := len_setR e2 n1
  have G2 : Grows l l2 k := by rw [e2]; exact G1.setR o1_k.1 o1_k.2.1 (Or.inl rfl)
  have o2_k : okC l2 k (4, 10) := by rw [e2]; exact okC.ofR o1_k o1_k
  obtain ⟨l3, e3⟩ : ∃ z : CL, z = clI l2 k 2 (-1) := ⟨_, rfl⟩
  have n3 : l3.length = l.length + 1 := len_setI e3 n2
  have G3 : Grows l l3 k := by rw [e3]; exact G2.setI o2_k.1 o2_k.2.1 (Or.inl rfl)
  have o3_k : okC l3 k (4, 10) := by rw [e3]; exact okC.ofI o2_k o2_k
  obtain ⟨l4, e4⟩ : ∃ z : CL, z = clI l3 k 3 (-1) := ⟨_, rfl⟩
  have n4 : l4.length = l.length + 1 := len_setI e4 n3
  have G4 : Grows l l4 k := by rw [e4]; exact G3.setI o3_k.1 o3_k.2.1 (Or.inl rfl)
  have o4_k : okC l4 k (4, 10) := by rw [e4]; exact okC.ofI o3_k o3_k
  have eF : c_X4 k l = l4 := by rw [e4, e3, e2, e1, c_X4]
  rw [eF]
  refine ⟨⟨n4, G4⟩, fun {g d} hd => ?_⟩
  refine EvM.of mkX4_init.2.2.2.1 (Nat.le_of_ble_eq_true rfl) ?_
  change Ev g d mtX4_init 0 [(0, vR k)] [] (sgL l) (1, 300) vN (sgL l4)
  refine ev_aload_n (pc := 0) 0 dX4_init_0 rfl rfl ?_
  refine ev_objInit (pc := 1) rfl ob4_3 ok.ne0 (Nat.le_of_ble_eq_true rfl) (Nat.le_trans (by decide) hd) dX4_init_1 ?_
  refine ev_aload_n (pc := 4) 0 dX4_init_4 rfl rfl ?_
  refine ev_sipush (pc := 5) (x := 300) dX4_init_5 cs_300 ?_
  refine ev_newa (pc := 8) (n := 300) (b2 := (0, 0)) (t := 20) arI.1 arI.2 rfl (Nat.le_of_ble_eq_true rfl) dX4_init_8 rfl ?_
  refine ev_eqI (id_new rfl (z := 1) rfl) ?_
  refine ev_eqS e1 ?_
  refine ev_putFL (pc := 10) flF4_9 rfl rfl dX4_init_10 rfl o1_k ?_
  refine ev_eqS e2 ?_
  refine ev_aload_n (pc := 13) 0 dX4_init_13 rfl rfl ?_
  refine ev_iconst (pc := 14) (x := (-1)) dX4_init_14 ci_m1 ?_
  refine ev_putIL (pc := 15) fl4_15 rfl dX4_init_15 o2_k ?_
  refine ev_eqS e3 ?_
  refine ev_aload_n (pc := 18) 0 dX4_init_18 rfl rfl ?_
  refine ev_iconst (pc := 19) (x := (-1)) dX4_init_19 ci_m1 ?_
  refine ev_putIL (pc := 20) fl4_19 rfl dX4_init_20 o3_k ?_
  refine ev_eqS e4 ?_
  exact ev_vret (pc := 23) dX4_init_23 rfl
def c_X2 (k : Int) (l : CL) : CL := clR ((clR (clR (c_X6 ((l.length : Int) + 1) (l ++ [((6, 8), [], [])])) k 0 ((l.length : Int) + 1)) k 1 ((l.length : Int) + 1)) ++ [((20, 64), [], [])]) k 2 ((l.length : Int) + 8)
set_option maxRecDepth 100000 in
set_option maxHeartbeats 8000000 in
theorem c_X2_ok {k : Int} {l : CL} (ok : okC l k (2, 3)) : ((c_X2 k l).length = l.length + 8 ∧ Grows l (c_X2 k l) k) ∧ ∀ {g : Gm} {d : Nat}, 2 ≤ d → EvM g d mtX2_init [vR k] (sgL l) (8, 802) vN (sgL (c_X2 k l)) := by
  obtain ⟨l1, e1⟩ : ∃ z : CL, z = l ++ [((6, 8), [], [])] := ⟨_, rfl⟩
  have n1 : l1.length = l.length + 1 := len_push e1 rfl
  have G1 : Grows l l1 k := by rw [e1]; exact Grows.rf.app
  have o1_k : okC l1 k (2, 3) := by rw [e1]; exact ok.app
  have o1_1 : okC l1 ((l.length : Int) + 1) (6, 8) := by rw [e1]; exact okC.mk1 (id_new rfl rfl).symm rfl
  obtain ⟨l2, e2⟩ : ∃ z : CL, z = c_X6 ((l.length : Int) + 1) l1 := ⟨_, rfl⟩
  have C2 := c_X6_ok o1_1
  have n2 : l2.length = l.length + 7 := len_call e2 C2.1.1 n1
  have G2 : Grows l l2 k := by rw [e2]; exact G1.tr C2.1.2 (Or.inr (lt_new (by decide)))
  have o2_k : okC l2 k (2, 3) := by rw [e2]; exact o1_k.grow C2.1.2
  obtain ⟨l3, e3⟩ : ∃ z : CL, z = clR l2 k 0 ((l.length : Int) + 1) := ⟨_, rfl⟩
  have n3 : l3.length = l.length + 7 := len_setR e3 n2
  have G3 : Grows l l3 k := by rw [e3]; exact G2.setR o2_k.1 o2_k.2.1 (Or.inl rfl)
  have o3_k : okC l3 k (2, 3) := by rw [e3]; exact okC.ofR o2_k o2_k
  have f3_k_0 : fldR l3 k 0 ((l.length : Int) + 1) := by rw [e3]; exact fld_Rnew o2_k
  obtain ⟨l4, e4⟩ : ∃ z : CL, z = clR l3 k 1 ((l.length : Int) + 1) := ⟨_, rfl⟩
  have n4 : l4.length = l.length + 7 := len_setR e4 n3
  have G4 : Grows l l4 k := by rw [e4]; exact G3.setR o3_k.1 o3_k.2.1 (Or.inl rfl)
  have o4_k : okC l4 k (2, 3) := by rw [e4]; exact okC.ofR o3_k o3_k
  obtain ⟨l5, e5⟩ : ∃ z : CL, z = l4 ++ [((20, 64), [], [])] := ⟨_, rfl⟩
  have n5 : l5.length = l.length + 8 := len_push e5 n4
  have G5 : Grows l l5 k := by rw [e5]; exact G4.app
  have o5_k : okC l5 k (2, 3) := by rw [e5]; exact o4_k.app
  obtain ⟨l6, e6⟩ : ∃ z : CL, z = clR l5 k 2 ((l.length : Int) + 8) := ⟨_, rfl⟩
  have n6 : l6.length = l.length + 8 := len_setR e6 n5
  have G6 : Grows l l6 k := by rw [e6]; exact G5.setR o5_k.1 o5_k.2.1 (Or.inl rfl)
  have o6_k : okC l6 k (2, 3) := by rw [e6]; exact okC.ofR o5_k o5_k
  have eF : c_X2 k l = l6 := by rw [e6, e5, e4, e3, e2, e1, c_X2]
  rw [eF]
  refine ⟨⟨n6, G6⟩, fun {g d} hd => ?_⟩
  refine EvM.of mkX2_init.2.2.2.1 (Nat.le_of_ble_eq_true rfl) ?_
  change Ev g d mtX2_init 0 [(0, vR k)] [] (sgL l) (8, 802) vN (sgL l6)
  refine ev_aload_n (pc := 0) 0 dX2_init_0 rfl rfl ?_
  refine ev_objInit (pc := 1) rfl ob2_3 ok.ne0 (Nat.le_of_ble_eq_true rfl) (Nat.le_trans (by decide) hd) dX2_init_1 ?_
  refine ev_aload_n (pc := 4) 0 dX2_init_4 rfl rfl ?_
  refine ev_new (pc := 5) (b2 := (7, 794)) rfl nl2_9 df6 dX2_init_5 rfl ?_
  refine ev_eqI (id_new rfl (z := 1) rfl) ?_
  refine ev_eqS e1 ?_
  refine ev_dup (pc := 8) rfl dX2_init_8 ?_
  refine ev_callI (pc := 9) (b1 := (6, 730)) (b2 := (1, 64)) (as1 := []) (st := [vR ((l.length : Int) + 1), vR k]) (q := vN) (d' := d - 1) rfl mkX6_init ⟨rfl, rfl⟩ ml2_11 miX6_init o1_1.ne0 rfl (Nat.le_of_ble_eq_true rfl) (dd1 (Nat.le_trans (by decide) hd)) rfl dX2_init_9 (C2.2 (d := d - 1) (dd2 (n := 1) (Nat.le_trans (by decide) hd))) ?_
  change Ev g d mtX2_init _ _ [vR ((l.length : Int) + 1), vR k] _ _ _ _
  refine ev_eqS e2 ?_
  refine ev_putFL (pc := 12) flF2_12 rfl rfl dX2_init_12 rfl o2_k ?_
  refine ev_eqS e3 ?_
  refine ev_aload_n (pc := 15) 0 dX2_init_15 rfl rfl ?_
  refine ev_aload_n (pc := 16) 0 dX2_init_16 rfl rfl ?_
  refine ev_getRL (pc := 17) fl2_12 rfl dX2_init_17 rfl o3_k f3_k_0 ?_
  refine ev_putRL (pc := 20) fl2_18 rfl dX2_init_20 rfl o3_k ?_
  refine ev_eqS e4 ?_
  refine ev_aload_n (pc := 23) 0 dX2_init_23 rfl rfl ?_
  refine ev_bipush (pc := 24) (x := 64) dX2_init_24 cb_64 ?_
  refine ev_newa (pc := 26) (n := 64) (b2 := (0, 0)) (t := 20) arI.1 arI.2 rfl (Nat.le_of_ble_eq_true rfl) dX2_init_26 rfl ?_
  refine ev_eqI (id_new n4 (z := 8) rfl) ?_
  refine ev_eqS e5 ?_
  refine ev_putFL (pc := 28) flF2_21 rfl rfl dX2_init_28 rfl o5_k ?_
  refine ev_eqS e6 ?_
  exact ev_vret (pc := 31) dX2_init_31 rfl
def c_X1 (k a0 : Int) (l : CL) : CL := clR (clR ((clR (l ++ [((20, 9), [], [])]) k 1 ((l.length : Int) + 1)) ++ [((20, 9), [], [])]) k 2 ((l.length : Int) + 2)) k 0 a0
set_option maxRecDepth 100000 in
set_option maxHeartbeats 8000000 in
theorem c_X1_ok {k a0 : Int} {l : CL} (ok : okC l k (1, 3)) (oa0 : okC l a0 (2, 3)) : ((c_X1 k a0 l).length = l.length + 2 ∧ Grows l (c_X1 k a0 l) k) ∧ ∀ {g : Gm} {d : Nat}, 1 ≤ d → EvM g d mtX1_init [vR k, vR a0] (sgL l) (2, 18) vN (sgL (c_X1 k a0 l)) := by
  obtain ⟨l1, e1⟩ : ∃ z : CL, z = l ++ [((20, 9), [], [])] := ⟨_, rfl⟩
  have n1 : l1.length = l.length + 1 := len_push e1 rfl
  have G1 : Grows l l1 k := by rw [e1]; exact Grows.rf.app
  have o1_k : okC l1 k (1, 3) := by rw [e1]; exact ok.app
  obtain ⟨l2, e2⟩ : ∃ z : CL, z = clR l1 k 1 ((l.length : Int) + 1) := ⟨_, rfl⟩
  have n2 : l2.length = l.length + 1 := len_setR e2 n1
  have G2 : Grows l l2 k := by rw [e2]; exact G1.setR o1_k.1 o1_k.2.1 (Or.inl rfl)
  have o2_k : okC l2 k (1, 3) := by rw [e2]; exact okC.ofR o1_k o1_k
  obtain ⟨l3, e3⟩ : ∃ z : CL, z = l2 ++ [((20, 9), [], [])] := ⟨_, rfl⟩
  have n3 : l3.length = l.length + 2 := len_push e3 n2
  have G3 : Grows l l3 k := by rw [e3]; exact G2.app
  have o3_k : okC l3 k (1, 3) := by rw [e3]; exact o2_k.app
  obtain ⟨l4, e4⟩ : ∃ z : CL, z = clR l3 k 2 ((l.length : Int) + 2) := ⟨_, rfl⟩
  have n4 : l4.length = l.length + 2 := len_setR e4 n3
  have G4 : Grows l l4 k := by rw [e4]; exact G3.setR o3_k.1 o3_k.2.1 (Or.inl rfl)
  have o4_k : okC l4 k (1, 3) := by rw [e4]; exact okC.ofR o3_k o3_k
  obtain ⟨l5, e5⟩ : ∃ z : CL, z = clR l4 k 0 a0 := ⟨_, rfl⟩
  have n5 : l5.length = l.length + 2 := len_setR e5 n4
  have G5 : Grows l l5 k := by rw [e5]; exact G4.setR o4_k.1 o4_k.2.1 (Or.inl rfl)
  have o5_k : okC l5 k (1, 3) := by rw [e5]; exact okC.ofR o4_k o4_k
  have eF : c_X1 k a0 l = l5 := by rw [e5, e4, e3, e2, e1, c_X1]
  rw [eF]
  refine ⟨⟨n5, G5⟩, fun {g d} hd => ?_⟩
  refine EvM.of mkX1_init.2.2.2.1 (Nat.le_of_ble_eq_true rfl) ?_
  change Ev g d mtX1_init 0 [(0, vR k), (1, vR a0)] [] (sgL l) (2, 18) vN (sgL l5)
  refine ev_aload_n (pc := 0) 0 dX1_init_0 rfl rfl ?_
  refine ev_objInit (pc := 1) rfl ob1_3 ok.ne0 (Nat.le_of_ble_eq_true rfl) (Nat.le_trans (by decide) hd) dX1_init_1 ?_
  refine ev_aload_n (pc := 4) 0 dX1_init_4 rfl rfl ?_
  refine ev_bipush (pc := 5) (x := 9) dX1_init_5 cb_9 ?_
  refine ev_newa (pc := 7) (n := 9) (b2 := (1, 9)) (t := 20) arI.1 arI.2 rfl (Nat.le_of_ble_eq_true rfl) dX1_init_7 rfl ?_
  refine ev_eqI (id_new rfl (z := 1) rfl) ?_
  refine ev_eqS e1 ?_
  refine ev_putFL (pc := 9) flF1_9 rfl rfl dX1_init_9 rfl o1_k ?_
  refine ev_eqS e2 ?_
  refine ev_aload_n (pc := 12) 0 dX1_init_12 rfl rfl ?_
  refine ev_bipush (pc := 13) (x := 9) dX1_init_13 cb_9 ?_
  refine ev_newa (pc := 15) (n := 9) (b2 := (0, 0)) (t := 20) arI.1 arI.2 rfl (Nat.le_of_ble_eq_true rfl) dX1_init_15 rfl ?_
  refine ev_eqI (id_new n2 (z := 2) rfl) ?_
  refine ev_eqS e3 ?_
  refine ev_putFL (pc := 17) flF1_15 rfl rfl dX1_init_17 rfl o3_k ?_
  refine ev_eqS e4 ?_
  refine ev_aload_n (pc := 20) 0 dX1_init_20 rfl rfl ?_
  refine ev_aload_n (pc := 21) 1 dX1_init_21 rfl rfl ?_
  refine ev_putFL (pc := 22) flF1_18 rfl rfl dX1_init_22 rfl o4_k ?_
  refine ev_eqS e5 ?_
  exact ev_vret (pc := 25) dX1_init_25 rfl
def c_X9 (k a0 : Int) (l : CL) : CL := clR (clR (mnaL (clR (mnaL (clR (mnaL l 9 49) k 1 ((l.length : Int) + 1)) 9 49) k 2 ((l.length : Int) + 11)) 9 49) k 3 ((l.length : Int) + 21)) k 0 a0
set_option maxRecDepth 100000 in
set_option maxHeartbeats 8000000 in
theorem c_X9_ok {k a0 : Int} {l : CL} (ok : okC l k (9, 4)) (oa0 : okC l a0 (2, 3)) : ((c_X9 k a0 l).length = l.length + 30 ∧ Grows l (c_X9 k a0 l) k) ∧ ∀ {g : Gm} {d : Nat}, 1 ≤ d → EvM g d mtX9_init [vR k, vR a0] (sgL l) (30, 1350) vN (sgL (c_X9 k a0 l)) := by
  obtain ⟨l1, e1⟩ : ∃ z : CL, z = mnaL l 9 49 := ⟨_, rfl⟩
  have n1 : l1.length = l.length + 10 := len_mna e1 rfl
  have G1 : Grows l l1 k := by rw [e1]; exact Grows.rf.mna
  have o1_k : okC l1 k (9, 4) := by rw [e1]; exact ok.mna
  obtain ⟨l2, e2⟩ : ∃ z : CL, z = clR l1 k 1 ((l.length : Int) + 1) := ⟨_, rfl⟩
  have n2 : l2.length = l.length + 10 := len_setR e2 n1
  have G2 : Grows l l2 k := by rw [e2]; exact G1.setR o1_k.1 o1_k.2.1 (Or.inl rfl)
  have o2_k : okC l2 k (9, 4) := by rw [e2]; exact okC.ofR o1_k o1_k
  obtain ⟨l3, e3⟩ : ∃ z : CL, z = mnaL l2 9 49 := ⟨_, rfl⟩
  have n3 : l3.length = l.length + 20 := len_mna e3 n2
  have G3 : Grows l l3 k := by rw [e3]; exact G2.mna
  have o3_k : okC l3 k (9, 4) := by rw [e3]; exact o2_k.mna
  obtain ⟨l4, e4⟩ : ∃ z : CL, z = clR l3 k 2 ((l.length : Int) + 11) := ⟨_, rfl⟩
  have n4 : l4.length = l.length + 20 := len_setR e4 n3
  have G4 : Grows l l4 k := by rw [e4]; exact G3.setR o3_k.1 o3_k.2.1 (Or.inl rfl)
  have o4_k : okC l4 k (9, 4) := by rw [e4]; exact okC.ofR o3_k o3_k
  obtain ⟨l5, e5⟩ : ∃ z : CL, z = mnaL l4 9 49 := ⟨_, rfl⟩
  have n5 : l5.length = l.length + 30 := len_mna e5 n4
  have G5 : Grows l l5 k := by rw [e5]; exact G4.mna
  have o5_k : okC l5 k (9, 4) := by rw [e5]; exact o4_k.mna
  obtain ⟨l6, e6⟩ : ∃ z : CL, z = clR l5 k 3 ((l.length : Int) + 21) := ⟨_, rfl⟩
  have n6 : l6.length = l.length + 30 := len_setR e6 n5
  have G6 : Grows l l6 k := by rw [e6]; exact G5.setR o5_k.1 o5_k.2.1 (Or.inl rfl)
  have o6_k : okC l6 k (9, 4) := by rw [e6]; exact okC.ofR o5_k o5_k
  obtain ⟨l7, e7⟩ : ∃ z : CL, z = clR l6 k 0 a0 := ⟨_, rfl⟩
  have n7 : l7.length = l.length + 30 := len_setR e7 n6
  have G7 : Grows l l7 k := by rw [e7]; exact G6.setR o6_k.1 o6_k.2.1 (Or.inl rfl)
  have o7_k : okC l7 k (9, 4) := by rw [e7]; exact okC.ofR o6_k o6_k
  have eF : c_X9 k a0 l = l7 := by rw [e7, e6, e5, e4, e3, e2, e1, c_X9]
  rw [eF]
  refine ⟨⟨n7, G7⟩, fun {g d} hd => ?_⟩
  refine EvM.of mkX9_init.2.2.2.1 (Nat.le_of_ble_eq_true rfl) ?_
  change Ev g d mtX9_init 0 [(0, vR k), (1, vR a0)] [] (sgL l) (30, 1350) vN (sgL l7)
  refine ev_aload_n (pc := 0) 0 dX9_init_0 rfl rfl ?_
  refine ev_objInit (pc := 1) rfl ob9_3 ok.ne0 (Nat.le_of_ble_eq_true rfl) (Nat.le_trans (by decide) hd) dX9_init_1 ?_
  refine ev_aload_n (pc := 4) 0 dX9_init_4 rfl rfl ?_
  refine ev_bipush (pc := 5) (x := 9) dX9_init_5 cb_9 ?_
  refine ev_bipush (pc := 7) (x := 49) dX9_init_7 cb_49 ?_
  refine ev_mna (pc := 9) (n := 9) (k := 49) (b2 := (20, 900)) rfl mn9_9 rfl rfl (by decide) (by decide) dX9_init_9 rfl ?_
  refine ev_eqI (id_new rfl (z := 1) rfl) ?_
  refine ev_eqS e1 ?_
  refine ev_putFL (pc := 13) flF9_11 rfl rfl dX9_init_13 rfl o1_k ?_
  refine ev_eqS e2 ?_
  refine ev_aload_n (pc := 16) 0 dX9_init_16 rfl rfl ?_
  refine ev_bipush (pc := 17) (x := 9) dX9_init_17 cb_9 ?_
  refine ev_bipush (pc := 19) (x := 49) dX9_init_19 cb_49 ?_
  refine ev_mna (pc := 21) (n := 9) (k := 49) (b2 := (10, 450)) rfl mn9_9 rfl rfl (by decide) (by decide) dX9_init_21 rfl ?_
  refine ev_eqI (id_new n2 (z := 11) rfl) ?_
  refine ev_eqS e3 ?_
  refine ev_putFL (pc := 25) flF9_16 rfl rfl dX9_init_25 rfl o3_k ?_
  refine ev_eqS e4 ?_
  refine ev_aload_n (pc := 28) 0 dX9_init_28 rfl rfl ?_
  refine ev_bipush (pc := 29) (x := 9) dX9_init_29 cb_9 ?_
  refine ev_bipush (pc := 31) (x := 49) dX9_init_31 cb_49 ?_
  refine ev_mna (pc := 33) (n := 9) (k := 49) (b2 := (0, 0)) rfl mn9_9 rfl rfl (by decide) (by decide) dX9_init_33 rfl ?_
  refine ev_eqI (id_new n4 (z := 21) rfl) ?_
  refine ev_eqS e5 ?_
  refine ev_putFL (pc := 37) flF9_19 rfl rfl dX9_init_37 rfl o5_k ?_
  refine ev_eqS e6 ?_
  refine ev_aload_n (pc := 40) 0 dX9_init_40 rfl rfl ?_
  refine ev_aload_n (pc := 41) 1 dX9_init_41 rfl rfl ?_
  refine ev_putFL (pc := 42) flF9_22 rfl rfl dX9_init_42 rfl o6_k ?_
  refine ev_eqS e7 ?_
  exact ev_vret (pc := 45) dX9_init_45 rfl
def c_X3 (k a0 : Int) (l : CL) : CL := clR (clR ((clR (mnaL (clR ((clR (l ++ [((20, 4), [], [])]) k 1 ((l.length : Int) + 1)) ++ [((20, 4), [], [])]) k 2 ((l.length : Int) + 2)) 4 5) k 5 ((l.length : Int) + 3)) ++ [((20, 4), [], [])]) k 7 ((l.length : Int) + 8)) k 0 a0
set_option maxRecDepth 100000 in
set_option maxHeartbeats 8000000 in
theorem c_X3_ok {k a0 : Int} {l : CL} (ok : okC l k (3, 8)) (oa0 : okC l a0 (2, 3)) : ((c_X3 k a0 l).length = l.length + 8 ∧ Grows l (c_X3 k a0 l) k) ∧ ∀ {g : Gm} {d : Nat}, 1 ≤ d → EvM g d mtX3_init [vR k, vR a0] (sgL l) (8, 36) vN (sgL (c_X3 k a0 l)) := by
  obtain ⟨l1, e1⟩ : ∃ z : CL, z = l ++ [((20, 4), [], [])] := ⟨_, rfl⟩
  have n1 : l1.length = l.length + 1 := len_push e1 rfl
  have G1 : Grows l l1 k := by rw [e1]; exact Grows.rf.app
  have o1_k : okC l1 k (3, 8) := by rw [e1]; exact ok.app
  obtain ⟨l2, e2⟩ : ∃ z : CL, z = clR l1 k 1 ((l.length : Int) + 1) := ⟨_, rfl⟩
  have n2 : l2.length = l.length + 1 := len_setR e2 n1
  have G2 : Grows l l2 k := by rw [e2]; exact G1.setR o1_k.1 o1_k.2.1 (Or.inl rfl)
  have o2_k : okC l2 k (3, 8) := by rw [e2]; exact okC.ofR o1_k o1_k
  obtain ⟨l3, e3⟩ : ∃ z : CL, z = l2 ++ [((20, 4), [], [])] := ⟨_, rfl⟩
  have n3 : l3.length = l.length + 2 := len_push e3 n2
  have G3 : Grows l l3 k := by rw [e3]; exact G2.app
  have o3_k : okC l3 k (3, 8) := by rw [e3]; exact o2_k.app
  obtain ⟨l4, e4⟩ : ∃ z : CL, z = clR l3 k 2 ((l.length : Int) + 2) := ⟨_, rfl⟩
  have n4 : l4.length = l.length + 2 := len_setR e4 n3
  have G4 : Grows l l4 k := by rw [e4]; exact G3.setR o3_k.1 o3_k.2.1 (Or.inl rfl)
  have o4_k : okC l4 k (3, 8) := by rw [e4]; exact okC.ofR o3_k o3_k
  obtain ⟨l5, e5⟩ : ∃ z : CL, z = mnaL l4 4 5 := ⟨_, rfl⟩
  have n5 : l5.length = l.length + 7 := len_mna e5 n4
  have G5 : Grows l l5 k := by rw [e5]; exact G4.mna
  have o5_k : okC l5 k (3, 8) := by rw [e5]; exact o4_k.mna
  obtain ⟨l6, e6⟩ : ∃ z : CL, z = clR l5 k 5 ((l.length : Int) + 3) := ⟨_, rfl⟩
  have n6 : l6.length = l.length + 7 := len_setR e6 n5
  have G6 : Grows l l6 k := by rw [e6]; exact G5.setR o5_k.1 o5_k.2.1 (Or.inl rfl)
  have o6_k : okC l6 k (3, 8) := by rw [e6]; exact okC.ofR o5_k o5_k
  obtain ⟨l7, e7⟩ : ∃ z : CL, z = l6 ++ [((20, 4), [], [])] := ⟨_, rfl⟩
  have n7 : l7.length = l.length + 8 := len_push e7 n6
  have G7 : Grows l l7 k := by rw [e7]; exact G6.app
  have o7_k : okC l7 k (3, 8) := by rw [e7]; exact o6_k.app
  obtain ⟨l8, e8⟩ : ∃ z : CL, z = clR l7 k 7 ((l.length : Int) + 8) := ⟨_, rfl⟩
  have n8 : l8.length = l.length + 8 := len_setR e8 n7
  have G8 : Grows l l8 k := by rw [e8]; exact G7.setR o7_k.1 o7_k.2.1 (Or.inl rfl)
  have o8_k : okC l8 k (3, 8) := by rw [e8]; exact okC.ofR o7_k o7_k
  obtain ⟨l9, e9⟩ : ∃ z : CL, z = clR l8 k 0 a0 := ⟨_, rfl⟩
  have n9 : l9.length = l.length + 8 := len_setR e9 n8
  have G9 : Grows l l9 k := by rw [e9]; exact G8.setR o8_k.1 o8_k.2.1 (Or.inl rfl)
  have o9_k : okC l9 k (3, 8) := by rw [e9]; exact okC.ofR o8_k o8_k
  have eF : c_X3 k a0 l = l9 := by rw [e9, e8, e7, e6, e5, e4, e3, e2, e1, c_X3]
  rw [eF]
  refine ⟨⟨n9, G9⟩, fun {g d} hd => ?_⟩
  refine EvM.of mkX3_init.2.2.2.1 (Nat.le_of_ble_eq_true rfl) ?_
  change Ev g d mtX3_init 0 [(0, vR k), (1, vR a0)] [] (sgL l) (8, 36) vN (sgL l9)
  refine ev_aload_n (pc := 0) 0 dX3_init_0 rfl rfl ?_
  refine ev_objInit (pc := 1) rfl ob3_3 ok.ne0 (Nat.le_of_ble_eq_true rfl) (Nat.le_trans (by decide) hd) dX3_init_1 ?_
  refine ev_aload_n (pc := 4) 0 dX3_init_4 rfl rfl ?_
  refine ev_iconst (pc := 5) (x := 4) dX3_init_5 ci_4 ?_
  refine ev_newa (pc := 6) (n := 4) (b2 := (7, 32)) (t := 20) arI.1 arI.2 rfl (Nat.le_of_ble_eq_true rfl) dX3_init_6 rfl ?_
  refine ev_eqI (id_new rfl (z := 1) rfl) ?_
  refine ev_eqS e1 ?_
  refine ev_putFL (pc := 8) flF3_9 rfl rfl dX3_init_8 rfl o1_k ?_
  refine ev_eqS e2 ?_
  refine ev_aload_n (pc := 11) 0 dX3_init_11 rfl rfl ?_
  refine ev_iconst (pc := 12) (x := 4) dX3_init_12 ci_4 ?_
  refine ev_newa (pc := 13) (n := 4) (b2 := (6, 28)) (t := 20) arI.1 arI.2 rfl (Nat.le_of_ble_eq_true rfl) dX3_init_13 rfl ?_
  refine ev_eqI (id_new n2 (z := 2) rfl) ?_
  refine ev_eqS e3 ?_
  refine ev_putFL (pc := 15) flF3_15 rfl rfl dX3_init_15 rfl o3_k ?_
  refine ev_eqS e4 ?_
  refine ev_aload_n (pc := 18) 0 dX3_init_18 rfl rfl ?_
  refine ev_iconst (pc := 19) (x := 4) dX3_init_19 ci_4 ?_
  refine ev_iconst (pc := 20) (x := 5) dX3_init_20 ci_5 ?_
  refine ev_mna (pc := 21) (n := 4) (k := 5) (b2 := (1, 4)) rfl mn3_18 rfl rfl (by decide) (by decide) dX3_init_21 rfl ?_
  refine ev_eqI (id_new n4 (z := 3) rfl) ?_
  refine ev_eqS e5 ?_
  refine ev_putFL (pc := 25) flF3_20 rfl rfl dX3_init_25 rfl o5_k ?_
  refine ev_eqS e6 ?_
  refine ev_aload_n (pc := 28) 0 dX3_init_28 rfl rfl ?_
  refine ev_iconst (pc := 29) (x := 4) dX3_init_29 ci_4 ?_
  refine ev_newa (pc := 30) (n := 4) (b2 := (0, 0)) (t := 20) arI.1 arI.2 rfl (Nat.le_of_ble_eq_true rfl) dX3_init_30 rfl ?_
  refine ev_eqI (id_new n6 (z := 8) rfl) ?_
  refine ev_eqS e7 ?_
  refine ev_putFL (pc := 32) flF3_23 rfl rfl dX3_init_32 rfl o7_k ?_
  refine ev_eqS e8 ?_
  refine ev_aload_n (pc := 35) 0 dX3_init_35 rfl rfl ?_
  refine ev_aload_n (pc := 36) 1 dX3_init_36 rfl rfl ?_
  refine ev_putFL (pc := 37) flF3_26 rfl rfl dX3_init_37 rfl o8_k ?_
  refine ev_eqS e9 ?_
  exact ev_vret (pc := 40) dX3_init_40 rfl
def c_X8 (k : Int) (l : CL) : CL := clR ((clR ((clR ((clR (l ++ [((20, 9), [], [])]) k 0 ((l.length : Int) + 1)) ++ [((20, 10), [], [])]) k 1 ((l.length : Int) + 2)) ++ [((20, 10), [], [])]) k 2 ((l.length : Int) + 3)) ++ [((20, 9), [], [])]) k 3 ((l.length : Int) + 4)
set_option maxRecDepth 100000 in
set_option maxHeartbeats 8000000 in
theorem c_X8_ok {k : Int} {l : CL} (ok : okC l k (8, 4)) : ((c_X8 k l).length = l.length + 4 ∧ Grows l (c_X8 k l) k) ∧ ∀ {g : Gm} {d : Nat}, 1 ≤ d → EvM g d mtX8_init [vR k] (sgL l) (4, 38) vN (sgL (c_X8 k l)) := by
  obtain ⟨l1, e1⟩ : ∃ z : CL, z = l ++ [((20, 9), [], [])] := ⟨_, rfl⟩
  have n1 : l1.length = l.length + 1 := len_push e1 rfl
  have G1 : Grows l l1 k := by rw [e1]; exact Grows.rf.app
  have o1_k : okC l1 k (8, 4) := by rw [e1]; exact ok.app
  obtain ⟨l2, e2⟩ : ∃ z : CL, z = clR l1 k 0 ((l.length : Int) + 1) := ⟨_, rfl⟩
  have n2 : l2.length = l.length + 1 := len_setR e2 n1
  have G2 : Grows l l2 k := by rw [e2]; exact G1.setR o1_k.1 o1_k.2.1 (Or.inl rfl)
  have o2_k : okC l2 k (8, 4) := by rw [e2]; exact okC.ofR o1_k o1_k
  obtain ⟨l3, e3⟩ : ∃ z : CL, z = l2 ++ [((20, 10), [], [])] := ⟨_, rfl⟩
  have n3 : l3.length = l.length + 2 := len_push e3 n2
  have G3 : Grows l l3 k := by rw [e3]; exact G2.app
  have o3_k : okC l3 k (8, 4) := by rw [e3]; exact o2_k.app
  obtain ⟨l4, e4⟩ : ∃ z : CL, z = clR l3 k 1 ((l.length : Int) + 2) := ⟨_, rfl⟩
  have n4 : l4.length = l.length + 2 := len_setR e4 n3
  have G4 : Grows l l4 k := by rw [e4]; exact G3.setR o3_k.1 o3_k.2.1 (Or.inl rfl)
  have o4_k : okC l4 k (8, 4) := by rw [e4]; exact okC.ofR o3_k o3_k
  obtain ⟨l5, e5⟩ : ∃ z : CL, z = l4 ++ [((20, 10), [], [])] := ⟨_, rfl⟩
  have n5 : l5.length = l.length + 3 := len_push e5 n4
  have G5 : Grows l l5 k := by rw [e5]; exact G4.app
  have o5_k : okC l5 k (8, 4) := by rw [e5]; exact o4_k.app
  obtain ⟨l6, e6⟩ : ∃ z : CL, z = clR l5 k 2 ((l.length : Int) + 3) := ⟨_, rfl⟩
  have n6 : l6.length = l.length + 3 := len_setR e6 n5
  have G6 : Grows l l6 k := by rw [e6]; exact G5.setR o5_k.1 o5_k.2.1 (Or.inl rfl)
  have o6_k : okC l6 k (8, 4) := by rw [e6]; exact okC.ofR o5_k o5_k
  obtain ⟨l7, e7⟩ : ∃ z : CL, z = l6 ++ [((20, 9), [], [])] := ⟨_, rfl⟩
  have n7 : l7.length = l.length + 4 := len_push e7 n6
  have G7 : Grows l l7 k := by rw [e7]; exact G6.app
  have o7_k : okC l7 k (8, 4) := by rw [e7]; exact o6_k.app
  obtain ⟨l8, e8⟩ : ∃ z : CL, z = clR l7 k 3 ((l.length : Int) + 4) := ⟨_, rfl⟩
  have n8 : l8.length = l.length + 4 := len_setR e8 n7
  have G8 : Grows l l8 k := by rw [e8]; exact G7.setR o7_k.1 o7_k.2.1 (Or.inl rfl)
  have o8_k : okC l8 k (8, 4) := by rw [e8]; exact okC.ofR o7_k o7_k
  have eF : c_X8 k l = l8 := by rw [e8, e7, e6, e5, e4, e3, e2, e1, c_X8]
  rw [eF]
  refine ⟨⟨n8, G8⟩, fun {g d} hd => ?_⟩
  refine EvM.of mkX8_init.2.2.2.1 (Nat.le_of_ble_eq_true rfl) ?_
  change Ev g d mtX8_init 0 [(0, vR k)] [] (sgL l) (4, 38) vN (sgL l8)
  refine ev_aload_n (pc := 0) 0 dX8_init_0 rfl rfl ?_
  refine ev_objInit (pc := 1) rfl ob8_3 ok.ne0 (Nat.le_of_ble_eq_true rfl) (Nat.le_trans (by decide) hd) dX8_init_1 ?_
  refine ev_aload_n (pc := 4) 0 dX8_init_4 rfl rfl ?_
  refine ev_bipush (pc := 5) (x := 9) dX8_init_5 cb_9 ?_
  refine ev_newa (pc := 7) (n := 9) (b2 := (3, 29)) (t := 20) arI.1 arI.2 rfl (Nat.le_of_ble_eq_true rfl) dX8_init_7 rfl ?_
  refine ev_eqI (id_new rfl (z := 1) rfl) ?_
  refine ev_eqS e1 ?_
  refine ev_putFL (pc := 9) flF8_9 rfl rfl dX8_init_9 rfl o1_k ?_
  refine ev_eqS e2 ?_
  refine ev_aload_n (pc := 12) 0 dX8_init_12 rfl rfl ?_
  refine ev_bipush (pc := 13) (x := 10) dX8_init_13 cb_10 ?_
  refine ev_newa (pc := 15) (n := 10) (b2 := (2, 19)) (t := 20) arI.1 arI.2 rfl (Nat.le_of_ble_eq_true rfl) dX8_init_15 rfl ?_
  refine ev_eqI (id_new n2 (z := 2) rfl) ?_
  refine ev_eqS e3 ?_
  refine ev_putFL (pc := 17) flF8_15 rfl rfl dX8_init_17 rfl o3_k ?_
  refine ev_eqS e4 ?_
  refine ev_aload_n (pc := 20) 0 dX8_init_20 rfl rfl ?_
  refine ev_bipush (pc := 21) (x := 10) dX8_init_21 cb_10 ?_
  refine ev_newa (pc := 23) (n := 10) (b2 := (1, 9)) (t := 20) arI.1 arI.2 rfl (Nat.le_of_ble_eq_true rfl) dX8_init_23 rfl ?_
  refine ev_eqI (id_new n4 (z := 3) rfl) ?_
  refine ev_eqS e5 ?_
  refine ev_putFL (pc := 25) flF8_18 rfl rfl dX8_init_25 rfl o5_k ?_
  refine ev_eqS e6 ?_
  refine ev_aload_n (pc := 28) 0 dX8_init_28 rfl rfl ?_
  refine ev_bipush (pc := 29) (x := 9) dX8_init_29 cb_9 ?_
  refine ev_newa (pc := 31) (n := 9) (b2 := (0, 0)) (t := 20) arI.1 arI.2 rfl (Nat.le_of_ble_eq_true rfl) dX8_init_31 rfl ?_
  refine ev_eqI (id_new n6 (z := 4) rfl) ?_
  refine ev_eqS e7 ?_
  refine ev_putFL (pc := 33) flF8_21 rfl rfl dX8_init_33 rfl o7_k ?_
  refine ev_eqS e8 ?_
  exact ev_vret (pc := 36) dX8_init_36 rfl
