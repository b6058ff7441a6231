set_option linter.unusedVariables false
set_option linter.unusedSimpArgs false
/-! constructors: the class and the model -/
def c_X11 (k : Int) (l : CL) : CL := clR (c_X6 ((l.length : Int) + 793) ((clR (c_X6 ((l.length : Int) + 786) ((clR (c_X6 ((l.length : Int) + 779) ((clR (c_X6 ((l.length : Int) + 772) ((clR (c_X5 ((l.length : Int) + 761) ((clR (c_X8 ((l.length : Int) + 756) ((clR (c_X3 ((l.length : Int) + 747) ((l.length : Int) + 704) ((clR (c_X9 ((l.length : Int) + 716) ((l.length : Int) + 704) ((clR (c_X1 ((l.length : Int) + 713) ((l.length : Int) + 704) ((clR (c_X2 ((l.length : Int) + 704) ((clR (c_X4 ((l.length : Int) + 702) ((clR ((clR (clR (clR (c_X10 ((l.length : Int) + 351) ((clR (c_X10 ((l.length : Int) + 1) (l ++ [((10, 5), [], [])])) k 0 ((l.length : Int) + 1)) ++ [((10, 5), [], [])])) k 1 ((l.length : Int) + 351)) k 2 ((l.length : Int) + 2)) k 3 ((l.length : Int) + 345)) ++ [((25, 4), [], [])]) k 4 ((l.length : Int) + 701)) ++ [((4, 10), [], [])])) k 5 ((l.length : Int) + 702)) ++ [((2, 3), [], [])])) k 6 ((l.length : Int) + 704)) ++ [((1, 3), [], [])])) k 7 ((l.length : Int) + 713)) ++ [((9, 4), [], [])])) k 8 ((l.length : Int) + 716)) ++ [((3, 8), [], [])])) k 9 ((l.length : Int) + 747)) ++ [((8, 4), [], [])])) k 10 ((l.length : Int) + 756)) ++ [((5, 17), [], [])])) k 11 ((l.length : Int) + 761)) ++ [((6, 8), [], [])])) ((l.length : Int) + 701) 0 ((l.length : Int) + 772)) ++ [((6, 8), [], [])])) ((l.length : Int) + 701) 1 ((l.length : Int) + 779)) ++ [((6, 8), [], [])])) ((l.length : Int) + 701) 2 ((l.length : Int) + 786)) ++ [((6, 8), [], [])])) ((l.length : Int) + 701) 3 ((l.length : Int) + 793)
set_option maxRecDepth 100000 in
set_option maxHeartbeats 8000000 in
theorem c_X11_ok {k : Int} {l : CL} (ok : okC l k (11, 12)) : ((c_X11 k l).length = l.length + 799 ∧ Grows l (c_X11 k l) k) ∧ ∀ {g : Gm} {d : Nat}, 4 ≤ d → EvM g d mtX11_init [vR k] (sgL l) (799, 13916) vN (sgL (c_X11 k l)) := by
  obtain ⟨l1, e1⟩ : ∃ z : CL, z = l ++ [((10, 5), [], [])] := ⟨_, rfl⟩
  have n1 : l1.length = l.length + 1 := len_push e1 rfl
  have G1 : Grows l l1 k := by rw [e1]; exact Grows.rf.app
  have o1_k : okC l1 k (11, 12) := by rw [e1]; exact ok.app
  have o1_1 : okC l1 ((l.length : Int) + 1) (10, 5) := by rw [e1]; exact okC.mk1 (id_new rfl rfl).symm rfl
  obtain ⟨l2, e2⟩ : ∃ z : CL, z = c_X10 ((l.length : Int) + 1) l1 := ⟨_, rfl⟩
  have C2 := c_X10_ok o1_1
  have n2 : l2.length = l.length + 350 := len_call e2 C2.1.1 n1
  have G2 : Grows l l2 k := by rw [e2]; exact G1.tr C2.1.2.1 (Or.inr (lt_new (by decide)))
  have o2_k : okC l2 k (11, 12) := by rw [e2]; exact o1_k.grow C2.1.2.1
  have o2_1 : okC l2 ((l.length : Int) + 1) (10, 5) := by rw [e2]; exact o1_1.grow C2.1.2.1
  have f2_1_0 : fldR l2 ((l.length : Int) + 1) 0 ((l.length : Int) + 2) := by have h9 := C2.1.2.2.1; rw [id_off (m := 1) n1 (by decide) (z := 2)] at h9; rw [e2]; exact h9
  have f2_1_2 : fldR l2 ((l.length : Int) + 1) 2 ((l.length : Int) + 345) := by have h9 := C2.1.2.2.2.2.1; rw [id_off (m := 344) n1 (by decide) (z := 345)] at h9; rw [e2]; exact h9
  obtain ⟨l3, e3⟩ : ∃ z : CL, z = clR l2 k 0 ((l.length : Int) + 1) := ⟨_, rfl⟩
  have n3 : l3.length = l.length + 350 := len_setR e3 n2
  have G3 : Grows l l3 k := by rw [e3]; exact G2.setR o2_k.1 o2_k.2.1 (Or.inl rfl)
  have o3_k : okC l3 k (11, 12) := by rw [e3]; exact okC.ofR o2_k o2_k
  have o3_1 : okC l3 ((l.length : Int) + 1) (10, 5) := by rw [e3]; exact okC.ofR o2_k o2_1
  have f3_1_0 : fldR l3 ((l.length : Int) + 1) 0 ((l.length : Int) + 2) := by rw [e3]; exact fld_Rne o2_k o2_1 (ne_old ok (by decide)).symm f2_1_0
  have f3_1_2 : fldR l3 ((l.length : Int) + 1) 2 ((l.length : Int) + 345) := by rw [e3]; exact fld_Rne o2_k o2_1 (ne_old ok (by decide)).symm f2_1_2
  have f3_k_0 : fldR l3 k 0 ((l.length : Int) + 1) := by rw [e3]; exact fld_Rnew o2_k
  obtain ⟨l4, e4⟩ : ∃ z : CL, z = l3 ++ [((10, 5), [], [])] := ⟨_, rfl⟩
  have n4 : l4.length = l.length + 351 := len_push e4 n3
  have G4 : Grows l l4 k := by rw [e4]; exact G3.app
  have o4_k : okC l4 k (11, 12) := by rw [e4]; exact o3_k.app
  have o4_1 : okC l4 ((l.length : Int) + 1) (10, 5) := by rw [e4]; exact o3_1.app
  have f4_1_0 : fldR l4 ((l.length : Int) + 1) 0 ((l.length : Int) + 2) := by rw [e4]; exact fld_app o3_1 f3_1_0
  have f4_1_2 : fldR l4 ((l.length : Int) + 1) 2 ((l.length : Int) + 345) := by rw [e4]; exact fld_app o3_1 f3_1_2
  have f4_k_0 : fldR l4 k 0 ((l.length : Int) + 1) := by rw [e4]; exact fld_app o3_k f3_k_0
  have o4_351 : okC l4 ((l.length : Int) + 351) (10, 5) := by rw [e4]; exact okC.mk1 (id_new n3 rfl).symm rfl
  obtain ⟨l5, e5⟩ : ∃ z : CL, z = c_X10 ((l.length : Int) + 351) l4 := ⟨_, rfl⟩
  have C5 := c_X10_ok o4_351
  have n5 : l5.length = l.length + 700 := len_call e5 C5.1.1 n4
  have G5 : Grows l l5 k := by rw [e5]; exact G4.tr C5.1.2.1 (Or.inr (lt_new (by decide)))
  have o5_k : okC l5 k (11, 12) := by rw [e5]; exact o4_k.grow C5.1.2.1
  have o5_1 : okC l5 ((l.length : Int) + 1) (10, 5) := by rw [e5]; exact o4_1.grow C5.1.2.1
  have f5_1_0 : fldR l5 ((l.length : Int) + 1) 0 ((l.length : Int) + 2) := by rw [e5]; exact fld_grow o4_1 C5.1.2.1 (by omega) f4_1_0
  have f5_1_2 : fldR l5 ((l.length : Int) + 1) 2 ((l.length : Int) + 345) := by rw [e5]; exact fld_grow o4_1 C5.1.2.1 (by omega) f4_1_2
  have f5_k_0 : fldR l5 k 0 ((l.length : Int) + 1) := by rw [e5]; exact fld_grow o4_k C5.1.2.1 (ne_old ok (by decide)) f4_k_0
  obtain ⟨l6, e6⟩ : ∃ z : CL, z = clR l5 k 1 ((l.length : Int) + 351) := ⟨_, rfl⟩
  have n6 : l6.length = l.length + 700 := len_setR e6 n5
  have G6 : Grows l l6 k := by rw [e6]; exact G5.setR o5_k.1 o5_k.2.1 (Or.inl rfl)
  have o6_k : okC l6 k (11, 12) := by rw [e6]; exact okC.ofR o5_k o5_k
  have o6_1 : okC l6 ((l.length : Int) + 1) (10, 5) := by rw [e6]; exact okC.ofR o5_k o5_1
  have f6_1_0 : fldR l6 ((l.length : Int) + 1) 0 ((l.length : Int) + 2) := by rw [e6]; exact fld_Rne o5_k o5_1 (ne_old ok (by decide)).symm f5_1_0
  have f6_1_2 : fldR l6 ((l.length : Int) + 1) 2 ((l.length : Int) + 345) := by rw [e6]; exact fld_Rne o5_k o5_1 (ne_old ok (by decide)).symm f5_1_2
  have f6_k_0 : fldR l6 k 0 ((l.length : Int) + 1) := by rw [e6]; exact fld_Rsame o5_k (by decide) f5_k_0
  obtain ⟨l7, e7⟩ : ∃ z : CL, z = clR l6 k 2 ((l.length : Int) + 2) := ⟨_, rfl⟩
  have n7 : l7.length = l.length + 700 := len_setR e7 n6
  have G7 : Grows l l7 k := by rw [e7]; exact G6.setR o6_k.1 o6_k.2.1 (Or.inl rfl)
  have o7_k : okC l7 k (11, 12) := by rw [e7]; exact okC.ofR o6_k o6_k
  have o7_1 : okC l7 ((l.length : Int) + 1) (10, 5) := by rw [e7]; exact okC.ofR o6_k o6_1
  have f7_1_2 : fldR l7 ((l.length : Int) + 1) 2 ((l.length : Int) + 345) := by rw [e7]; exact fld_Rne o6_k o6_1 (ne_old ok (by decide)).symm f6_1_2
  have f7_k_0 : fldR l7 k 0 ((l.length : Int) + 1) := by rw [e7]; exact fld_Rsame o6_k (by decide) f6_k_0
  obtain ⟨l8, e8⟩ : ∃ z : CL, z = clR l7 k 3 ((l.length : Int) + 345) := ⟨_, rfl⟩
  have n8 : l8.length = l.length + 700 := len_setR e8 n7
  have G8 : Grows l l8 k := by rw [e8]; exact G7.setR o7_k.1 o7_k.2.1 (Or.inl rfl)
  have o8_k : okC l8 k (11, 12) := by rw [e8]; exact okC.ofR o7_k o7_k
  obtain ⟨l9, e9⟩ : ∃ z : CL, z = l8 ++ [((25, 4), [], [])] := ⟨_, rfl⟩
  have n9 : l9.length = l.length + 701 := len_push e9 n8
  have G9 : Grows l l9 k := by rw [e9]; exact G8.app
  have o9_k : okC l9 k (11, 12) := by rw [e9]; exact o8_k.app
  have o9_701 : okC l9 ((l.length : Int) + 701) (25, 4) := by rw [e9]; exact okC.mk1 (id_new n8 rfl).symm rfl
  obtain ⟨l10, e10⟩ : ∃ z : CL, z = clR l9 k 4 ((l.length : Int) + 701) := ⟨_, rfl⟩
  have n10 : l10.length = l.length + 701 := len_setR e10 n9
  have G10 : Grows l l10 k := by rw [e10]; exact G9.setR o9_k.1 o9_k.2.1 (Or.inl rfl)
  have o10_k : okC l10 k (11, 12) := by rw [e10]; exact okC.ofR o9_k o9_k
  have o10_701 : okC l10 ((l.length : Int) + 701) (25, 4) := by rw [e10]; exact okC.ofR o9_k o9_701
  have f10_k_4 : fldR l10 k 4 ((l.length : Int) + 701) := by rw [e10]; exact fld_Rnew o9_k
  obtain ⟨l11, e11⟩ : ∃ z : CL, z = l10 ++ [((4, 10), [], [])] := ⟨_, rfl⟩
  have n11 : l11.length = l.length + 702 := len_push e11 n10
  have G11 : Grows l l11 k := by rw [e11]; exact G10.app
  have o11_k : okC l11 k (11, 12) := by rw [e11]; exact o10_k.app
  have o11_701 : okC l11 ((l.length : Int) + 701) (25, 4) := by rw [e11]; exact o10_701.app
  have f11_k_4 : fldR l11 k 4 ((l.length : Int) + 701) := by rw [e11]; exact fld_app o10_k f10_k_4
  have o11_702 : okC l11 ((l.length : Int) + 702) (4, 10) := by rw [e11]; exact okC.mk1 (id_new n10 rfl).symm rfl
  obtain ⟨l12, e12⟩ : ∃ z : CL, z = c_X4 ((l.length : Int) + 702) l11 := ⟨_, rfl⟩
  have C12 := c_X4_ok o11_702
  have n12 : l12.length = l.length + 703 := len_call e12 C12.1.1 n11
  have G12 : Grows l l12 k := by rw [e12]; exact G11.tr C12.1.2 (Or.inr (lt_new (by decide)))
  have o12_k : okC l12 k (11, 12) := by rw [e12]; exact o11_k.grow C12.1.2
  have o12_701 : okC l12 ((l.length : Int) + 701) (25, 4) := by rw [e12]; exact o11_701.grow C12.1.2
  have f12_k_4 : fldR l12 k 4 ((l.length : Int) + 701) := by rw [e12]; exact fld_grow o11_k C12.1.2 (ne_old ok (by decide)) f11_k_4
  obtain ⟨l13, e13⟩ : ∃ z : CL, z = clR l12 k 5 ((l.length : Int) + 702) := ⟨_, rfl⟩
  have n13 : l13.length = l.length + 703 := len_setR e13 n12
  have G13 : Grows l l13 k := by rw [e13]; exact G12.setR o12_k.1 o12_k.2.1 (Or.inl rfl)
  have o13_k : okC l13 k (11, 12) := by rw [e13]; exact okC.ofR o12_k o12_k
  have o13_701 : okC l13 ((l.length : Int) + 701) (25, 4) := by rw [e13]; exact okC.ofR o12_k o12_701
  have f13_k_4 : fldR l13 k 4 ((l.length : Int) + 701) := by rw [e13]; exact fld_Rsame o12_k (by decide) f12_k_4
  obtain ⟨l14, e14⟩ : ∃ z : CL, z = l13 ++ [((2, 3), [], [])] := ⟨_, rfl⟩
  have n14 : l14.length = l.length + 704 := len_push e14 n13
  have G14 : Grows l l14 k := by rw [e14]; exact G13.app
  have o14_k : okC l14 k (11, 12) := by rw [e14]; exact o13_k.app
  have o14_701 : okC l14 ((l.length : Int) + 701) (25, 4) := by rw [e14]; exact o13_701.app
  have f14_k_4 : fldR l14 k 4 ((l.length : Int) + 701) := by rw [e14]; exact fld_app o13_k f13_k_4
  have o14_704 : okC l14 ((l.length : Int) + 704) (2, 3) := by rw [e14]; exact okC.mk1 (id_new n13 rfl).symm rfl
  obtain ⟨l15, e15⟩ : ∃ z : CL, z = c_X2 ((l.length : Int) + 704) l14 := ⟨_, rfl⟩
  have C15 := c_X2_ok o14_704
  have n15 : l15.length = l.length + 712 := len_call e15 C15.1.1 n14
  have G15 : Grows l l15 k := by rw [e15]; exact G14.tr C15.1.2 (Or.inr (lt_new (by decide)))
  have o15_k : okC l15 k (11, 12) := by rw [e15]; exact o14_k.grow C15.1.2
  have o15_701 : okC l15 ((l.length : Int) + 701) (25, 4) := by rw [e15]; exact o14_701.grow C15.1.2
  have o15_704 : okC l15 ((l.length : Int) + 704) (2, 3) := by rw [e15]; exact o14_704.grow C15.1.2
  have f15_k_4 : fldR l15 k 4 ((l.length : Int) + 701) := by rw [e15]; exact fld_grow o14_k C15.1.2 (ne_old ok (by decide)) f14_k_4
  obtain ⟨l16, e16⟩ : ∃ z : CL, z = clR l15 k 6 ((l.length : Int) + 704) := ⟨_, rfl⟩
  have n16 : l16.length = l.length + 712 := len_setR e16 n15
  have G16 : Grows l l16 k := by rw [e16]; exact G15.setR o15_k.1 o15_k.2.1 (Or.inl rfl)
  have o16_k : okC l16 k (11, 12) := by rw [e16]; exact okC.ofR o15_k o15_k
  have o16_701 : okC l16 ((l.length : Int) + 701) (25, 4) := by rw [e16]; exact okC.ofR o15_k o15_701
  have o16_704 : okC l16 ((l.length : Int) + 704) (2, 3) := by rw [e16]; exact okC.ofR o15_k o15_704
  have f16_k_4 : fldR l16 k 4 ((l.length : Int) + 701) := by rw [e16]; exact fld_Rsame o15_k (by decide) f15_k_4
  have f16_k_6 : fldR l16 k 6 ((l.length : Int) + 704) := by rw [e16]; exact fld_Rnew o15_k
  obtain ⟨l17, e17⟩ : ∃ z : CL, z = l16 ++ [((1, 3), [], [])] := ⟨_, rfl⟩
  have n17 : l17.length = l.length + 713 := len_push e17 n16
  have G17 : Grows l l17 k := by rw [e17]; exact G16.app
  have o17_k : okC l17 k (11, 12) := by rw [e17]; exact o16_k.app
  have o17_701 : okC l17 ((l.length : Int) + 701) (25, 4) := by rw [e17]; exact o16_701.app
  have o17_704 : okC l17 ((l.length : Int) + 704) (2, 3) := by rw [e17]; exact o16_704.app
  have f17_k_4 : fldR l17 k 4 ((l.length : Int) + 701) := by rw [e17]; exact fld_app o16_k f16_k_4
  have f17_k_6 : fldR l17 k 6 ((l.length : Int) + 704) := by rw [e17]; exact fld_app o16_k f16_k_6
  have o17_713 : okC l17 ((l.length : Int) + 713) (1, 3) := by rw [e17]; exact okC.mk1 (id_new n16 rfl).symm rfl
  obtain ⟨l18, e18⟩ : ∃ z : CL, z = c_X1 ((l.length : Int) + 713) ((l.length : Int) + 704) l17 := ⟨_, rfl⟩
  have C18 := c_X1_ok o17_713 o17_704
  have n18 : l18.length = l.length + 715 := len_call e18 C18.1.1 n17
  have G18 : Grows l l18 k := by rw [e18]; exact G17.tr C18.1.2 (Or.inr (lt_new (by decide)))
  have o18_k : okC l18 k (11, 12) := by rw [e18]; exact o17_k.grow C18.1.2
  have o18_701 : okC l18 ((l.length : Int) + 701) (25, 4) := by rw [e18]; exact o17_701.grow C18.1.2
  have o18_704 : okC l18 ((l.length : Int) + 704) (2, 3) := by rw [e18]; exact o17_704.grow C18.1.2
  have f18_k_4 : fldR l18 k 4 ((l.length : Int) + 701) := by rw [e18]; exact fld_grow o17_k C18.1.2 (ne_old ok (by decide)) f17_k_4
  have f18_k_6 : fldR l18 k 6 ((l.length : Int) + 704) := by rw [e18]; exact fld_grow o17_k C18.1.2 (ne_old ok (by decide)) f17_k_6
  obtain ⟨l19, e19⟩ : ∃ z : CL, z = clR l18 k 7 ((l.length : Int) + 713) := ⟨_, rfl⟩
  have n19 : l19.length = l.length + 715 := len_setR e19 n18
  have G19 : Grows l l19 k := by rw [e19]; exact G18.setR o18_k.1 o18_k.2.1 (Or.inl rfl)
  have o19_k : okC l19 k (11, 12) := by rw [e19]; exact okC.ofR o18_k o18_k
  have o19_701 : okC l19 ((l.length : Int) + 701) (25, 4) := by rw [e19]; exact okC.ofR o18_k o18_701
  have o19_704 : okC l19 ((l.length : Int) + 704) (2, 3) := by rw [e19]; exact okC.ofR o18_k o18_704
  have f19_k_4 : fldR l19 k 4 ((l.length : Int) + 701) := by rw [e19]; exact fld_Rsame o18_k (by decide) f18_k_4
  have f19_k_6 : fldR l19 k 6 ((l.length : Int) + 704) := by rw [e19]; exact fld_Rsame o18_k (by decide) f18_k_6
  obtain ⟨l20, e20⟩ : ∃ z : CL, z = l19 ++ [((9, 4), [], [])] := ⟨_, rfl⟩
  have n20 : l20.length = l.length + 716 := len_push e20 n19
  have G20 : Grows l l20 k := by rw [e20]; exact G19.app
  have o20_k : okC l20 k (11, 12) := by rw [e20]; exact o19_k.app
  have o20_701 : okC l20 ((l.length : Int) + 701) (25, 4) := by rw [e20]; exact o19_701.app
  have o20_704 : okC l20 ((l.length : Int) + 704) (2, 3) := by rw [e20]; exact o19_704.app
  have f20_k_4 : fldR l20 k 4 ((l.length : Int) + 701) := by rw [e20]; exact fld_app o19_k f19_k_4
  have f20_k_6 : fldR l20 k 6 ((l.length : Int) + 704) := by rw [e20]; exact fld_app o19_k f19_k_6
  have o20_716 : okC l20 ((l.length : Int) + 716) (9, 4) := by rw [e20]; exact okC.mk1 (id_new n19 rfl).symm rfl
  obtain ⟨l21, e21⟩ : ∃ z : CL, z = c_X9 ((l.length : Int) + 716) ((l.length : Int) + 704) l20 := ⟨_, rfl⟩
  have C21 := c_X9_ok o20_716 o20_704
  have n21 : l21.length = l.length + 746 := len_call e21 C21.1.1 n20
  have G21 : Grows l l21 k := by rw [e21]; exact G20.tr C21.1.2 (Or.inr (lt_new (by decide)))
  have o21_k : okC l21 k (11, 12) := by rw [e21]; exact o20_k.grow C21.1.2
  have o21_701 : okC l21 ((l.length : Int) + 701) (25, 4) := by rw [e21]; exact o20_701.grow C21.1.2
  have o21_704 : okC l21 ((l.length : Int) + 704) (2, 3) := by rw [e21]; exact o20_704.grow C21.1.2
  have f21_k_4 : fldR l21 k 4 ((l.length : Int) + 701) := by rw [e21]; exact fld_grow o20_k C21.1.2 (ne_old ok (by decide)) f20_k_4
  have f21_k_6 : fldR l21 k 6 ((l.length : Int) + 704) := by rw [e21]; exact fld_grow o20_k C21.1.2 (ne_old ok (by decide)) f20_k_6
  obtain ⟨l22, e22⟩ : ∃ z : CL, z = clR l21 k 8 ((l.length : Int) + 716) := ⟨_, rfl⟩
  have n22 : l22.length = l.length + 746 := len_setR e22 n21
  have G22 : Grows l l22 k := by rw [e22]; exact G21.setR o21_k.1 o21_k.2.1 (Or.inl rfl)
  have o22_k : okC l22 k (11, 12) := by rw [e22]; exact okC.ofR o21_k o21_k
  have o22_701 : okC l22 ((l.length : Int) + 701) (25, 4) := by rw [e22]; exact okC.ofR o21_k o21_701
  have o22_704 : okC l22 ((l.length : Int) + 704) (2, 3) := by rw [e22]; exact okC.ofR o21_k o21_704
  have f22_k_4 : fldR l22 k 4 ((l.length : Int) + 701) := by rw [e22]; exact fld_Rsame o21_k (by decide) f21_k_4
  have f22_k_6 : fldR l22 k 6 ((l.length : Int) + 704) := by rw [e22]; exact fld_Rsame o21_k (by decide) f21_k_6
  obtain ⟨l23, e23⟩ : ∃ z : CL, z = l22 ++ [((3, 8), [], [])] := ⟨_, rfl⟩
  have n23 : l23.length = l.length + 747 := len_push e23 n22
  have G23 : Grows l l23 k := by rw [e23]; exact G22.app
  have o23_k : okC l23 k (11, 12) := by rw [e23]; exact o22_k.app
  have o23_701 : okC l23 ((l.length : Int) + 701) (25, 4) := by rw [e23]; exact o22_701.app
  have o23_704 : okC l23 ((l.length : Int) + 704) (2, 3) := by rw [e23]; exact o22_704.app
  have f23_k_4 : fldR l23 k 4 ((l.length : Int) + 701) := by rw [e23]; exact fld_app o22_k f22_k_4
  have f23_k_6 : fldR l23 k 6 ((l.length : Int) + 704) := by rw [e23]; exact fld_app o22_k f22_k_6
  have o23_747 : okC l23 ((l.length : Int) + 747) (3, 8) := by rw [e23]; exact okC.mk1 (id_new n22 rfl).symm rfl
  obtain ⟨l24, e24⟩ : ∃ z : CL, z = c_X3 ((l.length : Int) + 747) ((l.length : Int) + 704) l23 := ⟨_, rfl⟩
  have C24 := c_X3_ok o23_747 o23_704
  have n24 : l24.length = l.length + 755 := len_call e24 C24.1.1 n23
  have G24 : Grows l l24 k := by rw [e24]; exact G23.tr C24.1.2 (Or.inr (lt_new (by decide)))
  have o24_k : okC l24 k (11, 12) := by rw [e24]; exact o23_k.grow C24.1.2
  have o24_701 : okC l24 ((l.length : Int) + 701) (25, 4) := by rw [e24]; exact o23_701.grow C24.1.2
  have f24_k_4 : fldR l24 k 4 ((l.length : Int) + 701) := by rw [e24]; exact fld_grow o23_k C24.1.2 (ne_old ok (by decide)) f23_k_4
  obtain ⟨l25, e25⟩ : ∃ z : CL, z = clR l24 k 9 ((l.length : Int) + 747) := ⟨_, rfl⟩
  have n25 : l25.length = l.length + 755 := len_setR e25 n24
  have G25 : Grows l l25 k := by rw [e25]; exact G24.setR o24_k.1 o24_k.2.1 (Or.inl rfl)
  have o25_k : okC l25 k (11, 12) := by rw [e25]; exact okC.ofR o24_k o24_k
  have o25_701 : okC l25 ((l.length : Int) + 701) (25, 4) := by rw [e25]; exact okC.ofR o24_k o24_701
  have f25_k_4 : fldR l25 k 4 ((l.length : Int) + 701) := by rw [e25]; exact fld_Rsame o24_k (by decide) f24_k_4
  obtain ⟨l26, e26⟩ : ∃ z : CL, z = l25 ++ [((8, 4), [], [])] := ⟨_, rfl⟩
  have n26 : l26.length = l.length + 756 := len_push e26 n25
  have G26 : Grows l l26 k := by rw [e26]; exact G25.app
  have o26_k : okC l26 k (11, 12) := by rw [e26]; exact o25_k.app
  have o26_701 : okC l26 ((l.length : Int) + 701) (25, 4) := by rw [e26]; exact o25_701.app
  have f26_k_4 : fldR l26 k 4 ((l.length : Int) + 701) := by rw [e26]; exact fld_app o25_k f25_k_4
  have o26_756 : okC l26 ((l.length : Int) + 756) (8, 4) := by rw [e26]; exact okC.mk1 (id_new n25 rfl).symm rfl
  obtain ⟨l27, e27⟩ : ∃ z : CL, z = c_X8 ((l.length : Int) + 756) l26 := ⟨_, rfl⟩
  have C27 := c_X8_ok o26_756
  have n27 : l27.length = l.length + 760 := len_call e27 C27.1.1 n26
  have G27 : Grows l l27 k := by rw [e27]; exact G26.tr C27.1.2 (Or.inr (lt_new (by decide)))
  have o27_k : okC l27 k (11, 12) := by rw [e27]; exact o26_k.grow C27.1.2
  have o27_701 : okC l27 ((l.length : Int) + 701) (25, 4) := by rw [e27]; exact o26_701.grow C27.1.2
  have f27_k_4 : fldR l27 k 4 ((l.length : Int) + 701) := by rw [e27]; exact fld_grow o26_k C27.1.2 (ne_old ok (by decide)) f26_k_4
  obtain ⟨l28, e28⟩ : ∃ z : CL, z = clR l27 k 10 ((l.length : Int) + 756) := ⟨_, rfl⟩
  have n28 : l28.length = l.length + 760 := len_setR e28 n27
  have G28 : Grows l l28 k := by rw [e28]; exact G27.setR o27_k.1 o27_k.2.1 (Or.inl rfl)
  have o28_k : okC l28 k (11, 12) := by rw [e28]; exact okC.ofR o27_k o27_k
  have o28_701 : okC l28 ((l.length : Int) + 701) (25, 4) := by rw [e28]; exact okC.ofR o27_k o27_701
  have f28_k_4 : fldR l28 k 4 ((l.length : Int) + 701) := by rw [e28]; exact fld_Rsame o27_k (by decide) f27_k_4
  obtain ⟨l29, e29⟩ : ∃ z : CL, z = l28 ++ [((5, 17), [], [])] := ⟨_, rfl⟩
  have n29 : l29.length = l.length + 761 := len_push e29 n28
  have G29 : Grows l l29 k := by rw [e29]; exact G28.app
  have o29_k : okC l29 k (11, 12) := by rw [e29]; exact o28_k.app
  have o29_701 : okC l29 ((l.length : Int) + 701) (25, 4) := by rw [e29]; exact o28_701.app
  have f29_k_4 : fldR l29 k 4 ((l.length : Int) + 701) := by rw [e29]; exact fld_app o28_k f28_k_4
  have o29_761 : okC l29 ((l.length : Int) + 761) (5, 17) := by rw [e29]; exact okC.mk1 (id_new n28 rfl).symm rfl
  obtain ⟨l30, e30⟩ : ∃ z : CL, z = c_X5 ((l.length : Int) + 761) l29 := ⟨_, rfl⟩
  have C30 := c_X5_ok o29_761
  have n30 : l30.length = l.length + 771 := len_call e30 C30.1.1 n29
  have G30 : Grows l l30 k := by rw [e30]; exact G29.tr C30.1.2 (Or.inr (lt_new (by decide)))
  have o30_k : okC l30 k (11, 12) := by rw [e30]; exact o29_k.grow C30.1.2
  have o30_701 : okC l30 ((l.length : Int) + 701) (25, 4) := by rw [e30]; exact o29_701.grow C30.1.2
  have f30_k_4 : fldR l30 k 4 ((l.length : Int) + 701) := by rw [e30]; exact fld_grow o29_k C30.1.2 (ne_old ok (by decide)) f29_k_4
  obtain ⟨l31, e31⟩ : ∃ z : CL, z = clR l30 k 11 ((l.length : Int) + 761) := ⟨_, rfl⟩
  have n31 : l31.length = l.length + 771 := len_setR e31 n30
  have G31 : Grows l l31 k := by rw [e31]; exact G30.setR o30_k.1 o30_k.2.1 (Or.inl rfl)
  have o31_k : okC l31 k (11, 12) := by rw [e31]; exact okC.ofR o30_k o30_k
  have o31_701 : okC l31 ((l.length : Int) + 701) (25, 4) := by rw [e31]; exact okC.ofR o30_k o30_701
  have f31_k_4 : fldR l31 k 4 ((l.length : Int) + 701) := by rw [e31]; exact fld_Rsame o30_k (by decide) f30_k_4
  obtain ⟨l32, e32⟩ : ∃ z : CL, z = l31 ++ [((6, 8), [], [])] := ⟨_, rfl⟩
  have n32 : l32.length = l.length + 772 := len_push e32 n31
  have G32 : Grows l l32 k := by rw [e32]; exact G31.app
  have o32_k : okC l32 k (11, 12) := by rw [e32]; exact o31_k.app
  have o32_701 : okC l32 ((l.length : Int) + 701) (25, 4) := by rw [e32]; exact o31_701.app
  have f32_k_4 : fldR l32 k 4 ((l.length : Int) + 701) := by rw [e32]; exact fld_app o31_k f31_k_4
  have o32_772 : okC l32 ((l.length : Int) + 772) (6, 8) := by rw [e32]; exact okC.mk1 (id_new n31 rfl).symm rfl
  obtain ⟨l33, e33⟩ : ∃ z : CL, z = c_X6 ((l.length : Int) + 772) l32 := ⟨_, rfl⟩
  have C33 := c_X6_ok o32_772
  have n33 : l33.length = l.length + 778 := len_call e33 C33.1.1 n32
  have G33 : Grows l l33 k := by rw [e33]; exact G32.tr C33.1.2 (Or.inr (lt_new (by decide)))
  have o33_k : okC l33 k (11, 12) := by rw [e33]; exact o32_k.grow C33.1.2
  have o33_701 : okC l33 ((l.length : Int) + 701) (25, 4) := by rw [e33]; exact o32_701.grow C33.1.2
  have o33_772 : okC l33 ((l.length : Int) + 772) (6, 8) := by rw [e33]; exact o32_772.grow C33.1.2
  have f33_k_4 : fldR l33 k 4 ((l.length : Int) + 701) := by rw [e33]; exact fld_grow o32_k C33.1.2 (ne_old ok (by decide)) f32_k_4
  obtain ⟨l34, e34⟩ : ∃ z : CL, z = clR l33 ((l.length : Int) + 701) 0 ((l.length : Int) + 772) := ⟨_, rfl⟩
  have n34 : l34.length = l.length + 778 := len_setR e34 n33
  have G34 : Grows l l34 k := by rw [e34]; exact G33.setR o33_701.1 o33_701.2.1 (Or.inr (lt_new (by decide)))
  have o34_k : okC l34 k (11, 12) := by rw [e34]; exact okC.ofR o33_701 o33_k
  have o34_701 : okC l34 ((l.length : Int) + 701) (25, 4) := by rw [e34]; exact okC.ofR o33_701 o33_701
  have f34_k_4 : fldR l34 k 4 ((l.length : Int) + 701) := by rw [e34]; exact fld_Rne o33_701 o33_k (ne_old ok (by decide)) f33_k_4
  obtain ⟨l35, e35⟩ : ∃ z : CL, z = l34 ++ [((6, 8), [], [])] := ⟨_, rfl⟩
  have n35 : l35.length = l.length + 779 := len_push e35 n34
  have G35 : Grows l l35 k := by rw [e35]; exact G34.app
  have o35_k : okC l35 k (11, 12) := by rw [e35]; exact o34_k.app
  have o35_701 : okC l35 ((l.length : Int) + 701) (25, 4) := by rw [e35]; exact o34_701.app
  have f35_k_4 : fldR l35 k 4 ((l.length : Int) + 701) := by rw [e35]; exact fld_app o34_k f34_k_4
  have o35_779 : okC l35 ((l.length : Int) + 779) (6, 8) := by rw [e35]; exact okC.mk1 (id_new n34 rfl).symm rfl
  obtain ⟨l36, e36⟩ : ∃ z : CL, z = c_X6 ((l.length : Int) + 779) l35 := ⟨_, rfl⟩
  have C36 := c_X6_ok o35_779
  have n36 : l36.length = l.length + 785 := len_call e36 C36.1.1 n35
  have G36 : Grows l l36 k := by rw [e36]; exact G35.tr C36.1.2 (Or.inr (lt_new (by decide)))
  have o36_k : okC l36 k (11, 12) := by rw [e36]; exact o35_k.grow C36.1.2
  have o36_701 : okC l36 ((l.length : Int) + 701) (25, 4) := by rw [e36]; exact o35_701.grow C36.1.2
  have o36_779 : okC l36 ((l.length : Int) + 779) (6, 8) := by rw [e36]; exact o35_779.grow C36.1.2
  have f36_k_4 : fldR l36 k 4 ((l.length : Int) + 701) := by rw [e36]; exact fld_grow o35_k C36.1.2 (ne_old ok (by decide)) f35_k_4
  obtain ⟨l37, e37⟩ : ∃ z : CL, z = clR l36 ((l.length : Int) + 701) 1 ((l.length : Int) + 779) := ⟨_, rfl⟩
  have n37 : l37.length = l.length + 785 := len_setR e37 n36
  have G37 : Grows l l37 k := by rw [e37]; exact G36.setR o36_701.1 o36_701.2.1 (Or.inr (lt_new (by decide)))
  have o37_k : okC l37 k (11, 12) := by rw [e37]; exact okC.ofR o36_701 o36_k
  have o37_701 : okC l37 ((l.length : Int) + 701) (25, 4) := by rw [e37]; exact okC.ofR o36_701 o36_701
  have f37_k_4 : fldR l37 k 4 ((l.length : Int) + 701) := by rw [e37]; exact fld_Rne o36_701 o36_k (ne_old ok (by decide)) f36_k_4
  obtain ⟨l38, e38⟩ : ∃ z : CL, z = l37 ++ [((6, 8), [], [])] := ⟨_, rfl⟩
  have n38 : l38.length = l.length + 786 := len_push e38 n37
  have G38 : Grows l l38 k := by rw [e38]; exact G37.app
  have o38_k : okC l38 k (11, 12) := by rw [e38]; exact o37_k.app
  have o38_701 : okC l38 ((l.length : Int) + 701) (25, 4) := by rw [e38]; exact o37_701.app
  have f38_k_4 : fldR l38 k 4 ((l.length : Int) + 701) := by rw [e38]; exact fld_app o37_k f37_k_4
  have o38_786 : okC l38 ((l.length : Int) + 786) (6, 8) := by rw [e38]; exact okC.mk1 (id_new n37 rfl).symm rfl
  obtain ⟨l39, e39⟩ : ∃ z : CL, z = c_X6 ((l.length : Int) + 786) l38 := ⟨_, rfl⟩
  have C39 := c_X6_ok o38_786
  have n39 : l39.length = l.length + 792 := len_call e39 C39.1.1 n38
  have G39 : Grows l l39 k := by rw [e39]; exact G38.tr C39.1.2 (Or.inr (lt_new (by decide)))
  have o39_k : okC l39 k (11, 12) := by rw [e39]; exact o38_k.grow C39.1.2
  have o39_701 : okC l39 ((l.length : Int) + 701) (25, 4) := by rw [e39]; exact o38_701.grow C39.1.2
  have o39_786 : okC l39 ((l.length : Int) + 786) (6, 8) := by rw [e39]; exact o38_786.grow C39.1.2
  have f39_k_4 : fldR l39 k 4 ((l.length : Int) + 701) := by rw [e39]; exact fld_grow o38_k C39.1.2 (ne_old ok (by decide)) f38_k_4
  obtain ⟨l40, e40⟩ : ∃ z : CL, z = clR l39 ((l.length : Int) + 701) 2 ((l.length : Int) + 786) := ⟨_, rfl⟩
  have n40 : l40.length = l.length + 792 := len_setR e40 n39
  have G40 : Grows l l40 k := by rw [e40]; exact G39.setR o39_701.1 o39_701.2.1 (Or.inr (lt_new (by decide)))
  have o40_k : okC l40 k (11, 12) := by rw [e40]; exact okC.ofR o39_701 o39_k
  have o40_701 : okC l40 ((l.length : Int) + 701) (25, 4) := by rw [e40]; exact okC.ofR o39_701 o39_701
  have f40_k_4 : fldR l40 k 4 ((l.length : Int) + 701) := by rw [e40]; exact fld_Rne o39_701 o39_k (ne_old ok (by decide)) f39_k_4
  obtain ⟨l41, e41⟩ : ∃ z : CL, z = l40 ++ [((6, 8), [], [])] := ⟨_, rfl⟩
  have n41 : l41.length = l.length + 793 := len_push e41 n40
  have G41 : Grows l l41 k := by rw [e41]; exact G40.app
  have o41_k : okC l41 k (11, 12) := by rw [e41]; exact o40_k.app
  have o41_701 : okC l41 ((l.length : Int) + 701) (25, 4) := by rw [e41]; exact o40_701.app
  have o41_793 : okC l41 ((l.length : Int) + 793) (6, 8) := by rw [e41]; exact okC.mk1 (id_new n40 rfl).symm rfl
  obtain ⟨l42, e42⟩ : ∃ z : CL, z = c_X6 ((l.length : Int) + 793) l41 := ⟨_, rfl⟩
  have C42 := c_X6_ok o41_793
  have n42 : l42.length = l.length + 799 := len_call e42 C42.1.1 n41
  have G42 : Grows l l42 k := by rw [e42]; exact G41.tr C42.1.2 (Or.inr (lt_new (by decide)))
  have o42_k : okC l42 k (11, 12) := by rw [e42]; exact o41_k.grow C42.1.2
  have o42_701 : okC l42 ((l.length : Int) + 701) (25, 4) := by rw [e42]; exact o41_701.grow C42.1.2
  have o42_793 : okC l42 ((l.length : Int) + 793) (6, 8) := by rw [e42]; exact o41_793.grow C42.1.2
  obtain ⟨l43, e43⟩ : ∃ z : CL, z = clR l42 ((l.length : Int) + 701) 3 ((l.length : Int) + 793) := ⟨_, rfl⟩
  have n43 : l43.length = l.length + 799 := len_setR e43 n42
  have G43 : Grows l l43 k := by rw [e43]; exact G42.setR o42_701.1 o42_701.2.1 (Or.inr (lt_new (by decide)))
  have o43_k : okC l43 k (11, 12) := by rw [e43]; exact okC.ofR o42_701 o42_k
  have eF : c_X11 k l = l43 := by rw [e43, e42, e41, e40, e39, e38, e37, e36, e35, e34, e33, e32, e31, e30, e29, e28, e27, e26, e25, e24, e23, e22, e21, e20, e19, e18, e17, e16, e15, e14, e13, e12, e11, e10, e9, e8, e7, e6, e5, e4, e3, e2, e1, c_X11]
  rw [eF]
  refine ⟨⟨n43, G43⟩, fun {g d} hd => ?_⟩
  refine EvM.of mkX11_init.2.2.2.1 (Nat.le_of_ble_eq_true rfl) ?_
  change Ev g d mtX11_init 0 [(0, vR k)] [] (sgL l) (799, 13916) vN (sgL l43)
  refine ev_aload_n (pc := 0) 0 dX11_init_0 rfl rfl ?_
  refine ev_objInit (pc := 1) rfl ob11_3 ok.ne0 (Nat.le_of_ble_eq_true rfl) (Nat.le_trans (by decide) hd) dX11_init_1 ?_
  refine ev_aload_n (pc := 4) 0 dX11_init_4 rfl rfl ?_
  refine ev_new (pc := 5) (b2 := (798, 13911)) rfl nl11_9 df10 dX11_init_5 rfl ?_
  refine ev_eqI (id_new rfl (z := 1) rfl) ?_
  refine ev_eqS e1 ?_
  refine ev_dup (pc := 8) rfl dX11_init_8 ?_
  refine ev_callI (pc := 9) (b1 := (349, 4122)) (b2 := (449, 9789)) (as1 := []) (st := [vR ((l.length : Int) + 1), vR k]) (q := vN) (d' := d - 1) rfl mkX10_init ⟨rfl, rfl⟩ ml11_11 miX10_init o1_1.ne0 rfl (Nat.le_of_ble_eq_true rfl) (dd1 (Nat.le_trans (by decide) hd)) rfl dX11_init_9 (C2.2 (d := d - 1) (dd2 (n := 3) (Nat.le_trans (by decide) hd))) ?_
  change Ev g d mtX11_init _ _ [vR ((l.length : Int) + 1), vR k] _ _ _ _
  refine ev_eqS e2 ?_
  refine ev_putFL (pc := 12) flF11_12 rfl rfl dX11_init_12 rfl o2_k ?_
  refine ev_eqS e3 ?_
  refine ev_aload_n (pc := 15) 0 dX11_init_15 rfl rfl ?_
  refine ev_new (pc := 16) (b2 := (448, 9784)) rfl nl11_9 df10 dX11_init_16 rfl ?_
  refine ev_eqI (id_new n3 (z := 351) rfl) ?_
  refine ev_eqS e4 ?_
  refine ev_dup (pc := 19) rfl dX11_init_19 ?_
  refine ev_callI (pc := 20) (b1 := (349, 4122)) (b2 := (99, 5662)) (as1 := []) (st := [vR ((l.length : Int) + 351), vR k]) (q := vN) (d' := d - 1) rfl mkX10_init ⟨rfl, rfl⟩ ml11_11 miX10_init o4_351.ne0 rfl (Nat.le_of_ble_eq_true rfl) (dd1 (Nat.le_trans (by decide) hd)) rfl dX11_init_20 (C5.2 (d := d - 1) (dd2 (n := 3) (Nat.le_trans (by decide) hd))) ?_
  change Ev g d mtX11_init _ _ [vR ((l.length : Int) + 351), vR k] _ _ _ _
  refine ev_eqS e5 ?_
  refine ev_putFL (pc := 23) flF11_16 rfl rfl dX11_init_23 rfl o5_k ?_
  refine ev_eqS e6 ?_
  refine ev_aload_n (pc := 26) 0 dX11_init_26 rfl rfl ?_
  refine ev_aload_n (pc := 27) 0 dX11_init_27 rfl rfl ?_
  refine ev_getRL (pc := 28) fl11_12 rfl dX11_init_28 rfl o6_k f6_k_0 ?_
  refine ev_getRL (pc := 31) fl11_19 rfl dX11_init_31 rfl o6_1 f6_1_0 ?_
  refine ev_putFL (pc := 34) flF11_23 rfl rfl dX11_init_34 rfl o6_k ?_
  refine ev_eqS e7 ?_
  refine ev_aload_n (pc := 37) 0 dX11_init_37 rfl rfl ?_
  refine ev_aload_n (pc := 38) 0 dX11_init_38 rfl rfl ?_
  refine ev_getRL (pc := 39) fl11_12 rfl dX11_init_39 rfl o7_k f7_k_0 ?_
  refine ev_getRL (pc := 42) fl11_24 rfl dX11_init_42 rfl o7_1 f7_1_2 ?_
  refine ev_putFL (pc := 45) flF11_28 rfl rfl dX11_init_45 rfl o7_k ?_
  refine ev_eqS e8 ?_
  refine ev_aload_n (pc := 48) 0 dX11_init_48 rfl rfl ?_
  refine ev_iconst (pc := 49) (x := 4) dX11_init_49 ci_4 ?_
  refine ev_anew (pc := 50) (n := 4) (t := 25) (b2 := (98, 5658)) rfl ⟨rfl, by decide, by decide⟩ an11_29 rfl (by decide) dX11_init_50 rfl ?_
  refine ev_eqI (id_new n8 (z := 701) rfl) ?_
  refine ev_eqS e9 ?_
  refine ev_putFL (pc := 53) flF11_31 rfl rfl dX11_init_53 rfl o9_k ?_
  refine ev_eqS e10 ?_
  refine ev_aload_n (pc := 56) 0 dX11_init_56 rfl rfl ?_
  refine ev_new (pc := 57) (b2 := (97, 5648)) rfl nl11_35 df4 dX11_init_57 rfl ?_
  refine ev_eqI (id_new n10 (z := 702) rfl) ?_
  refine ev_eqS e11 ?_
  refine ev_dup (pc := 60) rfl dX11_init_60 ?_
  refine ev_callI (pc := 61) (b1 := (1, 300)) (b2 := (96, 5348)) (as1 := []) (st := [vR ((l.length : Int) + 702), vR k]) (q := vN) (d' := d - 1) rfl mkX4_init ⟨rfl, rfl⟩ ml11_37 miX4_init o11_702.ne0 rfl (Nat.le_of_ble_eq_true rfl) (dd1 (Nat.le_trans (by decide) hd)) rfl dX11_init_61 (C12.2 (d := d - 1) (dd2 (n := 1) (Nat.le_trans (by decide) hd))) ?_
  change Ev g d mtX11_init _ _ [vR ((l.length : Int) + 702), vR k] _ _ _ _
  refine ev_eqS e12 ?_
  refine ev_putFL (pc := 64) flF11_38 rfl rfl dX11_init_64 rfl o12_k ?_
  refine ev_eqS e13 ?_
  refine ev_aload_n (pc := 67) 0 dX11_init_67 rfl rfl ?_
  refine ev_new (pc := 68) (b2 := (95, 5345)) rfl nl11_42 df2 dX11_init_68 rfl ?_
  refine ev_eqI (id_new n13 (z := 704) rfl) ?_
  refine ev_eqS e14 ?_
  refine ev_dup (pc := 71) rfl dX11_init_71 ?_
  refine ev_callI (pc := 72) (b1 := (8, 802)) (b2 := (87, 4543)) (as1 := []) (st := [vR ((l.length : Int) + 704), vR k]) (q := vN) (d' := d - 1) rfl mkX2_init ⟨rfl, rfl⟩ ml11_44 miX2_init o14_704.ne0 rfl (Nat.le_of_ble_eq_true rfl) (dd1 (Nat.le_trans (by decide) hd)) rfl dX11_init_72 (C15.2 (d := d - 1) (dd2 (n := 2) (Nat.le_trans (by decide) hd))) ?_
  change Ev g d mtX11_init _ _ [vR ((l.length : Int) + 704), vR k] _ _ _ _
  refine ev_eqS e15 ?_
  refine ev_putFL (pc := 75) flF11_45 rfl rfl dX11_init_75 rfl o15_k ?_
  refine ev_eqS e16 ?_
  refine ev_aload_n (pc := 78) 0 dX11_init_78 rfl rfl ?_
  refine ev_new (pc := 79) (b2 := (86, 4540)) rfl nl11_49 df1 dX11_init_79 rfl ?_
  refine ev_eqI (id_new n16 (z := 713) rfl) ?_
  refine ev_eqS e17 ?_
  refine ev_dup (pc := 82) rfl dX11_init_82 ?_
  refine ev_aload_n (pc := 83) 0 dX11_init_83 rfl rfl ?_
  refine ev_getRL (pc := 84) fl11_45 rfl dX11_init_84 rfl o17_k f17_k_6 ?_
  refine ev_callI (pc := 87) (b1 := (2, 18)) (b2 := (84, 4522)) (as1 := [vR ((l.length : Int) + 704)]) (st := [vR ((l.length : Int) + 713), vR k]) (q := vN) (d' := d - 1) rfl mkX1_init ⟨rfl, rfl⟩ ml11_51 miX1_init o17_713.ne0 rfl (Nat.le_of_ble_eq_true rfl) (dd1 (Nat.le_trans (by decide) hd)) rfl dX11_init_87 (C18.2 (d := d - 1) (dd2 (n := 1) (Nat.le_trans (by decide) hd))) ?_
  change Ev g d mtX11_init _ _ [vR ((l.length : Int) + 713), vR k] _ _ _ _
  refine ev_eqS e18 ?_
  refine ev_putFL (pc := 90) flF11_54 rfl rfl dX11_init_90 rfl o18_k ?_
  refine ev_eqS e19 ?_
  refine ev_aload_n (pc := 93) 0 dX11_init_93 rfl rfl ?_
  refine ev_new (pc := 94) (b2 := (83, 4518)) rfl nl11_58 df9 dX11_init_94 rfl ?_
  refine ev_eqI (id_new n19 (z := 716) rfl) ?_
  refine ev_eqS e20 ?_
  refine ev_dup (pc := 97) rfl dX11_init_97 ?_
  refine ev_aload_n (pc := 98) 0 dX11_init_98 rfl rfl ?_
  refine ev_getRL (pc := 99) fl11_45 rfl dX11_init_99 rfl o20_k f20_k_6 ?_
  refine ev_callI (pc := 102) (b1 := (30, 1350)) (b2 := (53, 3168)) (as1 := [vR ((l.length : Int) + 704)]) (st := [vR ((l.length : Int) + 716), vR k]) (q := vN) (d' := d - 1) rfl mkX9_init ⟨rfl, rfl⟩ ml11_60 miX9_init o20_716.ne0 rfl (Nat.le_of_ble_eq_true rfl) (dd1 (Nat.le_trans (by decide) hd)) rfl dX11_init_102 (C21.2 (d := d - 1) (dd2 (n := 1) (Nat.le_trans (by decide) hd))) ?_
  change Ev g d mtX11_init _ _ [vR ((l.length : Int) + 716), vR k] _ _ _ _
  refine ev_eqS e21 ?_
  refine ev_putFL (pc := 105) flF11_61 rfl rfl dX11_init_105 rfl o21_k ?_
  refine ev_eqS e22 ?_
  refine ev_aload_n (pc := 108) 0 dX11_init_108 rfl rfl ?_
  refine ev_new (pc := 109) (b2 := (52, 3160)) rfl nl11_65 df3 dX11_init_109 rfl ?_
  refine ev_eqI (id_new n22 (z := 747) rfl) ?_
  refine ev_eqS e23 ?_
  refine ev_dup (pc := 112) rfl dX11_init_112 ?_
  refine ev_aload_n (pc := 113) 0 dX11_init_113 rfl rfl ?_
  refine ev_getRL (pc := 114) fl11_45 rfl dX11_init_114 rfl o23_k f23_k_6 ?_
  refine ev_callI (pc := 117) (b1 := (8, 36)) (b2 := (44, 3124)) (as1 := [vR ((l.length : Int) + 704)]) (st := [vR ((l.length : Int) + 747), vR k]) (q := vN) (d' := d - 1) rfl mkX3_init ⟨rfl, rfl⟩ ml11_67 miX3_init o23_747.ne0 rfl (Nat.le_of_ble_eq_true rfl) (dd1 (Nat.le_trans (by decide) hd)) rfl dX11_init_117 (C24.2 (d := d - 1) (dd2 (n := 1) (Nat.le_trans (by decide) hd))) ?_
  change Ev g d mtX11_init _ _ [vR ((l.length : Int) + 747), vR k] _ _ _ _
  refine ev_eqS e24 ?_
  refine ev_putFL (pc := 120) flF11_68 rfl rfl dX11_init_120 rfl o24_k ?_
  refine ev_eqS e25 ?_
  refine ev_aload_n (pc := 123) 0 dX11_init_123 rfl rfl ?_
  refine ev_new (pc := 124) (b2 := (43, 3120)) rfl nl11_72 df8 dX11_init_124 rfl ?_
  refine ev_eqI (id_new n25 (z := 756) rfl) ?_
  refine ev_eqS e26 ?_
  refine ev_dup (pc := 127) rfl dX11_init_127 ?_
  refine ev_callI (pc := 128) (b1 := (4, 38)) (b2 := (39, 3082)) (as1 := []) (st := [vR ((l.length : Int) + 756), vR k]) (q := vN) (d' := d - 1) rfl mkX8_init ⟨rfl, rfl⟩ ml11_74 miX8_init o26_756.ne0 rfl (Nat.le_of_ble_eq_true rfl) (dd1 (Nat.le_trans (by decide) hd)) rfl dX11_init_128 (C27.2 (d := d - 1) (dd2 (n := 1) (Nat.le_trans (by decide) hd))) ?_
  change Ev g d mtX11_init _ _ [vR ((l.length : Int) + 756), vR k] _ _ _ _
  refine ev_eqS e27 ?_
  refine ev_putFL (pc := 131) flF11_75 rfl rfl dX11_init_131 rfl o27_k ?_
  refine ev_eqS e28 ?_
  refine ev_aload_n (pc := 134) 0 dX11_init_134 rfl rfl ?_
  refine ev_new (pc := 135) (b2 := (38, 3065)) rfl nl11_79 df5 dX11_init_135 rfl ?_
  refine ev_eqI (id_new n28 (z := 761) rfl) ?_
  refine ev_eqS e29 ?_
  refine ev_dup (pc := 138) rfl dX11_init_138 ?_
  refine ev_callI (pc := 139) (b1 := (10, 113)) (b2 := (28, 2952)) (as1 := []) (st := [vR ((l.length : Int) + 761), vR k]) (q := vN) (d' := d - 1) rfl mkX5_init ⟨rfl, rfl⟩ ml11_81 miX5_init o29_761.ne0 rfl (Nat.le_of_ble_eq_true rfl) (dd1 (Nat.le_trans (by decide) hd)) rfl dX11_init_139 (C30.2 (d := d - 1) (dd2 (n := 1) (Nat.le_trans (by decide) hd))) ?_
  change Ev g d mtX11_init _ _ [vR ((l.length : Int) + 761), vR k] _ _ _ _
  refine ev_eqS e30 ?_
  refine ev_putFL (pc := 142) flF11_82 rfl rfl dX11_init_142 rfl o30_k ?_
  refine ev_eqS e31 ?_
  refine ev_iconst (pc := 145) (x := 0) dX11_init_145 ci_0 ?_
  refine ev_istore_n (pc := 146) (il' := [(1, vI 0), (0, vR k)]) dX11_init_146 rfl (Nat.le_of_ble_eq_true rfl) rfl ?_
  refine ev_iload_n (pc := 147) 0 dX11_init_147 rfl rfl ?_
  refine ev_iconst (pc := 148) (x := 4) dX11_init_148 ci_4 ?_
  refine ev_icmp_ge (pc := 149) (tgt := 171) dX11_init_149 (by decide) (fun h9 => absurd h9 (by decide)) (fun _ => ?_)
  refine ev_aload_n (pc := 152) 1 dX11_init_152 rfl rfl ?_
  refine ev_getRL (pc := 153) fl11_31 rfl dX11_init_153 rfl o31_k f31_k_4 ?_
  refine ev_iload_n (pc := 156) 0 dX11_init_156 rfl rfl ?_
  refine ev_new (pc := 157) (b2 := (27, 2944)) rfl nl11_29 df6 dX11_init_157 rfl ?_
  refine ev_eqI (id_new n31 (z := 772) rfl) ?_
  refine ev_eqS e32 ?_
  refine ev_dup (pc := 160) rfl dX11_init_160 ?_
  refine ev_callI (pc := 161) (b1 := (6, 730)) (b2 := (21, 2214)) (as1 := []) (st := [vR ((l.length : Int) + 772), vI 0, vR ((l.length : Int) + 701)]) (q := vN) (d' := d - 1) rfl mkX6_init ⟨rfl, rfl⟩ ml11_85 miX6_init o32_772.ne0 rfl (Nat.le_of_ble_eq_true rfl) (dd1 (Nat.le_trans (by decide) hd)) rfl dX11_init_161 (C33.2 (d := d - 1) (dd2 (n := 1) (Nat.le_trans (by decide) hd))) ?_
  change Ev g d mtX11_init _ _ [vR ((l.length : Int) + 772), vI 0, vR ((l.length : Int) + 701)] _ _ _ _
  refine ev_eqS e33 ?_
  refine ev_aast (pc := 164) (i := 0) ⟨rfl, by decide, by decide⟩ ⟨TX6, rfl⟩ (by decide) o33_701 o33_772 (by decide) (by decide) dX11_init_164 ?_
  refine ev_eqS e34 ?_
  refine ev_iinc (pc := 165) (y := 1) (il' := [(1, vI 1), (0, vR k)]) 0 dX11_init_165 rfl (Nat.le_of_ble_eq_true rfl) (by decide) rfl ?_
  refine ev_goto (pc := 168) (tgt := 147) dX11_init_168 (by decide) ?_
  refine ev_iload_n (pc := 147) 0 dX11_init_147 rfl rfl ?_
  refine ev_iconst (pc := 148) (x := 4) dX11_init_148 ci_4 ?_
  refine ev_icmp_ge (pc := 149) (tgt := 171) dX11_init_149 (by decide) (fun h9 => absurd h9 (by decide)) (fun _ => ?_)
  refine ev_aload_n (pc := 152) 1 dX11_init_152 rfl rfl ?_
  refine ev_getRL (pc := 153) fl11_31 rfl dX11_init_153 rfl o34_k f34_k_4 ?_
  refine ev_iload_n (pc := 156) 0 dX11_init_156 rfl rfl ?_
  refine ev_new (pc := 157) (b2 := (20, 2206)) rfl nl11_29 df6 dX11_init_157 rfl ?_
  refine ev_eqI (id_new n34 (z := 779) rfl) ?_
  refine ev_eqS e35 ?_
  refine ev_dup (pc := 160) rfl dX11_init_160 ?_
  refine ev_callI (pc := 161) (b1 := (6, 730)) (b2 := (14, 1476)) (as1 := []) (st := [vR ((l.length : Int) + 779), vI 1, vR ((l.length : Int) + 701)]) (q := vN) (d' := d - 1) rfl mkX6_init ⟨rfl, rfl⟩ ml11_85 miX6_init o35_779.ne0 rfl (Nat.le_of_ble_eq_true rfl) (dd1 (Nat.le_trans (by decide) hd)) rfl dX11_init_161 (C36.2 (d := d - 1) (dd2 (n := 1) (Nat.le_trans (by decide) hd))) ?_
  change Ev g d mtX11_init _ _ [vR ((l.length : Int) + 779), vI 1, vR ((l.length : Int) + 701)] _ _ _ _
  refine ev_eqS e36 ?_
  refine ev_aast (pc := 164) (i := 1) ⟨rfl, by decide, by decide⟩ ⟨TX6, rfl⟩ (by decide) o36_701 o36_779 (by decide) (by decide) dX11_init_164 ?_
  refine ev_eqS e37 ?_
  refine ev_iinc (pc := 165) (y := 2) (il' := [(1, vI 2), (0, vR k)]) 0 dX11_init_165 rfl (Nat.le_of_ble_eq_true rfl) (by decide) rfl ?_
  refine ev_goto (pc := 168) (tgt := 147) dX11_init_168 (by decide) ?_
  refine ev_iload_n (pc := 147) 0 dX11_init_147 rfl rfl ?_
  refine ev_iconst (pc := 148) (x := 4) dX11_init_148 ci_4 ?_
  refine ev_icmp_ge (pc := 149) (tgt := 171) dX11_init_149 (by decide) (fun h9 => absurd h9 (by decide)) (fun _ => ?_)
  refine ev_aload_n (pc := 152) 1 dX11_init_152 rfl rfl ?_
  refine ev_getRL (pc := 153) fl11_31 rfl dX11_init_153 rfl o37_k f37_k_4 ?_
  refine ev_iload_n (pc := 156) 0 dX11_init_156 rfl rfl ?_
  refine ev_new (pc := 157) (b2 := (13, 1468)) rfl nl11_29 df6 dX11_init_157 rfl ?_
  refine ev_eqI (id_new n37 (z := 786) rfl) ?_
  refine ev_eqS e38 ?_
  refine ev_dup (pc := 160) rfl dX11_init_160 ?_
  refine ev_callI (pc := 161) (b1 := (6, 730)) (b2 := (7, 738)) (as1 := []) (st := [vR ((l.length : Int) + 786), vI 2, vR ((l.length : Int) + 701)]) (q := vN) (d' := d - 1) rfl mkX6_init ⟨rfl, rfl⟩ ml11_85 miX6_init o38_786.ne0 rfl (Nat.le_of_ble_eq_true rfl) (dd1 (Nat.le_trans (by decide) hd)) rfl dX11_init_161 (C39.2 (d := d - 1) (dd2 (n := 1) (Nat.le_trans (by decide) hd))) ?_
  change Ev g d mtX11_init _ _ [vR ((l.length : Int) + 786), vI 2, vR ((l.length : Int) + 701)] _ _ _ _
  refine ev_eqS e39 ?_
  refine ev_aast (pc := 164) (i := 2) ⟨rfl, by decide, by decide⟩ ⟨TX6, rfl⟩ (by decide) o39_701 o39_786 (by decide) (by decide) dX11_init_164 ?_
  refine ev_eqS e40 ?_
  refine ev_iinc (pc := 165) (y := 3) (il' := [(1, vI 3), (0, vR k)]) 0 dX11_init_165 rfl (Nat.le_of_ble_eq_true rfl) (by decide) rfl ?_
  refine ev_goto (pc := 168) (tgt := 147) dX11_init_168 (by decide) ?_
  refine ev_iload_n (pc := 147) 0 dX11_init_147 rfl rfl ?_
  refine ev_iconst (pc := 148) (x := 4) dX11_init_148 ci_4 ?_
  refine ev_icmp_ge (pc := 149) (tgt := 171) dX11_init_149 (by decide) (fun h9 => absurd h9 (by decide)) (fun _ => ?_)
  refine ev_aload_n (pc := 152) 1 dX11_init_152 rfl rfl ?_
  refine ev_getRL (pc := 153) fl11_31 rfl dX11_init_153 rfl o40_k f40_k_4 ?_
  refine ev_iload_n (pc := 156) 0 dX11_init_156 rfl rfl ?_
  refine ev_new (pc := 157) (b2 := (6, 730)) rfl nl11_29 df6 dX11_init_157 rfl ?_
  refine ev_eqI (id_new n40 (z := 793) rfl) ?_
  refine ev_eqS e41 ?_
  refine ev_dup (pc := 160) rfl dX11_init_160 ?_
  refine ev_callI (pc := 161) (b1 := (6, 730)) (b2 := (0, 0)) (as1 := []) (st := [vR ((l.length : Int) + 793), vI 3, vR ((l.length : Int) + 701)]) (q := vN) (d' := d - 1) rfl mkX6_init ⟨rfl, rfl⟩ ml11_85 miX6_init o41_793.ne0 rfl (Nat.le_of_ble_eq_true rfl) (dd1 (Nat.le_trans (by decide) hd)) rfl dX11_init_161 (C42.2 (d := d - 1) (dd2 (n := 1) (Nat.le_trans (by decide) hd))) ?_
  change Ev g d mtX11_init _ _ [vR ((l.length : Int) + 793), vI 3, vR ((l.length : Int) + 701)] _ _ _ _
  refine ev_eqS e42 ?_
  refine ev_aast (pc := 164) (i := 3) ⟨rfl, by decide, by decide⟩ ⟨TX6, rfl⟩ (by decide) o42_701 o42_793 (by decide) (by decide) dX11_init_164 ?_
  refine ev_eqS e43 ?_
  refine ev_iinc (pc := 165) (y := 4) (il' := [(1, vI 4), (0, vR k)]) 0 dX11_init_165 rfl (Nat.le_of_ble_eq_true rfl) (by decide) rfl ?_
  refine ev_goto (pc := 168) (tgt := 147) dX11_init_168 (by decide) ?_
  refine ev_iload_n (pc := 147) 0 dX11_init_147 rfl rfl ?_
  refine ev_iconst (pc := 148) (x := 4) dX11_init_148 ci_4 ?_
  refine ev_icmp_ge (pc := 149) (tgt := 171) dX11_init_149 (by decide) (fun _ => ?_) (fun h9 => absurd (by decide) h9)
  exact ev_vret (pc := 171) dX11_init_171 rfl
def c_X12 (k : Int) (l : CL) : CL := clR ((clR ((clR ((clR ((clR ((clR ((clR ((clR ((clR ((clR ((clR ((clR ((clR ((clI (clR ((clR ((clR ((clR ((clI (clI (clR ((clR ((clR ((clR (l ++ [((20, 10606), [], [])]) k 0 ((l.length : Int) + 1)) ++ [((20, 10606), [], [])]) k 1 ((l.length : Int) + 2)) ++ [((20, 2916), [], [])]) k 2 ((l.length : Int) + 3)) ++ [((20, 300), [], [])]) k 3 ((l.length : Int) + 4)) k 5 (-1)) k 6 (-1)) ++ [((20, 160), [], [])]) k 15 ((l.length : Int) + 5)) ++ [((23, 330), [], [])]) k 25 ((l.length : Int) + 6)) ++ [((21, 330), [], [])]) k 26 ((l.length : Int) + 7)) ++ [((21, 7), [], [])]) k 27 ((l.length : Int) + 8)) k 28 1) ++ [((20, 9), [], [])]) k 30 ((l.length : Int) + 9)) ++ [((20, 9), [], [])]) k 31 ((l.length : Int) + 10)) ++ [((20, 130), [], [])]) k 32 ((l.length : Int) + 11)) ++ [((20, 384), [], [])]) k 33 ((l.length : Int) + 12)) ++ [((20, 441), [], [])]) k 34 ((l.length : Int) + 13)) ++ [((20, 8), [], [])]) k 35 ((l.length : Int) + 14)) ++ [((20, 7), [], [])]) k 36 ((l.length : Int) + 15)) ++ [((20, 7), [], [])]) k 37 ((l.length : Int) + 16)) ++ [((20, 4), [], [])]) k 38 ((l.length : Int) + 17)) ++ [((20, 4), [], [])]) k 39 ((l.length : Int) + 18)) ++ [((20, 10), [], [])]) k 40 ((l.length : Int) + 19)) ++ [((20, 10), [], [])]) k 41 ((l.length : Int) + 20)) ++ [((20, 7), [], [])]) k 42 ((l.length : Int) + 21)
set_option maxRecDepth 100000 in
set_option maxHeartbeats 8000000 in
theorem c_X12_ok {k : Int} {l : CL} (ok : okC l k (12, 43)) {g : Gm} {d : Nat} {r : Vv} {σ : Sg} (hd : 1 ≤ d) (h : Ev g d mtX12_init 195 [(0, vR k)] [] (sgL (c_X12 k l)) (0, 0) r σ) : Ev g d mtX12_init 0 [(0, vR k)] [] (sgL l) (21, 26285) r σ := by
  obtain ⟨l1, e1⟩ : ∃ z : CL, z = l ++ [((20, 10606), [], [])] := ⟨_, rfl⟩
  have n1 : l1.length = l.length + 1 := len_push e1 rfl
  have o1_k : okC l1 k (12, 43) := by rw [e1]; exact ok.app
  obtain ⟨l2, e2⟩ : ∃ z : CL, z = clR l1 k 0 ((l.length : Int) + 1) := ⟨_, rfl⟩
  have n2 : l2.length = l.length + 1 := len_setR e2 n1
  have o2_k : okC l2 k (12, 43) := by rw [e2]; exact okC.ofR o1_k o1_k
  obtain ⟨l3, e3⟩ : ∃ z : CL, z = l2 ++ [((20, 10606), [], [])] := ⟨_, rfl⟩
  have n3 : l3.length = l.length + 2 := len_push e3 n2
  have o3_k : okC l3 k (12, 43) := by rw [e3]; exact o2_k.app
  obtain ⟨l4, e4⟩ : ∃ z : CL, z = clR l3 k 1 ((l.length : Int) + 2) := ⟨_, rfl⟩
  have n4 : l4.length = l.length + 2 := len_setR e4 n3
  have o4_k : okC l4 k (12, 43) := by rw [e4]; exact okC.ofR o3_k o3_k
  obtain ⟨l5, e5⟩ : ∃ z : CL, z = l4 ++ [((20, 2916), [], [])] := ⟨_, rfl⟩
  have n5 : l5.length = l.length + 3 := len_push e5 n4
  have o5_k : okC l5 k (12, 43) := by rw [e5]; exact o4_k.app
  obtain ⟨l6, e6⟩ : ∃ z : CL, z = clR l5 k 2 ((l.length : Int) + 3) := ⟨_, rfl⟩
  have n6 : l6.length = l.length + 3 := len_setR e6 n5
  have o6_k : okC l6 k (12, 43) := by rw [e6]; exact okC.ofR o5_k o5_k
  obtain ⟨l7, e7⟩ : ∃ z : CL, z = l6 ++ [((20, 300), [], [])] := ⟨_, rfl⟩
  have n7 : l7.length = l.length + 4 := len_push e7 n6
  have o7_k : okC l7 k (12, 43) := by rw [e7]; exact o6_k.app
  obtain ⟨l8, e8⟩ : ∃ z : CL, z = clR l7 k 3 ((l.length : Int) + 4) := ⟨_, rfl⟩
  have n8 : l8.length = l.length + 4 := len_setR e8 n7
  have o8_k : okC l8 k (12, 43) := by rw [e8]; exact okC.ofR o7_k o7_k
  obtain ⟨l9, e9⟩ : ∃ z : CL, z = clI l8 k 5 (-1) := ⟨_, rfl⟩
  have n9 : l9.length = l.length + 4 := len_setI e9 n8
  have o9_k : okC l9 k (12, 43) := by rw [e9]; exact okC.ofI o8_k o8_k
  obtain ⟨l10, e10⟩ : ∃ z : CL, z = clI l9 k 6 (-1) := ⟨_, rfl⟩
  have n10 : l10.length = l.length + 4 := len_setI e10 n9
  have o10_k : okC l10 k (12, 43) := by rw [e10]; exact okC.ofI o9_k o9_k
  obtain ⟨l11, e11⟩ : ∃ z : CL, z = l10 ++ [((20, 160), [], [])] := ⟨_, rfl⟩
  have n11 : l11.length = l.length + 5 := len_push e11 n10
  have o11_k : okC l11 k (12, 43) := by rw [e11]; exact o10_k.app
  obtain ⟨l12, e12⟩ : ∃ z : CL, z = clR l11 k 15 ((l.length : Int) + 5) := ⟨_, rfl⟩
  have n12 : l12.length = l.length + 5 := len_setR e12 n11
  have o12_k : okC l12 k (12, 43) := by rw [e12]; exact okC.ofR o11_k o11_k
  obtain ⟨l13, e13⟩ : ∃ z : CL, z = l12 ++ [((23, 330), [], [])] := ⟨_, rfl⟩
  have n13 : l13.length = l.length + 6 := len_push e13 n12
  have o13_k : okC l13 k (12, 43) := by rw [e13]; exact o12_k.app
  obtain ⟨l14, e14⟩ : ∃ z : CL, z = clR l13 k 25 ((l.length : Int) + 6) := ⟨_, rfl⟩
  have n14 : l14.length = l.length + 6 := len_setR e14 n13
  have o14_k : okC l14 k (12, 43) := by rw [e14]; exact okC.ofR o13_k o13_k
  obtain ⟨l15, e15⟩ : ∃ z : CL, z = l14 ++ [((21, 330), [], [])] := ⟨_, rfl⟩
  have n15 : l15.length = l.length + 7 := len_push e15 n14
  have o15_k : okC l15 k (12, 43) := by rw [e15]; exact o14_k.app
  obtain ⟨l16, e16⟩ : ∃ z : CL, z = clR l15 k 26 ((l.length : Int) + 7) := ⟨_, rfl⟩
  have n16 : l16.length = l.length + 7 := len_setR e16 n15
  have o16_k : okC l16 k (12, 43) := by rw [e16]; exact okC.ofR o15_k o15_k
  obtain ⟨l17, e17⟩ : ∃ z : CL, z = l16 ++ [((21, 7), [], [])] := ⟨_, rfl⟩
  have n17 : l17.length = l.length + 8 := len_push e17 n16
  have o17_k : okC l17 k (12, 43) := by rw [e17]; exact o16_k.app
  obtain ⟨l18, e18⟩ : ∃ z : CL, z = clR l17 k 27 ((l.length : Int) + 8) := ⟨_, rfl⟩
  have n18 : l18.length = l.length + 8 := len_setR e18 n17
  have o18_k : okC l18 k (12, 43) := by rw [e18]; exact okC.ofR o17_k o17_k
  obtain ⟨l19, e19⟩ : ∃ z : CL, z = clI l18 k 28 1 := ⟨_, rfl⟩
  have n19 : l19.length = l.length + 8 := len_setI e19 n18
  have o19_k : okC l19 k (12, 43) := by rw [e19]; exact okC.ofI o18_k o18_k
  obtain ⟨l20, e20⟩ : ∃ z : CL, z = l19 ++ [((20, 9), [], [])] := ⟨_, rfl⟩
  have n20 : l20.length = l.length + 9 := len_push e20 n19
  have o20_k : okC l20 k (12, 43) := by rw [e20]; exact o19_k.app
  obtain ⟨l21, e21⟩ : ∃ z : CL, z = clR l20 k 30 ((l.length : Int) + 9) := ⟨_, rfl⟩
  have n21 : l21.length = l.length + 9 := len_setR e21 n20
  have o21_k : okC l21 k (12, 43) := by rw [e21]; exact okC.ofR o20_k o20_k
  obtain ⟨l22, e22⟩ : ∃ z : CL, z = l21 ++ [((20, 9), [], [])] := ⟨_, rfl⟩
  have n22 : l22.length = l.length + 10 := len_push e22 n21
  have o22_k : okC l22 k (12, 43) := by rw [e22]; exact o21_k.app
  obtain ⟨l23, e23⟩ : ∃ z : CL, z = clR l22 k 31 ((l.length : Int) + 10) := ⟨_, rfl⟩
  have n23 : l23.length = l.length + 10 := len_setR e23 n22
  have o23_k : okC l23 k (12, 43) := by rw [e23]; exact okC.ofR o22_k o22_k
  obtain ⟨l24, e24⟩ : ∃ z : CL, z = l23 ++ [((20, 130), [], [])] := ⟨_, rfl⟩
  have n24 : l24.length = l.length + 11 := len_push e24 n23
  have o24_k : okC l24 k (12, 43) := by rw [e24]; exact o23_k.app
  obtain ⟨l25, e25⟩ : ∃ z : CL, z = clR l24 k 32 ((l.length : Int) + 11) := ⟨_, rfl⟩
  have n25 : l25.length = l.length + 11 := len_setR e25 n24
  have o25_k : okC l25 k (12, 43) := by rw [e25]; exact okC.ofR o24_k o24_k
  obtain ⟨l26, e26⟩ : ∃ z : CL, z = l25 ++ [((20, 384), [], [])] := ⟨_, rfl⟩
  have n26 : l26.length = l.length + 12 := len_push e26 n25
  have o26_k : okC l26 k (12, 43) := by rw [e26]; exact o25_k.app
  obtain ⟨l27, e27⟩ : ∃ z : CL, z = clR l26 k 33 ((l.length : Int) + 12) := ⟨_, rfl⟩
  have n27 : l27.length = l.length + 12 := len_setR e27 n26
  have o27_k : okC l27 k (12, 43) := by rw [e27]; exact okC.ofR o26_k o26_k
  obtain ⟨l28, e28⟩ : ∃ z : CL, z = l27 ++ [((20, 441), [], [])] := ⟨_, rfl⟩
  have n28 : l28.length = l.length + 13 := len_push e28 n27
  have o28_k : okC l28 k (12, 43) := by rw [e28]; exact o27_k.app
  obtain ⟨l29, e29⟩ : ∃ z : CL, z = clR l28 k 34 ((l.length : Int) + 13) := ⟨_, rfl⟩
  have n29 : l29.length = l.length + 13 := len_setR e29 n28
  have o29_k : okC l29 k (12, 43) := by rw [e29]; exact okC.ofR o28_k o28_k
  obtain ⟨l30, e30⟩ : ∃ z : CL, z = l29 ++ [((20, 8), [], [])] := ⟨_, rfl⟩
  have n30 : l30.length = l.length + 14 := len_push e30 n29
  have o30_k : okC l30 k (12, 43) := by rw [e30]; exact o29_k.app
  obtain ⟨l31, e31⟩ : ∃ z : CL, z = clR l30 k 35 ((l.length : Int) + 14) := ⟨_, rfl⟩
  have n31 : l31.length = l.length + 14 := len_setR e31 n30
  have o31_k : okC l31 k (12, 43) := by rw [e31]; exact okC.ofR o30_k o30_k
  obtain ⟨l32, e32⟩ : ∃ z : CL, z = l31 ++ [((20, 7), [], [])] := ⟨_, rfl⟩
  have n32 : l32.length = l.length + 15 := len_push e32 n31
  have o32_k : okC l32 k (12, 43) := by rw [e32]; exact o31_k.app
  obtain ⟨l33, e33⟩ : ∃ z : CL, z = clR l32 k 36 ((l.length : Int) + 15) := ⟨_, rfl⟩
  have n33 : l33.length = l.length + 15 := len_setR e33 n32
  have o33_k : okC l33 k (12, 43) := by rw [e33]; exact okC.ofR o32_k o32_k
  obtain ⟨l34, e34⟩ : ∃ z : CL, z = l33 ++ [((20, 7), [], [])] := ⟨_, rfl⟩
  have n34 : l34.length = l.length + 16 := len_push e34 n33
  have o34_k : okC l34 k (12, 43) := by rw [e34]; exact o33_k.app
  obtain ⟨l35, e35⟩ : ∃ z : CL, z = clR l34 k 37 ((l.length : Int) + 16) := ⟨_, rfl⟩
  have n35 : l35.length = l.length + 16 := len_setR e35 n34
  have o35_k : okC l35 k (12, 43) := by rw [e35]; exact okC.ofR o34_k o34_k
  obtain ⟨l36, e36⟩ : ∃ z : CL, z = l35 ++ [((20, 4), [], [])] := ⟨_, rfl⟩
  have n36 : l36.length = l.length + 17 := len_push e36 n35
  have o36_k : okC l36 k (12, 43) := by rw [e36]; exact o35_k.app
  obtain ⟨l37, e37⟩ : ∃ z : CL, z = clR l36 k 38 ((l.length : Int) + 17) := ⟨_, rfl⟩
  have n37 : l37.length = l.length + 17 := len_setR e37 n36
  have o37_k : okC l37 k (12, 43) := by rw [e37]; exact okC.ofR o36_k o36_k
  obtain ⟨l38, e38⟩ : ∃ z : CL, z = l37 ++ [((20, 4), [], [])] := ⟨_, rfl⟩
  have n38 : l38.length = l.length + 18 := len_push e38 n37
  have o38_k : okC l38 k (12, 43) := by rw [e38]; exact o37_k.app
  obtain ⟨l39, e39⟩ : ∃ z : CL, z = clR l38 k 39 ((l.length : Int) + 18) := ⟨_, rfl⟩
  have n39 : l39.length = l.length + 18 := len_setR e39 n38
  have o39_k : okC l39 k (12, 43) := by rw [e39]; exact okC.ofR o38_k o38_k
  obtain ⟨l40, e40⟩ : ∃ z : CL, z = l39 ++ [((20, 10), [], [])] := ⟨_, rfl⟩
  have n40 : l40.length = l.length + 19 := len_push e40 n39
  have o40_k : okC l40 k (12, 43) := by rw [e40]; exact o39_k.app
  obtain ⟨l41, e41⟩ : ∃ z : CL, z = clR l40 k 40 ((l.length : Int) + 19) := ⟨_, rfl⟩
  have n41 : l41.length = l.length + 19 := len_setR e41 n40
  have o41_k : okC l41 k (12, 43) := by rw [e41]; exact okC.ofR o40_k o40_k
  obtain ⟨l42, e42⟩ : ∃ z : CL, z = l41 ++ [((20, 10), [], [])] := ⟨_, rfl⟩
  have n42 : l42.length = l.length + 20 := len_push e42 n41
  have o42_k : okC l42 k (12, 43) := by rw [e42]; exact o41_k.app
  obtain ⟨l43, e43⟩ : ∃ z : CL, z = clR l42 k 41 ((l.length : Int) + 20) := ⟨_, rfl⟩
  have n43 : l43.length = l.length + 20 := len_setR e43 n42
  have o43_k : okC l43 k (12, 43) := by rw [e43]; exact okC.ofR o42_k o42_k
  obtain ⟨l44, e44⟩ : ∃ z : CL, z = l43 ++ [((20, 7), [], [])] := ⟨_, rfl⟩
  have n44 : l44.length = l.length + 21 := len_push e44 n43
  have o44_k : okC l44 k (12, 43) := by rw [e44]; exact o43_k.app
  obtain ⟨l45, e45⟩ : ∃ z : CL, z = clR l44 k 42 ((l.length : Int) + 21) := ⟨_, rfl⟩
  have n45 : l45.length = l.length + 21 := len_setR e45 n44
  have eF : c_X12 k l = l45 := by rw [e45, e44, e43, e42, e41, e40, e39, e38, e37, e36, e35, e34, e33, e32, e31, e30, e29, e28, e27, e26, e25, e24, e23, e22, e21, e20, e19, e18, e17, e16, e15, e14, e13, e12, e11, e10, e9, e8, e7, e6, e5, e4, e3, e2, e1, c_X12]
  rw [eF] at h
  refine ev_aload_n (pc := 0) 0 dX12_init_0 rfl rfl ?_
  refine ev_objInit (pc := 1) rfl ob12_1 ok.ne0 (Nat.le_of_ble_eq_true rfl) (Nat.le_trans (by decide) hd) dX12_init_1 ?_
  refine ev_aload_n (pc := 4) 0 dX12_init_4 rfl rfl ?_
  refine ev_sipush (pc := 5) (x := 10606) dX12_init_5 cs_10606 ?_
  refine ev_newa (pc := 8) (n := 10606) (b2 := (20, 15679)) (t := 20) arI.1 arI.2 rfl (Nat.le_of_ble_eq_true rfl) dX12_init_8 rfl ?_
  refine ev_eqI (id_new rfl (z := 1) rfl) ?_
  refine ev_eqS e1 ?_
  refine ev_putFL (pc := 10) flF12_7 rfl rfl dX12_init_10 rfl o1_k ?_
  refine ev_eqS e2 ?_
  refine ev_aload_n (pc := 13) 0 dX12_init_13 rfl rfl ?_
  refine ev_sipush (pc := 14) (x := 10606) dX12_init_14 cs_10606 ?_
  refine ev_newa (pc := 17) (n := 10606) (b2 := (19, 5073)) (t := 20) arI.1 arI.2 rfl (Nat.le_of_ble_eq_true rfl) dX12_init_17 rfl ?_
  refine ev_eqI (id_new n2 (z := 2) rfl) ?_
  refine ev_eqS e3 ?_
  refine ev_putFL (pc := 19) flF12_13 rfl rfl dX12_init_19 rfl o3_k ?_
  refine ev_eqS e4 ?_
  refine ev_aload_n (pc := 22) 0 dX12_init_22 rfl rfl ?_
  refine ev_sipush (pc := 23) (x := 2916) dX12_init_23 cs_2916 ?_
  refine ev_newa (pc := 26) (n := 2916) (b2 := (18, 2157)) (t := 20) arI.1 arI.2 rfl (Nat.le_of_ble_eq_true rfl) dX12_init_26 rfl ?_
  refine ev_eqI (id_new n4 (z := 3) rfl) ?_
  refine ev_eqS e5 ?_
  refine ev_putFL (pc := 28) flF12_16 rfl rfl dX12_init_28 rfl o5_k ?_
  refine ev_eqS e6 ?_
  refine ev_aload_n (pc := 31) 0 dX12_init_31 rfl rfl ?_
  refine ev_sipush (pc := 32) (x := 300) dX12_init_32 cs_300 ?_
  refine ev_newa (pc := 35) (n := 300) (b2 := (17, 1857)) (t := 20) arI.1 arI.2 rfl (Nat.le_of_ble_eq_true rfl) dX12_init_35 rfl ?_
  refine ev_eqI (id_new n6 (z := 4) rfl) ?_
  refine ev_eqS e7 ?_
  refine ev_putFL (pc := 37) flF12_19 rfl rfl dX12_init_37 rfl o7_k ?_
  refine ev_eqS e8 ?_
  refine ev_aload_n (pc := 40) 0 dX12_init_40 rfl rfl ?_
  refine ev_iconst (pc := 41) (x := (-1)) dX12_init_41 ci_m1 ?_
  refine ev_putIL (pc := 42) fl12_22 rfl dX12_init_42 o8_k ?_
  refine ev_eqS e9 ?_
  refine ev_aload_n (pc := 45) 0 dX12_init_45 rfl rfl ?_
  refine ev_iconst (pc := 46) (x := (-1)) dX12_init_46 ci_m1 ?_
  refine ev_putIL (pc := 47) fl12_26 rfl dX12_init_47 o9_k ?_
  refine ev_eqS e10 ?_
  refine ev_aload_n (pc := 50) 0 dX12_init_50 rfl rfl ?_
  refine ev_sipush (pc := 51) (x := 160) dX12_init_51 cs_160 ?_
  refine ev_newa (pc := 54) (n := 160) (b2 := (16, 1697)) (t := 20) arI.1 arI.2 rfl (Nat.le_of_ble_eq_true rfl) dX12_init_54 rfl ?_
  refine ev_eqI (id_new n10 (z := 5) rfl) ?_
  refine ev_eqS e11 ?_
  refine ev_putFL (pc := 56) flF12_29 rfl rfl dX12_init_56 rfl o11_k ?_
  refine ev_eqS e12 ?_
  refine ev_aload_n (pc := 59) 0 dX12_init_59 rfl rfl ?_
  refine ev_sipush (pc := 60) (x := 330) dX12_init_60 cs_330 ?_
  refine ev_newl (pc := 63) (n := 330) (b2 := (15, 1367)) arJ rfl (Nat.le_of_ble_eq_true rfl) dX12_init_63 rfl ?_
  refine ev_eqI (id_new n12 (z := 6) rfl) ?_
  refine ev_eqS e13 ?_
  refine ev_putFL (pc := 65) flF12_32 rfl rfl dX12_init_65 rfl o13_k ?_
  refine ev_eqS e14 ?_
  refine ev_aload_n (pc := 68) 0 dX12_init_68 rfl rfl ?_
  refine ev_sipush (pc := 69) (x := 330) dX12_init_69 cs_330 ?_
  refine ev_newa (pc := 72) (n := 330) (b2 := (14, 1037)) (t := 21) arZ.1 arZ.2 rfl (Nat.le_of_ble_eq_true rfl) dX12_init_72 rfl ?_
  refine ev_eqI (id_new n14 (z := 7) rfl) ?_
  refine ev_eqS e15 ?_
  refine ev_putFL (pc := 74) flF12_36 rfl rfl dX12_init_74 rfl o15_k ?_
  refine ev_eqS e16 ?_
  refine ev_aload_n (pc := 77) 0 dX12_init_77 rfl rfl ?_
  refine ev_bipush (pc := 78) (x := 7) dX12_init_78 cb_7 ?_
  refine ev_newa (pc := 80) (n := 7) (b2 := (13, 1030)) (t := 21) arZ.1 arZ.2 rfl (Nat.le_of_ble_eq_true rfl) dX12_init_80 rfl ?_
  refine ev_eqI (id_new n16 (z := 8) rfl) ?_
  refine ev_eqS e17 ?_
  refine ev_putFL (pc := 82) flF12_40 rfl rfl dX12_init_82 rfl o17_k ?_
  refine ev_eqS e18 ?_
  refine ev_aload_n (pc := 85) 0 dX12_init_85 rfl rfl ?_
  refine ev_iconst (pc := 86) (x := 1) dX12_init_86 ci_1 ?_
  refine ev_putZL (pc := 87) fl12_43 rfl (by decide) dX12_init_87 o18_k ?_
  refine ev_eqS e19 ?_
  refine ev_aload_n (pc := 90) 0 dX12_init_90 rfl rfl ?_
  refine ev_bipush (pc := 91) (x := 9) dX12_init_91 cb_9 ?_
  refine ev_newa (pc := 93) (n := 9) (b2 := (12, 1021)) (t := 20) arI.1 arI.2 rfl (Nat.le_of_ble_eq_true rfl) dX12_init_93 rfl ?_
  refine ev_eqI (id_new n19 (z := 9) rfl) ?_
  refine ev_eqS e20 ?_
  refine ev_putFL (pc := 95) flF12_47 rfl rfl dX12_init_95 rfl o20_k ?_
  refine ev_eqS e21 ?_
  refine ev_aload_n (pc := 98) 0 dX12_init_98 rfl rfl ?_
  refine ev_bipush (pc := 99) (x := 9) dX12_init_99 cb_9 ?_
  refine ev_newa (pc := 101) (n := 9) (b2 := (11, 1012)) (t := 20) arI.1 arI.2 rfl (Nat.le_of_ble_eq_true rfl) dX12_init_101 rfl ?_
  refine ev_eqI (id_new n21 (z := 10) rfl) ?_
  refine ev_eqS e22 ?_
  refine ev_putFL (pc := 103) flF12_50 rfl rfl dX12_init_103 rfl o22_k ?_
  refine ev_eqS e23 ?_
  refine ev_aload_n (pc := 106) 0 dX12_init_106 rfl rfl ?_
  refine ev_sipush (pc := 107) (x := 130) dX12_init_107 cs_130 ?_
  refine ev_newa (pc := 110) (n := 130) (b2 := (10, 882)) (t := 20) arI.1 arI.2 rfl (Nat.le_of_ble_eq_true rfl) dX12_init_110 rfl ?_
  refine ev_eqI (id_new n23 (z := 11) rfl) ?_
  refine ev_eqS e24 ?_
  refine ev_putFL (pc := 112) flF12_53 rfl rfl dX12_init_112 rfl o24_k ?_
  refine ev_eqS e25 ?_
  refine ev_aload_n (pc := 115) 0 dX12_init_115 rfl rfl ?_
  refine ev_sipush (pc := 116) (x := 384) dX12_init_116 cs_384 ?_
  refine ev_newa (pc := 119) (n := 384) (b2 := (9, 498)) (t := 20) arI.1 arI.2 rfl (Nat.le_of_ble_eq_true rfl) dX12_init_119 rfl ?_
  refine ev_eqI (id_new n25 (z := 12) rfl) ?_
  refine ev_eqS e26 ?_
  refine ev_putFL (pc := 121) flF12_56 rfl rfl dX12_init_121 rfl o26_k ?_
  refine ev_eqS e27 ?_
  refine ev_aload_n (pc := 124) 0 dX12_init_124 rfl rfl ?_
  refine ev_sipush (pc := 125) (x := 441) dX12_init_125 cs_441 ?_
  refine ev_newa (pc := 128) (n := 441) (b2 := (8, 57)) (t := 20) arI.1 arI.2 rfl (Nat.le_of_ble_eq_true rfl) dX12_init_128 rfl ?_
  refine ev_eqI (id_new n27 (z := 13) rfl) ?_
  refine ev_eqS e28 ?_
  refine ev_putFL (pc := 130) flF12_59 rfl rfl dX12_init_130 rfl o28_k ?_
  refine ev_eqS e29 ?_
  refine ev_aload_n (pc := 133) 0 dX12_init_133 rfl rfl ?_
  refine ev_bipush (pc := 134) (x := 8) dX12_init_134 cb_8 ?_
  refine ev_newa (pc := 136) (n := 8) (b2 := (7, 49)) (t := 20) arI.1 arI.2 rfl (Nat.le_of_ble_eq_true rfl) dX12_init_136 rfl ?_
  refine ev_eqI (id_new n29 (z := 14) rfl) ?_
  refine ev_eqS e30 ?_
  refine ev_putFL (pc := 138) flF12_62 rfl rfl dX12_init_138 rfl o30_k ?_
  refine ev_eqS e31 ?_
  refine ev_aload_n (pc := 141) 0 dX12_init_141 rfl rfl ?_
  refine ev_bipush (pc := 142) (x := 7) dX12_init_142 cb_7 ?_
  refine ev_newa (pc := 144) (n := 7) (b2 := (6, 42)) (t := 20) arI.1 arI.2 rfl (Nat.le_of_ble_eq_true rfl) dX12_init_144 rfl ?_
  refine ev_eqI (id_new n31 (z := 15) rfl) ?_
  refine ev_eqS e32 ?_
  refine ev_putFL (pc := 146) flF12_65 rfl rfl dX12_init_146 rfl o32_k ?_
  refine ev_eqS e33 ?_
  refine ev_aload_n (pc := 149) 0 dX12_init_149 rfl rfl ?_
  refine ev_bipush (pc := 150) (x := 7) dX12_init_150 cb_7 ?_
  refine ev_newa (pc := 152) (n := 7) (b2 := (5, 35)) (t := 20) arI.1 arI.2 rfl (Nat.le_of_ble_eq_true rfl) dX12_init_152 rfl ?_
  refine ev_eqI (id_new n33 (z := 16) rfl) ?_
  refine ev_eqS e34 ?_
  refine ev_putFL (pc := 154) flF12_68 rfl rfl dX12_init_154 rfl o34_k ?_
  refine ev_eqS e35 ?_
  refine ev_aload_n (pc := 157) 0 dX12_init_157 rfl rfl ?_
  refine ev_iconst (pc := 158) (x := 4) dX12_init_158 ci_4 ?_
  refine ev_newa (pc := 159) (n := 4) (b2 := (4, 31)) (t := 20) arI.1 arI.2 rfl (Nat.le_of_ble_eq_true rfl) dX12_init_159 rfl ?_
  refine ev_eqI (id_new n35 (z := 17) rfl) ?_
  refine ev_eqS e36 ?_
  refine ev_putFL (pc := 161) flF12_71 rfl rfl dX12_init_161 rfl o36_k ?_
  refine ev_eqS e37 ?_
  refine ev_aload_n (pc := 164) 0 dX12_init_164 rfl rfl ?_
  refine ev_iconst (pc := 165) (x := 4) dX12_init_165 ci_4 ?_
  refine ev_newa (pc := 166) (n := 4) (b2 := (3, 27)) (t := 20) arI.1 arI.2 rfl (Nat.le_of_ble_eq_true rfl) dX12_init_166 rfl ?_
  refine ev_eqI (id_new n37 (z := 18) rfl) ?_
  refine ev_eqS e38 ?_
  refine ev_putFL (pc := 168) flF12_74 rfl rfl dX12_init_168 rfl o38_k ?_
  refine ev_eqS e39 ?_
  refine ev_aload_n (pc := 171) 0 dX12_init_171 rfl rfl ?_
  refine ev_bipush (pc := 172) (x := 10) dX12_init_172 cb_10 ?_
  refine ev_newa (pc := 174) (n := 10) (b2 := (2, 17)) (t := 20) arI.1 arI.2 rfl (Nat.le_of_ble_eq_true rfl) dX12_init_174 rfl ?_
  refine ev_eqI (id_new n39 (z := 19) rfl) ?_
  refine ev_eqS e40 ?_
  refine ev_putFL (pc := 176) flF12_77 rfl rfl dX12_init_176 rfl o40_k ?_
  refine ev_eqS e41 ?_
  refine ev_aload_n (pc := 179) 0 dX12_init_179 rfl rfl ?_
  refine ev_bipush (pc := 180) (x := 10) dX12_init_180 cb_10 ?_
  refine ev_newa (pc := 182) (n := 10) (b2 := (1, 7)) (t := 20) arI.1 arI.2 rfl (Nat.le_of_ble_eq_true rfl) dX12_init_182 rfl ?_
  refine ev_eqI (id_new n41 (z := 20) rfl) ?_
  refine ev_eqS e42 ?_
  refine ev_putFL (pc := 184) flF12_80 rfl rfl dX12_init_184 rfl o42_k ?_
  refine ev_eqS e43 ?_
  refine ev_aload_n (pc := 187) 0 dX12_init_187 rfl rfl ?_
  refine ev_bipush (pc := 188) (x := 7) dX12_init_188 cb_7 ?_
  refine ev_newa (pc := 190) (n := 7) (b2 := (0, 0)) (t := 20) arI.1 arI.2 rfl (Nat.le_of_ble_eq_true rfl) dX12_init_190 rfl ?_
  refine ev_eqI (id_new n43 (z := 21) rfl) ?_
  refine ev_eqS e44 ?_
  refine ev_putFL (pc := 192) flF12_83 rfl rfl dX12_init_192 rfl o44_k ?_
  refine ev_eqS e45 ?_
  exact h
