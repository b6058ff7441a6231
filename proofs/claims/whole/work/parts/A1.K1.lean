set_option linter.unusedVariables false
set_option linter.unusedSimpArgs false
/-! constructors: links, defaults, constants -/
theorem cb_96 : (Int8.ofInt 96).toInt32.toInt = 96 := by decide +kernel
theorem cs_160 : (Int16.ofInt 160).toInt32.toInt = 160 := by decide +kernel
theorem cs_330 : (Int16.ofInt 330).toInt32.toInt = 330 := by decide +kernel
theorem cs_384 : (Int16.ofInt 384).toInt32.toInt = 384 := by decide +kernel
theorem cs_441 : (Int16.ofInt 441).toInt32.toInt = 441 := by decide +kernel
theorem cs_2916 : (Int16.ofInt 2916).toInt32.toInt = 2916 := by decide +kernel
theorem arI : ((newarray.typeOf (.int : ArrayType) = aTy 20) ∧ 20 ≤ 20 ∧ 20 < 23 ∧ componentBytes (aTy 20) ≤ 8 ∧ defaultValue (aTy 20) = .int 0) ∧ Cond.arrayClass (aTy 20) ∈ lw_good := ⟨⟨rfl, by decide, by decide, by decide, rfl⟩, lw_good_t (i := 127) (by decide +kernel) rfl⟩
theorem arZ : ((newarray.typeOf (.boolean : ArrayType) = aTy 21) ∧ 20 ≤ 21 ∧ 21 < 23 ∧ componentBytes (aTy 21) ≤ 8 ∧ defaultValue (aTy 21) = .int 0) ∧ Cond.arrayClass (aTy 21) ∈ lw_good := ⟨⟨rfl, by decide, by decide, by decide, rfl⟩, lw_good_t (i := 1177) (by decide +kernel) rfl⟩
theorem arJ : Cond.arrayClass .long ∈ lw_good := lw_good_t (i := 1176) (by decide +kernel) rfl
theorem dfT {ty : FieldType} (h : ty = .int ∨ ty = .boolean ∨ fTag ty ≠ 0) (h0 : fTag ty = 0) : ∃ w : Int32, defaultValue ty = .int w ∧ w.toInt = 0 := by
  rcases h with h | h | h
  · subst h; exact ⟨0, rfl, rfl⟩
  · subst h; exact ⟨0, rfl, rfl⟩
  · exact absurd h0 h
theorem dfk5 : ∀ j : Fin 17, clTy 5 j.val = .int ∨ clTy 5 j.val = .boolean ∨ fTag (clTy 5 j.val) ≠ 0 := by decide +kernel
theorem df5 : ∀ j, j < 17 → fTag (clTy 5 j) = 0 → ∃ w : Int32, defaultValue (clTy 5 j) = .int w ∧ w.toInt = 0 := fun j hj => dfT (dfk5 ⟨j, hj⟩)
theorem dfk6 : ∀ j : Fin 8, clTy 6 j.val = .int ∨ clTy 6 j.val = .boolean ∨ fTag (clTy 6 j.val) ≠ 0 := by decide +kernel
theorem df6 : ∀ j, j < 8 → fTag (clTy 6 j) = 0 → ∃ w : Int32, defaultValue (clTy 6 j) = .int w ∧ w.toInt = 0 := fun j hj => dfT (dfk6 ⟨j, hj⟩)
theorem dfk7 : ∀ j : Fin 8, clTy 7 j.val = .int ∨ clTy 7 j.val = .boolean ∨ fTag (clTy 7 j.val) ≠ 0 := by decide +kernel
theorem df7 : ∀ j, j < 8 → fTag (clTy 7 j) = 0 → ∃ w : Int32, defaultValue (clTy 7 j) = .int w ∧ w.toInt = 0 := fun j hj => dfT (dfk7 ⟨j, hj⟩)
theorem dfk8 : ∀ j : Fin 4, clTy 8 j.val = .int ∨ clTy 8 j.val = .boolean ∨ fTag (clTy 8 j.val) ≠ 0 := by decide +kernel
theorem df8 : ∀ j, j < 4 → fTag (clTy 8 j) = 0 → ∃ w : Int32, defaultValue (clTy 8 j) = .int w ∧ w.toInt = 0 := fun j hj => dfT (dfk8 ⟨j, hj⟩)
theorem dfk4 : ∀ j : Fin 10, clTy 4 j.val = .int ∨ clTy 4 j.val = .boolean ∨ fTag (clTy 4 j.val) ≠ 0 := by decide +kernel
theorem df4 : ∀ j, j < 10 → fTag (clTy 4 j) = 0 → ∃ w : Int32, defaultValue (clTy 4 j) = .int w ∧ w.toInt = 0 := fun j hj => dfT (dfk4 ⟨j, hj⟩)
theorem dfk2 : ∀ j : Fin 3, clTy 2 j.val = .int ∨ clTy 2 j.val = .boolean ∨ fTag (clTy 2 j.val) ≠ 0 := by decide +kernel
theorem df2 : ∀ j, j < 3 → fTag (clTy 2 j) = 0 → ∃ w : Int32, defaultValue (clTy 2 j) = .int w ∧ w.toInt = 0 := fun j hj => dfT (dfk2 ⟨j, hj⟩)
theorem dfk1 : ∀ j : Fin 3, clTy 1 j.val = .int ∨ clTy 1 j.val = .boolean ∨ fTag (clTy 1 j.val) ≠ 0 := by decide +kernel
theorem df1 : ∀ j, j < 3 → fTag (clTy 1 j) = 0 → ∃ w : Int32, defaultValue (clTy 1 j) = .int w ∧ w.toInt = 0 := fun j hj => dfT (dfk1 ⟨j, hj⟩)
theorem dfk9 : ∀ j : Fin 4, clTy 9 j.val = .int ∨ clTy 9 j.val = .boolean ∨ fTag (clTy 9 j.val) ≠ 0 := by decide +kernel
theorem df9 : ∀ j, j < 4 → fTag (clTy 9 j) = 0 → ∃ w : Int32, defaultValue (clTy 9 j) = .int w ∧ w.toInt = 0 := fun j hj => dfT (dfk9 ⟨j, hj⟩)
theorem dfk3 : ∀ j : Fin 8, clTy 3 j.val = .int ∨ clTy 3 j.val = .boolean ∨ fTag (clTy 3 j.val) ≠ 0 := by decide +kernel
theorem df3 : ∀ j, j < 8 → fTag (clTy 3 j) = 0 → ∃ w : Int32, defaultValue (clTy 3 j) = .int w ∧ w.toInt = 0 := fun j hj => dfT (dfk3 ⟨j, hj⟩)
theorem dfk0 : ∀ j : Fin 3, clTy 0 j.val = .int ∨ clTy 0 j.val = .boolean ∨ fTag (clTy 0 j.val) ≠ 0 := by decide +kernel
theorem df0 : ∀ j, j < 3 → fTag (clTy 0 j) = 0 → ∃ w : Int32, defaultValue (clTy 0 j) = .int w ∧ w.toInt = 0 := fun j hj => dfT (dfk0 ⟨j, hj⟩)
theorem dfk10 : ∀ j : Fin 5, clTy 10 j.val = .int ∨ clTy 10 j.val = .boolean ∨ fTag (clTy 10 j.val) ≠ 0 := by decide +kernel
theorem df10 : ∀ j, j < 5 → fTag (clTy 10 j) = 0 → ∃ w : Int32, defaultValue (clTy 10 j) = .int w ∧ w.toInt = 0 := fun j hj => dfT (dfk10 ⟨j, hj⟩)
theorem dfk11 : ∀ j : Fin 12, clTy 11 j.val = .int ∨ clTy 11 j.val = .boolean ∨ fTag (clTy 11 j.val) ≠ 0 := by decide +kernel
theorem df11 : ∀ j, j < 12 → fTag (clTy 11 j) = 0 → ∃ w : Int32, defaultValue (clTy 11 j) = .int w ∧ w.toInt = 0 := fun j hj => dfT (dfk11 ⟨j, hj⟩)
theorem dfk12 : ∀ j : Fin 43, clTy 12 j.val = .int ∨ clTy 12 j.val = .boolean ∨ fTag (clTy 12 j.val) ≠ 0 := by decide +kernel
theorem df12 : ∀ j, j < 43 → fTag (clTy 12 j) = 0 → ∃ w : Int32, defaultValue (clTy 12 j) = .int w ∧ w.toInt = 0 := fun j hj => dfT (dfk12 ⟨j, hj⟩)
theorem an0_9 : Cond.classLink RX0 9 "SeaWithStairs$Sea" ∈ lw_good ∧ ("SeaWithStairs$Sea" = "SeaWithStairs$Sea" ∨ "SeaWithStairs$Sea" = "SeaWithStairs$Text") := ⟨lw_good_t (i := 134) (by decide +kernel) rfl, Or.inl rfl⟩
theorem an11_29 : Cond.classLink RX11 29 "SeaWithStairs$Text" ∈ lw_good ∧ ("SeaWithStairs$Text" = "SeaWithStairs$Sea" ∨ "SeaWithStairs$Text" = "SeaWithStairs$Text") := ⟨lw_good_t (i := 204) (by decide +kernel) rfl, Or.inr rfl⟩
theorem mn3_18 : Cond.classLink RX3 18 "[[I" ∈ lw_good ∧ Cond.arrayClass .int ∈ lw_good := ⟨lw_good_t (i := 352) (by decide +kernel) rfl, lw_good_t (i := 127) (by decide +kernel) rfl⟩
theorem mn9_9 : Cond.classLink RX9 9 "[[I" ∈ lw_good ∧ Cond.arrayClass .int ∈ lw_good := ⟨lw_good_t (i := 329) (by decide +kernel) rfl, lw_good_t (i := 127) (by decide +kernel) rfl⟩
theorem nl0_9 : NLk RX0 9 5 17 := ⟨RX5, TX5, rfl, inG5, tyX5_ok, by decide, lw_good_t (i := 134) (by decide +kernel) rfl, lw_good_t (i := 36) (by decide +kernel) rfl, lw_good_t (i := 3) (by decide +kernel) rfl⟩
theorem nl10_18 : NLk RX10 18 0 3 := ⟨RX0, TX0, rfl, inG0, tyX0_ok, by decide, lw_good_t (i := 128) (by decide +kernel) rfl, lw_good_t (i := 129) (by decide +kernel) rfl, lw_good_t (i := 4) (by decide +kernel) rfl⟩
theorem nl10_25 : NLk RX10 25 7 8 := ⟨RX7, TX7, rfl, inG7, tyX7_ok, by decide, lw_good_t (i := 148) (by decide +kernel) rfl, lw_good_t (i := 149) (by decide +kernel) rfl, lw_good_t (i := 5) (by decide +kernel) rfl⟩
theorem nl10_9 : NLk RX10 9 5 17 := ⟨RX5, TX5, rfl, inG5, tyX5_ok, by decide, lw_good_t (i := 35) (by decide +kernel) rfl, lw_good_t (i := 36) (by decide +kernel) rfl, lw_good_t (i := 3) (by decide +kernel) rfl⟩
theorem nl11_29 : NLk RX11 29 6 8 := ⟨RX6, TX6, rfl, inG6, tyX6_ok, by decide, lw_good_t (i := 204) (by decide +kernel) rfl, lw_good_t (i := 253) (by decide +kernel) rfl, lw_good_t (i := 8) (by decide +kernel) rfl⟩
theorem nl11_35 : NLk RX11 35 4 10 := ⟨RX4, TX4, rfl, inG4, tyX4_ok, by decide, lw_good_t (i := 206) (by decide +kernel) rfl, lw_good_t (i := 207) (by decide +kernel) rfl, lw_good_t (i := 6) (by decide +kernel) rfl⟩
theorem nl11_42 : NLk RX11 42 2 3 := ⟨RX2, TX2, rfl, inG2, tyX2_ok, by decide, lw_good_t (i := 246) (by decide +kernel) rfl, lw_good_t (i := 247) (by decide +kernel) rfl, lw_good_t (i := 7) (by decide +kernel) rfl⟩
theorem nl11_49 : NLk RX11 49 1 3 := ⟨RX1, TX1, rfl, inG1, tyX1_ok, by decide, lw_good_t (i := 307) (by decide +kernel) rfl, lw_good_t (i := 308) (by decide +kernel) rfl, lw_good_t (i := 9) (by decide +kernel) rfl⟩
theorem nl11_58 : NLk RX11 58 9 4 := ⟨RX9, TX9, rfl, inG9, tyX9_ok, by decide, lw_good_t (i := 323) (by decide +kernel) rfl, lw_good_t (i := 324) (by decide +kernel) rfl, lw_good_t (i := 10) (by decide +kernel) rfl⟩
theorem nl11_65 : NLk RX11 65 3 8 := ⟨RX3, TX3, rfl, inG3, tyX3_ok, by decide, lw_good_t (i := 346) (by decide +kernel) rfl, lw_good_t (i := 347) (by decide +kernel) rfl, lw_good_t (i := 11) (by decide +kernel) rfl⟩
theorem nl11_72 : NLk RX11 72 8 4 := ⟨RX8, TX8, rfl, inG8, tyX8_ok, by decide, lw_good_t (i := 379) (by decide +kernel) rfl, lw_good_t (i := 380) (by decide +kernel) rfl, lw_good_t (i := 12) (by decide +kernel) rfl⟩
theorem nl11_79 : NLk RX11 79 5 17 := ⟨RX5, TX5, rfl, inG5, tyX5_ok, by decide, lw_good_t (i := 400) (by decide +kernel) rfl, lw_good_t (i := 36) (by decide +kernel) rfl, lw_good_t (i := 3) (by decide +kernel) rfl⟩
theorem nl11_9 : NLk RX11 9 10 5 := ⟨RX10, TX10, rfl, inG10, tyX10_ok, by decide, lw_good_t (i := 29) (by decide +kernel) rfl, lw_good_t (i := 30) (by decide +kernel) rfl, lw_good_t (i := 2) (by decide +kernel) rfl⟩
theorem nl2_9 : NLk RX2 9 6 8 := ⟨RX6, TX6, rfl, inG6, tyX6_ok, by decide, lw_good_t (i := 252) (by decide +kernel) rfl, lw_good_t (i := 253) (by decide +kernel) rfl, lw_good_t (i := 8) (by decide +kernel) rfl⟩
theorem nlL_10 : NLk RL 10 12 43 := ⟨RX12, TX12, rfl, inG12, tyX12_ok, by decide, lw_good_t (i := 1037) (by decide +kernel) rfl, lw_good_t (i := 1038) (by decide +kernel) rfl, lw_good_t (i := 13) (by decide +kernel) rfl⟩
theorem nlL_7 : NLk RL 7 11 12 := ⟨RX11, TX11, rfl, inG11, tyX11_ok, by decide, lw_good_t (i := 21) (by decide +kernel) rfl, lw_good_t (i := 22) (by decide +kernel) rfl, lw_good_t (i := 1) (by decide +kernel) rfl⟩
theorem ob0_3 : Cond.methodLink RX0 3 Lib.objectInit ∈ lw_good ∧ Cond.instanceMethod Lib.objectInit ∈ lw_good ∧ Cond.code Lib.objectInit ⟨#[0xb1]⟩ 1 none ∈ lw_good := ⟨lw_good_t (i := 133) (by decide +kernel) rfl, lw_good_t (i := 27) (by decide +kernel) rfl, lw_good_t (i := 28) (by decide +kernel) rfl⟩
theorem ob1_3 : Cond.methodLink RX1 3 Lib.objectInit ∈ lw_good ∧ Cond.instanceMethod Lib.objectInit ∈ lw_good ∧ Cond.code Lib.objectInit ⟨#[0xb1]⟩ 1 none ∈ lw_good := ⟨lw_good_t (i := 312) (by decide +kernel) rfl, lw_good_t (i := 27) (by decide +kernel) rfl, lw_good_t (i := 28) (by decide +kernel) rfl⟩
theorem ob10_3 : Cond.methodLink RX10 3 Lib.objectInit ∈ lw_good ∧ Cond.instanceMethod Lib.objectInit ∈ lw_good ∧ Cond.code Lib.objectInit ⟨#[0xb1]⟩ 1 none ∈ lw_good := ⟨lw_good_t (i := 34) (by decide +kernel) rfl, lw_good_t (i := 27) (by decide +kernel) rfl, lw_good_t (i := 28) (by decide +kernel) rfl⟩
theorem ob11_3 : Cond.methodLink RX11 3 Lib.objectInit ∈ lw_good ∧ Cond.instanceMethod Lib.objectInit ∈ lw_good ∧ Cond.code Lib.objectInit ⟨#[0xb1]⟩ 1 none ∈ lw_good := ⟨lw_good_t (i := 26) (by decide +kernel) rfl, lw_good_t (i := 27) (by decide +kernel) rfl, lw_good_t (i := 28) (by decide +kernel) rfl⟩
theorem ob12_1 : Cond.methodLink RX12 1 Lib.objectInit ∈ lw_good ∧ Cond.instanceMethod Lib.objectInit ∈ lw_good ∧ Cond.code Lib.objectInit ⟨#[0xb1]⟩ 1 none ∈ lw_good := ⟨lw_good_t (i := 1042) (by decide +kernel) rfl, lw_good_t (i := 27) (by decide +kernel) rfl, lw_good_t (i := 28) (by decide +kernel) rfl⟩
theorem ob2_3 : Cond.methodLink RX2 3 Lib.objectInit ∈ lw_good ∧ Cond.instanceMethod Lib.objectInit ∈ lw_good ∧ Cond.code Lib.objectInit ⟨#[0xb1]⟩ 1 none ∈ lw_good := ⟨lw_good_t (i := 251) (by decide +kernel) rfl, lw_good_t (i := 27) (by decide +kernel) rfl, lw_good_t (i := 28) (by decide +kernel) rfl⟩
theorem ob3_3 : Cond.methodLink RX3 3 Lib.objectInit ∈ lw_good ∧ Cond.instanceMethod Lib.objectInit ∈ lw_good ∧ Cond.code Lib.objectInit ⟨#[0xb1]⟩ 1 none ∈ lw_good := ⟨lw_good_t (i := 351) (by decide +kernel) rfl, lw_good_t (i := 27) (by decide +kernel) rfl, lw_good_t (i := 28) (by decide +kernel) rfl⟩
theorem ob4_3 : Cond.methodLink RX4 3 Lib.objectInit ∈ lw_good ∧ Cond.instanceMethod Lib.objectInit ∈ lw_good ∧ Cond.code Lib.objectInit ⟨#[0xb1]⟩ 1 none ∈ lw_good := ⟨lw_good_t (i := 211) (by decide +kernel) rfl, lw_good_t (i := 27) (by decide +kernel) rfl, lw_good_t (i := 28) (by decide +kernel) rfl⟩
theorem ob5_3 : Cond.methodLink RX5 3 Lib.objectInit ∈ lw_good ∧ Cond.instanceMethod Lib.objectInit ∈ lw_good ∧ Cond.code Lib.objectInit ⟨#[0xb1]⟩ 1 none ∈ lw_good := ⟨lw_good_t (i := 40) (by decide +kernel) rfl, lw_good_t (i := 27) (by decide +kernel) rfl, lw_good_t (i := 28) (by decide +kernel) rfl⟩
theorem ob6_3 : Cond.methodLink RX6 3 Lib.objectInit ∈ lw_good ∧ Cond.instanceMethod Lib.objectInit ∈ lw_good ∧ Cond.code Lib.objectInit ⟨#[0xb1]⟩ 1 none ∈ lw_good := ⟨lw_good_t (i := 257) (by decide +kernel) rfl, lw_good_t (i := 27) (by decide +kernel) rfl, lw_good_t (i := 28) (by decide +kernel) rfl⟩
theorem ob7_3 : Cond.methodLink RX7 3 Lib.objectInit ∈ lw_good ∧ Cond.instanceMethod Lib.objectInit ∈ lw_good ∧ Cond.code Lib.objectInit ⟨#[0xb1]⟩ 1 none ∈ lw_good := ⟨lw_good_t (i := 153) (by decide +kernel) rfl, lw_good_t (i := 27) (by decide +kernel) rfl, lw_good_t (i := 28) (by decide +kernel) rfl⟩
theorem ob8_3 : Cond.methodLink RX8 3 Lib.objectInit ∈ lw_good ∧ Cond.instanceMethod Lib.objectInit ∈ lw_good ∧ Cond.code Lib.objectInit ⟨#[0xb1]⟩ 1 none ∈ lw_good := ⟨lw_good_t (i := 384) (by decide +kernel) rfl, lw_good_t (i := 27) (by decide +kernel) rfl, lw_good_t (i := 28) (by decide +kernel) rfl⟩
theorem ob9_3 : Cond.methodLink RX9 3 Lib.objectInit ∈ lw_good ∧ Cond.instanceMethod Lib.objectInit ∈ lw_good ∧ Cond.code Lib.objectInit ⟨#[0xb1]⟩ 1 none ∈ lw_good := ⟨lw_good_t (i := 328) (by decide +kernel) rfl, lw_good_t (i := 27) (by decide +kernel) rfl, lw_good_t (i := 28) (by decide +kernel) rfl⟩
