set_option linter.unusedVariables false
set_option linter.unusedSimpArgs false
/-! ===== what the Statement gives of the start: the classes, the rows of numbers and the strings that stand there ===== -/
def gvL : List Cond := flatC (Jvm.Cond.and given_1 narrow_1)
theorem tbl_t {w : Cond} {i : Nat} (h : tables_1[i]? = some w) : w ∈ lw_tbl := List.mem_append_right _ (List.mem_of_getElem? h)
theorem good_tbl {w : Cond} (h : w ∈ lw_good) : w ∈ lw_tbl := (List.mem_filter.mp h).1
theorem va_Xof {args : Array Value} {s : State} {C n : String} {N : Nat} {f : Nat → Int32} {A : Nat → Prop} (hN : N < 2 ^ 31) (hl : (Cond.laysStatic C n "[I").before args s = true) (hini : (Cond.initialized C).before args s = true) (harr : (Cond.arrayOf (.static C n "[I") .int).before args s = true) (hlen : (Cond.eq (.length (.static C n "[I")) (.int (Int32.ofNat N))).before args s = true)
    (hel : ∀ j : Nat, j < N → (Cond.eq (.elem (.static C n "[I") (.int (Int32.ofNat j))) (.int (f j))).before args s = true) (hA : ∀ a : Nat, a < s.heap.size → ¬ A a) : ∃ t : Nat, va_Z C n "[I" (.ref t) A s s.heap ∧ va_X t N f s s.heap ∧ t < s.heap.size ∧ ¬ A t := by
  obtain ⟨t, ht, cell, h1, h2, h3, h4, h5, h6, h7⟩ := va_Tof (f := fun j => .int (f j)) (A := A) hN harr (va_eqt hlen) (fun j hj => va_eqt (hel j hj)) hA
  obtain ⟨a, cell', k1, k2, k3, k4⟩ := Jvm.Lib.length_spec (va_eqt hlen)
  cases ht.symm.trans k1
  have hc := (State.arrayAt?_spec k2).1
  cases h1.symm.trans hc
  have e : Int32.ofNat N = Int32.ofNat cell.slots.size := Value.int.inj k4
  have le1 : N ≤ cell.slots.size := (Int32.ofNat_le_ofNat hN k3).mp (by rw [e]; exact Int32.le_refl _)
  have le2 : cell.slots.size ≤ N := (Int32.ofNat_le_ofNat k3 hN).mp (by rw [e]; exact Int32.le_refl _)
  exact ⟨t, va_Zof hl hini ht hA, ⟨cell, h1, h2, h3, by omega, h6⟩, (Array.getElem?_eq_some_iff.mp h1).1, h7⟩
section Start
variable {s : State} {b L : Nat} {xs : Nat → Int32}
theorem start_K {args : Array Value} (hts : ∀ w ∈ lw_tbl, w.before args s = true) : ∃ (D : va_G) (tys : List (ClassId × FieldType)), va_K D vwCl tys s ∧ ∀ t : Nat, t < 7 → ∃ cA : ClassId, tys[t]? = some (cA, aTy (t + 20)) := by
  have kn : ∀ k : Nat, ∃ q : ClassId × (Nat → Nat), ∀ r : vw_C, vwCl[k]? = some r → u_Kn s r.1 r.2.1 r.2.2 q.1 q.2 := by
    intro k
    by_cases hk : k < 13
    · have go : ∀ {C : String} {T : u_T} {N n : Nat}, vwCl[k]? = some (C, T, N) → (∀ w ∈ u_ws C T N, w ∈ lw_good) → Cond.instantiable C n ∈ lw_good → ∃ q : ClassId × (Nat → Nat), ∀ r : vw_C, vwCl[k]? = some r → u_Kn s r.1 r.2.1 r.2.2 q.1 q.2 := by
        intro C T N n h1 h2 h3
        obtain ⟨cC, iS, h⟩ := u_known (n := n) hts (fun w hw => good_tbl (h2 w hw)) (hts _ (good_tbl h3))
        refine ⟨(cC, iS), fun r hr => ?_⟩
        cases h1.symm.trans hr
        exact h
      match k, hk with
      | 0, _ => exact go (C := RX0) (T := TX0) (N := 3) (n := 3) rfl inG0 (lw_good_t (i := 129) (by decide +kernel) rfl)
      | 1, _ => exact go (C := RX1) (T := TX1) (N := 3) (n := 3) rfl inG1 (lw_good_t (i := 308) (by decide +kernel) rfl)
      | 2, _ => exact go (C := RX2) (T := TX2) (N := 3) (n := 3) rfl inG2 (lw_good_t (i := 247) (by decide +kernel) rfl)
      | 3, _ => exact go (C := RX3) (T := TX3) (N := 8) (n := 8) rfl inG3 (lw_good_t (i := 347) (by decide +kernel) rfl)
      | 4, _ => exact go (C := RX4) (T := TX4) (N := 10) (n := 10) rfl inG4 (lw_good_t (i := 207) (by decide +kernel) rfl)
      | 5, _ => exact go (C := RX5) (T := TX5) (N := 17) (n := 17) rfl inG5 (lw_good_t (i := 36) (by decide +kernel) rfl)
      | 6, _ => exact go (C := RX6) (T := TX6) (N := 8) (n := 8) rfl inG6 (lw_good_t (i := 253) (by decide +kernel) rfl)
      | 7, _ => exact go (C := RX7) (T := TX7) (N := 8) (n := 8) rfl inG7 (lw_good_t (i := 149) (by decide +kernel) rfl)
      | 8, _ => exact go (C := RX8) (T := TX8) (N := 4) (n := 4) rfl inG8 (lw_good_t (i := 380) (by decide +kernel) rfl)
      | 9, _ => exact go (C := RX9) (T := TX9) (N := 4) (n := 4) rfl inG9 (lw_good_t (i := 324) (by decide +kernel) rfl)
      | 10, _ => exact go (C := RX10) (T := TX10) (N := 5) (n := 5) rfl inG10 (lw_good_t (i := 30) (by decide +kernel) rfl)
      | 11, _ => exact go (C := RX11) (T := TX11) (N := 12) (n := 12) rfl inG11 (lw_good_t (i := 22) (by decide +kernel) rfl)
      | 12, _ => exact go (C := RX12) (T := TX12) (N := 43) (n := 43) rfl inG12 (lw_good_t (i := 1038) (by decide +kernel) rfl)
      | n + 13, h => exact absurd h (by omega)
    · refine ⟨(0, fun _ => 0), fun r hr => ?_⟩
      have : vwCl[k]? = none := List.getElem?_eq_none (by show 13 ≤ k; omega)
      rw [this] at hr
      cases hr
  obtain ⟨f, hf⟩ := Classical.axiomOfChoice kn
  have cls : ∀ {ty : FieldType}, Cond.arrayClass ty ∈ lw_tbl → ∃ c : ClassId, ArrOfT s c ty ∧ s.vm.findClass ("[" ++ ty.toString) = some c := by
    intro ty h
    obtain ⟨c, k, comp, f1, f2, f3⟩ := Cond.arrayClass_spec (hts _ h)
    exact ⟨c, fun n z => ⟨(fun k h => by cases h), k, f2, comp, f3⟩, f1⟩
  have ovr : ∀ {C : String}, Cond.arrayOver (.object C) ∈ lw_tbl → ∃ c : ClassId, ArrOfT s c (.object C) ∧ va_RA s c (.object C) := by
    intro C h
    obtain ⟨comp, c, k, h1, h2, h3, h4, h5⟩ := Cond.arrayOver_spec (hts _ h)
    exact ⟨c, fun n z => ⟨(fun k h => by cases h), k, h3, comp, h4⟩, k, comp, h3, h4, h1, h5⟩
  obtain ⟨c0, a0, r0⟩ := cls (ty := .int) (tbl_t (i := 127) (by decide +kernel))
  obtain ⟨c1, a1, r1⟩ := cls (ty := .boolean) (tbl_t (i := 1177) (by decide +kernel))
  obtain ⟨c2, a2, r2⟩ := cls (ty := .byte) (tbl_t (i := 625) (by decide +kernel))
  obtain ⟨c3, a3, r3⟩ := cls (ty := .long) (tbl_t (i := 1176) (by decide +kernel))
  obtain ⟨c4, a4, r4⟩ := ovr (C := "SeaWithStairs$Sea") (tbl_t (i := 135) (by decide +kernel))
  obtain ⟨c5, a5, r5⟩ := ovr (C := "SeaWithStairs$Text") (tbl_t (i := 205) (by decide +kernel))
  obtain ⟨comp, c6, k6, h1, h3, h4, h5⟩ := Cond.arrayOver_specA (t := .int) (hts _ (tbl_t (i := 330) (by decide +kernel)))
  refine ⟨(fun k => (f k).1, fun k => (f k).2), [(c0, .int), (c1, .boolean), (c2, .byte), (c3, .long), (c4, .object "SeaWithStairs$Sea"), (c5, .object "SeaWithStairs$Text"), (c6, .array .int)], ⟨fun c q hq => hf c q hq, fun k q hq => ?_⟩, fun t ht => ?_⟩
  · match k, hq with
    | 0, hq => cases hq; exact ⟨a0, r0⟩
    | 1, hq => cases hq; exact ⟨a1, r1⟩
    | 2, hq => cases hq; exact ⟨a2, r2⟩
    | 3, hq => cases hq; exact ⟨a3, r3⟩
    | 4, hq => cases hq; exact ⟨a4, r4⟩
    | 5, hq => cases hq; exact ⟨a5, r5⟩
    | 6, hq => cases hq; exact ⟨fun n z => ⟨(fun k h => by cases h), k6, h3, comp, h4⟩, h5⟩
    | n + 7, hq => cases hq
  · match t, ht with
    | 0, _ => exact ⟨c0, rfl⟩
    | 1, _ => exact ⟨c1, rfl⟩
    | 2, _ => exact ⟨c2, rfl⟩
    | 3, _ => exact ⟨c3, rfl⟩
    | 4, _ => exact ⟨c4, rfl⟩
    | 5, _ => exact ⟨c5, rfl⟩
    | 6, _ => exact ⟨c6, rfl⟩
    | n + 7, h => exact absurd h (by omega)
def tmS (i : Nat) : Term := if i = 0 then .string RX4 162 else .string RX4 151
def bytS : List (List Int32) := [strL0.map Int32.ofInt, strL1.map Int32.ofInt]
theorem gv_from : gvL[10]? = some (Cond.arrayOf (.static "SeaWithStairs" "FORM_FROM" "[I") .int) ∧ gvL[11]? = some (Cond.eq (.length (.static "SeaWithStairs" "FORM_FROM" "[I")) (.int (Int32.ofNat 8))) ∧ ∀ j : Fin 8, gvL[12 + j.val]? = some (Cond.eq (.elem (.static "SeaWithStairs" "FORM_FROM" "[I") (.int (Int32.ofNat j.val))) (.int (Int32.ofInt (([0, 4, 7, 8, 10, 12, 13, 15] : List Int).getD j.val 0)))) := by decide +kernel
theorem gv_word : gvL[21]? = some (Cond.arrayOf (.static "SeaWithStairs" "FORM_WORD" "[I") .int) ∧ gvL[22]? = some (Cond.eq (.length (.static "SeaWithStairs" "FORM_WORD" "[I")) (.int (Int32.ofNat 15))) ∧ ∀ j : Fin 15, gvL[23 + j.val]? = some (Cond.eq (.elem (.static "SeaWithStairs" "FORM_WORD" "[I") (.int (Int32.ofNat j.val))) (.int (Int32.ofInt (([0, 140, 141, 142, 0, 143, 144, 0, 0, 145, 0, 144, 0, 0, 144] : List Int).getD j.val 0)))) := by decide +kernel
theorem gv_least : gvL[39]? = some (Cond.arrayOf (.static "SeaWithStairs" "FORM_LEAST" "[I") .int) ∧ gvL[40]? = some (Cond.eq (.length (.static "SeaWithStairs" "FORM_LEAST" "[I")) (.int (Int32.ofNat 15))) ∧ ∀ j : Fin 15, gvL[41 + j.val]? = some (Cond.eq (.elem (.static "SeaWithStairs" "FORM_LEAST" "[I") (.int (Int32.ofNat j.val))) (.int (Int32.ofInt (([1, 0, 0, 0, 1, 0, 0, 1, 0, 1, 0, 0, 0, 0, 0] : List Int).getD j.val 0)))) := by decide +kernel
theorem gv_most : gvL[57]? = some (Cond.arrayOf (.static "SeaWithStairs" "FORM_MOST" "[I") .int) ∧ gvL[58]? = some (Cond.eq (.length (.static "SeaWithStairs" "FORM_MOST" "[I")) (.int (Int32.ofNat 15))) ∧ ∀ j : Fin 15, gvL[59 + j.val]? = some (Cond.eq (.elem (.static "SeaWithStairs" "FORM_MOST" "[I") (.int (Int32.ofNat j.val))) (.int (Int32.ofInt (([99, 99, 999, 999, 99, 8, 8, 60, 8, 999, 8, 99, 8, 6, 8] : List Int).getD j.val 0)))) := by decide +kernel
theorem gv_str : ∀ i : Fin 2, gvL[100 + 142 * i.val]? = some (Cond.exactly (tmS i.val) "java/lang/String") ∧ gvL[101 + 142 * i.val]? = some (Cond.eq (.field (tmS i.val) "java/lang/String" "coder" "B") (.int 0)) ∧ gvL[102 + 142 * i.val]? = some (Cond.arrayOf (.field (tmS i.val) "java/lang/String" "value" "[B") .byte) ∧ gvL[103 + 142 * i.val]? = some (Cond.eq (.length (.field (tmS i.val) "java/lang/String" "value" "[B")) (.int (Int32.ofNat (([138, 12] : List Nat).getD i.val 0)))) := by decide +kernel
theorem gv_b0 : ∀ j : Fin 138, gvL[104 + j.val]? = some (Cond.eq (.elem (.field (tmS 0) "java/lang/String" "value" "[B") (.int (Int32.ofNat j.val))) (.int ((bytS.getD 0 []).getD j.val 0))) := by decide +kernel
theorem gv_b1 : ∀ j : Fin 12, gvL[246 + j.val]? = some (Cond.eq (.elem (.field (tmS 1) "java/lang/String" "value" "[B") (.int (Int32.ofNat j.val))) (.int ((bytS.getD 1 []).getD j.val 0))) := by decide +kernel
theorem gv_ne : gvL[258]? = some (Cond.not (Cond.eq (tmS 0) (tmS 1))) := by decide +kernel
theorem gv_cs : gvL[4]? = some (Cond.eq (.static "java/lang/String" "COMPACT_STRINGS" "Z") (.int 1)) ∧ gvL[5]? = some (Cond.isRef (.static "jdk/internal/util/Preconditions" "SIOOBE_FORMATTER" "Ljava/util/function/BiFunction;")) := by decide +kernel
theorem i32_nat (x : Int32) : Int32.ofNat x.toBitVec.toNat = x := by
  apply Int32.toBitVec_inj.mp
  apply BitVec.eq_of_toNat_eq
  show (BitVec.ofNat 32 x.toBitVec.toNat).toNat = _
  rw [BitVec.toNat_ofNat]
  exact Nat.mod_eq_of_lt x.toBitVec.isLt
theorem start_Sta {args : Array Value} (hL : L ≤ 3072) (hts : ∀ w ∈ lw_tbl, w.before args s = true) (hgv : (Jvm.Cond.and given_1 narrow_1).before args s = true) (hX : va_X b L xs s s.heap) (hbl : b < s.heap.size) :
    ∃ P : Nat → Nat, P 8 = b ∧ P 9 = L ∧ (∀ j, Int32.ofNat (P (10 + j)) = xs j) ∧ ∀ (l : Launch) (D : va_G) (tys : List (ClassId × FieldType)), Sta (l, D, tys, (fun q => s.heap.size ≤ q), P) s := by
  have hs : ∀ (i : Nat) (w : Cond), gvL[i]? = some w → w.before args s = true := fun i w h => flat_of_before _ hgv w (List.mem_of_getElem? h)
  have hA : ∀ a : Nat, a < s.heap.size → ¬ (fun q : Nat => s.heap.size ≤ q) a := fun a h => Nat.not_le.mpr h
  have ini0 := hts _ (tbl_t (i := 1) (w := .initialized "SeaWithStairs") (by decide +kernel))
  obtain ⟨t0, z0, x0, l0, m0⟩ := va_Xof (A := fun q => s.heap.size ≤ q) (N := 8) (f := fun j => Int32.ofInt (([0, 4, 7, 8, 10, 12, 13, 15] : List Int).getD j 0)) (by decide) (hts _ (tbl_t (i := 579) (by decide +kernel))) ini0 (hs _ _ gv_from.1) (hs _ _ gv_from.2.1) (fun j hj => hs _ _ (gv_from.2.2 ⟨j, hj⟩)) hA
  obtain ⟨t1, z1, x1, l1, m1⟩ := va_Xof (A := fun q => s.heap.size ≤ q) (N := 15) (f := fun j => Int32.ofInt (([0, 140, 141, 142, 0, 143, 144, 0, 0, 145, 0, 144, 0, 0, 144] : List Int).getD j 0)) (by decide) (hts _ (tbl_t (i := 581) (by decide +kernel))) ini0 (hs _ _ gv_word.1) (hs _ _ gv_word.2.1) (fun j hj => hs _ _ (gv_word.2.2 ⟨j, hj⟩)) hA
  obtain ⟨t2, z2, x2, l2, m2⟩ := va_Xof (A := fun q => s.heap.size ≤ q) (N := 15) (f := fun j => Int32.ofInt (([1, 0, 0, 0, 1, 0, 0, 1, 0, 1, 0, 0, 0, 0, 0] : List Int).getD j 0)) (by decide) (hts _ (tbl_t (i := 583) (by decide +kernel))) ini0 (hs _ _ gv_least.1) (hs _ _ gv_least.2.1) (fun j hj => hs _ _ (gv_least.2.2 ⟨j, hj⟩)) hA
  obtain ⟨t3, z3, x3, l3, m3⟩ := va_Xof (A := fun q => s.heap.size ≤ q) (N := 15) (f := fun j => Int32.ofInt (([99, 99, 999, 999, 99, 8, 8, 60, 8, 999, 8, 99, 8, 6, 8] : List Int).getD j 0)) (by decide) (hts _ (tbl_t (i := 585) (by decide +kernel))) ini0 (hs _ _ gv_most.1) (hs _ _ gv_most.2.1) (fun j hj => hs _ _ (gv_most.2.2 ⟨j, hj⟩)) hA
  obtain ⟨adK, adV, hS, hev⟩ := vk_Sof (args := args) (s := s) (N := 2) (tm := tmS) (len := [138, 12]) (byt := bytS) (A := fun q => s.heap.size ≤ q) (fun i hi => by rcases (show i = 0 ∨ i = 1 by omega) with rfl | rfl <;> decide) (fun i hi => hs _ _ (gv_str ⟨i, hi⟩).1) (fun i hi => hs _ _ (gv_str ⟨i, hi⟩).2.1) (fun i hi => hs _ _ (gv_str ⟨i, hi⟩).2.2.1) (fun i hi => hs _ _ (gv_str ⟨i, hi⟩).2.2.2)
    (fun i hi j hj => by
      rcases (show i = 0 ∨ i = 1 by omega) with rfl | rfl
      · exact hs _ _ (gv_b0 ⟨j, hj⟩)
      · exact hs _ _ (gv_b1 ⟨j, hj⟩))
    (fun i j hi hj hij => by
      rcases (show i = 0 ∨ i = 1 by omega) with rfl | rfl
      · rcases (show j = 1 by omega) with rfl
        exact Or.inl (hs _ _ gv_ne)
      · rcases (show j = 0 by omega) with rfl
        exact Or.inr (hs _ _ gv_ne)) hA
  have cs := va_Zof (A := fun q => s.heap.size ≤ q) (hts _ (tbl_t (i := 511) (w := .laysStatic "java/lang/String" "COMPACT_STRINGS" "Z") (by decide +kernel))) (hts _ (tbl_t (i := 14) (by decide +kernel))) (va_eqi (hs _ _ gv_cs.1)) hA
  have sq := va_Zqof (A := fun q => s.heap.size ≤ q) (hts _ (tbl_t (i := 527) (w := .laysStatic "jdk/internal/util/Preconditions" "SIOOBE_FORMATTER" "Ljava/util/function/BiFunction;") (by decide +kernel))) (hts _ (tbl_t (i := 16) (by decide +kernel))) (hs _ _ gv_cs.2) hA
  refine ⟨fun i => if i < 10 then [t0, t1, t2, t3, adK 0, adK 1, adV 0, adV 1, b, L].getD i 0 else (xs (i - 10)).toBitVec.toNat, rfl, rfl, fun j => ?_, fun l D tys => ⟨fun i q hq => ?_, ?_, ?_, ?_, cs, sq, ?_, hbl, hA b hbl, hL, va_AO.of (A := args) (hts _ (tbl_t (i := 135) (by decide +kernel))), va_AO.of (A := args) (hts _ (tbl_t (i := 205) (by decide +kernel))), hts _ (tbl_t (i := 330) (w := Cond.arrayOver (.array .int)) (by decide +kernel))⟩⟩
  · show Int32.ofNat (if 10 + j < 10 then _ else (xs (10 + j - 10)).toBitVec.toNat) = xs j
    rw [if_neg (by omega), show 10 + j - 10 = j by omega]
    exact i32_nat _
  · match i, hq with
    | 0, hq => cases hq; exact ⟨z0, x0, l0, m0⟩
    | 1, hq => cases hq; exact ⟨z1, x1, l1, m1⟩
    | 2, hq => cases hq; exact ⟨z2, x2, l2, m2⟩
    | 3, hq => cases hq; exact ⟨z3, x3, l3, m3⟩
    | n + 4, hq => cases hq
  · refine ⟨fun i hi => ?_, fun i j hi hj e => ?_⟩
    · rcases (show i = 0 ∨ i = 1 by omega) with rfl | rfl
      · exact hS.1 0 (by decide)
      · exact hS.1 1 (by decide)
    · rcases (show i = 0 ∨ i = 1 by omega) with rfl | rfl <;> rcases (show j = 0 ∨ j = 1 by omega) with rfl | rfl
      · rfl
      · exact hS.2 0 1 hi hj e
      · exact hS.2 1 0 hi hj e
      · rfl
  · exact vk_R.of (A := args) (hts _ (tbl_t (i := 501) (by decide +kernel))) (hev 0 (by decide))
  · exact vk_R.of (A := args) (hts _ (tbl_t (i := 560) (by decide +kernel))) (hev 1 (by decide))
  · show va_X b L (fun j => Int32.ofNat (if 10 + j < 10 then _ else (xs (10 + j - 10)).toBitVec.toNat)) s s.heap
    have e : (fun j => Int32.ofNat (if 10 + j < 10 then [t0, t1, t2, t3, adK 0, adK 1, adV 0, adV 1, b, L].getD (10 + j) 0 else (xs (10 + j - 10)).toBitVec.toNat)) = xs := by
      funext j
      rw [if_neg (by omega), show 10 + j - 10 = j by omega]
      exact i32_nat _
    rw [e]
    exact hX
end Start
