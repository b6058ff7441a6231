/-! ===== Math.min, Math.max, System.arraycopy over Ev ===== -/
def cpM (M : Mem) (x0 sp x1 dp n : Int) : Mem := fun y j => if y = x1 ∧ dp ≤ j ∧ j < dp + n then M x0 (sp + (j - dp)) else M y j
def cpS (σ : Sg) (x0 sp x1 dp n : Int) : Sg := (σ.1, σ.2.1, σ.2.2.1, cpM σ.2.2.2 x0 sp x1 dp n)
section EvL9
variable {g : Gm} {d : Nat} {T : Mt} {pc : Nat} {il il' : List (Nat × Vv)} {st : List Vv} {σ σ' : Sg} {b : Nat × Nat} {r : Vv}
theorem ev_min {own : String} {idx : Nat} {a c : Int} (ho : T.1.cls = own) (hL : minOK own idx) (hst : sCat st ≤ 8) (hdd : 1 ≤ d) (hd : decode T.2.1 pc = .ok (.invokestatic idx, 3)) (h : Ev g d T (pc + 3) il (vI (min a c) :: st) σ b r σ') : Ev g d T pc il (vI c :: vI a :: st) σ b r σ' := by
  intro p e R s m args below meth cc mc ms C H locs cells slots ls vst ws Q hl hs0 hw' hP hD hS k1 k2 hF
  obtain ⟨hx1, hbd, -, hml, hown, -, -, hts, hnw, hK, hSt, hty, hA, hR1, hR2, hR3, hR4⟩ := id C
  obtain ⟨w2, vs1, rfl, hw2, hs1⟩ := hs0.consI
  obtain ⟨w1, vs, rfl, hw1, hs⟩ := hs1.consI
  have hgood : ∀ w ∈ lw_good, w.before args s = true := fun w hw => hts w (List.mem_cons_of_mem _ hw)
  refine va_mmin hx1 hbd (hml.trans hl.1.symm) (by rw [← ho]; exact hown) (hgood _ hL.1) (hgood _ hL.2.1) (hgood _ hL.2.2.1) (hgood _ hL.2.2.2) (by omega) (by rw [hs.cat]; omega) (by omega) (by omega) hd (h p e R s m args below meth cc mc ms C H locs cells slots ls _ ws Q hl ⟨rpI ?_, hs⟩ hw' hP hD hS k1 k2 hF)
  split
  · rename_i hq
    have := Int32.lt_iff_toInt_lt.mp hq
    omega
  · rename_i hq
    have : ¬ w2.toInt < w1.toInt := fun z => hq (Int32.lt_iff_toInt_lt.mpr z)
    omega
theorem ev_max {own : String} {idx : Nat} {a c : Int} (ho : T.1.cls = own) (hL : maxOK own idx) (hst : sCat st ≤ 8) (hdd : 1 ≤ d) (hd : decode T.2.1 pc = .ok (.invokestatic idx, 3)) (h : Ev g d T (pc + 3) il (vI (max a c) :: st) σ b r σ') : Ev g d T pc il (vI c :: vI a :: st) σ b r σ' := by
  intro p e R s m args below meth cc mc ms C H locs cells slots ls vst ws Q hl hs0 hw' hP hD hS k1 k2 hF
  obtain ⟨hx1, hbd, -, hml, hown, -, -, hts, hnw, hK, hSt, hty, hA, hR1, hR2, hR3, hR4⟩ := id C
  obtain ⟨w2, vs1, rfl, hw2, hs1⟩ := hs0.consI
  obtain ⟨w1, vs, rfl, hw1, hs⟩ := hs1.consI
  have hgood : ∀ w ∈ lw_good, w.before args s = true := fun w hw => hts w (List.mem_cons_of_mem _ hw)
  refine va_mmax hx1 hbd (hml.trans hl.1.symm) (by rw [← ho]; exact hown) (hgood _ hL.1) (hgood _ hL.2.1) (hgood _ hL.2.2.1) (hgood _ hL.2.2.2) (by omega) (by rw [hs.cat]; omega) (by omega) (by omega) hd (h p e R s m args below meth cc mc ms C H locs cells slots ls _ ws Q hl ⟨rpI ?_, hs⟩ hw' hP hD hS k1 k2 hF)
  split
  · rename_i hq
    first
    | (have := Int32.lt_iff_toInt_lt.mp hq; omega)
    | (have := Int32.le_iff_toInt_le.mp hq; omega)
  · rename_i hq
    first
    | (have : ¬ w2.toInt < w1.toInt := fun z => hq (Int32.lt_iff_toInt_lt.mpr z); omega)
    | (have : ¬ w1.toInt < w2.toInt := fun z => hq (Int32.lt_iff_toInt_lt.mpr z); omega)
    | (have : ¬ w2.toInt ≤ w1.toInt := fun z => hq (Int32.le_iff_toInt_le.mpr z); omega)
    | (have : ¬ w1.toInt ≤ w2.toInt := fun z => hq (Int32.le_iff_toInt_le.mpr z); omega)
theorem cpy_words : nativeFrameWords "java/lang/System" "arraycopy" 5 ≤ 20 := by decide +kernel
theorem ev_copy {own : String} {idx n0 n1 : Nat} {x0 sp x1 dp n : Int} {σ1 : Sg} (ho : T.1.cls = own) (hL : cpyOK own idx) (hst : sCat st ≤ 8) (hdd : 1 ≤ d) (hk0 : σ.2.1 x0 = (20, n0)) (hk1 : σ.2.1 x1 = (20, n1)) (hx0 : x0 ≠ 0) (hx1 : x1 ≠ 0) (h1 : 0 ≤ sp) (h2 : 0 ≤ dp) (h3 : 0 ≤ n) (h4 : sp + n ≤ n0) (h5 : dp + n ≤ n1)
    (hd : decode T.2.1 pc = .ok (.invokestatic idx, 3)) (h9 : cpS σ x0 sp x1 dp n = σ1) (h : Ev g d T (pc + 3) il st σ1 b r σ') : Ev g d T pc il (vI n :: vI dp :: vR x1 :: vI sp :: vR x0 :: st) σ b r σ' := by
  intro p e R s m args below meth cc mc ms C H locs cells slots ls vst ws Q hl hs0 hw' hP hD hS k1 k2 hF
  obtain ⟨hxx, hbd, -, hml, hown, -, -, hts, hnw, hK, hSt, hty, hA, hR1, hR2, hR3, hR4⟩ := id C
  obtain ⟨wn, vs1, rfl, hwn, hs1⟩ := hs0.consI
  obtain ⟨wd, vs2, rfl, hwd, hs2⟩ := hs1.consI
  obtain ⟨v1, vs3, rfl, hv1, hs3⟩ := hs2.consR
  obtain ⟨wsp, vs4, rfl, hwsp, hs4⟩ := hs3.consI
  obtain ⟨v0, vs, rfl, hv0, hs⟩ := hs4.consR
  obtain ⟨p0, a0, e0, rfl, rfl, hp0, hc0⟩ := hw'.cell hv0 hx0
  obtain ⟨p1, a1, e1, rfl, rfl, hp1, hc1⟩ := hw'.cell hv1 hx1
  rw [hk0] at hc0
  rw [hk1] at hc1
  obtain ⟨cA, f, htys, rfl, hf⟩ := CellOK.arrI (Nat.le_refl 20) (by decide) hc0
  obtain ⟨cA1, f1, htys1, rfl, hf1⟩ := CellOK.arrI (Nat.le_refl 20) (by decide) hc1
  have hgood : ∀ w ∈ lw_good, w.before args s = true := fun w hw => hts w (List.mem_cons_of_mem _ hw)
  have j1 := mz_clamp hwsp h1
  have j2 := mz_clamp hwd h2
  have j3 := mz_clamp hwn h3
  have neg : ∀ {w : Int32}, 0 ≤ w.toInt → ¬ w < 0 := fun hw z => by
    have := Int32.lt_iff_toInt_lt.mp z
    have i0 : (0 : Int32).toInt = 0 := rfl
    omega
  have hW2 : WOK g (ws.set p1 (a1, .inl (cA1, n1, .inl (va_cpy f f1 wsp.toNatClampNeg wd.toNatClampNeg wn.toNatClampNeg)))) (cpS σ ((p0 : Int) + 1) sp ((p1 : Int) + 1) dp n) := by
    refine hw'.set hp1 (fun y hy => rfl) (fun y hy => by funext j; unfold cpM; rw [if_neg (fun q => hy q.1)]) ?_
    rw [hk1]
    refine Or.inr (Or.inl ⟨Nat.le_refl 20, (show (20 : Nat) < 23 by decide), cA1, _, htys1, rfl, fun j hj2 => ?_⟩)
    unfold va_cpy cpM
    by_cases hji : wd.toNatClampNeg ≤ j ∧ j < wd.toNatClampNeg + wn.toNatClampNeg
    · rw [if_pos hji, if_pos ⟨rfl, by omega, by omega⟩, hf _ (by omega)]
      have e9 : (((wsp.toNatClampNeg + (j - wd.toNatClampNeg) : Nat)) : Int) = sp + ((j : Int) - dp) := by omega
      rw [e9]
    · rw [if_neg hji, if_neg (fun q => hji ⟨by omega, by omega⟩)]
      exact hf1 j hj2
  rw [h9] at hW2
  have hcw := cpy_words
  exact va_copyi hxx hbd (hml.trans hl.1.symm) (by rw [← ho]; exact hown) (hgood _ hL.1) (hgood _ hL.2.1) (hgood _ hL.2.2.1) (hgood _ hL.2.2.2) hK hP hD hS p0 p1 (20 - 20) (20 - 20) hp0 hp1 htys htys1 rfl (neg (by omega)) (neg (by omega)) (neg (by omega)) (by omega) (by omega) (fun i hi => rfl) (by omega) (by rw [hs.cat]; omega) hd
    (fun H1 locs1 hP1 hD1 hS1 => h p e R s m args below meth cc mc ms C H1 locs1 cells slots ls vs _ Q (hl.ext (wExt.set hp1)) (hs.ext (wExt.set hp1)) hW2 hP1 hD1 hS1 k1 k2 (hF.ext (wExt.set hp1)))
end EvL9
