/-! ===== arrays and statics over Ev ===== -/
section EvA7
variable {g : Gm} {d : Nat} {T : Mt} {pc : Nat} {il il' : List (Nat × Vv)} {st : List Vv} {σ σ' : Sg} {b : Nat × Nat} {r : Vv}
theorem ev_iald {n : Nat} {x i v : Int} (hk : σ.2.1 x = (20, n)) (hx : x ≠ 0) (h0 : 0 ≤ i) (hi : i < n) (hv : σ.2.2.2 x i = v) (hd : decode T.2.1 pc = .ok (.iaload, 1)) (h : Ev g d T (pc + 1) il (vI v :: st) σ b r σ') : Ev g d T pc il (vI i :: vR x :: st) σ b r σ' := by
  intro p e R s m args below meth c mc ms C H locs cells slots ls vst ws Q hl hs0 hw' hP hD hS k1 k2 hF
  obtain ⟨hx1, hb, -, -, -, -, -, -, -, hK, -⟩ := id C
  obtain ⟨w, vs1, rfl, hw, hs1⟩ := hs0.consI
  obtain ⟨v0, vs, rfl, hv0, hs⟩ := hs1.consR
  obtain ⟨k0, a, e0, rfl, rfl, hk0, hc⟩ := hw'.cell hv0 hx
  rw [hk] at hc
  obtain ⟨cA, f, htys, rfl, hf⟩ := CellOK.arrI (Nat.le_refl 20) (by decide) hc
  have hj := mz_clamp hw h0
  have hlt : w.toNatClampNeg < n := by omega
  refine va_iald hx1 hb hK hP k0 (20 - 20) hk0 htys (vp_in_iff.mpr ⟨by omega, by omega⟩) hd (h p e R s m args below meth c mc ms C H locs cells slots ls _ ws Q hl ⟨rpI ?_, hs⟩ hw' hP hD hS k1 k2 hF)
  rw [hf _ hlt, hj, hv]
theorem ev_bald {n : Nat} {x i v : Int} (hk : σ.2.1 x = (21, n)) (hx : x ≠ 0) (h0 : 0 ≤ i) (hi : i < n) (hv : σ.2.2.2 x i = v) (hd : decode T.2.1 pc = .ok (.baload, 1)) (h : Ev g d T (pc + 1) il (vI v :: st) σ b r σ') : Ev g d T pc il (vI i :: vR x :: st) σ b r σ' := by
  intro p e R s m args below meth c mc ms C H locs cells slots ls vst ws Q hl hs0 hw' hP hD hS k1 k2 hF
  obtain ⟨hx1, hb, -, -, -, -, -, -, -, hK, -⟩ := id C
  obtain ⟨w, vs1, rfl, hw, hs1⟩ := hs0.consI
  obtain ⟨v0, vs, rfl, hv0, hs⟩ := hs1.consR
  obtain ⟨k0, a, e0, rfl, rfl, hk0, hc⟩ := hw'.cell hv0 hx
  rw [hk] at hc
  obtain ⟨cA, f, htys, rfl, hf⟩ := CellOK.arrI (by decide) (by decide) hc
  have hj := mz_clamp hw h0
  have hlt : w.toNatClampNeg < n := by omega
  refine va_zald hx1 hb hK hP k0 (21 - 20) hk0 htys (vp_in_iff.mpr ⟨by omega, by omega⟩) hd (h p e R s m args below meth c mc ms C H locs cells slots ls _ ws Q hl ⟨rpI ?_, hs⟩ hw' hP hD hS k1 k2 hF)
  rw [hf _ hlt, hj, hv]
theorem ev_lald {n : Nat} {x i v : Int} (hk : σ.2.1 x = (23, n)) (hx : x ≠ 0) (h0 : 0 ≤ i) (hi : i < n) (hv : σ.2.2.2 x i = v) (hd : decode T.2.1 pc = .ok (.laload, 1)) (h : Ev g d T (pc + 1) il (vL v :: st) σ b r σ') : Ev g d T pc il (vI i :: vR x :: st) σ b r σ' := by
  intro p e R s m args below meth c mc ms C H locs cells slots ls vst ws Q hl hs0 hw' hP hD hS k1 k2 hF
  obtain ⟨hx1, hb, -, -, -, -, -, -, -, hK, -⟩ := id C
  obtain ⟨w, vs1, rfl, hw, hs1⟩ := hs0.consI
  obtain ⟨v0, vs, rfl, hv0, hs⟩ := hs1.consR
  obtain ⟨k0, a, e0, rfl, rfl, hk0, hc⟩ := hw'.cell hv0 hx
  rw [hk] at hc
  obtain ⟨cA, f, htys, rfl, hf⟩ := CellOK.arrL hc
  have hj := mz_clamp hw h0
  have hlt : w.toNatClampNeg < n := by omega
  refine va_lald hx1 hb hK hP k0 3 hk0 htys (vp_in_iff.mpr ⟨by omega, by omega⟩) hd (h p e R s m args below meth c mc ms C H locs cells slots ls _ ws Q hl ⟨rpL ?_, hs⟩ hw' hP hD hS k1 k2 hF)
  rw [hf _ hlt, hj, hv]
theorem ev_aald {t n : Nat} {x i v : Int} (h24 : 24 ≤ t) (hk : σ.2.1 x = (t, n)) (hx : x ≠ 0) (h0 : 0 ≤ i) (hi : i < n) (hv : σ.2.2.1 x i = v) (hd : decode T.2.1 pc = .ok (.aaload, 1)) (h : Ev g d T (pc + 1) il (vR v :: st) σ b r σ') : Ev g d T pc il (vI i :: vR x :: st) σ b r σ' := by
  intro p e R s m args below meth c mc ms C H locs cells slots ls vst ws Q hl hs0 hw' hP hD hS k1 k2 hF
  obtain ⟨hx1, hb, -, -, -, -, -, -, -, hK, -⟩ := id C
  obtain ⟨w, vs1, rfl, hw, hs1⟩ := hs0.consI
  obtain ⟨v0, vs, rfl, hv0, hs⟩ := hs1.consR
  obtain ⟨k0, a, e0, rfl, rfl, hk0, hc⟩ := hw'.cell hv0 hx
  rw [hk] at hc
  obtain ⟨cA, f, htys, rfl, hf⟩ := CellOK.arrR h24 hc
  have hj := mz_clamp hw h0
  have hlt : w.toNatClampNeg < n := by omega
  have hin : vp_in w n := vp_in_iff.mpr ⟨by omega, by omega⟩
  have hrt : (aTy t).isReference = true := by
    unfold aTy
    split <;> first | rfl | omega
  refine W.aald (v := va_rf (f w.toNatClampNeg)) (ty := aTy t) hx1 hb (hP k0 _ hk0) ((hK.2 (t - 20) _ htys).1 n (fun j => va_rf (f j))) hrt (fun q => by cases q) (by show ¬ (w < 0 ∨ (arrV _ _ _).slots.size ≤ _); rw [arrV_size]; exact hin) (by show (arrV _ _ _).slots[_]? = _; rw [arrV_read _ _ hlt]) rfl rfl hd
    (h p e R s m args below meth c mc ms C H locs cells slots ls _ ws Q hl ⟨?_, hs⟩ hw' hP hD hS k1 k2 hF)
  have h9 := hf _ hlt
  rw [hj, hv] at h9
  exact h9
theorem ev_iast {n : Nat} {x i v : Int} {σ1 : Sg} (hk : σ.2.1 x = (20, n)) (hx : x ≠ 0) (h0 : 0 ≤ i) (hi : i < n) (hd : decode T.2.1 pc = .ok (.iastore, 1)) (h1 : setM σ x i v = σ1) (h : Ev g d T (pc + 1) il st σ1 b r σ') : Ev g d T pc il (vI v :: vI i :: vR x :: st) σ b r σ' := by
  intro p e R s m args below meth c mc ms C H locs cells slots ls vst ws Q hl hs0 hw' hP hD hS k1 k2 hF
  obtain ⟨hx1, hb, -, -, -, -, -, -, -, hK, -⟩ := id C
  obtain ⟨w9, vs2, rfl, hw9, hs2⟩ := hs0.consI
  obtain ⟨w, vs1, rfl, hw, hs1⟩ := hs2.consI
  obtain ⟨v0, vs, rfl, hv0, hs⟩ := hs1.consR
  obtain ⟨k0, a, e0, rfl, rfl, hk0, hc⟩ := hw'.cell hv0 hx
  rw [hk] at hc
  obtain ⟨cA, f, htys, rfl, hf⟩ := CellOK.arrI (Nat.le_refl 20) (by decide) hc
  have hj := mz_clamp hw h0
  have hlt : w.toNatClampNeg < n := by omega
  have hW2 : WOK g (ws.set k0 (a, .inl (cA, n, .inl (upd f w.toNatClampNeg w9)))) (setM σ ((k0 : Int) + 1) i v) := by
    refine hw'.set hk0 (fun y hy => rfl) (fun y hy => upM_ne hy) ?_
    rw [hk]
    refine Or.inr (Or.inl ⟨Nat.le_refl 20, (show (20 : Nat) < 23 by decide), cA, _, htys, rfl, fun j hj2 => ?_⟩)
    rw [upM_at]
    unfold upd
    by_cases hji : j = w.toNatClampNeg
    · rw [if_pos hji, if_pos (by rw [hji, hj]), hw9]
    · rw [if_neg hji, if_neg (by omega)]
      exact hf j hj2
  rw [h1] at hW2
  exact va_iast hx1 hb hK hP hD hS k0 (20 - 20) hk0 htys (vp_in_iff.mpr ⟨by omega, by omega⟩) hd (fun H1 locs1 hP1 hD1 hS1 => h p e R s m args below meth c mc ms C H1 locs1 cells slots ls vs _ Q (hl.ext (wExt.set hk0)) (hs.ext (wExt.set hk0)) hW2 hP1 hD1 hS1 k1 k2 (hF.ext (wExt.set hk0)))
theorem ev_bast {n : Nat} {x i v : Int} {σ1 : Sg} (hk : σ.2.1 x = (21, n)) (hx : x ≠ 0) (h0 : 0 ≤ i) (hi : i < n) (hv : v = 0 ∨ v = 1) (hd : decode T.2.1 pc = .ok (.bastore, 1)) (h1 : setM σ x i v = σ1) (h : Ev g d T (pc + 1) il st σ1 b r σ') : Ev g d T pc il (vI v :: vI i :: vR x :: st) σ b r σ' := by
  intro p e R s m args below meth c mc ms C H locs cells slots ls vst ws Q hl hs0 hw' hP hD hS k1 k2 hF
  obtain ⟨hx1, hb, -, -, -, -, -, -, -, hK, -⟩ := id C
  obtain ⟨w9, vs2, rfl, hw9, hs2⟩ := hs0.consI
  obtain ⟨w, vs1, rfl, hw, hs1⟩ := hs2.consI
  obtain ⟨v0, vs, rfl, hv0, hs⟩ := hs1.consR
  obtain ⟨k0, a, e0, rfl, rfl, hk0, hc⟩ := hw'.cell hv0 hx
  rw [hk] at hc
  obtain ⟨cA, f, htys, rfl, hf⟩ := CellOK.arrI (by decide) (by decide) hc
  have hj := mz_clamp hw h0
  have hlt : w.toNatClampNeg < n := by omega
  have hnar : (vp_nar .boolean w9).toInt = v := by
    rcases i32_01 (w := w9) (by rw [hw9]; exact hv) with rfl | rfl
    · rw [← hw9]; rfl
    · rw [← hw9]; rfl
  have hW2 : WOK g (ws.set k0 (a, .inl (cA, n, .inl (upd f w.toNatClampNeg (vp_nar .boolean w9))))) (setM σ ((k0 : Int) + 1) i v) := by
    refine hw'.set hk0 (fun y hy => rfl) (fun y hy => upM_ne hy) ?_
    rw [hk]
    refine Or.inr (Or.inl ⟨(show (20 : Nat) ≤ 21 by decide), (show (21 : Nat) < 23 by decide), cA, _, htys, rfl, fun j hj2 => ?_⟩)
    rw [upM_at]
    unfold upd
    by_cases hji : j = w.toNatClampNeg
    · rw [if_pos hji, if_pos (by rw [hji, hj]), hnar]
    · rw [if_neg hji, if_neg (by omega)]
      exact hf j hj2
  rw [h1] at hW2
  exact va_zast hx1 hb hK hP hD hS k0 (21 - 20) hk0 htys (vp_in_iff.mpr ⟨by omega, by omega⟩) hd (fun H1 locs1 hP1 hD1 hS1 => h p e R s m args below meth c mc ms C H1 locs1 cells slots ls vs _ Q (hl.ext (wExt.set hk0)) (hs.ext (wExt.set hk0)) hW2 hP1 hD1 hS1 k1 k2 (hF.ext (wExt.set hk0)))
theorem ev_last {n : Nat} {x i v : Int} {σ1 : Sg} (hk : σ.2.1 x = (23, n)) (hx : x ≠ 0) (h0 : 0 ≤ i) (hi : i < n) (hd : decode T.2.1 pc = .ok (.lastore, 1)) (h1 : setM σ x i v = σ1) (h : Ev g d T (pc + 1) il st σ1 b r σ') : Ev g d T pc il (vL v :: vI i :: vR x :: st) σ b r σ' := by
  intro p e R s m args below meth c mc ms C H locs cells slots ls vst ws Q hl hs0 hw' hP hD hS k1 k2 hF
  obtain ⟨hx1, hb, -, -, -, -, -, -, -, hK, -⟩ := id C
  obtain ⟨w9, vs2, rfl, hw9, hs2⟩ := hs0.consL
  obtain ⟨w, vs1, rfl, hw, hs1⟩ := hs2.consI
  obtain ⟨v0, vs, rfl, hv0, hs⟩ := hs1.consR
  obtain ⟨k0, a, e0, rfl, rfl, hk0, hc⟩ := hw'.cell hv0 hx
  rw [hk] at hc
  obtain ⟨cA, f, htys, rfl, hf⟩ := CellOK.arrL hc
  have hj := mz_clamp hw h0
  have hlt : w.toNatClampNeg < n := by omega
  have hW2 : WOK g (ws.set k0 (a, .inl (cA, n, .inr (.inl (vp_updL f w.toNatClampNeg w9))))) (setM σ ((k0 : Int) + 1) i v) := by
    refine hw'.set hk0 (fun y hy => rfl) (fun y hy => upM_ne hy) ?_
    rw [hk]
    refine Or.inr (Or.inr (Or.inl ⟨rfl, cA, _, htys, rfl, fun j hj2 => ?_⟩))
    rw [upM_at]
    unfold vp_updL
    by_cases hji : j = w.toNatClampNeg
    · rw [if_pos hji, if_pos (by rw [hji, hj]), hw9]
    · rw [if_neg hji, if_neg (by omega)]
      exact hf j hj2
  rw [h1] at hW2
  exact va_last hx1 hb hK hP hD hS k0 3 hk0 htys (vp_in_iff.mpr ⟨by omega, by omega⟩) hd (fun H1 locs1 hP1 hD1 hS1 => h p e R s m args below meth c mc ms C H1 locs1 cells slots ls vs _ Q (hl.ext (wExt.set hk0)) (hs.ext (wExt.set hk0)) hW2 hP1 hD1 hS1 k1 k2 (hF.ext (wExt.set hk0)))
theorem ev_alen {n : Nat} {x : Int} (hk : σ.2.1 x = (20, n)) (hn : n < 2147483648) (hx : x ≠ 0) (hd : decode T.2.1 pc = .ok (.arraylength, 1)) (h : Ev g d T (pc + 1) il (vI n :: st) σ b r σ') : Ev g d T pc il (vR x :: st) σ b r σ' := by
  intro p e R s m args below meth c mc ms C H locs cells slots ls vst ws Q hl hs0 hw' hP hD hS k1 k2 hF
  obtain ⟨hx1, hb, -, -, -, -, -, -, -, hK, -⟩ := id C
  obtain ⟨v0, vs, rfl, hv0, hs⟩ := hs0.consR
  obtain ⟨k0, a, e0, rfl, rfl, hk0, hc⟩ := hw'.cell hv0 hx
  rw [hk] at hc
  obtain ⟨cA, f, htys, rfl, hf⟩ := CellOK.arrI (Nat.le_refl 20) (by decide) hc
  exact va_alen hx1 hb hK hP k0 (20 - 20) hk0 htys rfl hd (h p e R s m args below meth c mc ms C H locs cells slots ls _ ws Q hl ⟨rpI (nI_toInt hn), hs⟩ hw' hP hD hS k1 k2 hF)
/-! the static arrays -/
theorem ev_gets {own : String} {idx i n : Nat} {xs : List Int} (ho : T.1.cls = own) (hf : SLk own idx i n xs) (hd : decode T.2.1 pc = .ok (.getstatic idx, 3)) (h : Ev g d T (pc + 3) il (vS i :: st) σ b r σ') : Ev g d T pc il st σ b r σ' := by
  intro p e R s m args below meth c mc ms C H locs cells slots ls vst ws Q hl hs0 hw' hP hD hS k1 k2 hF
  obtain ⟨hx1, hb, -, -, hown, -, -, hts, hnw, hK, hSt, -⟩ := id C
  obtain ⟨nm, hi, hlk⟩ := hf
  obtain ⟨hZ, -⟩ := hSt.1 i _ hi
  have hown' : s.vm.findClass own = some m.cls := by rw [← ho]; exact hown
  have hgo := h p e R s m args below meth c mc ms C H locs cells slots ls (.ref (g.2.2.2.2 i) :: vst) ws Q hl ⟨rfl, hs0⟩ hw' hP hD hS k1 k2 hF
  rcases hlk with hlk | ⟨host, hlk⟩
  · exact va_gets hx1 hb hZ hS hown' (hts _ (List.mem_cons_of_mem _ hlk)) (fun _ z => z) hd hgo
  · exact va_getsN hx1 hb hZ hS hown' (va_Nw.use rfl (hnw _ hlk)) (fun _ z => z) hd hgo
theorem ev_ialdS {n k : Nat} {nm : String} {xs : List Int} {i v : Int} (hi : sArr[k]? = some ("SeaWithStairs", nm, n, xs)) (h0 : 0 ≤ i) (h1 : i < n) (hv : wI (xs.getD i.toNat 0) = v) (hd : decode T.2.1 pc = .ok (.iaload, 1)) (h : Ev g d T (pc + 1) il (vI v :: st) σ b r σ') : Ev g d T pc il (vI i :: vS k :: st) σ b r σ' := by
  intro p e R s m args below meth c mc ms C H locs cells slots ls vst ws Q hl hs0 hw' hP hD hS k1 k2 hF
  obtain ⟨hx1, hb, -, -, -, -, -, -, -, hK, hSt, -⟩ := id C
  obtain ⟨w, vs1, rfl, hw, hs1⟩ := hs0.consI
  obtain ⟨vs, rfl, hs⟩ := hs1.consS
  obtain ⟨-, hX, hlt, hnA⟩ := hSt.1 k _ hi
  have hj := mz_clamp hw h0
  refine va_sld hx1 hb hX hlt hnA hS (vp_in_iff.mpr ⟨by omega, by show w.toInt < ((n : Nat) : Int); omega⟩) hd (h p e R s m args below meth c mc ms C H locs cells slots ls _ ws Q hl ⟨rpI ?_, hs⟩ hw' hP hD hS k1 k2 hF)
  rw [ofInt_toInt32, ← hv]
  show wI (xs.getD w.toNatClampNeg 0) = _
  rw [show w.toNatClampNeg = i.toNat by omega]
end EvA7
