/-! ===== the two texts of the Reader: String.length and String.charAt over Ev ===== -/
abbrev vX : Vv := (3, 0)
def strL (w : Nat) : List Int := if w = 0 then strL0 else strL1
def strN (w : Nat) : Nat := if w = 0 then 138 else 12
section EvStr
variable {g : Gm} {d : Nat} {T : Mt} {pc : Nat} {il il' : List (Nat × Vv)} {st : List Vv} {σ σ' : Sg} {b : Nat × Nat} {r : Vv}
theorem ev_ldcStr {idx w : Nat} (ho : T.1.cls = RX4) (hw : (w = 0 ∧ idx = 162) ∨ (w = 1 ∧ idx = 151)) (hd : decode T.2.1 pc = .ok (.ldc idx, 2)) (h : Ev g d T (pc + 2) il (vS ((4 + w : Nat) : Int) :: st) σ b r σ') : Ev g d T pc il st σ b r σ' := by
  refine Ev.go h ?_
  intro p e R s m args below meth c mc ms C H locs cells slots ls vst ws Q hl hs0 k
  obtain ⟨hx, hb, -, -, hown, -, -, hts, -, -, hSt, -⟩ := C
  obtain ⟨-, -, h2, h3, -, -⟩ := hSt
  have hown' : s.vm.findClass RX4 = some m.cls := by rw [← ho]; exact hown
  rcases hw with ⟨rfl, rfl⟩ | ⟨rfl, rfl⟩
  · exact va_ldcS hx hb hown' h2 hd (k ls _ hl ⟨rfl, hs0⟩)
  · exact va_ldcS hx hb hown' h3 hd (k ls _ hl ⟨rfl, hs0⟩)
theorem ev_strVal {w : Nat} (hw : w < 2) (ho : T.1.cls = RJ0) (hd : decode T.2.1 pc = .ok (.getfield 9, 3)) (h : Ev g d T (pc + 3) il (vS ((6 + w : Nat) : Int) :: st) σ b r σ') : Ev g d T pc il (vS ((4 + w : Nat) : Int) :: st) σ b r σ' := by
  intro p e R s m args below meth c mc ms C H locs cells slots ls vst ws Q hl hs0 hw' hP hD hS k1 k2 hF
  obtain ⟨hx, hb, -, -, hown, -, -, hts, -, -, hSt, -⟩ := id C
  obtain ⟨-, hK, -⟩ := hSt
  obtain ⟨vs, rfl, hs⟩ := hs0.consS
  have hown' : s.vm.findClass RJ0 = some m.cls := by rw [← ho]; exact hown
  exact vk_getf hx hb (hK.1 w hw).2.2.1 hS hown' (hts (.fieldLink RJ0 9 "java/lang/String" "value" "[B") (List.mem_cons_of_mem _ (lw_good_t (i := 1701) (by decide +kernel) rfl))) (fun _ z => z) hd
    (h p e R s m args below meth c mc ms C H locs cells slots ls _ ws Q hl ⟨rfl, hs⟩ hw' hP hD hS k1 k2 hF)
theorem ev_strCod {w : Nat} (hw : w < 2) (ho : T.1.cls = RJ0) (hd : decode T.2.1 pc = .ok (.getfield 15, 3)) (h : Ev g d T (pc + 3) il (vI 0 :: st) σ b r σ') : Ev g d T pc il (vS ((4 + w : Nat) : Int) :: st) σ b r σ' := by
  intro p e R s m args below meth c mc ms C H locs cells slots ls vst ws Q hl hs0 hw' hP hD hS k1 k2 hF
  obtain ⟨hx, hb, -, -, hown, -, -, hts, -, -, hSt, -⟩ := id C
  obtain ⟨-, hK, -⟩ := hSt
  obtain ⟨vs, rfl, hs⟩ := hs0.consS
  have hown' : s.vm.findClass RJ0 = some m.cls := by rw [← ho]; exact hown
  exact vk_getf hx hb (hK.1 w hw).2.1 hS hown' (hts (.fieldLink RJ0 15 "java/lang/String" "coder" "B") (List.mem_cons_of_mem _ (lw_good_t (i := 1702) (by decide +kernel) rfl))) (fun _ z => z) hd
    (h p e R s m args below meth c mc ms C H locs cells slots ls _ ws Q hl ⟨⟨0, rfl, rfl⟩, hs⟩ hw' hP hD hS k1 k2 hF)
theorem ev_compact (ho : T.1.cls = RJ0) (hd : decode T.2.1 pc = .ok (.getstatic 38, 3)) (h : Ev g d T (pc + 3) il (vI 1 :: st) σ b r σ') : Ev g d T pc il st σ b r σ' := by
  intro p e R s m args below meth c mc ms C H locs cells slots ls vst ws Q hl hs0 hw' hP hD hS k1 k2 hF
  obtain ⟨hx, hb, -, -, hown, -, -, hts, -, -, hSt, -⟩ := id C
  obtain ⟨-, -, -, -, hZ, -⟩ := hSt
  have hown' : s.vm.findClass RJ0 = some m.cls := by rw [← ho]; exact hown
  exact va_gets hx hb hZ hS hown' (hts (.fieldLink RJ0 38 "java/lang/String" "COMPACT_STRINGS" "Z") (List.mem_cons_of_mem _ (lw_good_t (i := 510) (by decide +kernel) rfl))) (fun _ z => z) hd
    (h p e R s m args below meth c mc ms C H locs cells slots ls _ ws Q hl ⟨⟨1, rfl, rfl⟩, hs0⟩ hw' hP hD hS k1 k2 hF)
theorem ev_sioobe (ho : T.1.cls = RJ0) (hd : decode T.2.1 pc = .ok (.getstatic 1053, 3)) (h : Ev g d T (pc + 3) il (vX :: st) σ b r σ') : Ev g d T pc il st σ b r σ' := by
  intro p e R s m args below meth c mc ms C H locs cells slots ls vst ws Q hl hs0 hw' hP hD hS k1 k2 hF
  obtain ⟨hx, hb, -, -, hown, -, -, hts, -, -, hSt, -⟩ := id C
  obtain ⟨-, -, -, -, -, hZ, -⟩ := hSt
  have hown' : s.vm.findClass RJ0 = some m.cls := by rw [← ho]; exact hown
  have hlk := hts (.fieldLink RJ0 1053 "jdk/internal/util/Preconditions" "SIOOBE_FORMATTER" "Ljava/util/function/BiFunction;") (List.mem_cons_of_mem _ (lw_good_t (i := 526) (by decide +kernel) rfl))
  rcases hZ with hZ | ⟨t, hZ⟩
  · exact va_gets hx hb hZ hS hown' hlk (fun _ z => z) hd (h p e R s m args below meth c mc ms C H locs cells slots ls _ ws Q hl ⟨rfl, hs0⟩ hw' hP hD hS k1 k2 hF)
  · exact va_gets hx hb hZ hS hown' hlk (fun _ z => z) hd (h p e R s m args below meth c mc ms C H locs cells slots ls _ ws Q hl ⟨rfl, hs0⟩ hw' hP hD hS k1 k2 hF)
theorem strLen {w : Nat} (hw : w < 2) : ([138, 12] : List Nat).getD w 0 = strN w := by
  match w, hw with
  | 0, _ => rfl
  | 1, _ => rfl
theorem ev_strAlen {w : Nat} (hw : w < 2) (hd : decode T.2.1 pc = .ok (.arraylength, 1)) (h : Ev g d T (pc + 1) il (vI (strN w) :: st) σ b r σ') : Ev g d T pc il (vS ((6 + w : Nat) : Int) :: st) σ b r σ' := by
  intro p e R s m args below meth c mc ms C H locs cells slots ls vst ws Q hl hs0 hw' hP hD hS k1 k2 hF
  obtain ⟨hx, hb, -, -, hown, -, -, hts, -, -, hSt, -⟩ := id C
  obtain ⟨-, hK, -⟩ := hSt
  obtain ⟨vs, rfl, hs⟩ := hs0.consS
  refine va_tlen hx hb (hK.1 w hw).2.2.2 hS rfl hd (h p e R s m args below meth c mc ms C H locs cells slots ls _ ws Q hl ⟨rpI ?_, hs⟩ hw' hP hD hS k1 k2 hF)
  rw [strLen hw]
  exact nI_toInt (by unfold strN; split <;> decide)
theorem strB_at {w : Nat} (hw : w < 2) {j : Nat} (hj : j < strN w) : (([strL0.map Int32.ofInt, strL1.map Int32.ofInt] : List (List Int32)).getD w []).getD j 0 = Int32.ofInt ((strL w).getD j 0) := by
  match w, hw with
  | 0, _ =>
    show (strL0.map Int32.ofInt).getD j 0 = Int32.ofInt (strL0.getD j 0)
    rw [List.getD_eq_getElem?_getD, List.getD_eq_getElem?_getD, List.getElem?_map]
    cases strL0[j]? <;> rfl
  | 1, _ =>
    show (strL1.map Int32.ofInt).getD j 0 = Int32.ofInt (strL1.getD j 0)
    rw [List.getD_eq_getElem?_getD, List.getD_eq_getElem?_getD, List.getElem?_map]
    cases strL1[j]? <;> rfl
theorem ev_strBald {w : Nat} {i : Int} (hw : w < 2) (h0 : 0 ≤ i) (h1 : i < strN w) (hd : decode T.2.1 pc = .ok (.baload, 1)) (h : Ev g d T (pc + 1) il (vI (wI ((strL w).getD i.toNat 0)) :: st) σ b r σ') : Ev g d T pc il (vI i :: vS ((6 + w : Nat) : Int) :: st) σ b r σ' := by
  intro p e R s m args below meth c mc ms C H locs cells slots ls vst ws Q hl hs0 hw' hP hD hS k1 k2 hF
  obtain ⟨hx, hb, -, -, hown, -, -, hts, -, -, hSt, -⟩ := id C
  obtain ⟨-, hK, -⟩ := hSt
  obtain ⟨wi, vs1, rfl, hwi, hs1⟩ := hs0.consI
  obtain ⟨vs, rfl, hs⟩ := hs1.consS
  have hj := mz_clamp hwi h0
  refine va_tb hx hb (hK.1 w hw).2.2.2 hS (vp_in_iff.mpr ⟨by omega, by rw [strLen hw]; omega⟩) rfl hd (h p e R s m args below meth c mc ms C H locs cells slots ls _ ws Q hl ⟨rpI ?_, hs⟩ hw' hP hD hS k1 k2 hF)
  show ((([strL0.map Int32.ofInt, strL1.map Int32.ofInt] : List (List Int32)).getD w []).getD wi.toNatClampNeg 0).toInt = _
  rw [strB_at hw (by omega), ofInt_toInt32, show wi.toNatClampNeg = i.toNat by omega]
theorem ev_i2c {a : Int} (h0 : 0 ≤ a) (h1 : a < 65536) (hd : decode T.2.1 pc = .ok (.i2c, 1)) (h : Ev g d T (pc + 1) il (vI a :: st) σ b r σ') : Ev g d T pc il (vI a :: st) σ b r σ' := by
  refine Ev.go h ?_
  intro p e R s m args below meth c mc ms C H locs cells slots ls vst ws Q hl hs0 k
  obtain ⟨hx, hb, -, -, -⟩ := C
  obtain ⟨w1, vs, rfl, hw1, hs⟩ := hs0.consI
  have hn : ∃ n : Nat, n < 65536 ∧ w1 = nI n := ⟨a.toNat, by omega, Int32.toInt_inj.mp (by rw [hw1, nI_toInt (by omega)]; omega)⟩
  obtain ⟨n, hn, rfl⟩ := hn
  refine lv_i2c hx hb hd rfl (k ls _ hl ⟨rpI ?_, hs⟩)
  rw [pk_char, pk_tn (by omega), Nat.mod_eq_of_lt hn]
  exact hw1
theorem ev_xret {x : Int} {ty : FieldType} (hn : ∀ w : Int32, w.toInt = x → narrow ty (.int w) = .int w) (hd : decode T.2.1 pc = .ok (.ireturn, 1)) (hr : T.2.2.2 = some ty) : Ev g d T pc il [vI x] σ (0, 0) (vI x) σ := by
  intro p e R s m args below meth c mc ms C H locs cells slots ls vst ws Q hl hs0 hw' hP hD hS k1 k2 hF
  obtain ⟨w, vs, rfl, hw, hs⟩ := hs0.consI
  have := hs.nil
  subst this
  exact hF H locs cells slots ls _ ws pc (Or.inr (Or.inl ⟨rfl, hd, w, ty, rfl, hw, hr, hn w hw⟩)) wExt.rf hw' hP hD hS (by omega) (by omega)
/-- a call of a String's own method -/
theorem ev_cStr {own : String} {idx n d' w : Nat} {U : Mt} (as1 : List Vv) (st : List Vv) {q : Vv} (hw : w < 2) (ho : T.1.cls = own) (hUc : U.1.cls = "java/lang/String") (hU : MtOK U n) (hL : MLk own idx U) (hin : Cond.instanceMethod U.1 ∈ lw_good ∧ Cond.selects U.1.cls U.1 U.1 ∈ lw_good) (hd : decode T.2.1 pc = .ok (.invokevirtual idx, 3)) (hn : as1.length = n) (hst : sCat st ≤ 8) (hdd : d' + 1 ≤ d) (hq : Nat.beq q.1 9 = false)
    (hM : EvM g d' U (vS ((4 + w : Nat) : Int) :: as1) σ (0, 0) q σ) (h : Ev g d T (pc + 3) il (q :: st) σ (0, 0) r σ') : Ev g d T pc il (as1.reverse ++ vS ((4 + w : Nat) : Int) :: st) σ (0, 0) r σ' := by
  intro p e R s m args below meth c mc ms C H locs cells slots ls vst ws Q hl hs0 hw' hP hD hS k1 k2 hF
  obtain ⟨hx1, hbd, -, hml, hown, -, -, hts, hnw, hK, hSt, hty, hA, hR1, hR2, hR3, hR4⟩ := id C
  obtain ⟨v1, v2, rfl, hs1, hs2⟩ := hs0.app
  obtain ⟨vs, rfl, hs⟩ := hs2.consS
  obtain ⟨u1, u2, u3, u4, u5⟩ := hU
  have hown' : s.vm.findClass own = some m.cls := by rw [← ho]; exact hown
  have hgood : ∀ w ∈ lw_good, w.before args s = true := fun w hw => hts w (List.mem_cons_of_mem _ hw)
  have hrev : SRel g ws (vS ((4 + w : Nat) : Int) :: as1) (.ref (g.2.2.2.2 (4 + w)) :: v1.reverse) := ⟨rfl, by
    have := hs1.rev
    rw [List.reverse_reverse] at this
    exact this⟩
  have hMet := hM ws (.ref (g.2.2.2.2 (4 + w)) :: v1.reverse) hrev hw'
  have hv1 : v1 = v1.reverse.reverse := by rw [List.reverse_reverse]
  have hlen1 : v1.reverse.length = n := by
    rw [List.length_reverse, hs1.len, List.length_reverse]
    exact hn
  have hsum : (vs.map fun v => v.category).sum ≤ 8 := by rw [hs.cat]; exact hst
  have hfr : (rmOf d' (0, 0)).frames + 1 ≤ R.frames ∧ 8 + (U.2.2.1 + 11) + (rmOf d' (0, 0)).locals ≤ R.locals := callRoom (n := 0) hdd hR1 hR2 u5
  have hrc : ∃ cellB : Cell, H[g.2.2.2.2 (4 + w)]? = some cellB ∧ cellB.vm.isStatics = false ∧ s.vm.findClass U.1.cls = some cellB.cls := by
    rw [hUc]
    exact vk_recv (adK := fun i => g.2.2.2.2 (4 + i)) (i := w) hSt.2.1 hw hS
  have hPV : PreV s H U.1.cls (g.2.2.2.2 (4 + w)) (va_Pc (.ref (g.2.2.2.2 (4 + w)) :: v1.reverse) (PreM g ws)) v1.reverse := ⟨PreM_blind g ws _, hrc, fun U' hU' hW' => ⟨rfl, PreM_at C hP hD hS hU' hW'⟩⟩
  have hpay := pay_in hts (mWords_good (T := T) u1)
  have hq9 : ¬ q.1 = 9 := fun e => by rw [e] at hq; cases hq
  have h' : Ev g d T (pc + 3) il (retSt q st) σ (0, 0) r σ' := by
    unfold retSt
    rw [if_neg hq9]
    exact h
  have k1' : cells + 0 ≤ mc := k1
  have k2' : slots + 0 ≤ ms := k2
  rcases hL with hL | ⟨host, hL⟩
  · have hr := va_runV (p := p) (l := g.1) (e := e) (R := R) (locs := locs) (cells := cells) (slots := slots) (below := below) (meth := meth) (H := H) (g := F0 m pc ls (v1 ++ .ref (g.2.2.2.2 (4 + w)) :: vs)) (rest := vs) (own := own) (index := idx) (As := v1.reverse) (n := n) ⟨hx1, hbd, hml, hown', hts⟩ hMet (bytes := U.2.1) (maxL := U.2.2.1) (ret := U.2.2.2) ⟨⟨rfl, rfl, hfr.1, hfr.2, hpay, List.mem_cons_self, hgood _ u1, hgood _ u2, ⟨u3.1, u3.2.1⟩, fun sig h9 => (by
        have h2 := u3.2.2
        rw [h9] at h2
        exact (Option.some.inj h2).symm), hgood _ hL⟩, hgood _ hin.1, hgood _ hin.2⟩ hPV rfl hlen1 hl.1 (by rw [← hv1]) (lv_room hsum) hd ⟨by show cells + 0 ≤ _; omega, by show slots + 0 ≤ _; omega⟩
    exact run_fin C (b1 := (0, 0)) (b2 := (0, 0)) hr hl hs hS k1' k2' hF h'
  · have hr := va_runVN (p := p) (l := g.1) (e := e) (R := R) (locs := locs) (cells := cells) (slots := slots) (below := below) (meth := meth) (H := H) (g := F0 m pc ls (v1 ++ .ref (g.2.2.2.2 (4 + w)) :: vs)) (rest := vs) (own := own) (index := idx) (As := v1.reverse) (n := n) (host := host) ⟨hx1, hbd, hml, hown', hts⟩ hMet (bytes := U.2.1) (maxL := U.2.2.1) (ret := U.2.2.2) ⟨⟨⟨rfl, rfl, hfr.1, hfr.2, hpay, List.mem_cons_self⟩, hgood _ u1, hgood _ u2, ⟨u3.1, u3.2.1⟩, fun sig h9 => (by
        have h2 := u3.2.2
        rw [h9] at h2
        exact (Option.some.inj h2).symm), va_Nw.use rfl (hnw _ hL)⟩, hgood _ hin.1, hgood _ hin.2⟩ hPV rfl hlen1 hl.1 (by rw [← hv1]) (lv_room hsum) hd ⟨by show cells + 0 ≤ _; omega, by show slots + 0 ≤ _; omega⟩
    exact run_fin C (b1 := (0, 0)) (b2 := (0, 0)) hr hl hs hS k1' k2' hF h'
theorem ev_cSx {own : String} {idx n d' : Nat} {U : Mt} (as1 : List Vv) (st : List Vv) {q : Vv} (ho : T.1.cls = own) (hU : MtOK U n) (hL : MLk own idx U) (hin : Cond.static U.1 ∈ lw_good) (hd : decode T.2.1 pc = .ok (.invokestatic idx, 3)) (hn : as1.length = n) (hst : sCat st ≤ 8) (hdd : d' + 1 ≤ d)
    (hM : EvM g d' U as1 σ (0, 0) q σ) (h : Ev g d T (pc + 3) il (retSt q st) σ (0, 0) r σ') : Ev g d T pc il (as1.reverse ++ st) σ (0, 0) r σ' :=
  ev_callS ho hU hL hin hn hst hdd (b1 := (0, 0)) (b2 := (0, 0)) rfl hd hM h
end EvStr
section EvStrM
variable {g : Gm} {d : Nat} {σ : Sg}
theorem e_pre {i n : Int} (h0 : 0 ≤ i) (h1 : i < n) : EvM g d mtJ3_checkIndex_8e157 [vI i, vI n, vX] σ (0, 0) (vI i) σ := by
  refine EvM.of mkJ3_checkIndex_8e157.2.2.2.1 (Nat.le_of_ble_eq_true rfl) ?_
  change Ev g d mtJ3_checkIndex_8e157 0 [(0, vI i), (1, vI n), (2, vX)] [] σ (0, 0) (vI i) σ
  refine ev_iload_n (pc := 0) 0 dJ3_checkIndex_8e157_0 rfl rfl ?_
  refine ev_if_lt (pc := 1) (tgt := 9) dJ3_checkIndex_8e157_1 (by decide) (fun q => by omega) (fun _ => ?_)
  refine ev_iload_n (pc := 4) 0 dJ3_checkIndex_8e157_4 rfl rfl ?_
  refine ev_iload_n (pc := 5) 1 dJ3_checkIndex_8e157_5 rfl rfl ?_
  refine ev_icmp_lt (pc := 6) (tgt := 16) dJ3_checkIndex_8e157_6 (by decide) (fun _ => ?_) (fun q => absurd h1 q)
  refine ev_iload_n (pc := 16) 0 dJ3_checkIndex_8e157_16 rfl rfl ?_
  exact ev_iret (pc := 17) dJ3_checkIndex_8e157_17 rfl
theorem e_chk {i n : Int} (hd : 1 ≤ d) (h0 : 0 ≤ i) (h1 : i < n) : EvM g d mtJ0_checkIndex_df160 [vI i, vI n] σ (0, 0) vN σ := by
  refine EvM.of mkJ0_checkIndex_df160.2.2.2.1 (Nat.le_of_ble_eq_true rfl) ?_
  change Ev g d mtJ0_checkIndex_df160 0 [(0, vI i), (1, vI n)] [] σ (0, 0) vN σ
  refine ev_iload_n (pc := 0) 0 dJ0_checkIndex_df160_0 rfl rfl ?_
  refine ev_iload_n (pc := 1) 1 dJ0_checkIndex_df160_1 rfl rfl ?_
  refine ev_sioobe (pc := 2) rfl dJ0_checkIndex_df160_2 ?_
  refine ev_cSx (pc := 5) [vI i, vI n, vX] [] rfl mkJ3_checkIndex_8e157 mlJ0_1059 msJ3_checkIndex_8e157 dJ0_checkIndex_df160_5 rfl (Nat.le_of_ble_eq_true rfl) (by omega) (e_pre (d := d - 1) h0 h1) ?_
  refine ev_pop (pc := 8) (q := vI i) rfl dJ0_checkIndex_df160_8 ?_
  exact ev_vret (pc := 9) dJ0_checkIndex_df160_9 rfl
theorem narrow_byte0 : ∀ w : Int32, w.toInt = 0 → narrow .byte (.int w) = .int w := fun w h => by
  have : w = 0 := Int32.toInt_inj.mp (by rw [h]; rfl)
  subst this
  rfl
theorem narrow_ch {x : Int} (h0 : 0 ≤ x) (h1 : x < 65536) : ∀ w : Int32, w.toInt = x → narrow .char (.int w) = .int w := fun w h => by
  have hn : w = nI x.toNat := Int32.toInt_inj.mp (by rw [h, nI_toInt (by omega)]; omega)
  subst hn
  exact (pk_charN (by omega)).1
theorem e_cod {w : Nat} (hw : w < 2) : EvM g d mtJ0_coder_7d493 [vS ((4 + w : Nat) : Int)] σ (0, 0) (vI 0) σ := by
  refine EvM.of mkJ0_coder_7d493.2.2.2.1 (Nat.le_of_ble_eq_true rfl) ?_
  change Ev g d mtJ0_coder_7d493 0 [(0, vS ((4 + w : Nat) : Int))] [] σ (0, 0) (vI 0) σ
  refine ev_compact (pc := 0) rfl dJ0_coder_7d493_0 ?_
  refine ev_if_eq (pc := 3) (tgt := 13) dJ0_coder_7d493_3 (by decide) (fun q => absurd q (by decide)) (fun _ => ?_)
  refine ev_aload_nS (pc := 6) 0 dJ0_coder_7d493_6 rfl rfl ?_
  refine ev_strCod (pc := 7) hw rfl dJ0_coder_7d493_7 ?_
  refine ev_goto (pc := 10) (tgt := 14) dJ0_coder_7d493_10 (by decide) ?_
  exact ev_xret (pc := 14) narrow_byte0 dJ0_coder_7d493_14 rfl
theorem e_lat {w : Nat} (hw : w < 2) : EvM g d mtJ0_isLatin1_aae02 [vS ((4 + w : Nat) : Int)] σ (0, 0) (vI 1) σ := by
  refine EvM.of mkJ0_isLatin1_aae02.2.2.2.1 (Nat.le_of_ble_eq_true rfl) ?_
  change Ev g d mtJ0_isLatin1_aae02 0 [(0, vS ((4 + w : Nat) : Int))] [] σ (0, 0) (vI 1) σ
  refine ev_compact (pc := 0) rfl dJ0_isLatin1_aae02_0 ?_
  refine ev_if_eq (pc := 3) (tgt := 17) dJ0_isLatin1_aae02_3 (by decide) (fun q => absurd q (by decide)) (fun _ => ?_)
  refine ev_aload_nS (pc := 6) 0 dJ0_isLatin1_aae02_6 rfl rfl ?_
  refine ev_strCod (pc := 7) hw rfl dJ0_isLatin1_aae02_7 ?_
  refine ev_if_ne (pc := 10) (tgt := 17) dJ0_isLatin1_aae02_10 (by decide) (fun q => absurd rfl q) (fun _ => ?_)
  refine ev_iconst (pc := 13) (x := 1) dJ0_isLatin1_aae02_13 (by decide +kernel) ?_
  refine ev_goto (pc := 14) (tgt := 18) dJ0_isLatin1_aae02_14 (by decide) ?_
  exact ev_zret (pc := 18) (Or.inr rfl) dJ0_isLatin1_aae02_18 rfl
theorem strShr (w : Nat) : bShr (strN w) 0 = strN w := by
  unfold strN
  split <;> decide +kernel
theorem e_len {w : Nat} (hd : 1 ≤ d) (hw : w < 2) : EvM g d mtJ0_length_8abf5 [vS ((4 + w : Nat) : Int)] σ (0, 0) (vI (strN w)) σ := by
  refine EvM.of mkJ0_length_8abf5.2.2.2.1 (Nat.le_of_ble_eq_true rfl) ?_
  change Ev g d mtJ0_length_8abf5 0 [(0, vS ((4 + w : Nat) : Int))] [] σ (0, 0) (vI (strN w)) σ
  refine ev_aload_nS (pc := 0) 0 dJ0_length_8abf5_0 rfl rfl ?_
  refine ev_strVal (pc := 1) hw rfl dJ0_length_8abf5_1 ?_
  refine ev_strAlen (pc := 4) hw dJ0_length_8abf5_4 ?_
  refine ev_aload_nS (pc := 5) 0 dJ0_length_8abf5_5 rfl rfl ?_
  refine ev_cStr (pc := 6) [] [vI (strN w)] hw rfl rfl mkJ0_coder_7d493 mlJ0_335 ⟨miJ0_coder_7d493, lw_good_t (i := 508) (by decide +kernel) rfl⟩ dJ0_length_8abf5_6 rfl (Nat.le_of_ble_eq_true rfl) (by omega) rfl (e_cod (d := d - 1) hw) ?_
  refine ev_ishr (pc := 9) dJ0_length_8abf5_9 ?_
  rw [strShr]
  exact ev_iret (pc := 10) dJ0_length_8abf5_10 rfl
theorem strVal_ok : ∀ w : Nat, w < 2 → ∀ j : Nat, j < strN w → (wI ((strL w).getD j 0) = (strL w).getD j 0 ∧ bAnd ((strL w).getD j 0) 255 = (strL w).getD j 0 ∧ 0 ≤ (strL w).getD j 0 ∧ (strL w).getD j 0 < 65536) := by decide +kernel
theorem e_lchr {w : Nat} {i : Int} (hd : 2 ≤ d) (hw : w < 2) (h0 : 0 ≤ i) (h1 : i < strN w) : EvM g d mtJ1_charAt_3b067 [vS ((6 + w : Nat) : Int), vI i] σ (0, 0) (vI ((strL w).getD i.toNat 0)) σ := by
  obtain ⟨a1, a2, a3, a4⟩ := strVal_ok w hw i.toNat (by omega)
  refine EvM.of mkJ1_charAt_3b067.2.2.2.1 (Nat.le_of_ble_eq_true rfl) ?_
  change Ev g d mtJ1_charAt_3b067 0 [(0, vS ((6 + w : Nat) : Int)), (1, vI i)] [] σ (0, 0) (vI ((strL w).getD i.toNat 0)) σ
  refine ev_iload_n (pc := 0) 1 dJ1_charAt_3b067_0 rfl rfl ?_
  refine ev_aload_nS (pc := 1) 0 dJ1_charAt_3b067_1 rfl rfl ?_
  refine ev_strAlen (pc := 2) hw dJ1_charAt_3b067_2 ?_
  refine ev_cSx (pc := 3) [vI i, vI (strN w)] [] rfl mkJ0_checkIndex_df160 mlJ1_9 msJ0_checkIndex_df160 dJ1_charAt_3b067_3 rfl (Nat.le_of_ble_eq_true rfl) (by omega) (e_chk (d := d - 1) (by omega) h0 h1) ?_
  refine ev_aload_nS (pc := 6) 0 dJ1_charAt_3b067_6 rfl rfl ?_
  refine ev_iload_n (pc := 7) 1 dJ1_charAt_3b067_7 rfl rfl ?_
  refine ev_strBald (pc := 8) hw h0 h1 dJ1_charAt_3b067_8 ?_
  rw [a1]
  refine ev_sipush (pc := 9) (x := 255) dJ1_charAt_3b067_9 (by decide +kernel) ?_
  refine ev_iand (pc := 12) dJ1_charAt_3b067_12 ?_
  rw [a2]
  refine ev_i2c (pc := 13) a3 a4 dJ1_charAt_3b067_13 ?_
  exact ev_xret (pc := 14) (narrow_ch a3 a4) dJ1_charAt_3b067_14 rfl
theorem e_chr {w : Nat} {i : Int} (hd : 4 ≤ d) (hw : w < 2) (h0 : 0 ≤ i) (h1 : i < strN w) : EvM g d mtJ0_charAt_5068e [vS ((4 + w : Nat) : Int), vI i] σ (0, 0) (vI ((strL w).getD i.toNat 0)) σ := by
  obtain ⟨a1, a2, a3, a4⟩ := strVal_ok w hw i.toNat (by omega)
  refine EvM.of mkJ0_charAt_5068e.2.2.2.1 (Nat.le_of_ble_eq_true rfl) ?_
  change Ev g d mtJ0_charAt_5068e 0 [(0, vS ((4 + w : Nat) : Int)), (1, vI i)] [] σ (0, 0) (vI ((strL w).getD i.toNat 0)) σ
  refine ev_aload_nS (pc := 0) 0 dJ0_charAt_5068e_0 rfl rfl ?_
  refine ev_cStr (pc := 1) [] [] hw rfl rfl mkJ0_isLatin1_aae02 mlJ0_492 ⟨miJ0_isLatin1_aae02, lw_good_t (i := 518) (by decide +kernel) rfl⟩ dJ0_charAt_5068e_1 rfl (Nat.le_of_ble_eq_true rfl) (by omega) rfl (e_lat (d := d - 1) hw) ?_
  refine ev_if_eq (pc := 4) (tgt := 16) dJ0_charAt_5068e_4 (by decide) (fun q => absurd q (by decide)) (fun _ => ?_)
  refine ev_aload_nS (pc := 7) 0 dJ0_charAt_5068e_7 rfl rfl ?_
  refine ev_strVal (pc := 8) hw rfl dJ0_charAt_5068e_8 ?_
  refine ev_iload_n (pc := 11) 1 dJ0_charAt_5068e_11 rfl rfl ?_
  refine ev_cSx (pc := 12) [vS ((6 + w : Nat) : Int), vI i] [] rfl mkJ1_charAt_3b067 mlJ0_495 msJ1_charAt_3b067 dJ0_charAt_5068e_12 rfl (Nat.le_of_ble_eq_true rfl) (by omega) (e_lchr (d := d - 1) (by omega) hw h0 h1) ?_
  exact ev_xret (pc := 15) (narrow_ch a3 a4) dJ0_charAt_5068e_15 rfl
end EvStrM
section EvStrU
variable {g : Gm} {d : Nat} {T : Mt} {pc : Nat} {il il' : List (Nat × Vv)} {st : List Vv} {σ σ' : Sg} {b : Nat × Nat} {r : Vv}
def strC0 (i : Int) : Int := strL0.getD i.toNat 0
theorem ev_str0 (ho : T.1.cls = RX4) (hd : decode T.2.1 pc = .ok (.ldc 162, 2)) (h : Ev g d T (pc + 2) il (vS 4 :: st) σ b r σ') : Ev g d T pc il st σ b r σ' :=
  ev_ldcStr (w := 0) ho (Or.inl ⟨rfl, rfl⟩) hd h
theorem ev_sln0 {idx : Nat} (ho : T.1.cls = RX4) (hL : MLk RX4 idx mtJ0_length_8abf5) (hst : sCat st ≤ 8) (hdd : 6 ≤ d) (hd : decode T.2.1 pc = .ok (.invokevirtual idx, 3)) (h : Ev g d T (pc + 3) il (vI 138 :: st) σ (0, 0) r σ') : Ev g d T pc il (vS 4 :: st) σ (0, 0) r σ' :=
  ev_cStr (w := 0) (d' := d - 1) [] st (by decide) ho rfl mkJ0_length_8abf5 hL ⟨miJ0_length_8abf5, lw_good_t (i := 504) (by decide +kernel) rfl⟩ hd rfl hst (by omega) rfl (e_len (by omega) (by decide)) h
theorem ev_chr0 {idx : Nat} {i : Int} (ho : T.1.cls = RX4) (hL : MLk RX4 idx mtJ0_charAt_5068e) (hst : sCat st ≤ 8) (hdd : 6 ≤ d) (h0 : 0 ≤ i) (h1 : i < 138) (hd : decode T.2.1 pc = .ok (.invokevirtual idx, 3)) (h : Ev g d T (pc + 3) il (vI (strC0 i) :: st) σ (0, 0) r σ') : Ev g d T pc il (vI i :: vS 4 :: st) σ (0, 0) r σ' :=
  ev_cStr (w := 0) (d' := d - 1) [vI i] st (by decide) ho rfl mkJ0_charAt_5068e hL ⟨miJ0_charAt_5068e, lw_good_t (i := 514) (by decide +kernel) rfl⟩ hd rfl hst (by omega) rfl (e_chr (by omega) (by decide) h0 h1) h
def strC1 (i : Int) : Int := strL1.getD i.toNat 0
theorem ev_str1 (ho : T.1.cls = RX4) (hd : decode T.2.1 pc = .ok (.ldc 151, 2)) (h : Ev g d T (pc + 2) il (vS 5 :: st) σ b r σ') : Ev g d T pc il st σ b r σ' :=
  ev_ldcStr (w := 1) ho (Or.inr ⟨rfl, rfl⟩) hd h
theorem ev_sln1 {idx : Nat} (ho : T.1.cls = RX4) (hL : MLk RX4 idx mtJ0_length_8abf5) (hst : sCat st ≤ 8) (hdd : 6 ≤ d) (hd : decode T.2.1 pc = .ok (.invokevirtual idx, 3)) (h : Ev g d T (pc + 3) il (vI 12 :: st) σ (0, 0) r σ') : Ev g d T pc il (vS 5 :: st) σ (0, 0) r σ' :=
  ev_cStr (w := 1) (d' := d - 1) [] st (by decide) ho rfl mkJ0_length_8abf5 hL ⟨miJ0_length_8abf5, lw_good_t (i := 504) (by decide +kernel) rfl⟩ hd rfl hst (by omega) rfl (e_len (by omega) (by decide)) h
theorem ev_chr1 {idx : Nat} {i : Int} (ho : T.1.cls = RX4) (hL : MLk RX4 idx mtJ0_charAt_5068e) (hst : sCat st ≤ 8) (hdd : 6 ≤ d) (h0 : 0 ≤ i) (h1 : i < 12) (hd : decode T.2.1 pc = .ok (.invokevirtual idx, 3)) (h : Ev g d T (pc + 3) il (vI (strC1 i) :: st) σ (0, 0) r σ') : Ev g d T pc il (vI i :: vS 5 :: st) σ (0, 0) r σ' :=
  ev_cStr (w := 1) (d' := d - 1) [vI i] st (by decide) ho rfl mkJ0_charAt_5068e hL ⟨miJ0_charAt_5068e, lw_good_t (i := 514) (by decide +kernel) rfl⟩ hd rfl hst (by omega) rfl (e_chr (by omega) (by decide) h0 h1) h
end EvStrU
