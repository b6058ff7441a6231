/-! ===== calls and ends over Ev ===== -/
/-- what a call leaves behind: the answer is on the stack -/
def retSt (r : Vv) (st : List Vv) : List Vv := if r.1 = 9 then st else r :: st
theorem onTables_nest {w : Cond} (h : w ∈ lw_nest) : w.onTables = true := by
  have h := (List.mem_filter.mp h).2
  cases w <;> first | rfl | cases h
section EvC8
variable {g : Gm} {d : Nat} {T : Mt} {pc : Nat} {il il' : List (Nat × Vv)} {st : List Vv} {σ σ' : Sg} {b : Nat × Nat} {r : Vv}
theorem PreM_blind (g : Gm) (ws : va_W) (avs : List Value) : FrameBlind (va_Pc avs (PreM g ws)) := by
  intro a U g' mk ⟨h0, hP, hK, hD, hSt, hNw, hA, hty⟩
  exact ⟨h0, hP, va_K.moved (u := U) (U := U.calling g' mk a) (Vm.Alike.refl U.vm) hK, hD, Sta.go (s := U) (U := U.calling g' mk a) (Or.inl rfl) (Nat.le_refl _) (fun _ _ _ => rfl) hSt, fun w hw => va_Nw.same (onTables_nest hw) (u := U) (U := U.calling g' mk a) rfl (hNw w hw), hA, hty⟩
theorem PreM_at {p : Program} {R : Room} {s : State} {m : MethodId} {args : Array Value} {meth : Method} {c : Code} {mc ms : Nat} (C : Ctx g d T p R s m args meth c mc ms) {H : Heap} {locs : List Loc} {ws : va_W} (hP : va_P g.2.1 vwCl ws H) (hD : va_D g.2.2.2.1 ws) (hS : va_S g.2.2.2.1 s.heap H locs) {U : State} (hU : U.heap = H) (hW : s.WarmedH U.vm) : PreM g ws U := by
  obtain ⟨-, -, -, -, -, -, -, -, hnw, hK, hSt, hty, hA, -⟩ := C
  refine ⟨by rw [hU]; exact hP, va_K.moved hW.alike hK, hD, Sta.go (Or.inr hW) (by rw [hU]; exact hS.1) (fun q h1 h2 => by rw [hU]; exact hS.2.1 q h1 h2) hSt, fun w hw => ?_, fun q hq => hA q (Nat.le_trans hS.1 (by rw [← hU]; exact hq)), hty⟩
  have h1 := hnw w hw
  have h2 := (List.mem_filter.mp hw).2
  cases w <;> first | exact va_Nw.warmF hW h1 | exact va_Nw.warmM hW h1 | cases h2
/-- behind a call -/
theorem run_fin {p : Program} {e : Env} {R : Room} {s : State} {m : MethodId} {args : Array Value} {below : List Frame} {meth : Method} {c : Code} {mc ms : Nat} (C : Ctx g d T p R s m args meth c mc ms) {H : Heap} {locs : List Loc} {cells slots : Nat} {ls : Array Slot} {vst rest : List Value} {ws : va_W} {Q : State → Prop} {r1 : Vv} {σ1 : Sg} {b1 b2 : Nat × Nat} {as : Array Value}
    (hr : va_Run p g.1 e R s m args below meth c H locs cells slots b1.1 b1.2 (F0 m pc ls vst) rest (EvQ g ws r1 σ1 as) g.2.2.2.1) (hl : LRel g ws T.2.2.1 il ls) (hs : SRel g ws st rest) (hS : va_S g.2.2.2.1 s.heap H locs)
    (k1 : cells + b1.1 + b2.1 ≤ mc) (k2 : slots + b1.2 + b2.2 ≤ ms) (hF : Fin1 g T p e R s m args below meth c mc ms ws r σ' Q) (h : Ev g d T (pc + 3) il (retSt r1 st) σ1 b2 r σ') : W p g.1 e R s m args below meth c H locs cells slots Q (F0 m pc ls vst) := by
  intro S hT X
  obtain ⟨v, st₀, t, S', L, h0, X', hL, e1, e2, ⟨⟨ov, ws', hov, hr1, hx, hw', hP', hD', hz, hk⟩, hst⟩⟩ := hr S hT X
  cases hov
  rw [h0] at hz hk
  have hS' : va_S g.2.2.2.1 s.heap S'.heap (locs ++ L) := ⟨Nat.le_trans hS.1 (by rw [e1]; exact hz), fun q h1 h2 => by rw [e1, hk q (Nat.lt_of_lt_of_le h1 hS.1) h2]; exact hS.2.1 q h1 h2, fun q hq => by
    rcases List.mem_append.mp hq with h | h
    · exact hS.2.2 q h
    · exact hL q h⟩
  have hst2 : SRel g ws' (retSt r1 st) (v.toList ++ rest) := by
    unfold retSt
    rcases hr1 with ⟨h9, rfl⟩ | ⟨h9, v', rfl, hv'⟩
    · rw [if_pos h9]
      exact hs.ext hx
    · rw [if_neg (by omega)]
      exact ⟨hv', hs.ext hx⟩
  obtain ⟨t2, a1, c1⟩ := h p e R s m args below meth c mc ms C S'.heap (locs ++ L) (cells + b1.1) (slots + b1.2) ls _ ws' Q (hl.ext hx) hst2 hw' (by rw [e1]; exact hP') hD' hS' k1 k2 (hF.ext hx) S' rfl X'
  exact ⟨t2, hst t2 a1, c1⟩
theorem callRoom {d d' n : Nat} {U : Mt} {R : Room} (h : d' + 1 ≤ d) (hd : d ≤ R.frames) (hl : 40 * d ≤ R.locals) (hU : U.2.2.1 ≤ 21) : (rmOf d' (0, 0)).frames + 1 ≤ R.frames ∧ 8 + (U.2.2.1 + 11) + (rmOf d' (0, 0)).locals ≤ R.locals := by
  unfold rmOf
  constructor
  · show d' + 1 ≤ R.frames
    omega
  · show 8 + (U.2.2.1 + 11) + 40 * d' ≤ R.locals
    omega
theorem ev_callV {own : String} {idx n ci N d' : Nat} {U : Mt} {x : Int} {as1 : List Vv} {q : Vv} {σ1 : Sg} {b1 b2 : Nat × Nat} (ho : T.1.cls = own) (hU : MtOK U n) (hL : MLk own idx U) (hin : Cond.instanceMethod U.1 ∈ lw_good ∧ Cond.selects U.1.cls U.1 U.1 ∈ lw_good) (hcl : ∃ (Tt : u_T), vwCl[ci]? = some (U.1.cls, Tt, N)) (hc13 : ci < 13)
    (hk : σ.2.1 x = (ci, N)) (hx : x ≠ 0) (hn : as1.length = n) (hst : sCat st ≤ 8) (hdd : d' + 1 ≤ d) (hb : (b1.1 + b2.1, b1.2 + b2.2) = b) (hd : decode T.2.1 pc = .ok (.invokevirtual idx, 3)) (hM : EvM g d' U (vR x :: as1) σ b1 q σ1) (h : Ev g d T (pc + 3) il (retSt q st) σ1 b2 r σ') : Ev g d T pc il (as1.reverse ++ vR x :: st) σ b r σ' := by
  intro p e R s m args below meth c mc ms C H locs cells slots ls vst ws Q hl hs0 hw' hP hD hS k1 k2 hF
  obtain ⟨hx1, hbd, -, hml, hown, -, -, hts, hnw, hK, hSt, hty, hA, hR1, hR2, hR3, hR4⟩ := id C
  obtain ⟨v1, v2, rfl, hs1, hs2⟩ := hs0.app
  obtain ⟨v0, vs, rfl, hv0, hs⟩ := hs2.consR
  obtain ⟨k0, a, e0, rfl, rfl, hk0, hc⟩ := hw'.cell hv0 hx
  obtain ⟨Tt, hcl⟩ := hcl
  rw [hk] at hc
  obtain ⟨fs, rfl, hlen, hfs⟩ := CellOK.obj hc13 hc
  obtain ⟨u1, u2, u3, u4, u5⟩ := hU
  have hown' : s.vm.findClass own = some m.cls := by rw [← ho]; exact hown
  have hgood : ∀ w ∈ lw_good, w.before args s = true := fun w hw => hts w (List.mem_cons_of_mem _ hw)
  have hrev : SRel g ws (vR ((k0 : Int) + 1) :: as1) (.ref a :: v1.reverse) := ⟨hv0, by
    have := hs1.rev
    rw [List.reverse_reverse] at this
    exact this⟩
  have hMet := hM ws (.ref a :: v1.reverse) hrev hw'
  have hv1 : v1 = v1.reverse.reverse := by rw [List.reverse_reverse]
  have hlen1 : v1.reverse.length = n := by
    rw [List.length_reverse, hs1.len, List.length_reverse]
    exact hn
  have hsum : (vs.map fun v => v.category).sum ≤ 8 := by rw [hs.cat]; exact hst
  have hfr : (rmOf d' b1).frames + 1 ≤ R.frames ∧ 8 + (U.2.2.1 + 11) + (rmOf d' b1).locals ≤ R.locals := callRoom (n := 0) hdd hR1 hR2 u5
  have hPV : PreV s H U.1.cls a (va_Pc (.ref a :: v1.reverse) (PreM g ws)) v1.reverse := ⟨PreM_blind g ws _, va_recv hK hP hcl hk0, fun U' hU' hW' => ⟨rfl, PreM_at C hP hD hS hU' hW'⟩⟩
  have hcc : cells + b1.1 ≤ R.cells ∧ slots + b1.2 ≤ R.slots := by
    rw [← hb] at k1 k2
    dsimp only at k1 k2
    constructor <;> omega
  have hk12 : cells + b1.1 + b2.1 ≤ mc ∧ slots + b1.2 + b2.2 ≤ ms := by
    rw [← hb] at k1 k2
    dsimp only at k1 k2
    constructor <;> omega
  have hpay := pay_in hts (mWords_good (T := T) u1)
  rcases hL with hL | ⟨host, hL⟩
  · have hr := va_runV (p := p) (l := g.1) (e := e) (R := R) (locs := locs) (cells := cells) (slots := slots) (below := below) (meth := meth) (H := H) (g := F0 m pc ls (v1 ++ .ref a :: vs)) (rest := vs) (own := own) (index := idx) (As := v1.reverse) (n := n) ⟨hx1, hbd, hml, hown', hts⟩ hMet (bytes := U.2.1) (maxL := U.2.2.1) (ret := U.2.2.2) ⟨⟨rfl, rfl, hfr.1, hfr.2, hpay, List.mem_cons_self, hgood _ u1, hgood _ u2, ⟨u3.1, u3.2.1⟩, fun sig h9 => (by
        have h2 := u3.2.2
        rw [h9] at h2
        exact (Option.some.inj h2).symm), hgood _ hL⟩, hgood _ hin.1, hgood _ hin.2⟩ hPV rfl hlen1 hl.1 (by rw [← hv1]) (lv_room hsum) hd hcc
    exact run_fin C hr hl hs hS hk12.1 hk12.2 hF h
  · have hr := va_runVN (p := p) (l := g.1) (e := e) (R := R) (locs := locs) (cells := cells) (slots := slots) (below := below) (meth := meth) (H := H) (g := F0 m pc ls (v1 ++ .ref a :: vs)) (rest := vs) (own := own) (index := idx) (As := v1.reverse) (n := n) (host := host) ⟨hx1, hbd, hml, hown', hts⟩ hMet (bytes := U.2.1) (maxL := U.2.2.1) (ret := U.2.2.2) ⟨⟨⟨rfl, rfl, hfr.1, hfr.2, hpay, List.mem_cons_self⟩, hgood _ u1, hgood _ u2, ⟨u3.1, u3.2.1⟩, fun sig h9 => (by
        have h2 := u3.2.2
        rw [h9] at h2
        exact (Option.some.inj h2).symm), va_Nw.use rfl (hnw _ hL)⟩, hgood _ hin.1, hgood _ hin.2⟩ hPV rfl hlen1 hl.1 (by rw [← hv1]) (lv_room hsum) hd hcc
    exact run_fin C hr hl hs hS hk12.1 hk12.2 hF h
theorem ev_callI {own : String} {idx n d' : Nat} {U : Mt} {x : Int} {as1 : List Vv} {q : Vv} {σ1 : Sg} {b1 b2 : Nat × Nat} (ho : T.1.cls = own) (hU : MtOK U n) (hU2 : U.1.name = "<init>" ∧ U.2.2.2 = none) (hL : MLk own idx U) (hin : Cond.instanceMethod U.1 ∈ lw_good)
    (hx : x ≠ 0) (hn : as1.length = n) (hst : sCat st ≤ 8) (hdd : d' + 1 ≤ d) (hb : (b1.1 + b2.1, b1.2 + b2.2) = b) (hd : decode T.2.1 pc = .ok (.invokespecial idx, 3)) (hM : EvM g d' U (vR x :: as1) σ b1 q σ1) (h : Ev g d T (pc + 3) il (retSt q st) σ1 b2 r σ') : Ev g d T pc il (as1.reverse ++ vR x :: st) σ b r σ' := by
  intro p e R s m args below meth c mc ms C H locs cells slots ls vst ws Q hl hs0 hw' hP hD hS k1 k2 hF
  obtain ⟨hx1, hbd, -, hml, hown, -, -, hts, hnw, hK, hSt, hty, hA, hR1, hR2, hR3, hR4⟩ := id C
  obtain ⟨v1, v2, rfl, hs1, hs2⟩ := hs0.app
  obtain ⟨v0, vs, rfl, hv0, hs⟩ := hs2.consR
  obtain ⟨k0, a, e0, rfl, rfl, hk0, hc⟩ := hw'.cell hv0 hx
  obtain ⟨u1, u2, u3, u4, u5⟩ := hU
  have hown' : s.vm.findClass own = some m.cls := by rw [← ho]; exact hown
  have hgood : ∀ w ∈ lw_good, w.before args s = true := fun w hw => hts w (List.mem_cons_of_mem _ hw)
  have hrev : SRel g ws (vR ((k0 : Int) + 1) :: as1) (.ref a :: v1.reverse) := ⟨hv0, by
    have := hs1.rev
    rw [List.reverse_reverse] at this
    exact this⟩
  have hMet := hM ws (.ref a :: v1.reverse) hrev hw'
  have hv1 : v1 = v1.reverse.reverse := by rw [List.reverse_reverse]
  have hlen1 : v1.reverse.length = n := by
    rw [List.length_reverse, hs1.len, List.length_reverse]
    exact hn
  have hsum : (vs.map fun v => v.category).sum ≤ 8 := by rw [hs.cat]; exact hst
  have hfr : (rmOf d' b1).frames + 1 ≤ R.frames ∧ 8 + (U.2.2.1 + 11) + (rmOf d' b1).locals ≤ R.locals := callRoom (n := 0) hdd hR1 hR2 u5
  have hPV : PreS s H (va_Pc (.ref a :: v1.reverse) (PreM g ws)) (.ref a :: v1.reverse) := ⟨PreM_blind g ws _, fun U' hU' hW' => ⟨rfl, PreM_at C hP hD hS hU' hW'⟩⟩
  have hcc : cells + b1.1 ≤ R.cells ∧ slots + b1.2 ≤ R.slots := by
    rw [← hb] at k1 k2
    dsimp only at k1 k2
    constructor <;> omega
  have hk12 : cells + b1.1 + b2.1 ≤ mc ∧ slots + b1.2 + b2.2 ≤ ms := by
    rw [← hb] at k1 k2
    dsimp only at k1 k2
    constructor <;> omega
  have hpay := pay_in hts (mWords_good (T := T) u1)
  have hcode : Cond.code U.1 U.2.1 U.2.2.1 none ∈ lw_good := by rw [← hU2.2]; exact u1
  have hmem : Cond.code U.1 U.2.1 U.2.2.1 none ∈ mWords U := List.mem_cons_of_mem _ hcode
  rcases hL with hL | ⟨host, hL⟩
  · have hr := va_runI (p := p) (l := g.1) (e := e) (R := R) (locs := locs) (cells := cells) (slots := slots) (below := below) (meth := meth) (H := H) (g := F0 m pc ls (v1 ++ .ref a :: vs)) (rest := vs) (own := own) (index := idx) (b := a) (As := v1.reverse) (n := n) ⟨hx1, hbd, hml, hown', hts⟩ hMet (bytes := U.2.1) (maxL := U.2.2.1) ⟨⟨rfl, rfl, hfr.1, hfr.2, hpay, hmem, hgood _ hcode, hgood _ u2, ⟨u3.1, u3.2.1⟩, fun sig h9 => (by
        have h2 := u3.2.2
        rw [h9] at h2
        exact (Option.some.inj h2).symm), hgood _ hL⟩, hU2.1, hgood _ hin⟩ hPV rfl hlen1 hl.1 (by rw [← hv1]) (lv_room hsum) hd hcc
    exact run_fin C hr hl hs hS hk12.1 hk12.2 hF h
  · have hr := va_runIN (p := p) (l := g.1) (e := e) (R := R) (locs := locs) (cells := cells) (slots := slots) (below := below) (meth := meth) (H := H) (g := F0 m pc ls (v1 ++ .ref a :: vs)) (rest := vs) (own := own) (index := idx) (b := a) (As := v1.reverse) (n := n) (host := host) ⟨hx1, hbd, hml, hown', hts⟩ hMet (bytes := U.2.1) (maxL := U.2.2.1) ⟨⟨⟨rfl, rfl, hfr.1, hfr.2, hpay, hmem⟩, hgood _ hcode, hgood _ u2, ⟨u3.1, u3.2.1⟩, fun sig h9 => (by
        have h2 := u3.2.2
        rw [h9] at h2
        exact (Option.some.inj h2).symm), va_Nw.use rfl (hnw _ hL)⟩, hU2.1, hgood _ hin⟩ hPV rfl hlen1 hl.1 (by rw [← hv1]) (lv_room hsum) hd hcc
    exact run_fin C hr hl hs hS hk12.1 hk12.2 hF h
theorem ev_callS {own : String} {idx n d' : Nat} {U : Mt} {as1 : List Vv} {q : Vv} {σ1 : Sg} {b1 b2 : Nat × Nat} (ho : T.1.cls = own) (hU : MtOK U n) (hL : MLk own idx U) (hin : Cond.static U.1 ∈ lw_good)
    (hn : as1.length = n) (hst : sCat st ≤ 8) (hdd : d' + 1 ≤ d) (hb : (b1.1 + b2.1, b1.2 + b2.2) = b) (hd : decode T.2.1 pc = .ok (.invokestatic idx, 3)) (hM : EvM g d' U as1 σ b1 q σ1) (h : Ev g d T (pc + 3) il (retSt q st) σ1 b2 r σ') : Ev g d T pc il (as1.reverse ++ st) σ b r σ' := by
  intro p e R s m args below meth c mc ms C H locs cells slots ls vst ws Q hl hs0 hw' hP hD hS k1 k2 hF
  obtain ⟨hx1, hbd, -, hml, hown, -, -, hts, hnw, hK, hSt, hty, hA, hR1, hR2, hR3, hR4⟩ := id C
  obtain ⟨v1, vs, rfl, hs1, hs⟩ := hs0.app
  obtain ⟨u1, u2, u3, u4, u5⟩ := hU
  have hown' : s.vm.findClass own = some m.cls := by rw [← ho]; exact hown
  have hgood : ∀ w ∈ lw_good, w.before args s = true := fun w hw => hts w (List.mem_cons_of_mem _ hw)
  have hrev : SRel g ws as1 v1.reverse := by
    have := hs1.rev
    rw [List.reverse_reverse] at this
    exact this
  have hMet := hM ws v1.reverse hrev hw'
  have hv1 : v1 = v1.reverse.reverse := by rw [List.reverse_reverse]
  have hlen1 : v1.reverse.length = n := by
    rw [List.length_reverse, hs1.len, List.length_reverse]
    exact hn
  have hsum : (vs.map fun v => v.category).sum ≤ 8 := by rw [hs.cat]; exact hst
  have hfr : (rmOf d' b1).frames + 1 ≤ R.frames ∧ 8 + (U.2.2.1 + 11) + (rmOf d' b1).locals ≤ R.locals := callRoom (n := 0) hdd hR1 hR2 u5
  have hPV : PreS s H (va_Pc v1.reverse (PreM g ws)) v1.reverse := ⟨PreM_blind g ws _, fun U' hU' hW' => ⟨rfl, PreM_at C hP hD hS hU' hW'⟩⟩
  have hcc : cells + b1.1 ≤ R.cells ∧ slots + b1.2 ≤ R.slots := by
    rw [← hb] at k1 k2
    dsimp only at k1 k2
    constructor <;> omega
  have hk12 : cells + b1.1 + b2.1 ≤ mc ∧ slots + b1.2 + b2.2 ≤ ms := by
    rw [← hb] at k1 k2
    dsimp only at k1 k2
    constructor <;> omega
  have hpay := pay_in hts (mWords_good (T := T) u1)
  rcases hL with hL | ⟨host, hL⟩
  · have hr := va_runS (p := p) (l := g.1) (e := e) (R := R) (locs := locs) (cells := cells) (slots := slots) (below := below) (meth := meth) (H := H) (g := F0 m pc ls (v1 ++ vs)) (rest := vs) (own := own) (index := idx) (As := v1.reverse) (n := n) ⟨hx1, hbd, hml, hown', hts⟩ hMet (bytes := U.2.1) (maxL := U.2.2.1) (ret := U.2.2.2) ⟨⟨rfl, rfl, hfr.1, hfr.2, hpay, List.mem_cons_self, hgood _ u1, hgood _ u2, ⟨u3.1, u3.2.1⟩, fun sig h9 => (by
        have h2 := u3.2.2
        rw [h9] at h2
        exact (Option.some.inj h2).symm), hgood _ hL⟩, hgood _ hin⟩ hPV rfl hlen1 hl.1 (by rw [← hv1]) (lv_room hsum) hd hcc
    exact run_fin C hr hl hs hS hk12.1 hk12.2 hF h
  · have hr := va_runSN (p := p) (l := g.1) (e := e) (R := R) (locs := locs) (cells := cells) (slots := slots) (below := below) (meth := meth) (H := H) (g := F0 m pc ls (v1 ++ vs)) (rest := vs) (own := own) (index := idx) (As := v1.reverse) (n := n) (host := host) ⟨hx1, hbd, hml, hown', hts⟩ hMet (bytes := U.2.1) (maxL := U.2.2.1) (ret := U.2.2.2) ⟨⟨⟨rfl, rfl, hfr.1, hfr.2, hpay, List.mem_cons_self⟩, hgood _ u1, hgood _ u2, ⟨u3.1, u3.2.1⟩, fun sig h9 => (by
        have h2 := u3.2.2
        rw [h9] at h2
        exact (Option.some.inj h2).symm), va_Nw.use rfl (hnw _ hL)⟩, hgood _ hin, trivial⟩ hPV rfl hlen1 hl.1 (by rw [← hv1]) (lv_room hsum) hd hcc
    exact run_fin C hr hl hs hS hk12.1 hk12.2 hF h
/-! ends -/
theorem ev_vret (hd : decode T.2.1 pc = .ok (.return_, 1)) (hr : T.2.2.2 = none) : Ev g d T pc il [] σ (0, 0) vN σ := by
  intro p e R s m args below meth c mc ms C H locs cells slots ls vst ws Q hl hs0 hw' hP hD hS k1 k2 hF
  have := hs0.nil
  subst this
  exact hF H locs cells slots ls [] ws pc (Or.inl ⟨rfl, hd, rfl, hr⟩) wExt.rf hw' hP hD hS (by omega) (by omega)
theorem ev_iret {x : Int} (hd : decode T.2.1 pc = .ok (.ireturn, 1)) (hr : T.2.2.2 = some .int) : Ev g d T pc il [vI x] σ (0, 0) (vI x) σ := by
  intro p e R s m args below meth c mc ms C H locs cells slots ls vst ws Q hl hs0 hw' hP hD hS k1 k2 hF
  obtain ⟨w, vs, rfl, hw, hs⟩ := hs0.consI
  have := hs.nil
  subst this
  exact hF H locs cells slots ls _ ws pc (Or.inr (Or.inl ⟨rfl, hd, w, .int, rfl, hw, hr, rfl⟩)) wExt.rf hw' hP hD hS (by omega) (by omega)
theorem ev_zret {x : Int} (hx : x = 0 ∨ x = 1) (hd : decode T.2.1 pc = .ok (.ireturn, 1)) (hr : T.2.2.2 = some .boolean) : Ev g d T pc il [vI x] σ (0, 0) (vI x) σ := by
  intro p e R s m args below meth c mc ms C H locs cells slots ls vst ws Q hl hs0 hw' hP hD hS k1 k2 hF
  obtain ⟨w, vs, rfl, hw, hs⟩ := hs0.consI
  have := hs.nil
  subst this
  have hn : narrow .boolean (.int w) = .int w := by
    rcases i32_01 (w := w) (by rw [hw]; exact hx) with rfl | rfl <;> rfl
  exact hF H locs cells slots ls _ ws pc (Or.inr (Or.inl ⟨rfl, hd, w, .boolean, rfl, hw, hr, hn⟩)) wExt.rf hw' hP hD hS (by omega) (by omega)
theorem ev_lret {x : Int} (hd : decode T.2.1 pc = .ok (.lreturn, 1)) (hr : T.2.2.2 = some .long) : Ev g d T pc il [vL x] σ (0, 0) (vL x) σ := by
  intro p e R s m args below meth c mc ms C H locs cells slots ls vst ws Q hl hs0 hw' hP hD hS k1 k2 hF
  obtain ⟨w, vs, rfl, hw, hs⟩ := hs0.consL
  have := hs.nil
  subst this
  exact hF H locs cells slots ls _ ws pc (Or.inr (Or.inr ⟨rfl, hd, w, rfl, hw, hr⟩)) wExt.rf hw' hP hD hS (by omega) (by omega)
end EvC8
