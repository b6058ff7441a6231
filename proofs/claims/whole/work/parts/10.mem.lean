/-! ===== fields, arrays, statics over Ev ===== -/
def upM (M : Mem) (x i v : Int) : Mem := fun y j => if y = x ∧ j = i then v else M y j
def setM (σ : Sg) (x i v : Int) : Sg := (σ.1, σ.2.1, σ.2.2.1, upM σ.2.2.2 x i v)
def setR (σ : Sg) (x i v : Int) : Sg := (σ.1, σ.2.1, upM σ.2.2.1 x i v, σ.2.2.2)
theorem upM_ne {M : Mem} {x i v y : Int} (h : y ≠ x) : upM M x i v y = M y := by
  funext j
  unfold upM
  rw [if_neg (fun q => h q.1)]
theorem upM_at {M : Mem} {x i v j : Int} : upM M x i v x j = if j = i then v else M x j := by
  unfold upM
  by_cases h : j = i
  · rw [if_pos ⟨rfl, h⟩, if_pos h]
  · rw [if_neg (fun q => h q.2), if_neg h]
theorem WOK.cell {g : Gm} {ws : va_W} {σ : Sg} (h : WOK g ws σ) {x : Int} {v : Value} (hv : wRef ws x v) (hx : x ≠ 0) : ∃ (k a : Nat) (e : va_E), v = .ref a ∧ x = (k : Int) + 1 ∧ ws[k]? = some (a, e) ∧ CellOK g ws (σ.2.1 x) (σ.2.2.1 x) (σ.2.2.2 x) e := by
  rcases hv with ⟨h0, -⟩ | ⟨k, a, e, rfl, h2, h3⟩
  · exact absurd h0 hx
  · exact ⟨k, a, e, h3, rfl, h2, h.2 k a e h2⟩
theorem WOK.set {g : Gm} {ws : va_W} {σ : Sg} (h : WOK g ws σ) {k a : Nat} {e e' : va_E} (hk : ws[k]? = some (a, e)) {rf m : Mem} (hr : ∀ y : Int, y ≠ (k : Int) + 1 → rf y = σ.2.2.1 y) (hm : ∀ y : Int, y ≠ (k : Int) + 1 → m y = σ.2.2.2 y)
    (hc : CellOK g ws (σ.2.1 ((k : Int) + 1)) (rf ((k : Int) + 1)) (m ((k : Int) + 1)) e') : WOK g (ws.set k (a, e')) (σ.1, σ.2.1, rf, m) := by
  have hx : wExt ws (ws.set k (a, e')) := wExt.set hk
  refine ⟨by rw [List.length_set]; exact h.1, fun j b f hj => ?_⟩
  by_cases hjk : j = k
  · subst hjk
    rw [List.getElem?_set_self (List.getElem?_eq_some_iff.mp hk).1] at hj
    cases hj
    exact hc.ext hx
  · rw [List.getElem?_set_ne (Ne.symm hjk)] at hj
    have hne : ((j : Int) + 1) ≠ (k : Int) + 1 := by omega
    show CellOK g _ _ (rf _) (m _) _
    rw [hr _ hne, hm _ hne]
    exact (h.2 j b f hj).ext hx
/-- an object of its kind -/
theorem CellOK.obj {g : Gm} {ws : va_W} {ci N : Nat} (h13 : ci < 13) {rf m : Int → Int} {e : va_E} (h : CellOK g ws (ci, N) rf m e) : ∃ fs : List Value, e = .inr (ci, fs) ∧ fs.length = N ∧ ∀ j : Nat, j < N → ∃ v, fs[j]? = some v ∧ Rp g ws (fTag (clTy ci j), if fTag (clTy ci j) = 2 then rf j else m j) v := by
  rcases h with h | h | h | h
  · exact h.2
  · have := h.1; simp at this; omega
  · have := h.1; simp at this; omega
  · have := h.1; simp at this; omega
theorem CellOK.arrI {g : Gm} {ws : va_W} {t n : Nat} (h1 : 20 ≤ t) (h2 : t < 23) {rf m : Int → Int} {e : va_E} (h : CellOK g ws (t, n) rf m e) : ∃ (cA : ClassId) (f : Nat → Int32), g.2.2.1[t - 20]? = some (cA, aTy t) ∧ e = .inl (cA, n, .inl f) ∧ ∀ j : Nat, j < n → (f j).toInt = m j := by
  rcases h with h | h | h | h
  · have := h.1; simp at this; omega
  · exact h.2.2
  · have := h.1; simp at this; omega
  · have := h.1; simp at this; omega
theorem CellOK.arrL {g : Gm} {ws : va_W} {n : Nat} {rf m : Int → Int} {e : va_E} (h : CellOK g ws (23, n) rf m e) : ∃ (cA : ClassId) (f : Nat → Int64), g.2.2.1[3]? = some (cA, .long) ∧ e = .inl (cA, n, .inr (.inl f)) ∧ ∀ j : Nat, j < n → (f j).toInt = m j := by
  rcases h with h | h | h | h
  · have := h.1; simp at this
  · have := h.2.1; simp at this
  · exact h.2
  · have := h.1; simp at this
theorem CellOK.arrR {g : Gm} {ws : va_W} {t n : Nat} (h1 : 24 ≤ t) {rf m : Int → Int} {e : va_E} (h : CellOK g ws (t, n) rf m e) : ∃ (cA : ClassId) (f : Nat → Option Nat), g.2.2.1[t - 20]? = some (cA, aTy t) ∧ e = .inl (cA, n, .inr (.inr (.inr (.inr f)))) ∧ ∀ j : Nat, j < n → wRef ws (rf j) (va_rf (f j)) := by
  rcases h with h | h | h | h
  · have := h.1; simp at this; omega
  · have := h.2.1; simp at this; omega
  · have := h.1; simp at this; omega
  · exact h.2.2
theorem mz_clamp {w : Int32} {i : Int} (h : w.toInt = i) (h0 : 0 ≤ i) : ((w.toNatClampNeg : Nat) : Int) = i := by
  show ((w.toInt.toNat : Nat) : Int) = i
  omega
section EvM6
variable {g : Gm} {d : Nat} {T : Mt} {pc : Nat} {il il' : List (Nat × Vv)} {st : List Vv} {σ σ' : Sg} {b : Nat × Nat} {r : Vv}
theorem ev_get {own : String} {idx ci N k : Nat} {ty : FieldType} {fin : Bool} {x : Int} {q : Vv} (ho : T.1.cls = own) (hf : FLk own idx ci N k ty fin) (hk : σ.2.1 x = (ci, N)) (hx : x ≠ 0) (hq : (fTag ty, if fTag ty = 2 then σ.2.2.1 x k else σ.2.2.2 x k) = q) (hd : decode T.2.1 pc = .ok (.getfield idx, 3))
    (h : Ev g d T (pc + 3) il (q :: st) σ b r σ') : Ev g d T pc il (vR x :: st) σ b r σ' := by
  intro p e R s m args below meth c mc ms C H locs cells slots ls vst ws Q hl hs0 hw' hP hD hS k1 k2 hF
  obtain ⟨hx1, hb, -, -, hown, -, -, hts, hnw, hK, -⟩ := id C
  obtain ⟨v, vs, rfl, hv, hs⟩ := hs0.consR
  obtain ⟨k0, a, e0, rfl, rfl, hk0, hc⟩ := hw'.cell hv hx
  obtain ⟨Cn, Tt, hcl, hin, hty, hnm, hkN, h13, hty2, -, hlk⟩ := hf
  rw [hk] at hc
  obtain ⟨fs, rfl, hlen, hfs⟩ := CellOK.obj h13 hc
  obtain ⟨v, hv1, hv2⟩ := hfs k hkN
  have hown' : s.vm.findClass own = some m.cls := by rw [← ho]; exact hown
  have hgo := h p e R s m args below meth c mc ms C H locs cells slots ls (v :: vs) ws Q hl ⟨by rw [← hq, ← hty2]; exact hv2, hs⟩ hw' hP hD hS k1 k2 hF
  have hN : ∀ host, Cond.fieldLinkNest own idx (Tt k).1 (Tt k).2.1 (Tt k).2.2.1 host ∈ lw_nest → W p g.1 e R s m args below meth c H locs cells slots Q (F0 m pc ls (.ref a :: vs)) := fun host hh =>
    va_getN (Ts := mWords T) hx1 hb hts (fun w hw => List.mem_cons_of_mem _ (hin w hw)) hown' hK hP k0 hk0 hcl k hkN (va_Nw.use rfl (hnw _ hh)) (fun _ z => z) hv1 hd hgo
  rcases hlk with hlk | ⟨host, hlk⟩
  · exact va_get (Ts := mWords T) hx1 hb hts (fun w hw => List.mem_cons_of_mem _ (hin w hw)) hown' hK hP k0 hk0 hcl k hkN (hts _ (List.mem_cons_of_mem _ hlk)) (fun _ z => z) hv1 hd hgo
  · exact hN host hlk
/-- what a stored value must be for its place -/
def okSt (ty : FieldType) (q : Vv) : Prop := (ty = .int ∧ q.1 = 0) ∨ (ty = .boolean ∧ q.1 = 0 ∧ (q.2 = 0 ∨ q.2 = 1)) ∨ (ty = .long ∧ q.1 = 1) ∨ (fTag ty = 2 ∧ q.1 = 2)
theorem i32_01 {w : Int32} (h : w.toInt = 0 ∨ w.toInt = 1) : w = 0 ∨ w = 1 := by
  rcases h with h | h
  · exact Or.inl (Int32.toInt_inj.mp (by rw [h]; rfl))
  · exact Or.inr (Int32.toInt_inj.mp (by rw [h]; rfl))
theorem okSt.fit {g : Gm} {ws : va_W} {ty : FieldType} {q : Vv} {v : Value} (h : okSt ty q) (hv : Rp g ws q v) : narrow ty v = v ∧ fits ty v = true ∧ fTag ty = q.1 := by
  obtain ⟨t, x⟩ := q
  rcases h with ⟨rfl, h⟩ | ⟨rfl, h, h2⟩ | ⟨rfl, h⟩ | ⟨h0, h⟩
  · have h : t = 0 := h
    subst h
    obtain ⟨w, rfl, -⟩ := hv
    exact ⟨rfl, rfl, rfl⟩
  · have h : t = 0 := h
    subst h
    obtain ⟨w, rfl, hw⟩ := hv
    have hw : w.toInt = x := hw
    rcases i32_01 (w := w) (by rw [hw]; exact h2) with rfl | rfl
    · exact ⟨rfl, rfl, rfl⟩
    · exact ⟨rfl, rfl, rfl⟩
  · have h : t = 1 := h
    subst h
    obtain ⟨w, rfl, -⟩ := hv
    exact ⟨rfl, rfl, rfl⟩
  · have h : t = 2 := h
    subst h
    have hv : wRef ws x v := hv
    rcases hv with ⟨-, rfl⟩ | ⟨k, a, e, -, -, rfl⟩
    · cases ty <;> first | exact ⟨rfl, rfl, rfl⟩ | (cases h0)
    · cases ty <;> first | exact ⟨rfl, rfl, rfl⟩ | (cases h0)
theorem set_fs {g : Gm} {ws : va_W} {ci N k : Nat} {rf m rf' m' : Int → Int} {fs : List Value} {v : Value} {q : Vv} (hfs : ∀ j : Nat, j < N → ∃ v, fs[j]? = some v ∧ Rp g ws (fTag (clTy ci j), if fTag (clTy ci j) = 2 then rf j else m j) v) (hlen : fs.length = N)
    (hv : Rp g ws q v) (ht : fTag (clTy ci k) = q.1) (h1 : fTag (clTy ci k) = 2 → rf' k = q.2) (h2 : fTag (clTy ci k) ≠ 2 → m' k = q.2) (h3 : ∀ j : Nat, j ≠ k → rf' j = rf j ∧ m' j = m j) : ∀ j : Nat, j < N → ∃ w, (fs.set k v)[j]? = some w ∧ Rp g ws (fTag (clTy ci j), if fTag (clTy ci j) = 2 then rf' j else m' j) w := by
  intro j hj
  by_cases hjk : j = k
  · subst hjk
    refine ⟨v, List.getElem?_set_self (by omega), ?_⟩
    by_cases h9 : fTag (clTy ci j) = 2
    · rw [if_pos h9, h1 h9, ht]
      exact hv
    · rw [if_neg h9, h2 h9, ht]
      exact hv
  · obtain ⟨w, a1, a2⟩ := hfs j hj
    refine ⟨w, by rw [List.getElem?_set_ne (Ne.symm hjk)]; exact a1, ?_⟩
    rw [(h3 j hjk).1, (h3 j hjk).2]
    exact a2
def stF (σ : Sg) (x : Int) (k : Nat) (q : Vv) : Sg := if q.1 = 2 then setR σ x k q.2 else setM σ x k q.2
theorem stF_ok {g : Gm} {ws : va_W} {σ : Sg} {ci N k k0 a : Nat} {fs : List Value} {q : Vv} {v : Value} (hw : WOK g ws σ) (hk0 : ws[k0]? = some (a, .inr (ci, fs))) (h13 : ci < 13) (hk : σ.2.1 ((k0 : Int) + 1) = (ci, N)) (hv : Rp g ws q v) (ht : fTag (clTy ci k) = q.1) (hlen : fs.length = N)
    (hfs : ∀ j : Nat, j < N → ∃ v, fs[j]? = some v ∧ Rp g ws (fTag (clTy ci j), if fTag (clTy ci j) = 2 then σ.2.2.1 ((k0 : Int) + 1) j else σ.2.2.2 ((k0 : Int) + 1) j) v) : WOK g (ws.set k0 (a, .inr (ci, fs.set k v))) (stF σ ((k0 : Int) + 1) k q) := by
  unfold stF
  by_cases h2 : q.1 = 2
  · rw [if_pos h2]
    refine hw.set hk0 (fun y hy => upM_ne hy) (fun y hy => rfl) ?_
    rw [hk]
    refine Or.inl ⟨h13, _, rfl, by rw [List.length_set]; exact hlen, ?_⟩
    refine set_fs hfs hlen hv ht (fun _ => by rw [upM_at, if_pos rfl]) (fun h => absurd (ht.trans h2) h) (fun j hj => ⟨by rw [upM_at, if_neg (by omega)], rfl⟩)
  · rw [if_neg h2]
    refine hw.set hk0 (fun y hy => rfl) (fun y hy => upM_ne hy) ?_
    rw [hk]
    refine Or.inl ⟨h13, _, rfl, by rw [List.length_set]; exact hlen, ?_⟩
    refine set_fs hfs hlen hv ht (fun h => absurd (ht.symm.trans h) h2) (fun _ => by rw [upM_at, if_pos rfl]) (fun j hj => ⟨rfl, by rw [upM_at, if_neg (by omega)]⟩)
theorem ev_put {own : String} {idx ci N k : Nat} {ty : FieldType} {x : Int} {q : Vv} {σ1 : Sg} (ho : T.1.cls = own) (hf : FLk own idx ci N k ty false) (hk : σ.2.1 x = (ci, N)) (hx : x ≠ 0) (hq : okSt ty q) (hd : decode T.2.1 pc = .ok (.putfield idx, 3)) (h1 : stF σ x k q = σ1)
    (h : Ev g d T (pc + 3) il st σ1 b r σ') : Ev g d T pc il (q :: vR x :: st) σ b r σ' := by
  intro p e R s m args below meth c mc ms C H locs cells slots ls vst ws Q hl hs0 hw' hP hD hS k1 k2 hF
  obtain ⟨hx1, hb, -, -, hown, -, -, hts, hnw, hK, -⟩ := id C
  obtain ⟨v, vs1, rfl, hv, hs1⟩ := hs0.cons
  obtain ⟨v0, vs, rfl, hv0, hs⟩ := hs1.consR
  obtain ⟨k0, a, e0, rfl, rfl, hk0, hc⟩ := hw'.cell hv0 hx
  obtain ⟨Cn, Tt, hcl, hin, hty, hnm, hkN, h13, hty2, hfin, hlk⟩ := hf
  rw [hk] at hc
  obtain ⟨fs, rfl, hlen, hfs⟩ := CellOK.obj h13 hc
  obtain ⟨f1, f2, f3⟩ := hq.fit hv
  have hown' : s.vm.findClass own = some m.cls := by rw [← ho]; exact hown
  have hW2 := stF_ok (k := k) hw' hk0 h13 hk hv (by rw [hty2]; exact f3) hlen hfs
  rw [h1] at hW2
  have hgo : ∀ (H1 : Heap) (locs1 : List Loc), va_P g.2.1 vwCl (ws.set k0 (a, .inr (ci, fs.set k v))) H1 → va_D g.2.2.2.1 (ws.set k0 (a, .inr (ci, fs.set k v))) → va_S g.2.2.2.1 s.heap H1 locs1 → W p g.1 e R s m args below meth c H1 locs1 cells slots Q (F0 m (pc + 3) ls vs) := fun H1 locs1 hP1 hD1 hS1 =>
    h p e R s m args below meth c mc ms C H1 locs1 cells slots ls vs _ Q (hl.ext (wExt.set hk0)) (hs.ext (wExt.set hk0)) hW2 hP1 hD1 hS1 k1 k2 (hF.ext (wExt.set hk0))
  have hN : ∀ host, Cond.fieldLinkNest own idx (Tt k).1 (Tt k).2.1 (Tt k).2.2.1 host ∈ lw_nest → W p g.1 e R s m args below meth c H locs cells slots Q (F0 m pc ls (v :: .ref a :: vs)) := fun host hh =>
    va_putN (Ts := mWords T) hx1 hb hts (fun w hw => List.mem_cons_of_mem _ (hin w hw)) (clTy ci) hty hnm hown' hK hP hD hS k0 hk0 hcl k hkN (va_Nw.use rfl (hnw _ hh)) (fun _ z => z) hfin (hty k hkN) (by rw [hty2]; exact f1) (by rw [hty2]; exact f2) (by omega) hd hgo
  rcases hlk with hlk | ⟨host, hlk⟩
  · exact va_put (Ts := mWords T) hx1 hb hts (fun w hw => List.mem_cons_of_mem _ (hin w hw)) (clTy ci) hty hnm hown' hK hP hD hS k0 hk0 hcl k hkN (hts _ (List.mem_cons_of_mem _ hlk)) (fun _ z => z) hfin (hty k hkN) (by rw [hty2]; exact f1) (by rw [hty2]; exact f2) (by omega) hd hgo
  · exact hN host hlk
theorem ev_putF {own : String} {idx ci N k : Nat} {ty : FieldType} {x : Int} {q : Vv} {σ1 : Sg} (ho : T.1.cls = own) (hi : T.1.name = "<init>") (hf : FLkF own idx ci N k ty) (hk : σ.2.1 x = (ci, N)) (hx : x ≠ 0) (hq : okSt ty q) (hd : decode T.2.1 pc = .ok (.putfield idx, 3)) (h1 : stF σ x k q = σ1)
    (h : Ev g d T (pc + 3) il st σ1 b r σ') : Ev g d T pc il (q :: vR x :: st) σ b r σ' := by
  intro p e R s m args below meth c mc ms C H locs cells slots ls vst ws Q hl hs0 hw' hP hD hS k1 k2 hF
  obtain ⟨hx1, hb, -, -, hown, -, hname, hts, hnw, hK, -⟩ := id C
  obtain ⟨v, vs1, rfl, hv, hs1⟩ := hs0.cons
  obtain ⟨v0, vs, rfl, hv0, hs⟩ := hs1.consR
  obtain ⟨k0, a, e0, rfl, rfl, hk0, hc⟩ := hw'.cell hv0 hx
  obtain ⟨⟨Cn, Tt, hcl, hin, hty, hnm, hkN, h13, hty2, hfin, -⟩, Cn', Tt', hcl', hlk, hdecl⟩ := hf
  have e9 : (Cn, Tt, N) = (Cn', Tt', N) := Option.some.inj (hcl.symm.trans hcl')
  cases e9
  rw [hk] at hc
  obtain ⟨fs, rfl, hlen, hfs⟩ := CellOK.obj h13 hc
  obtain ⟨f1, f2, f3⟩ := hq.fit hv
  have hown' : s.vm.findClass own = some m.cls := by rw [← ho]; exact hown
  have hW2 := stF_ok (k := k) hw' hk0 h13 hk hv (by rw [hty2]; exact f3) hlen hfs
  rw [h1] at hW2
  exact va_putF (Ts := mWords T) hx1 hb hts (fun w hw => List.mem_cons_of_mem _ (hin w hw)) (clTy ci) hty hnm hown' hK hP hD hS k0 hk0 hcl k hkN (hts _ (List.mem_cons_of_mem _ hlk)) (fun _ z => z) hfin (hname.trans hi) hdecl (hty k hkN) (by rw [hty2]; exact f1) (by rw [hty2]; exact f2) (by omega) hd (fun H1 locs1 hP1 hD1 hS1 =>
    h p e R s m args below meth c mc ms C H1 locs1 cells slots ls vs _ Q (hl.ext (wExt.set hk0)) (hs.ext (wExt.set hk0)) hW2 hP1 hD1 hS1 k1 k2 (hF.ext (wExt.set hk0)))
end EvM6
