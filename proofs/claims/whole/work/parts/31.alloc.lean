/-! ===== cells made: the store as a list, while the constructors run ===== -/
abbrev CLc : Type := Kd × List Int × List Int
abbrev CL : Type := List CLc
def clAt (l : CL) (x : Int) : CLc := l.getD (x.toNat - 1) ((99, 0), [], [])
def sgL (l : CL) : Sg := (l.length, fun x => (clAt l x).1, fun x i => (clAt l x).2.1.getD i.toNat 0, fun x i => (clAt l x).2.2.getD i.toNat 0)
def lPad (l : List Int) (k : Nat) (v : Int) : List Int := if k < l.length then l.set k v else l ++ List.replicate (k - l.length) 0 ++ [v]
theorem lPad_get (l : List Int) (k : Nat) (v : Int) (j : Nat) : (lPad l k v).getD j 0 = if j = k then v else l.getD j 0 := by
  unfold lPad
  by_cases h : k < l.length
  · rw [if_pos h]
    by_cases hj : j = k
    · subst hj
      rw [if_pos rfl, List.getD_eq_getElem?_getD, List.getElem?_set_self h]
      rfl
    · rw [if_neg hj, List.getD_eq_getElem?_getD, List.getElem?_set_ne (Ne.symm hj), List.getD_eq_getElem?_getD]
  · rw [if_neg h]
    have hlen : (l ++ List.replicate (k - l.length) (0 : Int)).length = k := by
      rw [List.length_append, List.length_replicate]
      omega
    rw [List.getD_eq_getElem?_getD, List.getD_eq_getElem?_getD]
    by_cases hj : j = k
    · subst hj
      rw [if_pos rfl, List.getElem?_append_right (by omega), hlen, Nat.sub_self]
      rfl
    · rw [if_neg hj]
      by_cases h2 : j < k
      · rw [List.getElem?_append_left (by omega)]
        by_cases h3 : j < l.length
        · rw [List.getElem?_append_left h3]
        · rw [List.getElem?_append_right (by omega), List.getElem?_replicate, if_pos (by omega), List.getElem?_eq_none (by omega)]
          rfl
      · rw [List.getElem?_eq_none (by rw [List.length_append, hlen]; show k + 1 ≤ j; omega), List.getElem?_eq_none (by omega)]
def clR (l : CL) (x : Int) (k : Nat) (v : Int) : CL := l.set (x.toNat - 1) ((clAt l x).1, lPad (clAt l x).2.1 k v, (clAt l x).2.2)
def clI (l : CL) (x : Int) (k : Nat) (v : Int) : CL := l.set (x.toNat - 1) ((clAt l x).1, (clAt l x).2.1, lPad (clAt l x).2.2 k v)
/-- x is a cell of this kind -/
def okC (l : CL) (x : Int) (kd : Kd) : Prop := 1 ≤ x ∧ x ≤ l.length ∧ (clAt l x).1 = kd
theorem clAt_push {l : CL} {c : CLc} {x : Int} (h : 1 ≤ x) (h2 : x ≤ l.length) : clAt (l ++ [c]) x = clAt l x := by
  unfold clAt
  rw [List.getD_eq_getElem?_getD, List.getD_eq_getElem?_getD, List.getElem?_append_left (by omega)]
theorem clAt_new {l : CL} {c : CLc} : clAt (l ++ [c]) ((l.length : Int) + 1) = c := by
  unfold clAt
  rw [show (((l.length : Int) + 1).toNat - 1) = l.length by omega, List.getD_eq_getElem?_getD, List.getElem?_append_right (Nat.le_refl _), Nat.sub_self]
  rfl
theorem clAt_set {l : CL} {c : CLc} {x y : Int} (hx : 1 ≤ x) (hx2 : x ≤ l.length) (hy : 1 ≤ y) : clAt (l.set (x.toNat - 1) c) y = if y = x then c else clAt l y := by
  unfold clAt
  rw [List.getD_eq_getElem?_getD, List.getD_eq_getElem?_getD]
  by_cases h : y = x
  · subst h
    rw [if_pos rfl, List.getElem?_set_self (by omega)]
    rfl
  · rw [if_neg h, List.getElem?_set_ne (by omega)]
theorem okC.push {l : CL} {x : Int} {kd : Kd} (c : CLc) (h : okC l x kd) : okC (l ++ [c]) x kd := ⟨h.1, by rw [List.length_append]; have := h.2.1; omega, by rw [clAt_push h.1 h.2.1]; exact h.2.2⟩
theorem okC.new {l : CL} {c : CLc} : okC (l ++ [c]) ((l.length : Int) + 1) c.1 := ⟨by omega, by rw [List.length_append]; show _ ≤ (((l.length + 1 : Nat)) : Int); omega, by rw [clAt_new]⟩
theorem okC.ofR {l : CL} {x y : Int} {kd kd' : Kd} {k : Nat} {v : Int} (hx : okC l x kd') (h : okC l y kd) : okC (clR l x k v) y kd := by
  refine ⟨h.1, by unfold clR; rw [List.length_set]; exact h.2.1, ?_⟩
  unfold clR
  rw [clAt_set hx.1 hx.2.1 h.1]
  by_cases e : y = x
  · subst e
    rw [if_pos rfl]
    exact h.2.2
  · rw [if_neg e]
    exact h.2.2
theorem okC.ofI {l : CL} {x y : Int} {kd kd' : Kd} {k : Nat} {v : Int} (hx : okC l x kd') (h : okC l y kd) : okC (clI l x k v) y kd := by
  refine ⟨h.1, by unfold clI; rw [List.length_set]; exact h.2.1, ?_⟩
  unfold clI
  rw [clAt_set hx.1 hx.2.1 h.1]
  by_cases e : y = x
  · subst e
    rw [if_pos rfl]
    exact h.2.2
  · rw [if_neg e]
    exact h.2.2
theorem CellOK.congr {g : Gm} {ws : va_W} {kd : Kd} {rf m rf' m' : Int → Int} {e : va_E} (h1 : ∀ j : Nat, rf' j = rf j) (h2 : ∀ j : Nat, m' j = m j) (h : CellOK g ws kd rf m e) : CellOK g ws kd rf' m' e := by
  rcases h with ⟨a, fs, b, c, d⟩ | ⟨a, a2, cA, f, b, c, d⟩ | ⟨a, cA, f, b, c, d⟩ | ⟨a, a2, cA, f, b, c, d⟩
  · refine Or.inl ⟨a, fs, b, c, fun j hj => ?_⟩
    obtain ⟨v, q1, q2⟩ := d j hj
    refine ⟨v, q1, ?_⟩
    rw [h1, h2]
    exact q2
  · exact Or.inr (Or.inl ⟨a, a2, cA, f, b, c, fun j hj => by rw [h2]; exact d j hj⟩)
  · exact Or.inr (Or.inr (Or.inl ⟨a, cA, f, b, c, fun j hj => by rw [h2]; exact d j hj⟩))
  · exact Or.inr (Or.inr (Or.inr ⟨a, a2, cA, f, b, c, fun j hj => by rw [h1]; exact d j hj⟩))
/-- two stores that say the same of the cells that there are -/
def likeS (σ τ : Sg) : Prop := σ.1 = τ.1 ∧ ∀ x : Int, 1 ≤ x → x ≤ σ.1 → σ.2.1 x = τ.2.1 x ∧ (∀ j : Nat, σ.2.2.1 x j = τ.2.2.1 x j) ∧ ∀ j : Nat, σ.2.2.2 x j = τ.2.2.2 x j
theorem WOK.like {g : Gm} {ws : va_W} {σ τ : Sg} (h : WOK g ws σ) (e : likeS σ τ) : WOK g ws τ := by
  refine ⟨h.1.trans e.1, fun k a x hk => ?_⟩
  have hlt := (List.getElem?_eq_some_iff.mp hk).1
  have hl := h.1
  obtain ⟨e1, e2, e3⟩ := e.2 ((k : Int) + 1) (by omega) (by omega)
  rw [← e1]
  exact (h.2 k a x hk).congr (fun j => (e2 j).symm) (fun j => (e3 j).symm)
theorem like_R {l : CL} {x : Int} {kd : Kd} {k : Nat} {v : Int} (h : okC l x kd) : likeS (setR (sgL l) x k v) (sgL (clR l x k v)) := by
  refine ⟨by show l.length = (clR l x k v).length; unfold clR; rw [List.length_set], fun y hy hy2 => ?_⟩
  have e : clAt (clR l x k v) y = if y = x then ((clAt l x).1, lPad (clAt l x).2.1 k v, (clAt l x).2.2) else clAt l y := clAt_set h.1 h.2.1 hy
  show (clAt l y).1 = (clAt (clR l x k v) y).1 ∧ (∀ j : Nat, upM (sgL l).2.2.1 x k v y j = (clAt (clR l x k v) y).2.1.getD ((j : Int)).toNat 0) ∧ ∀ j : Nat, (clAt l y).2.2.getD ((j : Int)).toNat 0 = (clAt (clR l x k v) y).2.2.getD ((j : Int)).toNat 0
  rw [e]
  by_cases q : y = x
  · subst q
    rw [if_pos rfl]
    refine ⟨rfl, fun j => ?_, fun j => rfl⟩
    show upM (sgL l).2.2.1 y k v y j = (lPad (clAt l y).2.1 k v).getD ((j : Int)).toNat 0
    rw [upM_at, lPad_get]
    by_cases hj : j = k
    · subst hj
      rw [if_pos rfl, if_pos (by omega)]
    · rw [if_neg (by omega), if_neg (by omega)]
      rfl
  · rw [if_neg q]
    refine ⟨rfl, fun j => ?_, fun j => rfl⟩
    rw [upM_ne q]
    rfl
theorem like_I {l : CL} {x : Int} {kd : Kd} {k : Nat} {v : Int} (h : okC l x kd) : likeS (setM (sgL l) x k v) (sgL (clI l x k v)) := by
  refine ⟨by show l.length = (clI l x k v).length; unfold clI; rw [List.length_set], fun y hy hy2 => ?_⟩
  have e : clAt (clI l x k v) y = if y = x then ((clAt l x).1, (clAt l x).2.1, lPad (clAt l x).2.2 k v) else clAt l y := clAt_set h.1 h.2.1 hy
  show (clAt l y).1 = (clAt (clI l x k v) y).1 ∧ (∀ j : Nat, (clAt l y).2.1.getD ((j : Int)).toNat 0 = (clAt (clI l x k v) y).2.1.getD ((j : Int)).toNat 0) ∧ ∀ j : Nat, upM (sgL l).2.2.2 x k v y j = (clAt (clI l x k v) y).2.2.getD ((j : Int)).toNat 0
  rw [e]
  by_cases q : y = x
  · subst q
    rw [if_pos rfl]
    refine ⟨rfl, fun j => rfl, fun j => ?_⟩
    show upM (sgL l).2.2.2 y k v y j = (lPad (clAt l y).2.2 k v).getD ((j : Int)).toNat 0
    rw [upM_at, lPad_get]
    by_cases hj : j = k
    · subst hj
      rw [if_pos rfl, if_pos (by omega)]
    · rw [if_neg (by omega), if_neg (by omega)]
      rfl
  · rw [if_neg q]
    refine ⟨rfl, fun j => rfl, fun j => ?_⟩
    rw [upM_ne q]
    rfl
theorem WOK.push {g : Gm} {ws : va_W} {l : CL} {c : CLc} {a : Nat} {e : va_E} (h : WOK g ws (sgL l)) (hc : CellOK g (ws ++ [(a, e)]) c.1 (fun i => c.2.1.getD i.toNat 0) (fun i => c.2.2.getD i.toNat 0) e) : WOK g (ws ++ [(a, e)]) (sgL (l ++ [c])) := by
  have hl : ws.length = l.length := h.1
  refine ⟨by rw [List.length_append]; show ws.length + 1 = (l ++ [c]).length; rw [List.length_append, hl]; rfl, fun k b x hk => ?_⟩
  by_cases hlt : k < ws.length
  · rw [List.getElem?_append_left hlt] at hk
    have e1 : clAt (l ++ [c]) ((k : Int) + 1) = clAt l ((k : Int) + 1) := clAt_push (by omega) (by omega)
    show CellOK g _ (clAt (l ++ [c]) ((k : Int) + 1)).1 (fun i => (clAt (l ++ [c]) ((k : Int) + 1)).2.1.getD i.toNat 0) (fun i => (clAt (l ++ [c]) ((k : Int) + 1)).2.2.getD i.toNat 0) x
    rw [e1]
    exact (h.2 k b x hk).ext wExt.push
  · rw [List.getElem?_append_right (by omega)] at hk
    have hz : k - ws.length < 1 := (List.getElem?_eq_some_iff.mp hk).1
    have hk0 : k = l.length := by omega
    subst hk0
    rw [hl, Nat.sub_self] at hk
    cases hk
    show CellOK g _ (clAt (l ++ [c]) ((l.length : Int) + 1)).1 (fun i => (clAt (l ++ [c]) ((l.length : Int) + 1)).2.1.getD i.toNat 0) (fun i => (clAt (l ++ [c]) ((l.length : Int) + 1)).2.2.getD i.toNat 0) e
    rw [clAt_new]
    exact hc
section EvAl
variable {g : Gm} {d : Nat} {T : Mt} {pc : Nat} {il il' : List (Nat × Vv)} {st : List Vv} {l : CL} {σ τ σ' : Sg} {b b2 : Nat × Nat} {r : Vv}
theorem ev_like (e : likeS σ τ) (h : Ev g d T pc il st τ b r σ') : Ev g d T pc il st σ b r σ' := by
  intro p e' R s m args below meth c mc ms C H locs cells slots ls vst ws Q hl hs hw' hP hD hS k1 k2 hF
  exact h p e' R s m args below meth c mc ms C H locs cells slots ls vst ws Q hl hs (hw'.like e) hP hD hS k1 k2 hF
def NLk (own : String) (idx ci N : Nat) : Prop := ∃ (C : String) (Tt : u_T), vwCl[ci]? = some (C, Tt, N) ∧ (∀ w ∈ u_ws C Tt N, w ∈ lw_good) ∧ (∀ j, j < N → parseFieldDescriptor (Tt j).2.2.1 = some (clTy ci j)) ∧ ci < 13 ∧ Cond.classLink own idx C ∈ lw_good ∧ Cond.instantiable C N ∈ lw_good ∧ Cond.initialized C ∈ lw_good
theorem rp_default {g : Gm} {ws : va_W} (ty : FieldType) (h : fTag ty = 0 → ∃ w : Int32, defaultValue ty = .int w ∧ w.toInt = 0) : Rp g ws (fTag ty, if fTag ty = 2 then 0 else 0) (defaultValue ty) := by
  rw [show (if fTag ty = 2 then (0 : Int) else 0) = 0 by split <;> rfl]
  cases ty <;> first | exact h rfl | exact ⟨0, rfl, rfl⟩ | exact Or.inl ⟨rfl, rfl⟩
theorem ev_new {own : String} {idx ci N : Nat} (ho : T.1.cls = own) (hf : NLk own idx ci N) (hnf : ∀ j, j < N → fTag (clTy ci j) = 0 → ∃ w : Int32, defaultValue (clTy ci j) = .int w ∧ w.toInt = 0) (hd : decode T.2.1 pc = .ok (.new idx, 3)) (hb : (b2.1 + 1, b2.2 + N) = b)
    (h : Ev g d T (pc + 3) il (vR ((l.length : Int) + 1) :: st) (sgL (l ++ [((ci, N), [], [])])) b2 r σ') : Ev g d T pc il st (sgL l) b r σ' := by
  intro p e R s m args below meth c mc ms C H locs cells slots ls vst ws Q hl hs0 hw' hP hD hS k1 k2 hF
  obtain ⟨hx1, hbd, -, hml, hown, -, -, hts, hnw, hK, hSt, hty, hA, hR1, hR2, hR3, hR4⟩ := id C
  obtain ⟨Cn, Tt, hcl, hin, hty1, h13, w1, w2, w3⟩ := hf
  have hgood : ∀ w ∈ lw_good, w.before args s = true := fun w hw => hts w (List.mem_cons_of_mem _ hw)
  have hown' : s.vm.findClass own = some m.cls := by rw [← ho]; exact hown
  rw [← hb] at k1 k2
  dsimp only at k1 k2
  refine va_new (ci := ci) (fs := (List.range N).map (fun j => defaultValue (clTy ci j))) hx1 hbd hts (fun w hw => List.mem_cons_of_mem _ (hin w hw)) (clTy ci) hty1 hown' (hgood _ w1) (hgood _ w2) (hgood _ w3) hK hP hD hS hA hcl (fun j hj => by simp [vp_V, hj]) (by omega) (by omega) hd (fun q H1 hP1 hD1 hS1 => ?_)
  have hlen : ws.length = l.length := hw'.1
  have hW2 : WOK g (ws ++ [(q, .inr (ci, (List.range N).map (fun j => defaultValue (clTy ci j))))]) (sgL (l ++ [((ci, N), [], [])])) := by
    refine hw'.push (Or.inl ⟨h13, _, rfl, by simp, fun j hj => ⟨defaultValue (clTy ci j), by simp [hj], ?_⟩⟩)
    have e0 : ∀ i : Int, ([] : List Int).getD i.toNat 0 = 0 := fun i => rfl
    show Rp g _ (fTag (clTy ci j), if fTag (clTy ci j) = 2 then ([] : List Int).getD ((j : Int)).toNat 0 else ([] : List Int).getD ((j : Int)).toNat 0) _
    rw [e0]
    exact rp_default _ (hnf j hj)
  exact h p e R s m args below meth c mc ms C H1 locs (cells + 1) (slots + N) ls _ _ Q (hl.ext wExt.push) ⟨Or.inr ⟨l.length, q, _, rfl, by rw [List.getElem?_append_right (by omega), hlen, Nat.sub_self]; rfl, rfl⟩, hs0.ext wExt.push⟩ hW2 hP1 hD1 hS1 (by omega) (by omega) (hF.ext wExt.push)
theorem ev_objInit {own : String} {idx : Nat} {x : Int} (ho : T.1.cls = own) (hL : Cond.methodLink own idx Lib.objectInit ∈ lw_good ∧ Cond.instanceMethod Lib.objectInit ∈ lw_good ∧ Cond.code Lib.objectInit ⟨#[0xb1]⟩ 1 none ∈ lw_good) (hx : x ≠ 0) (hst : sCat st ≤ 8) (hdd : 1 ≤ d) (hd : decode T.2.1 pc = .ok (.invokespecial idx, 3)) (h : Ev g d T (pc + 3) il st σ b r σ') : Ev g d T pc il (vR x :: st) σ b r σ' := by
  intro p e R s m args below meth c mc ms C H locs cells slots ls vst ws Q hl hs0 hw' hP hD hS k1 k2 hF
  obtain ⟨hx1, hbd, -, hml, hown, -, -, hts, hnw, hK, hSt, hty, hA, hR1, hR2, hR3, hR4⟩ := id C
  obtain ⟨v, vs, rfl, hv, hs⟩ := hs0.consR
  have hgood : ∀ w ∈ lw_good, w.before args s = true := fun w hw => hts w (List.mem_cons_of_mem _ hw)
  have hown' : s.vm.findClass own = some m.cls := by rw [← ho]; exact hown
  rcases hv with ⟨h0, -⟩ | ⟨k, a, e0, -, -, rfl⟩
  · exact absurd h0 hx
  · have hm : (F0 m pc ls (.ref a :: vs)).monitorRoom = 0 := rfl
    refine W.objInit hx1 hbd hown' (hgood _ hL.1) (hgood _ hL.2.1) (hgood _ hL.2.2) rfl (hl.1.trans hml.symm) rfl hd (by omega) (by rw [hm, hs.cat]; omega) ?_
    exact W.eq rfl (h p e R s m args below meth c mc ms C H locs cells slots ls _ ws Q hl hs hw' hP hD hS k1 k2 hF)
theorem cA_same {s : State} {D : va_G} {tys : List (ClassId × FieldType)} (hK : va_K D vwCl tys s) {t k : Nat} {ty : FieldType} {cA cB : ClassId} (h1 : tys[t]? = some (cA, ty)) (h2 : tys[k]? = some (cB, ty)) : cA = cB := by
  have a := (hK.2 t _ h1).2
  have b := (hK.2 k _ h2).2
  unfold va_RA at a b
  cases ty with
  | object C =>
    obtain ⟨-, -, -, -, -, a5⟩ := a
    obtain ⟨-, -, -, -, -, b5⟩ := b
    exact Option.some.inj (a5.symm.trans b5)
  | _ => exact Option.some.inj (a.symm.trans b)
/-- a new array of numbers -/
theorem ev_newa {at' : ArrayType} {t n : Nat} {v : Int} (hat : (newarray.typeOf at' = aTy t) ∧ 20 ≤ t ∧ t < 23 ∧ componentBytes (aTy t) ≤ 8 ∧ defaultValue (aTy t) = .int 0) (hw : Cond.arrayClass (aTy t) ∈ lw_good) (hv : v = n) (hn : n ≤ 100000) (hd : decode T.2.1 pc = .ok (.newarray at', 2)) (hb : (b2.1 + 1, b2.2 + n) = b)
    (h : Ev g d T (pc + 2) il (vR ((l.length : Int) + 1) :: st) (sgL (l ++ [((t, n), [], [])])) b2 r σ') : Ev g d T pc il (vI v :: st) (sgL l) b r σ' := by
  intro p e R s m args below meth c mc ms C H locs cells slots ls vst ws Q hl hs0 hw' hP hD hS k1 k2 hF
  obtain ⟨hx1, hbd, -, hml, hown, -, -, hts, hnw, hK, hSt, hty, hA, hR1, hR2, hR3, hR4⟩ := id C
  obtain ⟨w, vs, rfl, hwv, hs⟩ := hs0.consI
  obtain ⟨ht, t1, t2, hcb, hdv⟩ := hat
  have hgood : ∀ w ∈ lw_good, w.before args s = true := fun w hw => hts w (List.mem_cons_of_mem _ hw)
  rw [← hb] at k1 k2
  dsimp only at k1 k2
  have hj := mz_clamp (w := w) (i := v) hwv (by omega)
  have hN : w.toNatClampNeg = n := by omega
  have hneg : ¬ w < 0 := fun z => by
    have := Int32.lt_iff_toInt_lt.mp z
    have i0 : (0 : Int32).toInt = 0 := rfl
    omega
  have hbytes : n * componentBytes (aTy t) ≤ 536870912 := Nat.le_trans (Nat.mul_le_mul hn hcb) (by decide)
  refine va_newa (a0 := (n, .inl (fun _ => 0))) hx1 hbd (by rw [ht]; exact hgood _ hw) ht hK hP hD hS hA (fun cA => by rw [hdv]; rfl) hneg hN hbytes (by omega) (by omega) hd (fun q cA H1 hK1 hP1 hD1 hS1 => ?_)
  obtain ⟨cB, hcB⟩ := hty (t - 20) (by omega)
  rw [show t - 20 + 20 = t by omega] at hcB
  have hlt := (List.getElem?_eq_some_iff.mp hcB).1
  have hsame : cB = cA := cA_same hK1 (t := t - 20) (k := g.2.2.1.length) (by rw [List.getElem?_append_left hlt]; exact hcB) (by rw [List.getElem?_append_right (Nat.le_refl _), Nat.sub_self]; rfl)
  subst hsame
  have hlen : ws.length = l.length := hw'.1
  have hW2 : WOK g (ws ++ [(q, .inl (cB, n, .inl (fun _ => 0)))]) (sgL (l ++ [((t, n), [], [])])) :=
    hw'.push (Or.inr (Or.inl ⟨t1, t2, cB, _, hcB, rfl, fun j hj => rfl⟩))
  exact h p e R s m args below meth c mc ms C H1 locs (cells + 1) (slots + n) ls _ _ Q (hl.ext wExt.push) ⟨Or.inr ⟨l.length, q, _, rfl, by rw [List.getElem?_append_right (by omega), hlen, Nat.sub_self]; rfl, rfl⟩, hs.ext wExt.push⟩ hW2 hP1 hD1 hS1 (by omega) (by omega) (hF.ext wExt.push)
theorem ev_newl {n : Nat} {v : Int} (hw : Cond.arrayClass .long ∈ lw_good) (hv : v = n) (hn : n ≤ 100000) (hd : decode T.2.1 pc = .ok (.newarray .long, 2)) (hb : (b2.1 + 1, b2.2 + n) = b)
    (h : Ev g d T (pc + 2) il (vR ((l.length : Int) + 1) :: st) (sgL (l ++ [((23, n), [], [])])) b2 r σ') : Ev g d T pc il (vI v :: st) (sgL l) b r σ' := by
  intro p e R s m args below meth c mc ms C H locs cells slots ls vst ws Q hl hs0 hw' hP hD hS k1 k2 hF
  obtain ⟨hx1, hbd, -, hml, hown, -, -, hts, hnw, hK, hSt, hty, hA, hR1, hR2, hR3, hR4⟩ := id C
  obtain ⟨w, vs, rfl, hwv, hs⟩ := hs0.consI
  have hgood : ∀ w ∈ lw_good, w.before args s = true := fun w hw => hts w (List.mem_cons_of_mem _ hw)
  rw [← hb] at k1 k2
  dsimp only at k1 k2
  have hj := mz_clamp (w := w) (i := v) hwv (by omega)
  have hN : w.toNatClampNeg = n := by omega
  have hneg : ¬ w < 0 := fun z => by
    have := Int32.lt_iff_toInt_lt.mp z
    have i0 : (0 : Int32).toInt = 0 := rfl
    omega
  refine va_newa (ty := .long) (a0 := (n, .inr (.inl (fun _ => 0)))) hx1 hbd (by exact hgood _ hw) rfl hK hP hD hS hA (fun cA => rfl) hneg hN (by show n * 8 ≤ _; omega) (by omega) (by omega) hd (fun q cA H1 hK1 hP1 hD1 hS1 => ?_)
  obtain ⟨cB, hcB⟩ := hty 3 (by omega)
  have hlt := (List.getElem?_eq_some_iff.mp hcB).1
  have hsame : cB = cA := cA_same hK1 (t := 3) (k := g.2.2.1.length) (ty := .long) (by rw [List.getElem?_append_left hlt]; exact hcB) (by rw [List.getElem?_append_right (Nat.le_refl _), Nat.sub_self]; rfl)
  subst hsame
  have hlen : ws.length = l.length := hw'.1
  have hW2 : WOK g (ws ++ [(q, .inl (cB, n, .inr (.inl (fun _ => 0))))]) (sgL (l ++ [((23, n), [], [])])) :=
    hw'.push (Or.inr (Or.inr (Or.inl ⟨rfl, cB, _, hcB, rfl, fun j hj => rfl⟩)))
  exact h p e R s m args below meth c mc ms C H1 locs (cells + 1) (slots + n) ls _ _ Q (hl.ext wExt.push) ⟨Or.inr ⟨l.length, q, _, rfl, by rw [List.getElem?_append_right (by omega), hlen, Nat.sub_self]; rfl, rfl⟩, hs.ext wExt.push⟩ hW2 hP1 hD1 hS1 (by omega) (by omega) (hF.ext wExt.push)
/-- a new array of a class's objects -/
theorem ev_anew {own Cn : String} {idx t n : Nat} {v : Int} (ho : T.1.cls = own) (hat : aTy t = .object Cn ∧ 24 ≤ t ∧ t < 26) (hw : Cond.classLink own idx Cn ∈ lw_good ∧ (Cn = "SeaWithStairs$Sea" ∨ Cn = "SeaWithStairs$Text")) (hv : v = n) (hn : n ≤ 100000) (hd : decode T.2.1 pc = .ok (.anewarray idx, 3)) (hb : (b2.1 + 1, b2.2 + n) = b)
    (h : Ev g d T (pc + 3) il (vR ((l.length : Int) + 1) :: st) (sgL (l ++ [((t, n), [], [])])) b2 r σ') : Ev g d T pc il (vI v :: st) (sgL l) b r σ' := by
  intro p e R s m args below meth c mc ms C H locs cells slots ls vst ws Q hl hs0 hw' hP hD hS k1 k2 hF
  obtain ⟨hx1, hbd, -, hml, hown, -, -, hts, hnw, hK, hSt, hty, hA, hR1, hR2, hR3, hR4⟩ := id C
  obtain ⟨w, vs, rfl, hwv, hs⟩ := hs0.consI
  obtain ⟨ht, t1, t2⟩ := hat
  have hgood : ∀ w ∈ lw_good, w.before args s = true := fun w hw => hts w (List.mem_cons_of_mem _ hw)
  have hown' : s.vm.findClass own = some m.cls := by rw [← ho]; exact hown
  rw [← hb] at k1 k2
  dsimp only at k1 k2
  have hj := mz_clamp (w := w) (i := v) hwv (by omega)
  have hN : w.toNatClampNeg = n := by omega
  have hneg : ¬ w < 0 := fun z => by
    have := Int32.lt_iff_toInt_lt.mp z
    have i0 : (0 : Int32).toInt = 0 := rfl
    omega
  have hov : va_AO Cn s := by
    rcases hw.2 with e | e
    · rw [e]; exact (Sta.ao hSt).1
    · rw [e]; exact (Sta.ao hSt).2.1
  refine va_newq hx1 hbd hown' (hgood _ hw.1) hov hK hP hD hS hA hneg hN (by omega) (by omega) (by omega) hd (fun q cA H1 hK1 hP1 hD1 hS1 => ?_)
  obtain ⟨cB, hcB⟩ := hty (t - 20) (by omega)
  rw [show t - 20 + 20 = t by omega, ht] at hcB
  have hlt := (List.getElem?_eq_some_iff.mp hcB).1
  have hsame : cB = cA := cA_same hK1 (t := t - 20) (k := g.2.2.1.length) (by rw [List.getElem?_append_left hlt]; exact hcB) (by rw [List.getElem?_append_right (Nat.le_refl _), Nat.sub_self]; rfl)
  subst hsame
  have hlen : ws.length = l.length := hw'.1
  have hW2 : WOK g (ws ++ [(q, .inl (cB, n, .inr (.inr (.inr (.inr (fun _ => none))))))]) (sgL (l ++ [((t, n), [], [])])) :=
    hw'.push (Or.inr (Or.inr (Or.inr ⟨t1, by show t < 27; omega, cB, _, by rw [ht]; exact hcB, rfl, fun j hj => Or.inl ⟨rfl, rfl⟩⟩)))
  exact h p e R s m args below meth c mc ms C H1 locs (cells + 1) (slots + n) ls _ _ Q (hl.ext wExt.push) ⟨Or.inr ⟨l.length, q, _, rfl, by rw [List.getElem?_append_right (by omega), hlen, Nat.sub_self]; rfl, rfl⟩, hs.ext wExt.push⟩ hW2 hP1 hD1 hS1 (by omega) (by omega) (hF.ext wExt.push)
/-- an object put into a row of its class -/
theorem ev_aast {Cn : String} {t n ci N : Nat} {x i v : Int} (hat : aTy t = .object Cn ∧ 24 ≤ t ∧ t < 26) (hci : ∃ Tt : u_T, vwCl[ci]? = some (Cn, Tt, N)) (h13 : ci < 13) (hk : okC l x (t, n)) (hkv : okC l v (ci, N)) (h0 : 0 ≤ i) (hi : i < n) (hd : decode T.2.1 pc = .ok (.aastore, 1))
    (h : Ev g d T (pc + 1) il st (sgL (clR l x i.toNat v)) b r σ') : Ev g d T pc il (vR v :: vI i :: vR x :: st) (sgL l) b r σ' := by
  intro p e R s m args below meth c mc ms C H locs cells slots ls vst ws Q hl hs0 hw' hP hD hS k1 k2 hF
  obtain ⟨hx1, hb, -, -, -, -, -, -, -, hK, -⟩ := id C
  obtain ⟨v9, vs2, rfl, hv9, hs2⟩ := hs0.consR
  obtain ⟨w, vs1, rfl, hw, hs1⟩ := hs2.consI
  obtain ⟨v0, vs, rfl, hv0, hs⟩ := hs1.consR
  obtain ⟨ht, t1, t2⟩ := hat
  obtain ⟨Tt, hci⟩ := hci
  have hvx : wRef ws v v9 := hv9
  obtain ⟨k0, a, e0, rfl, rfl, hk0, hc⟩ := hw'.cell hv0 (by have := hk.1; omega)
  obtain ⟨k9, a9, e9, rfl, rfl, hk9, hc9⟩ := hw'.cell hv9 (by have := hkv.1; omega)
  rw [show (sgL l).2.1 ((k0 : Int) + 1) = (t, n) from hk.2.2] at hc
  rw [show (sgL l).2.1 ((k9 : Int) + 1) = (ci, N) from hkv.2.2] at hc9
  obtain ⟨cA, f, htys, rfl, hf⟩ := CellOK.arrR t1 hc
  obtain ⟨fs, rfl, hlen, hfs⟩ := CellOK.obj h13 hc9
  have hj := mz_clamp hw h0
  have hlt : w.toNatClampNeg < n := by omega
  rw [ht] at htys
  have hW2 : WOK g (ws.set k0 (a, .inl (cA, n, .inr (.inr (.inr (.inr (va_up f w.toNatClampNeg (some a9)))))))) (sgL (clR l ((k0 : Int) + 1) i.toNat ((k9 : Int) + 1))) := by
    refine WOK.like ?_ (like_R (k := i.toNat) (v := (k9 : Int) + 1) hk)
    refine hw'.set hk0 (fun y hy => upM_ne hy) (fun y hy => rfl) ?_
    show CellOK g ws (clAt l ((k0 : Int) + 1)).1 _ _ _
    rw [hk.2.2]
    refine Or.inr (Or.inr (Or.inr ⟨t1, by show t < 27; omega, cA, _, by rw [ht]; exact htys, rfl, fun j hj2 => ?_⟩))
    rw [upM_at]
    unfold va_up
    by_cases hji : j = w.toNatClampNeg
    · rw [if_pos hji, if_pos (by omega)]
      exact hvx
    · rw [if_neg hji, if_neg (by omega)]
      exact hf j hj2
  refine va_astq (r := (Cn, Tt, N)) hx1 hb hK hP hD hS k0 (t - 20) k9 ci hk0 htys hk9 hci (vp_in_iff.mpr ⟨by omega, by omega⟩) hd (fun H1 locs1 hP1 hD1 hS1 => ?_)
  exact h p e R s m args below meth c mc ms C H1 locs1 cells slots ls vs _ Q (hl.ext (wExt.set hk0)) (hs.ext (wExt.set hk0)) hW2 hP1 hD1 hS1 k1 k2 (hF.ext (wExt.set hk0))
theorem ev_putFL {own : String} {idx ci N k : Nat} {ty : FieldType} {x v : Int} (hf : FLkF own idx ci N k ty) (ho : T.1.cls = own) (hi : T.1.name = "<init>") (hd : decode T.2.1 pc = .ok (.putfield idx, 3)) (ht : fTag ty = 2) (hk : okC l x (ci, N))
    (h : Ev g d T (pc + 3) il st (sgL (clR l x k v)) b r σ') : Ev g d T pc il (vR v :: vR x :: st) (sgL l) b r σ' := by
  refine ev_putF (σ := sgL l) (σ1 := setR (sgL l) x k v) ho hi hf hk.2.2 (by have := hk.1; omega) (Or.inr (Or.inr (Or.inr ⟨ht, rfl⟩))) hd rfl ?_
  exact ev_like (like_R hk) h
theorem ev_putRL {own : String} {idx ci N k : Nat} {ty : FieldType} {x v : Int} (hf : FLk own idx ci N k ty false) (ho : T.1.cls = own) (hd : decode T.2.1 pc = .ok (.putfield idx, 3)) (ht : fTag ty = 2) (hk : okC l x (ci, N))
    (h : Ev g d T (pc + 3) il st (sgL (clR l x k v)) b r σ') : Ev g d T pc il (vR v :: vR x :: st) (sgL l) b r σ' := by
  refine ev_put (σ := sgL l) (σ1 := setR (sgL l) x k v) ho hf hk.2.2 (by have := hk.1; omega) (Or.inr (Or.inr (Or.inr ⟨ht, rfl⟩))) hd rfl ?_
  exact ev_like (like_R hk) h
theorem ev_putIL {own : String} {idx ci N k : Nat} {x v : Int} (hf : FLk own idx ci N k .int false) (ho : T.1.cls = own) (hd : decode T.2.1 pc = .ok (.putfield idx, 3)) (hk : okC l x (ci, N))
    (h : Ev g d T (pc + 3) il st (sgL (clI l x k v)) b r σ') : Ev g d T pc il (vI v :: vR x :: st) (sgL l) b r σ' := by
  refine ev_put (σ := sgL l) (σ1 := setM (sgL l) x k v) ho hf hk.2.2 (by have := hk.1; omega) (Or.inl ⟨rfl, rfl⟩) hd rfl ?_
  exact ev_like (like_I hk) h
theorem ev_putZL {own : String} {idx ci N k : Nat} {x v : Int} (hf : FLk own idx ci N k .boolean false) (ho : T.1.cls = own) (hv : v = 0 ∨ v = 1) (hd : decode T.2.1 pc = .ok (.putfield idx, 3)) (hk : okC l x (ci, N))
    (h : Ev g d T (pc + 3) il st (sgL (clI l x k v)) b r σ') : Ev g d T pc il (vI v :: vR x :: st) (sgL l) b r σ' := by
  refine ev_put (σ := sgL l) (σ1 := setM (sgL l) x k v) ho hf hk.2.2 (by have := hk.1; omega) (Or.inr (Or.inl ⟨rfl, rfl, hv⟩)) hd rfl ?_
  exact ev_like (like_I hk) h
theorem ev_getRL {own : String} {idx ci N k : Nat} {ty : FieldType} {fin : Bool} {x y : Int} (hf : FLk own idx ci N k ty fin) (ho : T.1.cls = own) (hd : decode T.2.1 pc = .ok (.getfield idx, 3)) (ht : fTag ty = 2) (hk : okC l x (ci, N)) (hy : (clAt l x).2.1.getD k 0 = y)
    (h : Ev g d T (pc + 3) il (vR y :: st) (sgL l) b r σ') : Ev g d T pc il (vR x :: st) (sgL l) b r σ' :=
  ev_get (σ := sgL l) ho hf hk.2.2 (by have := hk.1; omega) (by rw [ht, ← hy]; rfl) hd h
end EvAl
