set_option linter.unusedVariables false
set_option linter.unusedSimpArgs false
/-! ===== constructors: what stays, rows of rows ===== -/
abbrev fldR (l : CL) (x : Int) (k : Nat) (v : Int) : Prop := (clAt l x).2.1.getD k 0 = v
/-- from l on, l' has more; of the old ones k alone changed -/
def Grows (l l' : CL) (k : Int) : Prop := l.length ≤ l'.length ∧ ∀ y : Int, 1 ≤ y → y ≤ l.length → (clAt l' y).1 = (clAt l y).1 ∧ (y ≠ k → clAt l' y = clAt l y)
theorem clAt_app {l xs : CL} {x : Int} (h : 1 ≤ x) (h2 : x ≤ l.length) : clAt (l ++ xs) x = clAt l x := by
  unfold clAt
  rw [List.getD_eq_getElem?_getD, List.getD_eq_getElem?_getD, List.getElem?_append_left (by omega)]
theorem clR_len {l : CL} {x : Int} {k : Nat} {v : Int} : (clR l x k v).length = l.length := by unfold clR; rw [List.length_set]
theorem clI_len {l : CL} {x : Int} {k : Nat} {v : Int} : (clI l x k v).length = l.length := by unfold clI; rw [List.length_set]
theorem Grows.rf {l : CL} {k : Int} : Grows l l k := ⟨Nat.le_refl _, fun _ _ _ => ⟨rfl, fun _ => rfl⟩⟩
theorem Grows.app {l l' xs : CL} {k : Int} (G : Grows l l' k) : Grows l (l' ++ xs) k := by
  refine ⟨by rw [List.length_append]; have := G.1; omega, fun y h1 h2 => ?_⟩
  have := G.1
  rw [clAt_app h1 (by omega)]
  exact G.2 y h1 h2
theorem Grows.setR {l l' : CL} {k x : Int} {s : Nat} {v : Int} (G : Grows l l' k) (h1 : 1 ≤ x) (h2 : x ≤ l'.length) (hk : x = k ∨ (l.length : Int) < x) : Grows l (clR l' x s v) k := by
  refine ⟨by rw [clR_len]; exact G.1, fun y y1 y2 => ?_⟩
  have e : clAt (clR l' x s v) y = if y = x then ((clAt l' x).1, lPad (clAt l' x).2.1 s v, (clAt l' x).2.2) else clAt l' y := clAt_set h1 h2 y1
  obtain ⟨g1, g2⟩ := G.2 y y1 y2
  rw [e]
  by_cases q : y = x
  · subst q
    rw [if_pos rfl]
    exact ⟨g1, fun z => by omega⟩
  · rw [if_neg q]
    exact ⟨g1, g2⟩
theorem Grows.setI {l l' : CL} {k x : Int} {s : Nat} {v : Int} (G : Grows l l' k) (h1 : 1 ≤ x) (h2 : x ≤ l'.length) (hk : x = k ∨ (l.length : Int) < x) : Grows l (clI l' x s v) k := by
  refine ⟨by rw [clI_len]; exact G.1, fun y y1 y2 => ?_⟩
  have e : clAt (clI l' x s v) y = if y = x then ((clAt l' x).1, (clAt l' x).2.1, lPad (clAt l' x).2.2 s v) else clAt l' y := clAt_set h1 h2 y1
  obtain ⟨g1, g2⟩ := G.2 y y1 y2
  rw [e]
  by_cases q : y = x
  · subst q
    rw [if_pos rfl]
    exact ⟨g1, fun z => by omega⟩
  · rw [if_neg q]
    exact ⟨g1, g2⟩
theorem Grows.tr {l l' l2 : CL} {k x : Int} (G : Grows l l' k) (G2 : Grows l' l2 x) (hk : x = k ∨ (l.length : Int) < x) : Grows l l2 k := by
  have := G.1
  refine ⟨Nat.le_trans G.1 G2.1, fun y y1 y2 => ?_⟩
  obtain ⟨g1, g2⟩ := G.2 y y1 y2
  obtain ⟨e1, e2⟩ := G2.2 y y1 (by omega)
  exact ⟨e1.trans g1, fun z => (e2 (by omega)).trans (g2 z)⟩
theorem okC.grow {l l' : CL} {k y : Int} {kd : Kd} (h : okC l y kd) (G : Grows l l' k) : okC l' y kd := by
  have := G.1
  have := h.2.1
  exact ⟨h.1, by omega, ((G.2 y h.1 h.2.1).1).trans h.2.2⟩
theorem okC.app {l xs : CL} {y : Int} {kd : Kd} (h : okC l y kd) : okC (l ++ xs) y kd := ⟨h.1, by rw [List.length_append]; have := h.2.1; omega, by rw [clAt_app h.1 h.2.1]; exact h.2.2⟩
theorem okC.mk1 {l : CL} {c : CLc} {x : Int} {kd : Kd} (hx : x = (l.length : Int) + 1) (hc : c.1 = kd) : okC (l ++ [c]) x kd := by
  subst hx
  subst hc
  exact okC.new
theorem fld_app {l xs : CL} {y : Int} {s : Nat} {v : Int} {kd : Kd} (hy : okC l y kd) (h : fldR l y s v) : fldR (l ++ xs) y s v := by
  unfold fldR
  rw [clAt_app hy.1 hy.2.1]
  exact h
theorem fld_grow {l l' : CL} {k y : Int} {s : Nat} {v : Int} {kd : Kd} (hy : okC l y kd) (G : Grows l l' k) (ne : y ≠ k) (h : fldR l y s v) : fldR l' y s v := by
  unfold fldR
  rw [(G.2 y hy.1 hy.2.1).2 ne]
  exact h
theorem fld_Rne {l : CL} {x y : Int} {s k : Nat} {v w : Int} {kd kx : Kd} (hx : okC l x kx) (hy : okC l y kd) (ne : y ≠ x) (h : fldR l y s v) : fldR (clR l x k w) y s v := by
  unfold fldR clR
  rw [clAt_set hx.1 hx.2.1 hy.1, if_neg ne]
  exact h
theorem fld_Rsame {l : CL} {x : Int} {s k : Nat} {v w : Int} {kx : Kd} (hx : okC l x kx) (ne : s ≠ k) (h : fldR l x s v) : fldR (clR l x k w) x s v := by
  unfold fldR clR
  rw [clAt_set hx.1 hx.2.1 hx.1, if_pos rfl, lPad_get, if_neg ne]
  exact h
theorem fld_Rnew {l : CL} {x : Int} {k : Nat} {w : Int} {kx : Kd} (hx : okC l x kx) : fldR (clR l x k w) x k w := by
  unfold fldR clR
  rw [clAt_set hx.1 hx.2.1 hx.1, if_pos rfl, lPad_get, if_pos rfl]
theorem fld_I {l : CL} {x y : Int} {s k : Nat} {v w : Int} {kd kx : Kd} (hx : okC l x kx) (hy : okC l y kd) (h : fldR l y s v) : fldR (clI l x k w) y s v := by
  unfold fldR clI
  rw [clAt_set hx.1 hx.2.1 hy.1]
  by_cases q : y = x
  · subst q
    rw [if_pos rfl]
    exact h
  · rw [if_neg q]
    exact h
theorem len_push {l l' : CL} {c : CLc} {b a : Nat} (e : l' = l ++ [c]) (n : l.length = b + a) : l'.length = b + (a + 1) := by
  rw [e, List.length_append, n]
  rfl
theorem len_setR {l l' : CL} {x : Int} {k : Nat} {v : Int} {b : Nat} (e : l' = clR l x k v) (n : l.length = b) : l'.length = b := by
  rw [e, clR_len]
  exact n
theorem len_setI {l l' : CL} {x : Int} {k : Nat} {v : Int} {b : Nat} (e : l' = clI l x k v) (n : l.length = b) : l'.length = b := by
  rw [e, clI_len]
  exact n
theorem len_call {l l' c : CL} {b a q : Nat} (e : l' = c) (h : c.length = l.length + q) (n : l.length = b + a) : l'.length = b + (a + q) := by
  rw [e, h, n]
  omega
theorem id_new {L b a : Nat} {z : Int} (n : L = b + a) (hz : z = (a : Int) + 1) : (L : Int) + 1 = (b : Int) + z := by omega
theorem id_off {L b a : Nat} {m z : Int} (n : L = b + a) (hz : z = (a : Int) + m) : (L : Int) + m = (b : Int) + z := by omega
theorem lt_new {b : Nat} {z : Int} (h : 0 < z) : (b : Int) < (b : Int) + z := by omega
theorem ne_old {l : CL} {k : Int} {kd : Kd} {z : Int} (ok : okC l k kd) (h : 0 < z) : k ≠ (l.length : Int) + z := by
  have := ok.2.1
  omega
theorem okC.ne0 {l : CL} {k : Int} {kd : Kd} (ok : okC l k kd) : k ≠ 0 := by
  have := ok.1
  omega
theorem dd1 {d : Nat} (h : 1 ≤ d) : d - 1 + 1 ≤ d := by omega
theorem dd2 {d n : Nat} (h : n + 1 ≤ d) : n ≤ d - 1 := by omega
/-- a row of rows of numbers, all new -/
def mnaL (l : CL) (n k : Nat) : CL := (l ++ [((26, n), (List.range n).map (fun i : Nat => (l.length : Int) + 2 + (i : Int)), [])]) ++ List.replicate n ((20, k), [], [])
theorem mna_len {l : CL} {n k : Nat} : (mnaL l n k).length = l.length + (1 + n) := by
  unfold mnaL
  rw [List.length_append, List.length_append, List.length_replicate]
  show l.length + 1 + n = _
  omega
theorem len_mna {l l' : CL} {n k b a : Nat} (e : l' = mnaL l n k) (h : l.length = b + a) : l'.length = b + (a + (1 + n)) := by
  rw [e, mna_len, h]
  omega
theorem Grows.mna {l l' : CL} {k : Int} {n m : Nat} (G : Grows l l' k) : Grows l (mnaL l' n m) k := by
  unfold mnaL
  exact G.app.app
theorem okC.mna {l : CL} {y : Int} {kd : Kd} {n m : Nat} (h : okC l y kd) : okC (mnaL l n m) y kd := by
  unfold mnaL
  exact h.app.app
theorem fld_mna {l : CL} {y : Int} {s : Nat} {v : Int} {kd : Kd} {n m : Nat} (hy : okC l y kd) (h : fldR l y s v) : fldR (mnaL l n m) y s v := by
  unfold mnaL
  exact fld_app hy.app (fld_app hy h)
theorem outerV (c : ClassId) (N h0 : Nat) : ∀ i : Nat, Jvm.Free.Multi.outerC c N h0 i = arrV c N (fun j => va_rf (if j < i then some (h0 + 1 + j) else none))
  | 0 => by
    show ({ cls := c, slots := Array.replicate N .null, vm := .none } : Cell) = _
    rw [arrV_new]
    refine congrArg (arrV c N) (funext fun j => ?_)
    simp [va_rf]
  | i + 1 => by
    show (Jvm.Free.Multi.outerC c N h0 i).setSlot i (.ref (h0 + 1 + i)) = _
    rw [outerV c N h0 i, arrV_store]
    refine congrArg (arrV c N) (funext fun j => ?_)
    by_cases e : j = i
    · subst e
      simp [updV, va_rf]
    · by_cases h : j < i
      · simp [updV, e, h, Nat.lt_succ_of_lt h]
      · simp [updV, e, h, show ¬ j < i + 1 by omega]
section EvMn
variable {g : Gm} {d : Nat} {T : Mt} {pc : Nat} {il il' : List (Nat × Vv)} {st : List Vv} {l : CL} {σ τ σ' : Sg} {b b2 : Nat × Nat} {r : Vv}
theorem ev_eqS {l' : CL} (e : l' = l) (h : Ev g d T pc il st (sgL l') b r σ') : Ev g d T pc il st (sgL l) b r σ' := by
  rw [← e]; exact h
theorem ev_eqI {x y : Int} (e : x = y) (h : Ev g d T pc il (vR y :: st) σ b r σ') : Ev g d T pc il (vR x :: st) σ b r σ' := by
  rw [e]; exact h
theorem ev_mna {own : String} {idx n k : Nat} {vn vk : Int} (ho : T.1.cls = own) (hw : Cond.classLink own idx "[[I" ∈ lw_good ∧ Cond.arrayClass .int ∈ lw_good) (hvn : vn = n) (hvk : vk = k) (hn : n ≤ 1000) (hk : k ≤ 1000) (hd : decode T.2.1 pc = .ok (.multianewarray idx 2, 4)) (hb : (b2.1 + (1 + n), b2.2 + (n + n * k)) = b)
    (h : Ev g d T (pc + 4) il (vR ((l.length : Int) + 1) :: st) (sgL (mnaL l n k)) b2 r σ') : Ev g d T pc il (vI vk :: vI vn :: st) (sgL l) b r σ' := by
  intro p e R s m args below meth c mc ms C H locs cells slots ls vst ws Q hl hs0 hw' hP hD hS k1 k2 hF
  obtain ⟨hx1, hbd, -, hml, hown, -, -, hts, hnw, hK, hSt, hty, hA, hR1, hR2, hR3, hR4⟩ := id C
  obtain ⟨wk, vs1, rfl, hwk, hs1⟩ := hs0.consI
  obtain ⟨wn, vs, rfl, hwn, hs⟩ := hs1.consI
  have hgood : ∀ w ∈ lw_good, w.before args s = true := fun w hw => hts w (List.mem_cons_of_mem _ hw)
  have hown' : s.vm.findClass own = some m.cls := by rw [← ho]; exact hown
  rw [← hb] at k1 k2
  dsimp only at k1 k2
  have jn := mz_clamp (w := wn) (i := vn) hwn (by omega)
  have jk := mz_clamp (w := wk) (i := vk) hwk (by omega)
  have hN : wn.toNatClampNeg = n := by omega
  have hM : wk.toNatClampNeg = k := by omega
  have i0 : (0 : Int32).toInt = 0 := rfl
  have hneg : ¬ wn < 0 := fun z => by
    have := Int32.lt_iff_toInt_lt.mp z
    omega
  have hneg2 : ¬ wk < 0 := fun z => by
    have := Int32.lt_iff_toInt_lt.mp z
    omega
  have hcb : componentBytes .int ≤ 8 := by decide
  have hkb : k * componentBytes .int ≤ 536870912 := Nat.le_trans (Nat.mul_le_mul hk hcb) (by decide)
  intro U hU Xs
  obtain ⟨vm₁, cA, comp, -, fA, fC, hO, -, X', step⟩ := Xs.multianewarray2F hx1 hown' (hgood _ hw.1) (Sta.ao hSt).2.2 (hgood _ hw.2) (g := F0 m pc ls (.int wk :: .int wn :: vs)) rfl (by rw [hbd]; exact hd) rfl hneg hneg2 (by rw [hN]; omega) (by rw [hM]; exact hkb) (by rw [hM]; omega) (by decide) (by decide) (by rw [hN]; omega) (by rw [hN, hM]; omega)
  rw [hN, hM] at X' step
  generalize hFF : Jvm.Free.Multi.fill (U.setVm vm₁) cA comp n k (defaultValue .int) n = F at X' step
  have hTh : (U.setVm vm₁).heap = H := hU
  obtain ⟨f1, f2, -, -⟩ := Jvm.Free.Multi.fill_facts (U.setVm vm₁) cA comp n k (defaultValue .int) n
  rw [hFF, hTh] at f1 f2
  have hold : ∀ x : Nat, x < H.size → F.heap[x]? = H[x]? := fun x hx => by
    have := Jvm.Free.Multi.fill_old (U.setVm vm₁) cA comp n k (defaultValue .int) (a := x) (by rw [hTh]; exact hx) n
    rw [hFF, hTh] at this
    exact this
  have hz : ∀ cc : ClassId, Jvm.Free.Multi.innerC cc k (defaultValue .int) = vp_cell cc (k, .inl (fun _ => (0 : Int32))) := fun cc => by
    show ({ cls := cc, slots := Array.replicate k (.int 0), vm := .none } : Cell) = _
    rw [arrV_new, vp_cell_i]
  have hrow : ∀ j : Nat, j < n → F.heap[H.size + 1 + j]? = some (vp_cell comp (k, .inl (fun _ => (0 : Int32)))) := fun j hj => by
    have := Jvm.Free.Multi.fill_inner (U.setVm vm₁) cA comp n k (defaultValue .int) n j hj
    rw [hFF, hTh] at this
    exact this.trans (congrArg some (hz comp))
  have hout : Jvm.Free.Multi.outerC cA n H.size n = vp_cell cA (n, .inr (.inr (.inr (.inr (fun i => if i < n then some (H.size + 1 + i) else none))))) := by
    rw [vp_cell_q]
    exact outerV cA n H.size n
  rw [hout] at f2
  -- the two classes of rows
  obtain ⟨cB, hcB⟩ := hty 6 (by omega)
  obtain ⟨cC, hcC⟩ := hty 0 (by omega)
  have eA : cB = cA := Option.some.inj (((hK.2 6 _ hcB).2).symm.trans fA)
  have eC : cC = comp := Option.some.inj (((hK.2 0 _ hcC).2).symm.trans fC)
  subst eA
  subst eC
  obtain ⟨W1, hW1⟩ : ∃ W1 : va_W, W1 = ws ++ [(H.size, .inl (cB, n, .inr (.inr (.inr (.inr (fun i => if i < n then some (H.size + 1 + i) else none))))))] := ⟨_, rfl⟩
  obtain ⟨W2, hW2⟩ : ∃ W2 : va_W, W2 = W1 ++ (List.range n).map (fun i => ((H.size + 1 + i, .inl (cC, k, .inl (fun _ => (0 : Int32)))) : Nat × va_E)) := ⟨_, rfl⟩
  have rows : ∀ (q : Nat) (x : Nat × va_E), ((List.range n).map (fun i => ((H.size + 1 + i, .inl (cC, k, .inl (fun _ => (0 : Int32)))) : Nat × va_E)))[q]? = some x → q < n ∧ x = (H.size + 1 + q, .inl (cC, k, .inl (fun _ => (0 : Int32)))) := fun q x hx => by
    rw [List.getElem?_map] at hx
    by_cases h9 : q < n
    · rw [List.getElem?_range h9] at hx
      cases hx
      exact ⟨h9, rfl⟩
    · have hn0 : (List.range n)[q]? = none := List.getElem?_eq_none (by rw [List.length_range]; omega)
      rw [hn0] at hx
      cases hx
  have one : ∀ (q : Nat) (x : Nat × va_E), W1[q]? = some x → (q < ws.length ∧ ws[q]? = some x) ∨ (q = ws.length ∧ x = (H.size, .inl (cB, n, .inr (.inr (.inr (.inr (fun i => if i < n then some (H.size + 1 + i) else none)))))) ) := fun q x hx => by
    rw [hW1] at hx
    by_cases hq : q < ws.length
    · rw [List.getElem?_append_left hq] at hx
      exact Or.inl ⟨hq, hx⟩
    · rw [List.getElem?_append_right (by omega)] at hx
      have h0 : q - ws.length < 1 := (List.getElem?_eq_some_iff.mp hx).1
      rw [show q - ws.length = 0 by omega] at hx
      cases hx
      exact Or.inr ⟨by omega, rfl⟩
  have l1 : W1.length = ws.length + 1 := by rw [hW1, List.length_append]; rfl
  have two : ∀ (q : Nat) (x : Nat × va_E), W2[q]? = some x → (q < W1.length ∧ W1[q]? = some x) ∨ (W1.length ≤ q ∧ q - W1.length < n ∧ x = (H.size + 1 + (q - W1.length), .inl (cC, k, .inl (fun _ => (0 : Int32))))) := fun q x hx => by
    rw [hW2] at hx
    by_cases hq : q < W1.length
    · rw [List.getElem?_append_left hq] at hx
      exact Or.inl ⟨hq, hx⟩
    · rw [List.getElem?_append_right (by omega)] at hx
      obtain ⟨r1, r2⟩ := rows _ _ hx
      exact Or.inr ⟨by omega, r1, r2⟩
  have hP0 : va_P g.2.1 vwCl ws F.heap := hP.kept (fun k9 x hx => hold x.1 ((hP k9 x hx).lt))
  have hP1 : va_P g.2.1 vwCl W1 F.heap := by
    rw [hW1]
    exact hP0.app (fun k9 x hx => by
      have h0 : k9 < 1 := (List.getElem?_eq_some_iff.mp hx).1
      rw [show k9 = 0 by omega] at hx
      cases hx
      exact f2)
  have hP2 : va_P g.2.1 vwCl W2 F.heap := by
    rw [hW2]
    exact hP1.app (fun k9 x hx => by
      obtain ⟨r1, rfl⟩ := rows _ _ hx
      exact hrow _ r1)
  have hD1 : va_D g.2.2.2.1 W1 := by
    rw [hW1]
    exact hD.push (e := .inl (cB, n, .inr (.inr (.inr (.inr (fun i => if i < n then some (H.size + 1 + i) else none)))))) hP rfl (hA _ hS.1)
  have hle : ∀ (q : Nat) (x : Nat × va_E), W1[q]? = some x → x.1 ≤ H.size := fun q x hx => by
    rcases one q x hx with ⟨-, h9⟩ | ⟨-, rfl⟩
    · exact Nat.le_of_lt ((hP q x h9).lt)
    · exact Nat.le_refl _
  have hD2 : va_D g.2.2.2.1 W2 := by
    refine ⟨fun i j x y hi hj hxy => ?_, fun q x hx => ?_⟩
    · rcases two i x hi with ⟨u1, u2⟩ | ⟨u1, u2, rfl⟩ <;> rcases two j y hj with ⟨w1, w2⟩ | ⟨w1, w2, rfl⟩
      · exact hD1.1 i j x y u2 w2 hxy
      · have := hle _ _ u2
        dsimp only at hxy
        omega
      · have := hle _ _ w2
        dsimp only at hxy
        omega
      · dsimp only at hxy
        omega
    · rcases two q x hx with ⟨u1, u2⟩ | ⟨u1, u2, rfl⟩
      · exact hD1.2 q x u2
      · exact hA _ (by have := hS.1; dsimp only; omega)
  have hext : wExt ws W2 := by
    intro q a e hq
    have hlt := (List.getElem?_eq_some_iff.mp hq).1
    refine ⟨e, ?_⟩
    rw [hW2, List.getElem?_append_left (by omega), hW1, List.getElem?_append_left hlt]
    exact hq
  have hlen : ws.length = l.length := hw'.1
  have hWK : WOK g W2 (sgL (mnaL l n k)) := by
    refine ⟨by rw [hW2, List.length_append, List.length_map, List.length_range, l1]; show _ = (mnaL l n k).length; rw [mna_len]; omega, fun q a e hq => ?_⟩
    show CellOK g W2 (clAt (mnaL l n k) ((q : Int) + 1)).1 (fun i => (clAt (mnaL l n k) ((q : Int) + 1)).2.1.getD i.toNat 0) (fun i => (clAt (mnaL l n k) ((q : Int) + 1)).2.2.getD i.toNat 0) e
    rcases two q _ hq with ⟨u1, u2⟩ | ⟨u1, u2, u3⟩
    · rcases one q _ u2 with ⟨w1, w2⟩ | ⟨w1, w2⟩
      · have e1 : clAt (mnaL l n k) ((q : Int) + 1) = clAt l ((q : Int) + 1) := by
          unfold mnaL
          rw [clAt_app (by omega) (by rw [List.length_append]; omega), clAt_app (by omega) (by omega)]
        rw [e1]
        exact (hw'.2 q a e w2).ext hext
      · cases w2
        have e1 : clAt (mnaL l n k) ((q : Int) + 1) = ((26, n), (List.range n).map (fun i : Nat => (l.length : Int) + 2 + (i : Int)), []) := by
          unfold mnaL
          rw [clAt_app (by omega) (by rw [List.length_append]; show _ ≤ (((l.length + 1 : Nat)) : Int); omega), show (q : Int) + 1 = (l.length : Int) + 1 by omega]
          exact clAt_new
        rw [e1]
        refine Or.inr (Or.inr (Or.inr ⟨by show 24 ≤ 26; omega, by show 26 < 27; omega, cB, _, hcB, rfl, fun j hj => ?_⟩))
        have hj' : j < n := hj
        show wRef W2 (((List.range n).map (fun i : Nat => (l.length : Int) + 2 + (i : Int))).getD ((j : Int)).toNat 0) (va_rf (if j < n then some (H.size + 1 + j) else none))
        rw [if_pos hj', show ((j : Int)).toNat = j by omega, List.getD_eq_getElem?_getD, List.getElem?_map, List.getElem?_range hj']
        refine Or.inr ⟨W1.length + j, H.size + 1 + j, .inl (cC, k, .inl (fun _ => (0 : Int32))), ?_, ?_, rfl⟩
        · show (l.length : Int) + 2 + (j : Int) = _
          omega
        · rw [hW2, List.getElem?_append_right (by omega), List.getElem?_map, show W1.length + j - W1.length = j by omega, List.getElem?_range hj']
          rfl
    · cases u3
      have e1 : clAt (mnaL l n k) ((q : Int) + 1) = ((20, k), [], []) := by
        unfold mnaL clAt
        rw [List.getD_eq_getElem?_getD, List.getElem?_append_right (by rw [List.length_append]; show l.length + 1 ≤ _; omega), List.getElem?_replicate, if_pos (by rw [List.length_append]; show _ - (l.length + 1) < n; omega)]
        rfl
      rw [e1]
      exact Or.inr (Or.inl ⟨by show 20 ≤ 20; omega, by show 20 < 23; omega, cC, _, hcC, rfl, fun j hj => rfl⟩)
  obtain ⟨t, a1, b1⟩ := h p e R s m args below meth c mc ms C F.heap locs (cells + 1 + n) (slots + n + n * k) ls (.ref H.size :: vs) W2 Q (hl.ext hext) ⟨Or.inr ⟨ws.length, H.size, _, by show (l.length : Int) + 1 = _; omega, by rw [hW2, List.getElem?_append_left (by omega), hW1, List.getElem?_append_right (Nat.le_refl _), Nat.sub_self]; rfl, rfl⟩, hs.ext hext⟩ hWK hP2 hD2 ⟨by rw [f1]; have := hS.1; omega, fun x h1 h2 => (hold x (Nat.lt_of_lt_of_le h1 hS.1)).trans (hS.2.1 x h1 h2), hS.2.2⟩ (by omega) (by omega) (hF.ext hext) F rfl X'
  refine ⟨t, step t ?_, b1⟩
  have e : U.heap.size = H.size := by rw [hU]
  rw [e]
  exact a1
end EvMn
