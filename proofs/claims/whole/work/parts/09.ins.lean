/-! ===== instructions over Ev: locals, stack, arithmetic, branches ===== -/
def wI (x : Int) : Int := (x + 2147483648) % 4294967296 - 2147483648
def wL (x : Int) : Int := (x + 9223372036854775808) % 18446744073709551616 - 9223372036854775808
theorem wI_bmod (x : Int) : x.bmod (2 ^ 32) = wI x := by
  unfold wI
  rw [Int.bmod_def]
  simp only [show (((2 ^ 32 : Nat)) : Int) = 4294967296 from rfl]
  split <;> omega
theorem wL_bmod (x : Int) : x.bmod (2 ^ 64) = wL x := by
  unfold wL
  rw [Int.bmod_def]
  simp only [show (((2 ^ 64 : Nat)) : Int) = 18446744073709551616 from rfl]
  split <;> omega
theorem wI_id {x : Int} (h1 : -2147483648 ≤ x) (h2 : x < 2147483648) : wI x = x := by
  unfold wI
  omega
theorem wL_id {x : Int} (h1 : -9223372036854775808 ≤ x) (h2 : x < 9223372036854775808) : wL x = x := by
  unfold wL
  omega
theorem i32_lo (w : Int32) : -2147483648 ≤ w.toInt := by have := Int32.le_toInt w; simpa using this
theorem i32_hi (w : Int32) : w.toInt < 2147483648 := by have := Int32.toInt_lt w; simpa using this
theorem i64_lo (w : Int64) : -9223372036854775808 ≤ w.toInt := by have := Int64.le_toInt w; simpa using this
theorem i64_hi (w : Int64) : w.toInt < 9223372036854775808 := by have := Int64.toInt_lt w; simpa using this
def bAnd (a b : Int) : Int := (Int32.ofInt a &&& Int32.ofInt b).toInt
def bOr (a b : Int) : Int := (Int32.ofInt a ||| Int32.ofInt b).toInt
def bXor (a b : Int) : Int := (Int32.ofInt a ^^^ Int32.ofInt b).toInt
def bShl (a b : Int) : Int := (Int32.ofInt a <<< (Int32.ofInt b &&& 31)).toInt
def bShr (a b : Int) : Int := (Int32.ofInt a >>> (Int32.ofInt b &&& 31)).toInt
def bUshr (a b : Int) : Int := ((Int32.ofInt a).toUInt32 >>> ((Int32.ofInt b).toUInt32 &&& Int32.toUInt32 31)).toInt32.toInt
def lAnd (a b : Int) : Int := (Int64.ofInt a &&& Int64.ofInt b).toInt
def lOr (a b : Int) : Int := (Int64.ofInt a ||| Int64.ofInt b).toInt
def lShl (a b : Int) : Int := (Int64.ofInt a <<< ((Int32.ofInt b).toInt64 &&& 63)).toInt
def lShr (a b : Int) : Int := (Int64.ofInt a >>> ((Int32.ofInt b).toInt64 &&& 63)).toInt
def lCmp (a b : Int) : Int := if b < a then 1 else if a = b then 0 else -1
def iRem (a b : Int) : Int := a.tmod b
def iDiv (a b : Int) : Int := wI (a.tdiv b)
def lDiv (a b : Int) : Int := wL (a.tdiv b)
def stL (i : Nat) (v : Vv) (il : List (Nat × Vv)) : List (Nat × Vv) := (i, v) :: il.filter (fun q => !(Nat.beq q.1 i) && !(Nat.beq (q.1 + 1) i && Nat.beq q.2.1 1))
def stL2 (i : Nat) (v : Vv) (il : List (Nat × Vv)) : List (Nat × Vv) := (i, v) :: il.filter (fun q => !(Nat.beq q.1 i) && (!(Nat.beq q.1 (i + 1)) && !(Nat.beq (q.1 + 1) i && Nat.beq q.2.1 1)))
def pickL (il : List (Nat × Vv)) (ks : List Nat) : List (Nat × Vv) := ks.filterMap (fun k => il[k]?)
/-! the locals as a list of values -/
def PR (g : Gm) (ws : va_W) : List (Nat × Vv) → List (Nat × Value) → Prop
  | [], [] => True
  | q :: l, v :: l' => (q.1 = v.1 ∧ Rp g ws q.2 v.2) ∧ PR g ws l l'
  | _, _ => False
theorem LRel.list {g : Gm} {ws : va_W} {n : Nat} {ls : Array Slot} : ∀ {il : List (Nat × Vv)}, LRel g ws n il ls → ∃ lv, lv_has ls n lv ∧ PR g ws il lv
  | [], h => ⟨[], ⟨h.1, h.2.1, fun q hq => by cases hq⟩, trivial⟩
  | q :: il, h => by
    obtain ⟨lv, h1, h2⟩ := LRel.list (il := il) ⟨h.1, h.2.1, fun x hx => h.2.2 x (List.mem_cons_of_mem _ hx)⟩
    obtain ⟨v, h3, h4⟩ := h.2.2 q List.mem_cons_self
    refine ⟨(q.1, v) :: lv, ⟨h.1, h.2.1, fun x hx => ?_⟩, ⟨rfl, h4⟩, h2⟩
    rcases List.mem_cons.mp hx with rfl | hx
    · exact h3
    · exact h1.2.2 x hx
theorem LRel.of {g : Gm} {ws : va_W} {n : Nat} {ls : Array Slot} : ∀ {il : List (Nat × Vv)} {lv : List (Nat × Value)}, lv_has ls n lv → PR g ws il lv → LRel g ws n il ls
  | [], _, h, _ => ⟨h.1, h.2.1, fun q hq => by cases hq⟩
  | q :: il, [], _, h => h.elim
  | q :: il, v :: lv, h, hp => by
    have h1 := LRel.of (il := il) (lv := lv) ⟨h.1, h.2.1, fun x hx => h.2.2 x (List.mem_cons_of_mem _ hx)⟩ hp.2
    refine ⟨h.1, h.2.1, fun x hx => ?_⟩
    rcases List.mem_cons.mp hx with rfl | hx
    · exact ⟨v.2, by rw [hp.1.1]; exact h.2.2 v List.mem_cons_self, hp.1.2⟩
    · exact h1.2.2 x hx
theorem PR.filter {g : Gm} {ws : va_W} {P : Nat × Vv → Bool} {P' : Nat × Value → Bool} (hp : ∀ q v, q.1 = v.1 → Rp g ws q.2 v.2 → P q = P' v) : ∀ {il : List (Nat × Vv)} {lv : List (Nat × Value)}, PR g ws il lv → PR g ws (il.filter P) (lv.filter P')
  | [], [], _ => trivial
  | [], _ :: _, h => h.elim
  | _ :: _, [], h => h.elim
  | q :: il, v :: lv, h => by
    have h1 := PR.filter hp h.2
    rw [List.filter_cons, List.filter_cons, hp q v h.1.1 h.1.2]
    cases P' v
    · exact h1
    · exact ⟨h.1, h1⟩
theorem nat_beq_eq (a b : Nat) : Nat.beq a b = (a == b) := by
  cases h : Nat.beq a b
  · cases h2 : (a == b)
    · rfl
    · rw [beq_iff_eq] at h2
      rw [h2, Nat.beq_refl] at h
      cases h
  · rw [Nat.eq_of_beq_eq_true h]
    simp
theorem tag_cat {g : Gm} {ws : va_W} {q : Vv} {v : Value} (h : Rp g ws q v) : Nat.beq q.1 1 = (v.category == 2) := by
  rw [Rp.cat h, nat_beq_eq]
  unfold vCat
  by_cases h1 : q.1 = 1
  · rw [if_pos h1, h1]; rfl
  · rw [if_neg h1, beq_false_of_ne h1]; rfl
theorem PR.st1 {g : Gm} {ws : va_W} {i : Nat} {q : Vv} {v : Value} (h : Rp g ws q v) {il : List (Nat × Vv)} {lv : List (Nat × Value)} (hp : PR g ws il lv) : PR g ws (stL i q il) ((i, v) :: lv.filter (fun q => !(q.1 == i) && !(q.1 + 1 == i && q.2.category == 2))) :=
  ⟨⟨rfl, h⟩, PR.filter (fun a b h1 h2 => by rw [nat_beq_eq, nat_beq_eq, tag_cat h2, h1]) hp⟩
theorem PR.st2 {g : Gm} {ws : va_W} {i : Nat} {q : Vv} {v : Value} (h : Rp g ws q v) {il : List (Nat × Vv)} {lv : List (Nat × Value)} (hp : PR g ws il lv) : PR g ws (stL2 i q il) ((i, v) :: lv.filter (fun q => !(q.1 == i) && (!(q.1 == i + 1) && !(q.1 + 1 == i && q.2.category == 2)))) :=
  ⟨⟨rfl, h⟩, PR.filter (fun a b h1 h2 => by rw [nat_beq_eq, nat_beq_eq, nat_beq_eq, tag_cat h2, h1]) hp⟩
theorem LRel.at {g : Gm} {ws : va_W} {n : Nat} {il : List (Nat × Vv)} {ls : Array Slot} (h : LRel g ws n il ls) {k i : Nat} {q : Vv} (hk : il[k]? = some (i, q)) : ∃ v, ls[i]? = some (.val v) ∧ Rp g ws q v := h.2.2 (i, q) (List.mem_of_getElem? hk)
theorem LRel.pick {g : Gm} {ws : va_W} {n : Nat} {il : List (Nat × Vv)} {ls : Array Slot} (h : LRel g ws n il ls) (ks : List Nat) : LRel g ws n (pickL il ks) ls := ⟨h.1, h.2.1, fun q hq => by
  obtain ⟨k, -, hk⟩ := List.mem_filterMap.mp hq
  exact h.2.2 q (List.mem_of_getElem? hk)⟩
theorem LRel.setI {g : Gm} {ws : va_W} {n : Nat} {il : List (Nat × Vv)} {ls ls' : Array Slot} (h : LRel g ws n il ls) : True := trivial
theorem rpI {g : Gm} {ws : va_W} {x : Int} {w : Int32} (h : w.toInt = x) : Rp g ws (vI x) (.int w) := ⟨w, rfl, h⟩
theorem rpL {g : Gm} {ws : va_W} {x : Int} {w : Int64} (h : w.toInt = x) : Rp g ws (vL x) (.long w) := ⟨w, rfl, h⟩
section EvI
variable {g : Gm} {d : Nat} {T : Mt} {pc : Nat} {il il' : List (Nat × Vv)} {st : List Vv} {σ σ' : Sg} {b : Nat × Nat} {r : Vv}
theorem Ev.go {pc2 : Nat} {il2 : List (Nat × Vv)} {st2 : List Vv} (h : Ev g d T pc2 il2 st2 σ b r σ')
    (hw : ∀ (p : Program) (e : Env) (R : Room) (s : State) (m : MethodId) (args : Array Value) (below : List Frame) (meth : Method) (c : Code) (mc ms : Nat), Ctx g d T p R s m args meth c mc ms →
      ∀ (H : Heap) (locs : List Loc) (cells slots : Nat) (ls : Array Slot) (vst : List Value) (ws : va_W) (Q : State → Prop), LRel g ws T.2.2.1 il ls → SRel g ws st vst →
      (∀ (ls2 : Array Slot) (vst2 : List Value), LRel g ws T.2.2.1 il2 ls2 → SRel g ws st2 vst2 → W p g.1 e R s m args below meth c H locs cells slots Q (F0 m pc2 ls2 vst2)) → W p g.1 e R s m args below meth c H locs cells slots Q (F0 m pc ls vst)) : Ev g d T pc il st σ b r σ' := by
  intro p e R s m args below meth c mc ms C H locs cells slots ls vst ws Q hl hs hw' hP hD hS h1 h2 hF
  exact hw p e R s m args below meth c mc ms C H locs cells slots ls vst ws Q hl hs (fun ls2 vst2 hl2 hs2 => h p e R s m args below meth c mc ms C H locs cells slots ls2 vst2 ws Q hl2 hs2 hw' hP hD hS h1 h2 hF)
theorem ev_pick (ks : List Nat) (hk : pickL il ks = il') (h : Ev g d T pc il' st σ b r σ') : Ev g d T pc il st σ b r σ' :=
  Ev.go h (fun _ _ _ _ _ _ _ _ _ _ _ _ _ _ _ _ _ _ _ _ hl hs k => k _ _ (by rw [← hk]; exact hl.pick ks) hs)

theorem ev_iconst {n : Int} {x : Int} (hd : decode T.2.1 pc = .ok (.iconst n, 1)) (hn : (Int32.ofInt n).toInt = x) (h : Ev g d T (pc + 1) il (vI x :: st) σ b r σ') : Ev g d T pc il st σ b r σ' := by
  refine Ev.go h ?_
  intro p e R s m args below meth c mc ms C H locs cells slots ls vst ws Q hl hs0 k
  obtain ⟨hx, hb, -, -, -⟩ := C
  exact lv_iconst hx hb hd rfl (k ls _ hl ⟨⟨_, rfl, hn⟩, hs0⟩)
theorem ev_bipush {n : Int} {x : Int} (hd : decode T.2.1 pc = .ok (.bipush n, 2)) (hn : (Int8.ofInt n).toInt32.toInt = x) (h : Ev g d T (pc + 2) il (vI x :: st) σ b r σ') : Ev g d T pc il st σ b r σ' := by
  refine Ev.go h ?_
  intro p e R s m args below meth c mc ms C H locs cells slots ls vst ws Q hl hs0 k
  obtain ⟨hx, hb, -, -, -⟩ := C
  exact lv_bipush hx hb hd rfl (k ls _ hl ⟨⟨_, rfl, hn⟩, hs0⟩)
theorem ev_sipush {n : Int} {x : Int} (hd : decode T.2.1 pc = .ok (.sipush n, 3)) (hn : (Int16.ofInt n).toInt32.toInt = x) (h : Ev g d T (pc + 3) il (vI x :: st) σ b r σ') : Ev g d T pc il st σ b r σ' := by
  refine Ev.go h ?_
  intro p e R s m args below meth c mc ms C H locs cells slots ls vst ws Q hl hs0 k
  obtain ⟨hx, hb, -, -, -⟩ := C
  exact lv_sipush hx hb hd rfl (k ls _ hl ⟨⟨_, rfl, hn⟩, hs0⟩)
theorem ev_lconst {n : Fin 2} {x : Int} (hd : decode T.2.1 pc = .ok (.lconst n, 1)) (hn : (Int64.ofNat (n : Nat)).toInt = x) (h : Ev g d T (pc + 1) il (vL x :: st) σ b r σ') : Ev g d T pc il st σ b r σ' := by
  refine Ev.go h ?_
  intro p e R s m args below meth c mc ms C H locs cells slots ls vst ws Q hl hs0 k
  obtain ⟨hx, hb, -, -, -⟩ := C
  exact lv_lconst hx hb hd rfl (k ls _ hl ⟨⟨_, rfl, hn⟩, hs0⟩)
theorem ev_ldc {own : String} {idx : Nat} {v : Int32} {x : Int} (ho : T.1.cls = own) (hw : Cond.constant own idx v ∈ lw_good) (hn : v.toInt = x) (hd : decode T.2.1 pc = .ok (.ldc idx, 2)) (h : Ev g d T (pc + 2) il (vI x :: st) σ b r σ') : Ev g d T pc il st σ b r σ' := by
  refine Ev.go h ?_
  intro p e R s m args below meth c mc ms C H locs cells slots ls vst ws Q hl hs0 k
  obtain ⟨hx, hb, -, -, hown, -, -, hts, -⟩ := C
  exact lv_ldc hx hb (by rw [← ho]; exact hown) (hts _ (List.mem_cons_of_mem _ hw)) hd (k ls _ hl ⟨⟨_, rfl, hn⟩, hs0⟩)
theorem ev_ldcw {own : String} {idx : Nat} {v : Int32} {x : Int} (ho : T.1.cls = own) (hw : Cond.constant own idx v ∈ lw_good) (hn : v.toInt = x) (hd : decode T.2.1 pc = .ok (.ldc_w idx, 3)) (h : Ev g d T (pc + 3) il (vI x :: st) σ b r σ') : Ev g d T pc il st σ b r σ' := by
  refine Ev.go h ?_
  intro p e R s m args below meth c mc ms C H locs cells slots ls vst ws Q hl hs0 k
  obtain ⟨hx, hb, -, -, hown, -, -, hts, -⟩ := C
  exact lv_ldcw hx hb (by rw [← ho]; exact hown) (hts _ (List.mem_cons_of_mem _ hw)) hd (k ls _ hl ⟨⟨_, rfl, hn⟩, hs0⟩)
theorem ev_ldc2 {own : String} {idx : Nat} {v : Int64} {x : Int} (ho : T.1.cls = own) (hw : Cond.constantLong own idx v ∈ lw_good) (hn : v.toInt = x) (hd : decode T.2.1 pc = .ok (.ldc2_w idx, 3)) (h : Ev g d T (pc + 3) il (vL x :: st) σ b r σ') : Ev g d T pc il st σ b r σ' := by
  refine Ev.go h ?_
  intro p e R s m args below meth c mc ms C H locs cells slots ls vst ws Q hl hs0 k
  obtain ⟨hx, hb, -, -, hown, -, -, hts, -⟩ := C
  exact lv_ldc2 hx hb (by rw [← ho]; exact hown) (hts _ (List.mem_cons_of_mem _ hw)) hd (k ls _ hl ⟨⟨_, rfl, hn⟩, hs0⟩)
theorem ev_iload_n {n : Fin 4} {i : Nat} {x : Int} (j : Nat) (hd : decode T.2.1 pc = .ok (.iload_n n, 1)) (hi : (n : Nat) = i) (hj : il[j]? = some (i, vI x)) (h : Ev g d T (pc + 1) il (vI x :: st) σ b r σ') : Ev g d T pc il st σ b r σ' := by
  refine Ev.go h ?_
  intro p e R s m args below meth c mc ms C H locs cells slots ls vst ws Q hl hs0 k
  obtain ⟨hx, hb, -, -, -⟩ := C
  obtain ⟨v, h1, w, rfl, h2⟩ := hl.at hj
  exact lv_iload_n hx hb hd hi h1 (k ls _ hl ⟨⟨_, rfl, h2⟩, hs0⟩)
theorem ev_iload {i : Nat} {x : Int} (j : Nat) (hd : decode T.2.1 pc = .ok (.iload i, 2)) (hj : il[j]? = some (i, vI x)) (h : Ev g d T (pc + 2) il (vI x :: st) σ b r σ') : Ev g d T pc il st σ b r σ' := by
  refine Ev.go h ?_
  intro p e R s m args below meth c mc ms C H locs cells slots ls vst ws Q hl hs0 k
  obtain ⟨hx, hb, -, -, -⟩ := C
  obtain ⟨v, h1, w, rfl, h2⟩ := hl.at hj
  exact lv_iload hx hb hd h1 (k ls _ hl ⟨⟨_, rfl, h2⟩, hs0⟩)
theorem ev_lload_n {n : Fin 4} {i : Nat} {x : Int} (j : Nat) (hd : decode T.2.1 pc = .ok (.lload_n n, 1)) (hi : (n : Nat) = i) (hj : il[j]? = some (i, vL x)) (h : Ev g d T (pc + 1) il (vL x :: st) σ b r σ') : Ev g d T pc il st σ b r σ' := by
  refine Ev.go h ?_
  intro p e R s m args below meth c mc ms C H locs cells slots ls vst ws Q hl hs0 k
  obtain ⟨hx, hb, -, -, -⟩ := C
  obtain ⟨v, h1, w, rfl, h2⟩ := hl.at hj
  exact lv_lload_n hx hb hd hi h1 (k ls _ hl ⟨⟨_, rfl, h2⟩, hs0⟩)
theorem ev_lload {i : Nat} {x : Int} (j : Nat) (hd : decode T.2.1 pc = .ok (.lload i, 2)) (hj : il[j]? = some (i, vL x)) (h : Ev g d T (pc + 2) il (vL x :: st) σ b r σ') : Ev g d T pc il st σ b r σ' := by
  refine Ev.go h ?_
  intro p e R s m args below meth c mc ms C H locs cells slots ls vst ws Q hl hs0 k
  obtain ⟨hx, hb, -, -, -⟩ := C
  obtain ⟨v, h1, w, rfl, h2⟩ := hl.at hj
  exact lv_lload hx hb hd h1 (k ls _ hl ⟨⟨_, rfl, h2⟩, hs0⟩)
theorem ev_aload_n {n : Fin 4} {i : Nat} {x : Int} (j : Nat) (hd : decode T.2.1 pc = .ok (.aload_n n, 1)) (hi : (n : Nat) = i) (hj : il[j]? = some (i, vR x)) (h : Ev g d T (pc + 1) il (vR x :: st) σ b r σ') : Ev g d T pc il st σ b r σ' := by
  refine Ev.go h ?_
  intro p e R s m args below meth c mc ms C H locs cells slots ls vst ws Q hl hs0 k
  obtain ⟨hx, hb, -, -, -⟩ := C
  obtain ⟨v, h1, h2⟩ := hl.at hj
  have h3 : wRef ws x v := h2
  rcases h3 with ⟨-, rfl⟩ | ⟨k9, a, e9, -, -, rfl⟩
  · exact lv_aload_nN hx hb hd hi h1 (k ls _ hl ⟨h2, hs0⟩)
  · exact lv_aload_n hx hb hd hi h1 (k ls _ hl ⟨h2, hs0⟩)
theorem ev_aload_nS {n : Fin 4} {i : Nat} {x : Int} (j : Nat) (hd : decode T.2.1 pc = .ok (.aload_n n, 1)) (hi : (n : Nat) = i) (hj : il[j]? = some (i, vS x)) (h : Ev g d T (pc + 1) il (vS x :: st) σ b r σ') : Ev g d T pc il st σ b r σ' := by
  refine Ev.go h ?_
  intro p e R s m args below meth c mc ms C H locs cells slots ls vst ws Q hl hs0 k
  obtain ⟨hx, hb, -, -, -⟩ := C
  obtain ⟨v, h1, h2⟩ := hl.at hj
  have h3 : v = .ref (g.2.2.2.2 x.toNat) := h2
  subst h3
  exact lv_aload_n hx hb hd hi h1 (k ls _ hl ⟨rfl, hs0⟩)
theorem ev_aload {i : Nat} {x : Int} (j : Nat) (hd : decode T.2.1 pc = .ok (.aload i, 2)) (hj : il[j]? = some (i, vR x)) (h : Ev g d T (pc + 2) il (vR x :: st) σ b r σ') : Ev g d T pc il st σ b r σ' := by
  refine Ev.go h ?_
  intro p e R s m args below meth c mc ms C H locs cells slots ls vst ws Q hl hs0 k
  obtain ⟨hx, hb, -, -, -⟩ := C
  obtain ⟨v, h1, h2⟩ := hl.at hj
  have h3 : wRef ws x v := h2
  rcases h3 with ⟨-, rfl⟩ | ⟨k9, a, e9, -, -, rfl⟩
  · exact lv_aloadN hx hb hd h1 (k ls _ hl ⟨h2, hs0⟩)
  · exact lv_aload hx hb hd h1 (k ls _ hl ⟨h2, hs0⟩)
theorem ev_istore_n {n : Fin 4} {i : Nat} {x : Int} (hd : decode T.2.1 pc = .ok (.istore_n n, 1)) (hi : (n : Nat) = i) (hn : i < T.2.2.1) (hl' : stL i (vI x) il = il') (h : Ev g d T (pc + 1) il' st σ b r σ') : Ev g d T pc il (vI x :: st) σ b r σ' := by
  refine Ev.go h ?_
  intro p e R s m args below meth c mc ms C H locs cells slots ls vst ws Q hl hs0 k
  obtain ⟨hx, hb, -, -, -⟩ := C
  obtain ⟨w, vs, rfl, hw, hs⟩ := hs0.consI
  obtain ⟨lv, h1, h2⟩ := hl.list
  exact lv_istore_n hx hb hd hi h1 hn rfl (fun ls2 h3 => k ls2 _ (by rw [← hl']; exact LRel.of h3 (PR.st1 (rpI hw) h2)) hs)
theorem ev_istore {i : Nat} {x : Int} (hd : decode T.2.1 pc = .ok (.istore i, 2)) (hn : i < T.2.2.1) (hl' : stL i (vI x) il = il') (h : Ev g d T (pc + 2) il' st σ b r σ') : Ev g d T pc il (vI x :: st) σ b r σ' := by
  refine Ev.go h ?_
  intro p e R s m args below meth c mc ms C H locs cells slots ls vst ws Q hl hs0 k
  obtain ⟨hx, hb, -, -, -⟩ := C
  obtain ⟨w, vs, rfl, hw, hs⟩ := hs0.consI
  obtain ⟨lv, h1, h2⟩ := hl.list
  exact lv_istore hx hb hd h1 hn rfl (fun ls2 h3 => k ls2 _ (by rw [← hl']; exact LRel.of h3 (PR.st1 (rpI hw) h2)) hs)
theorem ev_lstore_n {n : Fin 4} {i : Nat} {x : Int} (hd : decode T.2.1 pc = .ok (.lstore_n n, 1)) (hi : (n : Nat) = i) (hn : i + 1 < T.2.2.1) (hl' : stL2 i (vL x) il = il') (h : Ev g d T (pc + 1) il' st σ b r σ') : Ev g d T pc il (vL x :: st) σ b r σ' := by
  refine Ev.go h ?_
  intro p e R s m args below meth c mc ms C H locs cells slots ls vst ws Q hl hs0 k
  obtain ⟨hx, hb, -, -, -⟩ := C
  obtain ⟨w, vs, rfl, hw, hs⟩ := hs0.consL
  obtain ⟨lv, h1, h2⟩ := hl.list
  exact lv_lstore_n hx hb hd hi h1 hn rfl (fun ls2 h3 => k ls2 _ (by rw [← hl']; exact LRel.of h3 (PR.st2 (rpL hw) h2)) hs)
theorem ev_lstore {i : Nat} {x : Int} (hd : decode T.2.1 pc = .ok (.lstore i, 2)) (hn : i + 1 < T.2.2.1) (hl' : stL2 i (vL x) il = il') (h : Ev g d T (pc + 2) il' st σ b r σ') : Ev g d T pc il (vL x :: st) σ b r σ' := by
  refine Ev.go h ?_
  intro p e R s m args below meth c mc ms C H locs cells slots ls vst ws Q hl hs0 k
  obtain ⟨hx, hb, -, -, -⟩ := C
  obtain ⟨w, vs, rfl, hw, hs⟩ := hs0.consL
  obtain ⟨lv, h1, h2⟩ := hl.list
  exact lv_lstore hx hb hd h1 hn rfl (fun ls2 h3 => k ls2 _ (by rw [← hl']; exact LRel.of h3 (PR.st2 (rpL hw) h2)) hs)
theorem ev_astore_n {n : Fin 4} {i : Nat} {x : Int} (hd : decode T.2.1 pc = .ok (.astore_n n, 1)) (hi : (n : Nat) = i) (hn : i < T.2.2.1) (hl' : stL i (vR x) il = il') (h : Ev g d T (pc + 1) il' st σ b r σ') : Ev g d T pc il (vR x :: st) σ b r σ' := by
  refine Ev.go h ?_
  intro p e R s m args below meth c mc ms C H locs cells slots ls vst ws Q hl hs0 k
  obtain ⟨hx, hb, -, -, -⟩ := C
  obtain ⟨v, vs, rfl, hw, hs⟩ := hs0.consR
  obtain ⟨lv, h1, h2⟩ := hl.list
  have h4 : Rp g ws (vR x) v := hw
  rcases hw with ⟨-, rfl⟩ | ⟨k9, a, e9, -, -, rfl⟩
  · exact lv_astore_nN hx hb hd hi h1 hn rfl (fun ls2 h3 => k ls2 _ (by rw [← hl']; exact LRel.of h3 (PR.st1 h4 h2)) hs)
  · exact lv_astore_n hx hb hd hi h1 hn rfl (fun ls2 h3 => k ls2 _ (by rw [← hl']; exact LRel.of h3 (PR.st1 h4 h2)) hs)
theorem ev_astore {i : Nat} {x : Int} (hd : decode T.2.1 pc = .ok (.astore i, 2)) (hn : i < T.2.2.1) (hl' : stL i (vR x) il = il') (h : Ev g d T (pc + 2) il' st σ b r σ') : Ev g d T pc il (vR x :: st) σ b r σ' := by
  refine Ev.go h ?_
  intro p e R s m args below meth c mc ms C H locs cells slots ls vst ws Q hl hs0 k
  obtain ⟨hx, hb, -, -, -⟩ := C
  obtain ⟨v, vs, rfl, hw, hs⟩ := hs0.consR
  obtain ⟨lv, h1, h2⟩ := hl.list
  have h4 : Rp g ws (vR x) v := hw
  rcases hw with ⟨-, rfl⟩ | ⟨k9, a, e9, -, -, rfl⟩
  · exact lv_astoreN hx hb hd h1 hn rfl (fun ls2 h3 => k ls2 _ (by rw [← hl']; exact LRel.of h3 (PR.st1 h4 h2)) hs)
  · exact lv_astore hx hb hd h1 hn rfl (fun ls2 h3 => k ls2 _ (by rw [← hl']; exact LRel.of h3 (PR.st1 h4 h2)) hs)
theorem ofInt_toInt32 (n : Int) : (Int32.ofInt n).toInt = wI n := by rw [Int32.toInt_ofInt, wI_bmod]
theorem ev_iinc {i : Nat} {n x y : Int} (j : Nat) (hd : decode T.2.1 pc = .ok (.iinc i n, 3)) (hj : il[j]? = some (i, vI x)) (hn : i < T.2.2.1) (hy : wI (x + n) = y) (hl' : stL i (vI y) il = il') (h : Ev g d T (pc + 3) il' st σ b r σ') : Ev g d T pc il st σ b r σ' := by
  refine Ev.go h ?_
  intro p e R s m args below meth c mc ms C H locs cells slots ls vst ws Q hl hs0 k
  obtain ⟨hx, hb, -, -, -⟩ := C
  obtain ⟨lv, h1, h2⟩ := hl.list
  have key : ∀ (il : List (Nat × Vv)) (lv : List (Nat × Value)), PR g ws il lv → il[j]? = some (i, vI x) → ∃ w : Int32, lv[j]? = some (i, .int w) ∧ w.toInt = x := by
    clear hj
    induction j with
    | zero =>
      intro il lv hp hj
      cases il with
      | nil => cases hj
      | cons q il =>
        cases lv with
        | nil => exact hp.elim
        | cons v lv =>
          cases hj
          obtain ⟨⟨e1, w, e2, e3⟩, -⟩ := hp
          obtain ⟨v1, v2⟩ := v
          have e1 : i = v1 := e1
          have e2 : v2 = .int w := e2
          subst e1; subst e2
          exact ⟨w, rfl, e3⟩
    | succ j ih =>
      intro il lv hp hj
      cases il with
      | nil => cases hj
      | cons q il =>
        cases lv with
        | nil => exact hp.elim
        | cons v lv => exact ih il lv hp.2 hj
  obtain ⟨w, e1, e2⟩ := key il lv h2 hj
  have hy2 : (w + Int32.ofInt n).toInt = y := by
    rw [Int32.toInt_add, wI_bmod, e2, ofInt_toInt32, ← hy]
    unfold wI
    omega
  exact lv_iinc hx hb hd h1 e1 rfl hn rfl (fun ls2 h3 => k ls2 _ (by rw [← hl']; exact LRel.of h3 (PR.st1 (rpI hy2) h2)) hs0)
theorem ev_iadd {a c : Int} (hd : decode T.2.1 pc = .ok (.iadd, 1)) (h : Ev g d T (pc + 1) il (vI (wI (a + c)) :: st) σ b r σ') : Ev g d T pc il (vI c :: vI a :: st) σ b r σ' := by
  refine Ev.go h ?_
  intro p e R s m args below meth c mc ms C H locs cells slots ls vst ws Q hl hs0 k
  obtain ⟨hx, hb, -, -, -⟩ := C
  obtain ⟨w2, vs1, rfl, hw2, hs1⟩ := hs0.consI
  obtain ⟨w1, vs, rfl, hw1, hs⟩ := hs1.consI
  subst hw1; subst hw2
  exact lv_iadd hx hb hd (k ls _ hl ⟨⟨_, rfl, by rw [Int32.toInt_add, wI_bmod]⟩, hs⟩)
theorem ev_isub {a c : Int} (hd : decode T.2.1 pc = .ok (.isub, 1)) (h : Ev g d T (pc + 1) il (vI (wI (a - c)) :: st) σ b r σ') : Ev g d T pc il (vI c :: vI a :: st) σ b r σ' := by
  refine Ev.go h ?_
  intro p e R s m args below meth c mc ms C H locs cells slots ls vst ws Q hl hs0 k
  obtain ⟨hx, hb, -, -, -⟩ := C
  obtain ⟨w2, vs1, rfl, hw2, hs1⟩ := hs0.consI
  obtain ⟨w1, vs, rfl, hw1, hs⟩ := hs1.consI
  subst hw1; subst hw2
  exact lv_isub hx hb hd (k ls _ hl ⟨⟨_, rfl, by rw [Int32.toInt_sub, wI_bmod]⟩, hs⟩)
theorem ev_imul {a c : Int} (hd : decode T.2.1 pc = .ok (.imul, 1)) (h : Ev g d T (pc + 1) il (vI (wI (a * c)) :: st) σ b r σ') : Ev g d T pc il (vI c :: vI a :: st) σ b r σ' := by
  refine Ev.go h ?_
  intro p e R s m args below meth c mc ms C H locs cells slots ls vst ws Q hl hs0 k
  obtain ⟨hx, hb, -, -, -⟩ := C
  obtain ⟨w2, vs1, rfl, hw2, hs1⟩ := hs0.consI
  obtain ⟨w1, vs, rfl, hw1, hs⟩ := hs1.consI
  subst hw1; subst hw2
  exact lv_imul hx hb hd (k ls _ hl ⟨⟨_, rfl, by rw [Int32.toInt_mul, wI_bmod]⟩, hs⟩)
theorem i32_ne0 {w : Int32} (h : w.toInt ≠ 0) : ¬ w = 0 := fun q => h (by rw [q]; rfl)
theorem irem_toInt (x y : Int32) : (x - x / y * y).toInt = iRem x.toInt y.toInt := by
  rw [Int32.toInt_sub, Int32.toInt_mul, Int32.toInt_div]
  rw [← Int.sub_bmod_bmod, Int.bmod_mul_bmod]
  simp only [Int.sub_bmod_bmod]
  rw [Int.mul_comm (x.toInt.tdiv y.toInt), ← Int.tmod_def]
  unfold iRem
  rw [wI_bmod]
  have h1 := i32_lo x
  have h2 := i32_hi x
  have h3 := Int.natAbs_tmod x.toInt y.toInt
  have h4 := Nat.mod_le x.toInt.natAbs y.toInt.natAbs
  apply wI_id
  · omega
  · rcases Int.le_total 0 x.toInt with h | h
    · omega
    · have h5 := Int.neg_tmod x.toInt y.toInt
      have h6 := Int.tmod_nonneg y.toInt (a := -x.toInt) (by omega)
      omega
theorem ev_idiv {a c : Int} (hd : decode T.2.1 pc = .ok (.idiv, 1)) (hne : c ≠ 0) (h : Ev g d T (pc + 1) il (vI (iDiv a c) :: st) σ b r σ') : Ev g d T pc il (vI c :: vI a :: st) σ b r σ' := by
  refine Ev.go h ?_
  intro p e R s m args below meth c mc ms C H locs cells slots ls vst ws Q hl hs0 k
  obtain ⟨hx, hb, -, -, -⟩ := C
  obtain ⟨w2, vs1, rfl, hw2, hs1⟩ := hs0.consI
  obtain ⟨w1, vs, rfl, hw1, hs⟩ := hs1.consI
  subst hw1; subst hw2
  exact lv_idiv hx hb hd (i32_ne0 hne) (k ls _ hl ⟨⟨_, rfl, by rw [Int32.toInt_div, wI_bmod]; rfl⟩, hs⟩)
theorem ev_irem {a c : Int} (hd : decode T.2.1 pc = .ok (.irem, 1)) (hne : c ≠ 0) (h : Ev g d T (pc + 1) il (vI (iRem a c) :: st) σ b r σ') : Ev g d T pc il (vI c :: vI a :: st) σ b r σ' := by
  refine Ev.go h ?_
  intro p e R s m args below meth c mc ms C H locs cells slots ls vst ws Q hl hs0 k
  obtain ⟨hx, hb, -, -, -⟩ := C
  obtain ⟨w2, vs1, rfl, hw2, hs1⟩ := hs0.consI
  obtain ⟨w1, vs, rfl, hw1, hs⟩ := hs1.consI
  subst hw1; subst hw2
  exact lv_irem hx hb hd (i32_ne0 hne) (k ls _ hl ⟨⟨_, rfl, irem_toInt _ _⟩, hs⟩)
theorem ev_iand {a c : Int} (hd : decode T.2.1 pc = .ok (.iand, 1)) (h : Ev g d T (pc + 1) il (vI (bAnd a c) :: st) σ b r σ') : Ev g d T pc il (vI c :: vI a :: st) σ b r σ' := by
  refine Ev.go h ?_
  intro p e R s m args below meth c mc ms C H locs cells slots ls vst ws Q hl hs0 k
  obtain ⟨hx, hb, -, -, -⟩ := C
  obtain ⟨w2, vs1, rfl, hw2, hs1⟩ := hs0.consI
  obtain ⟨w1, vs, rfl, hw1, hs⟩ := hs1.consI
  subst hw1; subst hw2
  exact lv_iand hx hb hd (k ls _ hl ⟨⟨_, rfl, by unfold bAnd; rw [Int32.ofInt_toInt, Int32.ofInt_toInt]⟩, hs⟩)
theorem ev_ior {a c : Int} (hd : decode T.2.1 pc = .ok (.ior, 1)) (h : Ev g d T (pc + 1) il (vI (bOr a c) :: st) σ b r σ') : Ev g d T pc il (vI c :: vI a :: st) σ b r σ' := by
  refine Ev.go h ?_
  intro p e R s m args below meth c mc ms C H locs cells slots ls vst ws Q hl hs0 k
  obtain ⟨hx, hb, -, -, -⟩ := C
  obtain ⟨w2, vs1, rfl, hw2, hs1⟩ := hs0.consI
  obtain ⟨w1, vs, rfl, hw1, hs⟩ := hs1.consI
  subst hw1; subst hw2
  exact lv_ior hx hb hd (k ls _ hl ⟨⟨_, rfl, by unfold bOr; rw [Int32.ofInt_toInt, Int32.ofInt_toInt]⟩, hs⟩)
theorem ev_ixor {a c : Int} (hd : decode T.2.1 pc = .ok (.ixor, 1)) (h : Ev g d T (pc + 1) il (vI (bXor a c) :: st) σ b r σ') : Ev g d T pc il (vI c :: vI a :: st) σ b r σ' := by
  refine Ev.go h ?_
  intro p e R s m args below meth c mc ms C H locs cells slots ls vst ws Q hl hs0 k
  obtain ⟨hx, hb, -, -, -⟩ := C
  obtain ⟨w2, vs1, rfl, hw2, hs1⟩ := hs0.consI
  obtain ⟨w1, vs, rfl, hw1, hs⟩ := hs1.consI
  subst hw1; subst hw2
  exact lv_ixor hx hb hd (k ls _ hl ⟨⟨_, rfl, by unfold bXor; rw [Int32.ofInt_toInt, Int32.ofInt_toInt]⟩, hs⟩)
theorem ev_ishl {a c : Int} (hd : decode T.2.1 pc = .ok (.ishl, 1)) (h : Ev g d T (pc + 1) il (vI (bShl a c) :: st) σ b r σ') : Ev g d T pc il (vI c :: vI a :: st) σ b r σ' := by
  refine Ev.go h ?_
  intro p e R s m args below meth c mc ms C H locs cells slots ls vst ws Q hl hs0 k
  obtain ⟨hx, hb, -, -, -⟩ := C
  obtain ⟨w2, vs1, rfl, hw2, hs1⟩ := hs0.consI
  obtain ⟨w1, vs, rfl, hw1, hs⟩ := hs1.consI
  subst hw1; subst hw2
  exact lv_ishl hx hb hd (k ls _ hl ⟨⟨_, rfl, by unfold bShl; rw [Int32.ofInt_toInt, Int32.ofInt_toInt]⟩, hs⟩)
theorem ev_ishr {a c : Int} (hd : decode T.2.1 pc = .ok (.ishr, 1)) (h : Ev g d T (pc + 1) il (vI (bShr a c) :: st) σ b r σ') : Ev g d T pc il (vI c :: vI a :: st) σ b r σ' := by
  refine Ev.go h ?_
  intro p e R s m args below meth c mc ms C H locs cells slots ls vst ws Q hl hs0 k
  obtain ⟨hx, hb, -, -, -⟩ := C
  obtain ⟨w2, vs1, rfl, hw2, hs1⟩ := hs0.consI
  obtain ⟨w1, vs, rfl, hw1, hs⟩ := hs1.consI
  subst hw1; subst hw2
  exact lv_ishr hx hb hd (k ls _ hl ⟨⟨_, rfl, by unfold bShr; rw [Int32.ofInt_toInt, Int32.ofInt_toInt]⟩, hs⟩)
theorem ev_iushr {a c : Int} (hd : decode T.2.1 pc = .ok (.iushr, 1)) (h : Ev g d T (pc + 1) il (vI (bUshr a c) :: st) σ b r σ') : Ev g d T pc il (vI c :: vI a :: st) σ b r σ' := by
  refine Ev.go h ?_
  intro p e R s m args below meth c mc ms C H locs cells slots ls vst ws Q hl hs0 k
  obtain ⟨hx, hb, -, -, -⟩ := C
  obtain ⟨w2, vs1, rfl, hw2, hs1⟩ := hs0.consI
  obtain ⟨w1, vs, rfl, hw1, hs⟩ := hs1.consI
  subst hw1; subst hw2
  exact lv_iushr hx hb hd rfl (k ls _ hl ⟨⟨_, rfl, by unfold bUshr; rw [Int32.ofInt_toInt, Int32.ofInt_toInt]⟩, hs⟩)
theorem ev_ineg {a : Int} (hd : decode T.2.1 pc = .ok (.ineg, 1)) (h : Ev g d T (pc + 1) il (vI (wI (-a)) :: st) σ b r σ') : Ev g d T pc il (vI a :: st) σ b r σ' := by
  refine Ev.go h ?_
  intro p e R s m args below meth c mc ms C H locs cells slots ls vst ws Q hl hs0 k
  obtain ⟨hx, hb, -, -, -⟩ := C
  obtain ⟨w1, vs, rfl, hw1, hs⟩ := hs0.consI
  subst hw1
  exact lv_ineg hx hb hd (k ls _ hl ⟨⟨_, rfl, by rw [Int32.toInt_neg, wI_bmod]⟩, hs⟩)
theorem ev_lneg {a : Int} (hd : decode T.2.1 pc = .ok (.lneg, 1)) (h : Ev g d T (pc + 1) il (vL (wL (-a)) :: st) σ b r σ') : Ev g d T pc il (vL a :: st) σ b r σ' := by
  refine Ev.go h ?_
  intro p e R s m args below meth c mc ms C H locs cells slots ls vst ws Q hl hs0 k
  obtain ⟨hx, hb, -, -, -⟩ := C
  obtain ⟨w1, vs, rfl, hw1, hs⟩ := hs0.consL
  subst hw1
  exact lv_lneg hx hb hd (k ls _ hl ⟨⟨_, rfl, by rw [Int64.toInt_neg, wL_bmod]⟩, hs⟩)
theorem i64_ne0 {w : Int64} (h : w.toInt ≠ 0) : ¬ w = 0 := fun q => h (by rw [q]; rfl)
theorem ev_ladd {a c : Int} (hd : decode T.2.1 pc = .ok (.ladd, 1)) (h : Ev g d T (pc + 1) il (vL (wL (a + c)) :: st) σ b r σ') : Ev g d T pc il (vL c :: vL a :: st) σ b r σ' := by
  refine Ev.go h ?_
  intro p e R s m args below meth c mc ms C H locs cells slots ls vst ws Q hl hs0 k
  obtain ⟨hx, hb, -, -, -⟩ := C
  obtain ⟨w2, vs1, rfl, hw2, hs1⟩ := hs0.consL
  obtain ⟨w1, vs, rfl, hw1, hs⟩ := hs1.consL
  subst hw1; subst hw2
  exact lv_ladd hx hb hd (k ls _ hl ⟨⟨_, rfl, by rw [Int64.toInt_add, wL_bmod]⟩, hs⟩)
theorem ev_lsub {a c : Int} (hd : decode T.2.1 pc = .ok (.lsub, 1)) (h : Ev g d T (pc + 1) il (vL (wL (a - c)) :: st) σ b r σ') : Ev g d T pc il (vL c :: vL a :: st) σ b r σ' := by
  refine Ev.go h ?_
  intro p e R s m args below meth c mc ms C H locs cells slots ls vst ws Q hl hs0 k
  obtain ⟨hx, hb, -, -, -⟩ := C
  obtain ⟨w2, vs1, rfl, hw2, hs1⟩ := hs0.consL
  obtain ⟨w1, vs, rfl, hw1, hs⟩ := hs1.consL
  subst hw1; subst hw2
  exact lv_lsub hx hb hd (k ls _ hl ⟨⟨_, rfl, by rw [Int64.toInt_sub, wL_bmod]⟩, hs⟩)
theorem ev_lmul {a c : Int} (hd : decode T.2.1 pc = .ok (.lmul, 1)) (h : Ev g d T (pc + 1) il (vL (wL (a * c)) :: st) σ b r σ') : Ev g d T pc il (vL c :: vL a :: st) σ b r σ' := by
  refine Ev.go h ?_
  intro p e R s m args below meth c mc ms C H locs cells slots ls vst ws Q hl hs0 k
  obtain ⟨hx, hb, -, -, -⟩ := C
  obtain ⟨w2, vs1, rfl, hw2, hs1⟩ := hs0.consL
  obtain ⟨w1, vs, rfl, hw1, hs⟩ := hs1.consL
  subst hw1; subst hw2
  exact lv_lmul hx hb hd (k ls _ hl ⟨⟨_, rfl, by rw [Int64.toInt_mul, wL_bmod]⟩, hs⟩)
theorem ev_ldiv {a c : Int} (hd : decode T.2.1 pc = .ok (.ldiv, 1)) (hne : c ≠ 0) (h : Ev g d T (pc + 1) il (vL (lDiv a c) :: st) σ b r σ') : Ev g d T pc il (vL c :: vL a :: st) σ b r σ' := by
  refine Ev.go h ?_
  intro p e R s m args below meth c mc ms C H locs cells slots ls vst ws Q hl hs0 k
  obtain ⟨hx, hb, -, -, -⟩ := C
  obtain ⟨w2, vs1, rfl, hw2, hs1⟩ := hs0.consL
  obtain ⟨w1, vs, rfl, hw1, hs⟩ := hs1.consL
  subst hw1; subst hw2
  exact lv_ldiv hx hb hd (i64_ne0 hne) (k ls _ hl ⟨⟨_, rfl, by rw [Int64.toInt_div, wL_bmod]; rfl⟩, hs⟩)
theorem ev_land {a c : Int} (hd : decode T.2.1 pc = .ok (.land, 1)) (h : Ev g d T (pc + 1) il (vL (lAnd a c) :: st) σ b r σ') : Ev g d T pc il (vL c :: vL a :: st) σ b r σ' := by
  refine Ev.go h ?_
  intro p e R s m args below meth c mc ms C H locs cells slots ls vst ws Q hl hs0 k
  obtain ⟨hx, hb, -, -, -⟩ := C
  obtain ⟨w2, vs1, rfl, hw2, hs1⟩ := hs0.consL
  obtain ⟨w1, vs, rfl, hw1, hs⟩ := hs1.consL
  subst hw1; subst hw2
  exact lv_land hx hb hd (k ls _ hl ⟨⟨_, rfl, by unfold lAnd; rw [Int64.ofInt_toInt, Int64.ofInt_toInt]⟩, hs⟩)
theorem ev_lor {a c : Int} (hd : decode T.2.1 pc = .ok (.lor, 1)) (h : Ev g d T (pc + 1) il (vL (lOr a c) :: st) σ b r σ') : Ev g d T pc il (vL c :: vL a :: st) σ b r σ' := by
  refine Ev.go h ?_
  intro p e R s m args below meth c mc ms C H locs cells slots ls vst ws Q hl hs0 k
  obtain ⟨hx, hb, -, -, -⟩ := C
  obtain ⟨w2, vs1, rfl, hw2, hs1⟩ := hs0.consL
  obtain ⟨w1, vs, rfl, hw1, hs⟩ := hs1.consL
  subst hw1; subst hw2
  exact lv_lor hx hb hd (k ls _ hl ⟨⟨_, rfl, by unfold lOr; rw [Int64.ofInt_toInt, Int64.ofInt_toInt]⟩, hs⟩)
theorem ev_lshl {a c : Int} (hd : decode T.2.1 pc = .ok (.lshl, 1)) (h : Ev g d T (pc + 1) il (vL (lShl a c) :: st) σ b r σ') : Ev g d T pc il (vI c :: vL a :: st) σ b r σ' := by
  refine Ev.go h ?_
  intro p e R s m args below meth c mc ms C H locs cells slots ls vst ws Q hl hs0 k
  obtain ⟨hx, hb, -, -, -⟩ := C
  obtain ⟨w2, vs1, rfl, hw2, hs1⟩ := hs0.consI
  obtain ⟨w1, vs, rfl, hw1, hs⟩ := hs1.consL
  subst hw1; subst hw2
  exact lv_lshl hx hb hd rfl (k ls _ hl ⟨⟨_, rfl, by unfold lShl; rw [Int64.ofInt_toInt, Int32.ofInt_toInt]⟩, hs⟩)
theorem ev_lshr {a c : Int} (hd : decode T.2.1 pc = .ok (.lshr, 1)) (h : Ev g d T (pc + 1) il (vL (lShr a c) :: st) σ b r σ') : Ev g d T pc il (vI c :: vL a :: st) σ b r σ' := by
  refine Ev.go h ?_
  intro p e R s m args below meth c mc ms C H locs cells slots ls vst ws Q hl hs0 k
  obtain ⟨hx, hb, -, -, -⟩ := C
  obtain ⟨w2, vs1, rfl, hw2, hs1⟩ := hs0.consI
  obtain ⟨w1, vs, rfl, hw1, hs⟩ := hs1.consL
  subst hw1; subst hw2
  exact lv_lshr hx hb hd rfl (k ls _ hl ⟨⟨_, rfl, by unfold lShr; rw [Int64.ofInt_toInt, Int32.ofInt_toInt]⟩, hs⟩)
theorem ev_i2l {a : Int} (hd : decode T.2.1 pc = .ok (.i2l, 1)) (h : Ev g d T (pc + 1) il (vL a :: st) σ b r σ') : Ev g d T pc il (vI a :: st) σ b r σ' := by
  refine Ev.go h ?_
  intro p e R s m args below meth c mc ms C H locs cells slots ls vst ws Q hl hs0 k
  obtain ⟨hx, hb, -, -, -⟩ := C
  obtain ⟨w1, vs, rfl, hw1, hs⟩ := hs0.consI
  exact lv_i2l hx hb hd rfl (k ls _ hl ⟨⟨_, rfl, by rw [Int32.toInt_toInt64]; exact hw1⟩, hs⟩)
theorem ev_l2i {a : Int} (hd : decode T.2.1 pc = .ok (.l2i, 1)) (h : Ev g d T (pc + 1) il (vI (wI a) :: st) σ b r σ') : Ev g d T pc il (vL a :: st) σ b r σ' := by
  refine Ev.go h ?_
  intro p e R s m args below meth c mc ms C H locs cells slots ls vst ws Q hl hs0 k
  obtain ⟨hx, hb, -, -, -⟩ := C
  obtain ⟨w1, vs, rfl, hw1, hs⟩ := hs0.consL
  subst hw1
  exact lv_l2i hx hb hd rfl (k ls _ hl ⟨⟨_, rfl, by rw [Int64.toInt_toInt32, wI_bmod]⟩, hs⟩)
theorem ev_lcmp {a c : Int} (hd : decode T.2.1 pc = .ok (.lcmp, 1)) (h : Ev g d T (pc + 1) il (vI (lCmp a c) :: st) σ b r σ') : Ev g d T pc il (vL c :: vL a :: st) σ b r σ' := by
  refine Ev.go h ?_
  intro p e R s m args below meth c mc ms C H locs cells slots ls vst ws Q hl hs0 k
  obtain ⟨hx, hb, -, -, -⟩ := C
  obtain ⟨w2, vs1, rfl, hw2, hs1⟩ := hs0.consL
  obtain ⟨w1, vs, rfl, hw1, hs⟩ := hs1.consL
  subst hw1; subst hw2
  refine W.lcmp hx hb hd (k ls _ hl ⟨⟨_, rfl, ?_⟩, hs⟩)
  unfold lCmp lg_cmp
  simp only [gt_iff_lt, Int64.lt_iff_toInt_lt, ← Int64.toInt_inj]
  split
  · rfl
  · split <;> rfl
theorem ev_dup {q : Vv} (hq : vCat q = 1) (hd : decode T.2.1 pc = .ok (.dup, 1)) (h : Ev g d T (pc + 1) il (q :: q :: st) σ b r σ') : Ev g d T pc il (q :: st) σ b r σ' := by
  refine Ev.go h ?_
  intro p e R s m args below meth c mc ms C H locs cells slots ls vst ws Q hl hs0 k
  obtain ⟨hx, hb, -, -, -⟩ := C
  obtain ⟨v, vs, rfl, h1, hs⟩ := hs0.cons
  exact lv_dup hx hb hd (by rw [Rp.cat h1]; exact hq) (k ls _ hl ⟨h1, h1, hs⟩)
theorem ev_dup_x1 {q q2 : Vv} (hq : vCat q = 1) (hq2 : vCat q2 = 1) (hd : decode T.2.1 pc = .ok (.dup_x1, 1)) (h : Ev g d T (pc + 1) il (q :: q2 :: q :: st) σ b r σ') : Ev g d T pc il (q :: q2 :: st) σ b r σ' := by
  refine Ev.go h ?_
  intro p e R s m args below meth c mc ms C H locs cells slots ls vst ws Q hl hs0 k
  obtain ⟨hx, hb, -, -, -⟩ := C
  obtain ⟨v, vs1, rfl, h1, hs1⟩ := hs0.cons
  obtain ⟨v2, vs, rfl, h2, hs⟩ := hs1.cons
  exact lv_dup_x1 hx hb hd (by rw [Rp.cat h1]; exact hq) (by rw [Rp.cat h2]; exact hq2) (k ls _ hl ⟨h1, h2, h1, hs⟩)
theorem ev_dup2 {q q2 : Vv} (hq : vCat q = 1) (hq2 : vCat q2 = 1) (hd : decode T.2.1 pc = .ok (.dup2, 1)) (h : Ev g d T (pc + 1) il (q :: q2 :: q :: q2 :: st) σ b r σ') : Ev g d T pc il (q :: q2 :: st) σ b r σ' := by
  refine Ev.go h ?_
  intro p e R s m args below meth c mc ms C H locs cells slots ls vst ws Q hl hs0 k
  obtain ⟨hx, hb, -, -, -⟩ := C
  obtain ⟨v, vs1, rfl, h1, hs1⟩ := hs0.cons
  obtain ⟨v2, vs, rfl, h2, hs⟩ := hs1.cons
  exact lv_dup2_11 hx hb hd (by rw [Rp.cat h1]; exact hq) (by rw [Rp.cat h2]; exact hq2) (k ls _ hl ⟨h1, h2, h1, h2, hs⟩)
theorem ev_pop {q : Vv} (hq : vCat q = 1) (hd : decode T.2.1 pc = .ok (.pop, 1)) (h : Ev g d T (pc + 1) il st σ b r σ') : Ev g d T pc il (q :: st) σ b r σ' := by
  refine Ev.go h ?_
  intro p e R s m args below meth c mc ms C H locs cells slots ls vst ws Q hl hs0 k
  obtain ⟨hx, hb, -, -, -⟩ := C
  obtain ⟨v, vs, rfl, h1, hs⟩ := hs0.cons
  exact lv_pop hx hb hd (by rw [Rp.cat h1]; exact hq) (k ls _ hl hs)
theorem ev_goto {off : Int} {tgt : Nat} (hd : decode T.2.1 pc = .ok (.goto off, 3)) (ht : (pc : Int) + off = (tgt : Int)) (h : Ev g d T tgt il st σ b r σ') : Ev g d T pc il st σ b r σ' := by
  refine Ev.go h ?_
  intro p e R s m args below meth c mc ms C H locs cells slots ls vst ws Q hl hs0 k
  obtain ⟨hx, hb, -, -, -⟩ := C
  exact lv_goto hx hb hd ht (k ls _ hl hs0)
theorem i32_0 (w : Int32) : w = 0 ↔ w.toInt = 0 := ⟨fun h => by rw [h]; rfl, fun h => Int32.toInt_inj.mp (by rw [h]; rfl)⟩
theorem ev_if_eq {a : Int} {off : Int} {tgt : Nat} (hd : decode T.2.1 pc = .ok (.ifCond .eq off, 3)) (ht : (pc : Int) + off = (tgt : Int)) (h1 : a = 0 → Ev g d T tgt il st σ b r σ') (h2 : ¬ (a = 0) → Ev g d T (pc + 3) il st σ b r σ') : Ev g d T pc il (vI a :: st) σ b r σ' := by
  intro p e R s m args below meth c mc ms C H locs cells slots ls vst ws Q hl hs0 hw' hP hD hS k1 k2 hF
  obtain ⟨hx, hb, -, -, -⟩ := id C
  obtain ⟨w, vs, rfl, hw, hs⟩ := hs0.consI
  subst hw
  have i0 : (0 : Int32).toInt = 0 := rfl
  refine lv_if_eq hx hb hd ht (fun q => ?_) (fun q => ?_)
  · exact h1 (by first | (rw [← i0]; exact (i32_0 _).mp q) | exact (i32_0 _).mp q) p e R s m args below meth c mc ms C H locs cells slots ls _ ws Q hl hs hw' hP hD hS k1 k2 hF
  · exact h2 ((fun z => q (by first | (rw [← i0] at z; exact (i32_0 _).mpr z) | exact (i32_0 _).mpr z))) p e R s m args below meth c mc ms C H locs cells slots ls _ ws Q hl hs hw' hP hD hS k1 k2 hF
theorem ev_if_ne {a : Int} {off : Int} {tgt : Nat} (hd : decode T.2.1 pc = .ok (.ifCond .ne off, 3)) (ht : (pc : Int) + off = (tgt : Int)) (h1 : a ≠ 0 → Ev g d T tgt il st σ b r σ') (h2 : ¬ (a ≠ 0) → Ev g d T (pc + 3) il st σ b r σ') : Ev g d T pc il (vI a :: st) σ b r σ' := by
  intro p e R s m args below meth c mc ms C H locs cells slots ls vst ws Q hl hs0 hw' hP hD hS k1 k2 hF
  obtain ⟨hx, hb, -, -, -⟩ := id C
  obtain ⟨w, vs, rfl, hw, hs⟩ := hs0.consI
  subst hw
  have i0 : (0 : Int32).toInt = 0 := rfl
  refine lv_if_ne hx hb hd ht (fun q => ?_) (fun q => ?_)
  · exact h1 (by first | (rw [← i0]; exact (not_congr (i32_0 _)).mp q) | exact (not_congr (i32_0 _)).mp q) p e R s m args below meth c mc ms C H locs cells slots ls _ ws Q hl hs hw' hP hD hS k1 k2 hF
  · exact h2 ((fun z => z ((i32_0 _).mp q))) p e R s m args below meth c mc ms C H locs cells slots ls _ ws Q hl hs hw' hP hD hS k1 k2 hF
theorem ev_if_lt {a : Int} {off : Int} {tgt : Nat} (hd : decode T.2.1 pc = .ok (.ifCond .lt off, 3)) (ht : (pc : Int) + off = (tgt : Int)) (h1 : a < 0 → Ev g d T tgt il st σ b r σ') (h2 : ¬ (a < 0) → Ev g d T (pc + 3) il st σ b r σ') : Ev g d T pc il (vI a :: st) σ b r σ' := by
  intro p e R s m args below meth c mc ms C H locs cells slots ls vst ws Q hl hs0 hw' hP hD hS k1 k2 hF
  obtain ⟨hx, hb, -, -, -⟩ := id C
  obtain ⟨w, vs, rfl, hw, hs⟩ := hs0.consI
  subst hw
  have i0 : (0 : Int32).toInt = 0 := rfl
  refine lv_if_lt hx hb hd ht (fun q => ?_) (fun q => ?_)
  · exact h1 (by first | (rw [← i0]; exact (Int32.lt_iff_toInt_lt).mp q) | exact (Int32.lt_iff_toInt_lt).mp q) p e R s m args below meth c mc ms C H locs cells slots ls _ ws Q hl hs hw' hP hD hS k1 k2 hF
  · exact h2 ((fun z => q (by first | (rw [← i0] at z; exact (Int32.lt_iff_toInt_lt).mpr z) | exact (Int32.lt_iff_toInt_lt).mpr z))) p e R s m args below meth c mc ms C H locs cells slots ls _ ws Q hl hs hw' hP hD hS k1 k2 hF
theorem ev_if_ge {a : Int} {off : Int} {tgt : Nat} (hd : decode T.2.1 pc = .ok (.ifCond .ge off, 3)) (ht : (pc : Int) + off = (tgt : Int)) (h1 : 0 ≤ a → Ev g d T tgt il st σ b r σ') (h2 : ¬ (0 ≤ a) → Ev g d T (pc + 3) il st σ b r σ') : Ev g d T pc il (vI a :: st) σ b r σ' := by
  intro p e R s m args below meth c mc ms C H locs cells slots ls vst ws Q hl hs0 hw' hP hD hS k1 k2 hF
  obtain ⟨hx, hb, -, -, -⟩ := id C
  obtain ⟨w, vs, rfl, hw, hs⟩ := hs0.consI
  subst hw
  have i0 : (0 : Int32).toInt = 0 := rfl
  refine lv_if_ge hx hb hd ht (fun q => ?_) (fun q => ?_)
  · exact h1 (by first | (rw [← i0]; exact (Int32.le_iff_toInt_le).mp q) | exact (Int32.le_iff_toInt_le).mp q) p e R s m args below meth c mc ms C H locs cells slots ls _ ws Q hl hs hw' hP hD hS k1 k2 hF
  · exact h2 ((fun z => q (by first | (rw [← i0] at z; exact (Int32.le_iff_toInt_le).mpr z) | exact (Int32.le_iff_toInt_le).mpr z))) p e R s m args below meth c mc ms C H locs cells slots ls _ ws Q hl hs hw' hP hD hS k1 k2 hF
theorem ev_if_gt {a : Int} {off : Int} {tgt : Nat} (hd : decode T.2.1 pc = .ok (.ifCond .gt off, 3)) (ht : (pc : Int) + off = (tgt : Int)) (h1 : 0 < a → Ev g d T tgt il st σ b r σ') (h2 : ¬ (0 < a) → Ev g d T (pc + 3) il st σ b r σ') : Ev g d T pc il (vI a :: st) σ b r σ' := by
  intro p e R s m args below meth c mc ms C H locs cells slots ls vst ws Q hl hs0 hw' hP hD hS k1 k2 hF
  obtain ⟨hx, hb, -, -, -⟩ := id C
  obtain ⟨w, vs, rfl, hw, hs⟩ := hs0.consI
  subst hw
  have i0 : (0 : Int32).toInt = 0 := rfl
  refine lv_if_gt hx hb hd ht (fun q => ?_) (fun q => ?_)
  · exact h1 (by first | (rw [← i0]; exact (Int32.lt_iff_toInt_lt).mp q) | exact (Int32.lt_iff_toInt_lt).mp q) p e R s m args below meth c mc ms C H locs cells slots ls _ ws Q hl hs hw' hP hD hS k1 k2 hF
  · exact h2 ((fun z => q (by first | (rw [← i0] at z; exact (Int32.lt_iff_toInt_lt).mpr z) | exact (Int32.lt_iff_toInt_lt).mpr z))) p e R s m args below meth c mc ms C H locs cells slots ls _ ws Q hl hs hw' hP hD hS k1 k2 hF
theorem ev_if_le {a : Int} {off : Int} {tgt : Nat} (hd : decode T.2.1 pc = .ok (.ifCond .le off, 3)) (ht : (pc : Int) + off = (tgt : Int)) (h1 : a ≤ 0 → Ev g d T tgt il st σ b r σ') (h2 : ¬ (a ≤ 0) → Ev g d T (pc + 3) il st σ b r σ') : Ev g d T pc il (vI a :: st) σ b r σ' := by
  intro p e R s m args below meth c mc ms C H locs cells slots ls vst ws Q hl hs0 hw' hP hD hS k1 k2 hF
  obtain ⟨hx, hb, -, -, -⟩ := id C
  obtain ⟨w, vs, rfl, hw, hs⟩ := hs0.consI
  subst hw
  have i0 : (0 : Int32).toInt = 0 := rfl
  refine lv_if_le hx hb hd ht (fun q => ?_) (fun q => ?_)
  · exact h1 (by first | (rw [← i0]; exact (Int32.le_iff_toInt_le).mp q) | exact (Int32.le_iff_toInt_le).mp q) p e R s m args below meth c mc ms C H locs cells slots ls _ ws Q hl hs hw' hP hD hS k1 k2 hF
  · exact h2 ((fun z => q (by first | (rw [← i0] at z; exact (Int32.le_iff_toInt_le).mpr z) | exact (Int32.le_iff_toInt_le).mpr z))) p e R s m args below meth c mc ms C H locs cells slots ls _ ws Q hl hs hw' hP hD hS k1 k2 hF
theorem ev_icmp_eq {a c : Int} {off : Int} {tgt : Nat} (hd : decode T.2.1 pc = .ok (.if_icmp .eq off, 3)) (ht : (pc : Int) + off = (tgt : Int)) (h1 : a = c → Ev g d T tgt il st σ b r σ') (h2 : ¬ (a = c) → Ev g d T (pc + 3) il st σ b r σ') : Ev g d T pc il (vI c :: vI a :: st) σ b r σ' := by
  intro p e R s m args below meth cc mc ms C H locs cells slots ls vst ws Q hl hs0 hw' hP hD hS k1 k2 hF
  obtain ⟨hx, hb, -, -, -⟩ := id C
  obtain ⟨w2, vs1, rfl, hw2, hs1⟩ := hs0.consI
  obtain ⟨w1, vs, rfl, hw1, hs⟩ := hs1.consI
  subst hw1; subst hw2
  refine lv_icmp_eq hx hb hd ht (fun q => ?_) (fun q => ?_)
  · exact h1 (Int32.toInt_inj.symm.mp q) p e R s m args below meth cc mc ms C H locs cells slots ls _ ws Q hl hs hw' hP hD hS k1 k2 hF
  · exact h2 ((fun z => q (Int32.toInt_inj.symm.mpr z))) p e R s m args below meth cc mc ms C H locs cells slots ls _ ws Q hl hs hw' hP hD hS k1 k2 hF
theorem ev_icmp_ne {a c : Int} {off : Int} {tgt : Nat} (hd : decode T.2.1 pc = .ok (.if_icmp .ne off, 3)) (ht : (pc : Int) + off = (tgt : Int)) (h1 : a ≠ c → Ev g d T tgt il st σ b r σ') (h2 : ¬ (a ≠ c) → Ev g d T (pc + 3) il st σ b r σ') : Ev g d T pc il (vI c :: vI a :: st) σ b r σ' := by
  intro p e R s m args below meth cc mc ms C H locs cells slots ls vst ws Q hl hs0 hw' hP hD hS k1 k2 hF
  obtain ⟨hx, hb, -, -, -⟩ := id C
  obtain ⟨w2, vs1, rfl, hw2, hs1⟩ := hs0.consI
  obtain ⟨w1, vs, rfl, hw1, hs⟩ := hs1.consI
  subst hw1; subst hw2
  refine lv_icmp_ne hx hb hd ht (fun q => ?_) (fun q => ?_)
  · exact h1 ((not_congr Int32.toInt_inj.symm).mp q) p e R s m args below meth cc mc ms C H locs cells slots ls _ ws Q hl hs hw' hP hD hS k1 k2 hF
  · exact h2 ((fun z => z (Int32.toInt_inj.mpr q))) p e R s m args below meth cc mc ms C H locs cells slots ls _ ws Q hl hs hw' hP hD hS k1 k2 hF
theorem ev_icmp_lt {a c : Int} {off : Int} {tgt : Nat} (hd : decode T.2.1 pc = .ok (.if_icmp .lt off, 3)) (ht : (pc : Int) + off = (tgt : Int)) (h1 : a < c → Ev g d T tgt il st σ b r σ') (h2 : ¬ (a < c) → Ev g d T (pc + 3) il st σ b r σ') : Ev g d T pc il (vI c :: vI a :: st) σ b r σ' := by
  intro p e R s m args below meth cc mc ms C H locs cells slots ls vst ws Q hl hs0 hw' hP hD hS k1 k2 hF
  obtain ⟨hx, hb, -, -, -⟩ := id C
  obtain ⟨w2, vs1, rfl, hw2, hs1⟩ := hs0.consI
  obtain ⟨w1, vs, rfl, hw1, hs⟩ := hs1.consI
  subst hw1; subst hw2
  refine lv_icmp_lt hx hb hd ht (fun q => ?_) (fun q => ?_)
  · exact h1 ((Int32.lt_iff_toInt_lt).mp q) p e R s m args below meth cc mc ms C H locs cells slots ls _ ws Q hl hs hw' hP hD hS k1 k2 hF
  · exact h2 ((fun z => q ((Int32.lt_iff_toInt_lt).mpr z))) p e R s m args below meth cc mc ms C H locs cells slots ls _ ws Q hl hs hw' hP hD hS k1 k2 hF
theorem ev_icmp_ge {a c : Int} {off : Int} {tgt : Nat} (hd : decode T.2.1 pc = .ok (.if_icmp .ge off, 3)) (ht : (pc : Int) + off = (tgt : Int)) (h1 : c ≤ a → Ev g d T tgt il st σ b r σ') (h2 : ¬ (c ≤ a) → Ev g d T (pc + 3) il st σ b r σ') : Ev g d T pc il (vI c :: vI a :: st) σ b r σ' := by
  intro p e R s m args below meth cc mc ms C H locs cells slots ls vst ws Q hl hs0 hw' hP hD hS k1 k2 hF
  obtain ⟨hx, hb, -, -, -⟩ := id C
  obtain ⟨w2, vs1, rfl, hw2, hs1⟩ := hs0.consI
  obtain ⟨w1, vs, rfl, hw1, hs⟩ := hs1.consI
  subst hw1; subst hw2
  refine lv_icmp_ge hx hb hd ht (fun q => ?_) (fun q => ?_)
  · exact h1 ((Int32.le_iff_toInt_le).mp q) p e R s m args below meth cc mc ms C H locs cells slots ls _ ws Q hl hs hw' hP hD hS k1 k2 hF
  · exact h2 ((fun z => q ((Int32.le_iff_toInt_le).mpr z))) p e R s m args below meth cc mc ms C H locs cells slots ls _ ws Q hl hs hw' hP hD hS k1 k2 hF
theorem ev_icmp_gt {a c : Int} {off : Int} {tgt : Nat} (hd : decode T.2.1 pc = .ok (.if_icmp .gt off, 3)) (ht : (pc : Int) + off = (tgt : Int)) (h1 : c < a → Ev g d T tgt il st σ b r σ') (h2 : ¬ (c < a) → Ev g d T (pc + 3) il st σ b r σ') : Ev g d T pc il (vI c :: vI a :: st) σ b r σ' := by
  intro p e R s m args below meth cc mc ms C H locs cells slots ls vst ws Q hl hs0 hw' hP hD hS k1 k2 hF
  obtain ⟨hx, hb, -, -, -⟩ := id C
  obtain ⟨w2, vs1, rfl, hw2, hs1⟩ := hs0.consI
  obtain ⟨w1, vs, rfl, hw1, hs⟩ := hs1.consI
  subst hw1; subst hw2
  refine lv_icmp_gt hx hb hd ht (fun q => ?_) (fun q => ?_)
  · exact h1 ((Int32.lt_iff_toInt_lt).mp q) p e R s m args below meth cc mc ms C H locs cells slots ls _ ws Q hl hs hw' hP hD hS k1 k2 hF
  · exact h2 ((fun z => q ((Int32.lt_iff_toInt_lt).mpr z))) p e R s m args below meth cc mc ms C H locs cells slots ls _ ws Q hl hs hw' hP hD hS k1 k2 hF
theorem ev_icmp_le {a c : Int} {off : Int} {tgt : Nat} (hd : decode T.2.1 pc = .ok (.if_icmp .le off, 3)) (ht : (pc : Int) + off = (tgt : Int)) (h1 : a ≤ c → Ev g d T tgt il st σ b r σ') (h2 : ¬ (a ≤ c) → Ev g d T (pc + 3) il st σ b r σ') : Ev g d T pc il (vI c :: vI a :: st) σ b r σ' := by
  intro p e R s m args below meth cc mc ms C H locs cells slots ls vst ws Q hl hs0 hw' hP hD hS k1 k2 hF
  obtain ⟨hx, hb, -, -, -⟩ := id C
  obtain ⟨w2, vs1, rfl, hw2, hs1⟩ := hs0.consI
  obtain ⟨w1, vs, rfl, hw1, hs⟩ := hs1.consI
  subst hw1; subst hw2
  refine lv_icmp_le hx hb hd ht (fun q => ?_) (fun q => ?_)
  · exact h1 ((Int32.le_iff_toInt_le).mp q) p e R s m args below meth cc mc ms C H locs cells slots ls _ ws Q hl hs hw' hP hD hS k1 k2 hF
  · exact h2 ((fun z => q ((Int32.le_iff_toInt_le).mpr z))) p e R s m args below meth cc mc ms C H locs cells slots ls _ ws Q hl hs hw' hP hD hS k1 k2 hF
theorem ev_tswIn {dflt lo hi : Int} {offs : Array Int} {len : Nat} {a off : Int} {tgt : Nat} (hd : decode T.2.1 pc = .ok (.tableswitch dflt lo hi offs, len)) (h1 : lo ≤ a) (h2 : a ≤ hi) (ho : offs[(a - lo).toNat]? = some off) (ht : (pc : Int) + off = (tgt : Int)) (h : Ev g d T tgt il st σ b r σ') : Ev g d T pc il (vI a :: st) σ b r σ' := by
  refine Ev.go h ?_
  intro p e R s m args below meth c mc ms C H locs cells slots ls vst ws Q hl hs0 k
  obtain ⟨hx, hb, -, -, -⟩ := C
  obtain ⟨w1, vs, rfl, hw1, hs⟩ := hs0.consI
  subst hw1
  exact lv_tableIn hx hb hd (by omega) (by omega) ho ht (k ls _ hl hs)
theorem ev_tswOut {dflt lo hi : Int} {offs : Array Int} {len : Nat} {a : Int} {tgt : Nat} (hd : decode T.2.1 pc = .ok (.tableswitch dflt lo hi offs, len)) (h1 : a < lo ∨ hi < a) (ht : (pc : Int) + dflt = (tgt : Int)) (h : Ev g d T tgt il st σ b r σ') : Ev g d T pc il (vI a :: st) σ b r σ' := by
  refine Ev.go h ?_
  intro p e R s m args below meth c mc ms C H locs cells slots ls vst ws Q hl hs0 k
  obtain ⟨hx, hb, -, -, -⟩ := C
  obtain ⟨w1, vs, rfl, hw1, hs⟩ := hs0.consI
  subst hw1
  exact lv_tableOut hx hb hd h1 ht (k ls _ hl hs)
theorem ev_lsw {dflt : Int} {ps : Array (Int × Int)} {len : Nat} {a off : Int} {tgt : Nat} (hd : decode T.2.1 pc = .ok (.lookupswitch dflt ps, len)) (hp : (ps.toList.zip (ps.toList.drop 1)).all (fun (a, next) => a.1 < next.1) = true) (ho : Op.lookupswitch.offset ps.toList dflt a = off) (ht : (pc : Int) + off = (tgt : Int)) (h : Ev g d T tgt il st σ b r σ') : Ev g d T pc il (vI a :: st) σ b r σ' := by
  refine Ev.go h ?_
  intro p e R s m args below meth c mc ms C H locs cells slots ls vst ws Q hl hs0 k
  obtain ⟨hx, hb, -, -, -⟩ := C
  obtain ⟨w1, vs, rfl, hw1, hs⟩ := hs0.consI
  subst hw1
  exact lv_lookup hx hb hd hp ho ht (k ls _ hl hs)
end EvI
