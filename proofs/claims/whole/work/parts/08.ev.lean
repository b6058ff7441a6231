/-! ===== what is static, a method's surroundings, and its run ===== -/
def strT0 : String := "takes hauls wears flows falls step ship hour flood raise mend bind sill water fish on to by high worn weight other above below or and not "
def strT1 : String := "<>=#+-*/(),;"
def strL0 : List Int := [116, 97, 107, 101, 115, 32, 104, 97, 117, 108, 115, 32, 119, 101, 97, 114, 115, 32, 102, 108, 111, 119, 115, 32, 102, 97, 108, 108, 115, 32, 115, 116, 101, 112, 32, 115, 104, 105, 112, 32, 104, 111, 117, 114, 32, 102, 108, 111, 111, 100, 32, 114, 97, 105, 115, 101, 32, 109, 101, 110, 100, 32, 98, 105, 110, 100, 32, 115, 105, 108, 108, 32, 119, 97, 116, 101, 114, 32, 102, 105, 115, 104, 32, 111, 110, 32, 116, 111, 32, 98, 121, 32, 104, 105, 103, 104, 32, 119, 111, 114, 110, 32, 119, 101, 105, 103, 104, 116, 32, 111, 116, 104, 101, 114, 32, 97, 98, 111, 118, 101, 32, 98, 101, 108, 111, 119, 32, 111, 114, 32, 97, 110, 100, 32, 110, 111, 116, 32]
def strL1 : List Int := [60, 62, 61, 35, 43, 45, 42, 47, 40, 41, 44, 59]
/-- which array classes stand over which: it moves with the machine -/
def AO3 (U : State) : Prop := va_AO "SeaWithStairs$Sea" U ∧ va_AO "SeaWithStairs$Text" U ∧ (Cond.arrayOver (.array .int)).before #[] U = true
theorem AO3.moved {s U : State} (hv : s.vm.Alike U.vm) (h : AO3 s) : AO3 U := ⟨va_AO.moved hv h.1, va_AO.moved hv h.2.1, Stand.arrayOver_alikeB hv h.2.2⟩
def StrOK (g : Gm) (U : State) : Prop := vk_S 2 [138, 12] [strL0.map Int32.ofInt, strL1.map Int32.ofInt] (fun i => g.2.2.2.2 (4 + i)) (fun i => g.2.2.2.2 (6 + i)) g.2.2.2.1 U U.heap ∧ vk_R RX4 162 strT0 (g.2.2.2.2 4) U ∧ vk_R RX4 151 strT1 (g.2.2.2.2 5) U ∧ va_Z "java/lang/String" "COMPACT_STRINGS" "Z" (.int 1) g.2.2.2.1 U U.heap ∧ va_Zq "jdk/internal/util/Preconditions" "SIOOBE_FORMATTER" "Ljava/util/function/BiFunction;" g.2.2.2.1 U U.heap ∧ (va_X (g.2.2.2.2 8) (g.2.2.2.2 9) (fun j => Int32.ofNat (g.2.2.2.2 (10 + j))) U U.heap ∧ g.2.2.2.2 8 < U.heap.size ∧ ¬ g.2.2.2.1 (g.2.2.2.2 8) ∧ g.2.2.2.2 9 ≤ 3072 ∧ AO3 U)
/-- the script's length and ints -/
def scL (g : Gm) : Int := (g.2.2.2.2 9 : Nat)
def scX (g : Gm) (i : Int) : Int := (Int32.ofNat (g.2.2.2.2 (10 + i.toNat))).toInt
def Sta (g : Gm) (U : State) : Prop := (∀ (i : Nat) (q : String × String × Nat × List Int), sArr[i]? = some q → va_Z q.1 q.2.1 "[I" (.ref (g.2.2.2.2 i)) g.2.2.2.1 U U.heap ∧ va_X (g.2.2.2.2 i) q.2.2.1 (fun j => Int32.ofInt (q.2.2.2.getD j 0)) U U.heap ∧ g.2.2.2.2 i < U.heap.size ∧ ¬ g.2.2.2.1 (g.2.2.2.2 i)) ∧ StrOK g U
theorem Sta.go {g : Gm} {s U : State} (hv0 : U.vm = s.vm ∨ s.WarmedH U.vm) (hz : s.heap.size ≤ U.heap.size) (hq : ∀ q : Nat, q < s.heap.size → ¬ g.2.2.2.1 q → U.heap[q]? = s.heap[q]?) (h : Sta g s) : Sta g U := by
  have hv : s.vm.Alike U.vm := by
    rcases hv0 with e | e
    · rw [e]; exact Vm.Alike.refl _
    · exact e.alike
  have hR : ∀ (k : Nat) (tx : String) (a : Nat), vk_R RX4 k tx a s → vk_R RX4 k tx a U := fun k tx a h => by
    rcases hv0 with e | e
    · exact vk_R.same e h
    · exact vk_R.warm e h
  refine ⟨fun i q hi => ?_, ?_⟩
  · obtain ⟨h1, h2, h3, h4⟩ := h.1 i q hi
    exact ⟨(va_Z.kept h1 hq).moved hv, (va_X.kept h2 (hq _ h3 h4)).moved hv, Nat.lt_of_lt_of_le h3 hz, h4⟩
  · obtain ⟨h1, h2, h3, h4, h5, h6, h7, h8⟩ := h.2
    exact ⟨(vk_S.kept h1 hq).moved hv, hR _ _ _ h2, hR _ _ _ h3, (va_Z.kept h4 hq).moved hv, (va_Zq.kept h5 hq).moved hv, (va_X.kept h6 (hq _ h7 h8.1)).moved hv, Nat.lt_of_lt_of_le h7 hz, h8.1, h8.2.1, h8.2.2.moved hv⟩
theorem Sta.ao {g : Gm} {s : State} (h : Sta g s) : AO3 s := h.2.2.2.2.2.2.2.2.2.2
def Ctx (g : Gm) (d : Nat) (T : Mt) (p : Program) (R : Room) (s : State) (m : MethodId) (args : Array Value) (meth : Method) (c : Code) (mc ms : Nat) : Prop :=
  p.tables.exec = Jvm.exec ∧ c.code = T.2.1 ∧ meth.sig.returnType = T.2.2.2 ∧ c.maxLocals = T.2.2.1 ∧ s.vm.findClass T.1.cls = some m.cls ∧ meth.locks = false ∧ meth.name = T.1.name ∧ (∀ w ∈ mWords T, w.before args s = true) ∧ (∀ w ∈ lw_nest, va_Nw w s) ∧ va_K g.2.1 vwCl g.2.2.1 s ∧ Sta g s ∧ tysOK g ∧ (∀ q : Nat, s.heap.size ≤ q → g.2.2.2.1 q) ∧ d ≤ R.frames ∧ 40 * d ≤ R.locals ∧ mc ≤ R.cells ∧ ms ≤ R.slots
def RetAt (g : Gm) (ws : va_W) (T : Mt) (r : Vv) (pc : Nat) (vst : List Value) : Prop :=
  (r.1 = 9 ∧ decode T.2.1 pc = .ok (.return_, 1) ∧ vst = [] ∧ T.2.2.2 = none)
  ∨ (r.1 = 0 ∧ decode T.2.1 pc = .ok (.ireturn, 1) ∧ ∃ (w : Int32) (ty : FieldType), vst = [.int w] ∧ w.toInt = r.2 ∧ T.2.2.2 = some ty ∧ narrow ty (.int w) = .int w)
  ∨ (r.1 = 1 ∧ decode T.2.1 pc = .ok (.lreturn, 1) ∧ ∃ w : Int64, vst = [.long w] ∧ w.toInt = r.2 ∧ T.2.2.2 = some .long)
def Fin1 (g : Gm) (T : Mt) (p : Program) (e : Env) (R : Room) (s : State) (m : MethodId) (args : Array Value) (below : List Frame) (meth : Method) (c : Code) (mc ms : Nat) (ws : va_W) (r : Vv) (σ' : Sg) (Q : State → Prop) : Prop :=
  ∀ (H' : Heap) (locs' : List Loc) (cells' slots' : Nat) (ls' : Array Slot) (vst' : List Value) (ws' : va_W) (pc' : Nat), RetAt g ws' T r pc' vst' → wExt ws ws' → WOK g ws' σ' → va_P g.2.1 vwCl ws' H' → va_D g.2.2.2.1 ws' → va_S g.2.2.2.1 s.heap H' locs' → cells' ≤ mc → slots' ≤ ms →
    W p g.1 e R s m args below meth c H' locs' cells' slots' Q (F0 m pc' ls' vst')
theorem Fin1.ext {g : Gm} {T : Mt} {p : Program} {e : Env} {R : Room} {s : State} {m : MethodId} {args : Array Value} {below : List Frame} {meth : Method} {c : Code} {mc ms : Nat} {ws ws1 : va_W} {r : Vv} {σ' : Sg} {Q : State → Prop} (hx : wExt ws ws1) (h : Fin1 g T p e R s m args below meth c mc ms ws r σ' Q) : Fin1 g T p e R s m args below meth c mc ms ws1 r σ' Q :=
  fun H' locs' cells' slots' ls' vst' ws' pc' h1 h2 => h H' locs' cells' slots' ls' vst' ws' pc' h1 (hx.tr h2)
/-- from pc, with these locals, this stack and this store, the method comes to its end with r and the store σ' -/
def Ev (g : Gm) (d : Nat) (T : Mt) (pc : Nat) (il : List (Nat × Vv)) (st : List Vv) (σ : Sg) (b : Nat × Nat) (r : Vv) (σ' : Sg) : Prop :=
  ∀ (p : Program) (e : Env) (R : Room) (s : State) (m : MethodId) (args : Array Value) (below : List Frame) (meth : Method) (c : Code) (mc ms : Nat), Ctx g d T p R s m args meth c mc ms →
  ∀ (H : Heap) (locs : List Loc) (cells slots : Nat) (ls : Array Slot) (vst : List Value) (ws : va_W) (Q : State → Prop),
    LRel g ws T.2.2.1 il ls → SRel g ws st vst → WOK g ws σ → va_P g.2.1 vwCl ws H → va_D g.2.2.2.1 ws → va_S g.2.2.2.1 s.heap H locs → cells + b.1 ≤ mc → slots + b.2 ≤ ms →
    Fin1 g T p e R s m args below meth c mc ms ws r σ' Q → W p g.1 e R s m args below meth c H locs cells slots Q (F0 m pc ls vst)
/-! a method as its callers see it -/
def rmOf (d : Nat) (b : Nat × Nat) : Room := { frames := d, cells := b.1, slots := b.2, locals := 40 * d }
def PreM (g : Gm) (ws : va_W) (U : State) : Prop := va_P g.2.1 vwCl ws U.heap ∧ va_K g.2.1 vwCl g.2.2.1 U ∧ va_D g.2.2.2.1 ws ∧ Sta g U ∧ (∀ w ∈ lw_nest, va_Nw w U) ∧ (∀ q : Nat, U.heap.size ≤ q → g.2.2.2.1 q) ∧ tysOK g
def Ret1 (g : Gm) (ws : va_W) (r : Vv) (ov : Option Value) : Prop := (r.1 = 9 ∧ ov = none) ∨ (r.1 < 9 ∧ ∃ v, ov = some v ∧ Rp g ws r v)
def EvQ (g : Gm) (ws : va_W) (r : Vv) (σ' : Sg) : Array Value → State → Outcome → State → Prop := fun _ st oc t => ∃ (ov : Option Value) (ws' : va_W), oc = .returned ov ∧ Ret1 g ws' r ov ∧ wExt ws ws' ∧ WOK g ws' σ' ∧ va_P g.2.1 vwCl ws' t.heap ∧ va_D g.2.2.2.1 ws' ∧ va_F g.2.2.2.1 st t
def EvM (g : Gm) (d : Nat) (T : Mt) (as : List Vv) (σ : Sg) (b : Nat × Nat) (r : Vv) (σ' : Sg) : Prop :=
  ∀ (ws : va_W) (avs : List Value), SRel g ws as avs → WOK g ws σ → Met g.1 T.1 (mWords T) (rmOf d b) (va_Pc avs (PreM g ws)) (EvQ g ws r σ') b.1 b.2 g.2.2.2.1
def ilOf : Nat → List Vv → List (Nat × Vv)
  | _, [] => []
  | i, q :: qs => (i, q) :: ilOf (if q.1 = 1 then i + 2 else i + 1) qs
theorem ilOf_rel {g : Gm} {ws : va_W} : ∀ {as : List Vv} {avs : List Value} (i : Nat), SRel g ws as avs → ∀ q ∈ ilOf i as, ∃ v, (q.1, v) ∈ lv_args i avs ∧ Rp g ws q.2 v
  | [], [], _, _, q, hq => by cases hq
  | [], _ :: _, _, h, _, _ => h.elim
  | _ :: _, [], _, h, _, _ => h.elim
  | a :: as, v :: avs, i, h, q, hq => by
    rcases List.mem_cons.mp hq with rfl | hq
    · exact ⟨v, List.mem_cons_self, h.1⟩
    · have hc := Rp.cat h.1
      have hcat : (if v.category = 2 then i + 2 else i + 1) = (if a.1 = 1 then i + 2 else i + 1) := by
        rw [hc]
        unfold vCat
        by_cases h1 : a.1 = 1
        · rw [if_pos h1, if_pos h1, if_pos rfl]
        · rw [if_neg h1, if_neg h1, if_neg (by decide)]
      obtain ⟨v', h1, h2⟩ := ilOf_rel _ h.2 q hq
      refine ⟨v', ?_, h2⟩
      show (q.1, v') ∈ (i, v) :: lv_args _ avs
      rw [hcat]
      exact List.mem_cons_of_mem _ h1
theorem lg_len (vs : List Value) : (lg_sl vs).length = (vs.map fun v => v.category).sum := by
  induction vs with
  | nil => rfl
  | cons v vs ih =>
    have h : lg_sl (v :: vs) = (if v.category = 2 then [.val v, .second] else [.val v]) ++ lg_sl vs := rfl
    rw [h, List.length_append, ih, List.map_cons, List.sum_cons]
    rcases lv_cat v with h1 | h1
    · rw [if_neg (by omega), h1]; rfl
    · rw [if_pos h1, h1]; rfl
theorem EvM.of {g : Gm} {d : Nat} {T : Mt} {as : List Vv} {σ σ' : Sg} {b : Nat × Nat} {r : Vv} (hy : plainName T.1.cls = true) (hn : sCat as ≤ T.2.2.1) (h : Ev g d T 0 (ilOf 0 as) [] σ b r σ') : EvM g d T as σ b r σ' := by
  intro ws avs hs hw
  refine Met.ofW (ws' := lw_good) (cc := T.2.1) (maxL := T.2.2.1) (ret := T.2.2.2) hy rfl ?_
  intro p e s m args below meth c s₁ B hml hv
  obtain ⟨rfl, hP, hK, hD, hSt, hNw, hA, hty⟩ := hv
  have hts := atoms_spec (ws := mWords T) B.pre
  have hown : s.vm.findClass T.1.cls = some m.cls := findClass_of_methodNamed B.named
  have hin : meth.name = T.1.name := (name_of_methodNamed B.named B.method).1
  have hlen : (lg_sl avs).length ≤ T.2.2.1 := by
    rw [lg_len, SRel.cat hs]
    exact hn
  have hl := lv_entry avs (n := T.2.2.1) hlen
  rw [lg_entry_eq]
  generalize ((lg_sl avs) ++ List.replicate (T.2.2.1 - (lg_sl avs).length) Slot.unset).toArray = ls at hl ⊢
  have hC : Ctx g d T p (rmOf d b) s m avs.toArray meth c b.1 b.2 := ⟨B.exec, B.bytes, B.returns, hml, hown, B.notSynchronized, hin, hts, hNw, hK, hSt, hty, hA, Nat.le_refl _, Nat.le_refl _, Nat.le_refl _, Nat.le_refl _⟩
  refine h p e (rmOf d b) s m avs.toArray below meth c b.1 b.2 hC s.heap [] 0 0 ls [] ws _ ⟨hl.1, hl.2.1, fun q hq => ?_⟩ trivial hw hP hD va_S.rf (by omega) (by omega) ?_
  · obtain ⟨v, h1, h2⟩ := ilOf_rel 0 hs q hq
    exact ⟨v, hl.2.2 _ h1, h2⟩
  · intro H' locs' cells' slots' ls' vst' ws' pc' hR hx hw' hP' hD' hS' hc' hs'
    refine W.widen hc' hs' ?_
    have hq : ∀ (ov : Option Value) (t : State), Ret1 g ws' r ov → t.heap = H' → EvQ g ws r σ' avs.toArray s (.returned ov) t := fun ov t h1 ht => ⟨ov, ws', rfl, h1, hx, hw', by rw [ht]; exact hP', hD', hS'.F ht⟩
    rcases hR with ⟨h9, hdg, rfl, hr⟩ | ⟨h0, hdg, w, ty, rfl, hw0, hr, hnar⟩ | ⟨h1, hdg, w, rfl, hw0, hr⟩
    · exact W.vret B.exec B.bytes (by rw [B.returns]; exact hr) (fun t ht _ => hq none t (Or.inl ⟨h9, rfl⟩) ht) hS'.2.2 hdg B.notSynchronized
    · exact W.zret B.exec B.bytes (by rw [B.returns]; exact hr) hnar (fun t ht _ => hq _ t (Or.inr ⟨by omega, _, rfl, by unfold Rp; rw [h0]; exact ⟨w, rfl, hw0⟩⟩) ht) hS'.2.2 hdg B.notSynchronized
    · exact W.lret B.exec B.bytes (by rw [B.returns]; exact hr) (fun t ht _ => hq _ t (Or.inr ⟨by omega, _, rfl, by unfold Rp; rw [h1]; exact ⟨w, rfl, hw0⟩⟩) ht) hS'.2.2 hdg B.notSynchronized
