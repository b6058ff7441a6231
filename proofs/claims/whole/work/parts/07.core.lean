/-! the world and the store -/
def wRef (ws : va_W) (x : Int) (v : Value) : Prop := (x = 0 ∧ v = .null) ∨ ∃ (k : Nat) (a : Nat) (e : va_E), x = (k : Int) + 1 ∧ ws[k]? = some (a, e) ∧ v = .ref a
def Rp (g : Gm) (ws : va_W) (q : Vv) (v : Value) : Prop := match q.1 with
  | 0 => ∃ w : Int32, v = .int w ∧ w.toInt = q.2
  | 1 => ∃ w : Int64, v = .long w ∧ w.toInt = q.2
  | 2 => wRef ws q.2 v
  | 4 => v = .ref (g.2.2.2.2 q.2.toNat)
  | _ => v.category = 1
def SRel (g : Gm) (ws : va_W) : List Vv → List Value → Prop
  | [], [] => True
  | q :: l, v :: l' => Rp g ws q v ∧ SRel g ws l l'
  | _, _ => False
def LRel (g : Gm) (ws : va_W) (n : Nat) (il : List (Nat × Vv)) (ls : Array Slot) : Prop := ls.size = n ∧ lv_wf ls ∧ ∀ q ∈ il, ∃ v, ls[q.1]? = some (.val v) ∧ Rp g ws q.2 v
def wExt (ws ws' : va_W) : Prop := ∀ (k : Nat) (a : Nat) (e : va_E), ws[k]? = some (a, e) → ∃ e' : va_E, ws'[k]? = some (a, e')
theorem wExt.rf {ws : va_W} : wExt ws ws := fun _ _ e h => ⟨e, h⟩
theorem wExt.tr {a b c : va_W} (h1 : wExt a b) (h2 : wExt b c) : wExt a c := fun k x e h => by
  obtain ⟨e1, q1⟩ := h1 k x e h
  exact h2 k x e1 q1
theorem wExt.set {ws : va_W} {k a : Nat} {e0 e : va_E} (h : ws[k]? = some (a, e0)) : wExt ws (ws.set k (a, e)) := fun j x y hj => by
  by_cases hk : j = k
  · subst hk
    rw [h] at hj
    cases hj
    exact ⟨e, List.getElem?_set_self (List.getElem?_eq_some_iff.mp h).1⟩
  · exact ⟨y, by rw [List.getElem?_set_ne (Ne.symm hk)]; exact hj⟩
theorem wExt.push {ws : va_W} {q : Nat × va_E} : wExt ws (ws ++ [q]) := fun k x e h => ⟨e, by rw [List.getElem?_append_left (List.getElem?_eq_some_iff.mp h).1]; exact h⟩
theorem wRef.ext {ws ws' : va_W} (h : wExt ws ws') {x : Int} {v : Value} (q : wRef ws x v) : wRef ws' x v := by
  rcases q with q | ⟨k, a, e, h1, h2, h3⟩
  · exact Or.inl q
  · obtain ⟨e', h4⟩ := h k a e h2
    exact Or.inr ⟨k, a, e', h1, h4, h3⟩
theorem Rp.ext {g : Gm} {ws ws' : va_W} (h : wExt ws ws') {q : Vv} {v : Value} (r : Rp g ws q v) : Rp g ws' q v := by
  unfold Rp at r ⊢
  split at r
  · exact r
  · exact r
  · exact wRef.ext h r
  · exact r
  · exact r
theorem SRel.ext {g : Gm} {ws ws' : va_W} (h : wExt ws ws') : ∀ {l : List Vv} {l' : List Value}, SRel g ws l l' → SRel g ws' l l'
  | [], [], _ => trivial
  | [], _ :: _, r => r.elim
  | _ :: _, [], r => r.elim
  | _ :: _, _ :: _, r => ⟨Rp.ext h r.1, SRel.ext h r.2⟩
theorem LRel.ext {g : Gm} {ws ws' : va_W} (h : wExt ws ws') {n : Nat} {il : List (Nat × Vv)} {ls : Array Slot} (r : LRel g ws n il ls) : LRel g ws' n il ls :=
  ⟨r.1, r.2.1, fun q hq => by
    obtain ⟨v, h1, h2⟩ := r.2.2 q hq
    exact ⟨v, h1, Rp.ext h h2⟩⟩
theorem SRel.cons {g : Gm} {ws : va_W} {q : Vv} {l : List Vv} {vs : List Value} (h : SRel g ws (q :: l) vs) : ∃ v vs', vs = v :: vs' ∧ Rp g ws q v ∧ SRel g ws l vs' := by
  cases vs with
  | nil => exact h.elim
  | cons v vs' => exact ⟨v, vs', rfl, h.1, h.2⟩
theorem SRel.nil {g : Gm} {ws : va_W} {vs : List Value} (h : SRel g ws [] vs) : vs = [] := by
  cases vs with
  | nil => rfl
  | cons v vs' => exact h.elim
theorem SRel.consI {g : Gm} {ws : va_W} {x : Int} {l : List Vv} {vs : List Value} (h : SRel g ws (vI x :: l) vs) : ∃ (w : Int32) (vs' : List Value), vs = .int w :: vs' ∧ w.toInt = x ∧ SRel g ws l vs' := by
  obtain ⟨v, vs', rfl, ⟨w, rfl, hw⟩, h2⟩ := h.cons
  exact ⟨w, vs', rfl, hw, h2⟩
theorem SRel.consL {g : Gm} {ws : va_W} {x : Int} {l : List Vv} {vs : List Value} (h : SRel g ws (vL x :: l) vs) : ∃ (w : Int64) (vs' : List Value), vs = .long w :: vs' ∧ w.toInt = x ∧ SRel g ws l vs' := by
  obtain ⟨v, vs', rfl, ⟨w, rfl, hw⟩, h2⟩ := h.cons
  exact ⟨w, vs', rfl, hw, h2⟩
theorem SRel.consR {g : Gm} {ws : va_W} {x : Int} {l : List Vv} {vs : List Value} (h : SRel g ws (vR x :: l) vs) : ∃ (v : Value) (vs' : List Value), vs = v :: vs' ∧ wRef ws x v ∧ SRel g ws l vs' := by
  obtain ⟨v, vs', rfl, h1, h2⟩ := h.cons
  exact ⟨v, vs', rfl, h1, h2⟩
theorem SRel.consS {g : Gm} {ws : va_W} {x : Int} {l : List Vv} {vs : List Value} (h : SRel g ws (vS x :: l) vs) : ∃ (vs' : List Value), vs = .ref (g.2.2.2.2 x.toNat) :: vs' ∧ SRel g ws l vs' := by
  obtain ⟨v, vs', rfl, h1, h2⟩ := h.cons
  have h1 : v = .ref (g.2.2.2.2 x.toNat) := h1
  exact ⟨vs', by rw [h1], h2⟩
theorem SRel.app {g : Gm} {ws : va_W} : ∀ {l1 l2 : List Vv} {vs : List Value}, SRel g ws (l1 ++ l2) vs → ∃ v1 v2, vs = v1 ++ v2 ∧ SRel g ws l1 v1 ∧ SRel g ws l2 v2
  | [], l2, vs, h => ⟨[], vs, rfl, trivial, h⟩
  | q :: l1, l2, [], h => h.elim
  | q :: l1, l2, v :: vs, h => by
    obtain ⟨v1, v2, rfl, h1, h2⟩ := SRel.app (l1 := l1) h.2
    exact ⟨v :: v1, v2, rfl, ⟨h.1, h1⟩, h2⟩
theorem SRel.join {g : Gm} {ws : va_W} : ∀ {l1 l2 : List Vv} {v1 v2 : List Value}, SRel g ws l1 v1 → SRel g ws l2 v2 → SRel g ws (l1 ++ l2) (v1 ++ v2)
  | [], l2, [], v2, _, h => h
  | [], _, _ :: _, _, h, _ => h.elim
  | _ :: _, _, [], _, h, _ => h.elim
  | q :: l1, l2, v :: v1, v2, h, h2 => ⟨h.1, SRel.join h.2 h2⟩
theorem SRel.rev {g : Gm} {ws : va_W} : ∀ {l : List Vv} {vs : List Value}, SRel g ws l vs → SRel g ws l.reverse vs.reverse
  | [], [], _ => trivial
  | [], _ :: _, h => h.elim
  | _ :: _, [], h => h.elim
  | q :: l, v :: vs, h => by
    rw [List.reverse_cons, List.reverse_cons]
    exact SRel.join (SRel.rev h.2) ⟨h.1, trivial⟩
theorem SRel.len {g : Gm} {ws : va_W} : ∀ {l : List Vv} {vs : List Value}, SRel g ws l vs → vs.length = l.length
  | [], [], _ => rfl
  | [], _ :: _, h => h.elim
  | _ :: _, [], h => h.elim
  | q :: l, v :: vs, h => by
    rw [List.length_cons, List.length_cons, SRel.len h.2]
def vCat (q : Vv) : Nat := if q.1 = 1 then 2 else 1
theorem Rp.cat {g : Gm} {ws : va_W} {q : Vv} {v : Value} (h : Rp g ws q v) : v.category = vCat q := by
  obtain ⟨t, x⟩ := q
  unfold Rp at h
  unfold vCat
  split at h
  · rename_i hq
    have : t = 0 := hq
    subst this
    obtain ⟨w, rfl, -⟩ := h
    rfl
  · rename_i hq
    have : t = 1 := hq
    subst this
    obtain ⟨w, rfl, -⟩ := h
    rfl
  · rename_i hq
    have : t = 2 := hq
    subst this
    rcases h with ⟨-, rfl⟩ | ⟨k, a, e, -, -, rfl⟩ <;> rfl
  · rename_i hq
    have : t = 4 := hq
    subst this
    rw [h]
    rfl
  · rename_i h0 h1 h2 h4
    rw [if_neg h1]
    exact h
def sCat (l : List Vv) : Nat := (l.map vCat).sum
theorem SRel.cat {g : Gm} {ws : va_W} : ∀ {l : List Vv} {vs : List Value}, SRel g ws l vs → (vs.map fun v => v.category).sum = sCat l
  | [], [], _ => rfl
  | [], _ :: _, h => h.elim
  | _ :: _, [], h => h.elim
  | q :: l, v :: vs, h => by
    have h1 := SRel.cat h.2
    have h2 := Rp.cat h.1
    unfold sCat at h1 ⊢
    rw [List.map_cons, List.map_cons, List.sum_cons, List.sum_cons, h1, h2]
/-- a cell as its kind and its numbers say -/
def CellOK (g : Gm) (ws : va_W) (kd : Kd) (rf m : Int → Int) (e : va_E) : Prop :=
  (kd.1 < 13 ∧ ∃ fs : List Value, e = .inr (kd.1, fs) ∧ fs.length = kd.2 ∧ ∀ j : Nat, j < kd.2 → ∃ v, fs[j]? = some v ∧ Rp g ws (fTag (clTy kd.1 j), if fTag (clTy kd.1 j) = 2 then rf j else m j) v)
  ∨ (20 ≤ kd.1 ∧ kd.1 < 23 ∧ ∃ (cA : ClassId) (f : Nat → Int32), g.2.2.1[kd.1 - 20]? = some (cA, aTy kd.1) ∧ e = .inl (cA, kd.2, .inl f) ∧ ∀ j : Nat, j < kd.2 → (f j).toInt = m j)
  ∨ (kd.1 = 23 ∧ ∃ (cA : ClassId) (f : Nat → Int64), g.2.2.1[3]? = some (cA, .long) ∧ e = .inl (cA, kd.2, .inr (.inl f)) ∧ ∀ j : Nat, j < kd.2 → (f j).toInt = m j)
  ∨ (24 ≤ kd.1 ∧ kd.1 < 27 ∧ ∃ (cA : ClassId) (f : Nat → Option Nat), g.2.2.1[kd.1 - 20]? = some (cA, aTy kd.1) ∧ e = .inl (cA, kd.2, .inr (.inr (.inr (.inr f)))) ∧ ∀ j : Nat, j < kd.2 → wRef ws (rf j) (va_rf (f j)))
theorem CellOK.ext {g : Gm} {ws ws' : va_W} (h : wExt ws ws') {kd : Kd} {rf m : Int → Int} {e : va_E} (q : CellOK g ws kd rf m e) : CellOK g ws' kd rf m e := by
  rcases q with ⟨h1, fs, h2, h3, h4⟩ | q | q | ⟨h0, h1, cA, f, h2, h3, h4⟩
  · exact Or.inl ⟨h1, fs, h2, h3, fun j hj => by
      obtain ⟨v, a, b⟩ := h4 j hj
      exact ⟨v, a, Rp.ext h b⟩⟩
  · exact Or.inr (Or.inl q)
  · exact Or.inr (Or.inr (Or.inl q))
  · exact Or.inr (Or.inr (Or.inr ⟨h0, h1, cA, f, h2, h3, fun j hj => wRef.ext h (h4 j hj)⟩))
def WOK (g : Gm) (ws : va_W) (σ : Sg) : Prop := ws.length = σ.1 ∧ ∀ (k a : Nat) (e : va_E), ws[k]? = some (a, e) → CellOK g ws (σ.2.1 ((k : Int) + 1)) (σ.2.2.1 ((k : Int) + 1)) (σ.2.2.2 ((k : Int) + 1)) e
def tysOK (g : Gm) : Prop := ∀ t : Nat, t < 7 → ∃ cA : ClassId, g.2.2.1[t]? = some (cA, aTy (t + 20))
