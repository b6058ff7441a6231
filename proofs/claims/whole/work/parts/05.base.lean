/-! ===== the machine's values and store as integers: a method's run over a whole store ===== -/
abbrev Vv : Type := Nat × Int
abbrev vI (x : Int) : Vv := (0, x)
abbrev vL (x : Int) : Vv := (1, x)
abbrev vR (x : Int) : Vv := (2, x)
abbrev vS (x : Int) : Vv := (4, x)
abbrev vN : Vv := (9, 0)
abbrev Kd : Type := Nat × Nat
abbrev Mem : Type := Int → Int → Int
abbrev Sg : Type := Nat × (Int → Kd) × Mem × Mem
abbrev Mt : Type := MethodName × ByteArray × Nat × Option FieldType
abbrev Gm : Type := Launch × va_G × List (ClassId × FieldType) × (Nat → Prop) × (Nat → Nat)
def fTag : FieldType → Nat
  | .long => 1
  | .object _ => 2
  | .array _ => 2
  | _ => 0
def aTy (k : Nat) : FieldType := match k with
  | 20 => .int
  | 21 => .boolean
  | 22 => .byte
  | 23 => .long
  | 24 => .object "SeaWithStairs$Sea"
  | 25 => .object "SeaWithStairs$Text"
  | _ => .array .int
def clTy (ci : Nat) : Nat → FieldType := match ci with
  | 0 => tyX0
  | 1 => tyX1
  | 2 => tyX2
  | 3 => tyX3
  | 4 => tyX4
  | 5 => tyX5
  | 6 => tyX6
  | 7 => tyX7
  | 8 => tyX8
  | 9 => tyX9
  | 10 => tyX10
  | 11 => tyX11
  | _ => tyX12
def lw_good : List Cond := lw_tbl.filter goodWord
def isNestW : Cond → Bool
  | .fieldLinkNest .. => true
  | .methodLinkNest .. => true
  | _ => false
def lw_nest : List Cond := lw_tbl.filter isNestW
theorem lw_good_in {w : Cond} (h : w ∈ lw_tbl) (g : goodWord w = true) : w ∈ lw_good := List.mem_filter.mpr ⟨h, g⟩
theorem lw_good_t {w : Cond} {i : Nat} (h : tables_1[i]? = some w) (g : goodWord w = true) : w ∈ lw_good := lw_good_in (List.mem_append_right _ (List.mem_of_getElem? h)) g
theorem lw_good_p {q : MethodName × Nat} {i : Nat} (h : lw_privs[i]? = some q) : Cond.selects q.1.cls q.1 q.1 ∈ lw_good := lw_good_in (List.mem_append_left _ (List.mem_map.mpr ⟨q, List.mem_of_getElem? h, rfl⟩)) rfl
theorem lw_nest_t {w : Cond} {i : Nat} (h : tables_1[i]? = some w) (g : isNestW w = true) : w ∈ lw_nest := List.mem_filter.mpr ⟨List.mem_append_right _ (List.mem_of_getElem? h), g⟩
def mWords (T : Mt) : List Cond := Cond.code T.1 T.2.1 T.2.2.1 T.2.2.2 :: lw_good
theorem mWords_good {T U : Mt} (hU : Cond.code U.1 U.2.1 U.2.2.1 U.2.2.2 ∈ lw_good) : GoodIn (mWords T) (mWords U) := by
  have h0 : ∀ w ∈ lw_good, w ∈ mWords T ∧ ((w.onTables && w.keeps) = true ∨ ∃ ty, w = .arrayClass ty) := fun w hw => ⟨List.mem_cons_of_mem _ hw, good_of_word (List.mem_filter.mp hw).2⟩
  intro w hw
  rcases List.mem_cons.mp hw with rfl | hw
  · exact h0 _ hU
  · exact h0 _ hw
/-- the static arrays of the class (in the order of the tables), their lengths, their contents -/
def sArr : List (String × String × Nat × List Int) := [("SeaWithStairs", "FORM_FROM", 8, [0, 4, 7, 8, 10, 12, 13, 15]), ("SeaWithStairs", "FORM_WORD", 15, [0, 140, 141, 142, 0, 143, 144, 0, 0, 145, 0, 144, 0, 0, 144]), ("SeaWithStairs", "FORM_LEAST", 15, [1, 0, 0, 0, 1, 0, 0, 1, 0, 1, 0, 0, 0, 0, 0]), ("SeaWithStairs", "FORM_MOST", 15, [99, 99, 999, 999, 99, 8, 8, 60, 8, 999, 8, 99, 8, 6, 8])]
def FLk (own : String) (idx ci N k : Nat) (ty : FieldType) (fin : Bool) : Prop :=
  ∃ (C : String) (Tt : u_T), vwCl[ci]? = some (C, Tt, N) ∧ (∀ w ∈ u_ws C Tt N, w ∈ lw_good) ∧ (∀ j, j < N → parseFieldDescriptor (Tt j).2.2.1 = some (clTy ci j)) ∧ (∀ a, a < N → ∀ b, b < N → a ≠ b → (Tt a).2.1 ≠ (Tt b).2.1) ∧ k < N ∧ ci < 13 ∧ clTy ci k = ty ∧ (Tt k).2.2.2 = fin ∧
    (Cond.fieldLink own idx (Tt k).1 (Tt k).2.1 (Tt k).2.2.1 ∈ lw_good ∨ ∃ host, Cond.fieldLinkNest own idx (Tt k).1 (Tt k).2.1 (Tt k).2.2.1 host ∈ lw_nest)
def FLkF (own : String) (idx ci N k : Nat) (ty : FieldType) : Prop := FLk own idx ci N k ty true ∧ ∃ (C : String) (Tt : u_T), vwCl[ci]? = some (C, Tt, N) ∧ Cond.fieldLink own idx (Tt k).1 (Tt k).2.1 (Tt k).2.2.1 ∈ lw_good ∧ (Tt k).1 = own
def SLk (own : String) (idx i n : Nat) (xs : List Int) : Prop := ∃ nm : String, sArr[i]? = some ("SeaWithStairs", nm, n, xs) ∧ (Cond.fieldLink own idx "SeaWithStairs" nm "[I" ∈ lw_good ∨ ∃ host, Cond.fieldLinkNest own idx "SeaWithStairs" nm "[I" host ∈ lw_nest)
def MtOK (U : Mt) (n : Nat) : Prop := Cond.code U.1 U.2.1 U.2.2.1 U.2.2.2 ∈ lw_good ∧ Cond.initialized U.1.cls ∈ lw_good ∧ (U.1.cls ≠ "java/lang/invoke/MethodHandle" ∧ U.1.cls ≠ "java/lang/invoke/VarHandle" ∧ (parseMethodDescriptor U.1.desc).map (fun d => d.parameters.length) = some n) ∧ plainName U.1.cls = true ∧ U.2.2.1 ≤ 21
def MLk (own : String) (idx : Nat) (U : Mt) : Prop := Cond.methodLink own idx U.1 ∈ lw_good ∨ ∃ host, Cond.methodLinkNest own idx U.1 host ∈ lw_nest
def minOK (own : String) (idx : Nat) : Prop := Cond.methodLink own idx Lib.Math.min.name ∈ lw_good ∧ Cond.static Lib.Math.min.name ∈ lw_good ∧ Cond.initialized "java/lang/Math" ∈ lw_good ∧ Cond.code Lib.Math.min.name Lib.Math.min.code 2 (some .int) ∈ lw_good
def maxOK (own : String) (idx : Nat) : Prop := Cond.methodLink own idx Lib.Math.max.name ∈ lw_good ∧ Cond.static Lib.Math.max.name ∈ lw_good ∧ Cond.initialized "java/lang/Math" ∈ lw_good ∧ Cond.code Lib.Math.max.name Lib.Math.max.code 2 (some .int) ∈ lw_good
def cpyOK (own : String) (idx : Nat) : Prop := Cond.methodLink own idx arraycopyName ∈ lw_good ∧ Cond.native arraycopyName ∈ lw_good ∧ Cond.static arraycopyName ∈ lw_good ∧ Cond.initialized "java/lang/System" ∈ lw_good
def MIn (U : Mt) (ci N : Nat) : Prop := (Cond.instanceMethod U.1 ∈ lw_good ∧ Cond.selects U.1.cls U.1 U.1 ∈ lw_good) ∧ (∃ (Tt : u_T), vwCl[ci]? = some (U.1.cls, Tt, N)) ∧ ci < 13
