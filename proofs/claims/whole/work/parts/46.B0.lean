set_option linter.unusedVariables false
set_option linter.unusedSimpArgs false
/-! sets of small numbers, as Nats -/
theorem p_of {a : Nat} (h : a < 2147483648) : (Int32.ofInt (a : Int)).toBitVec = BitVec.ofNat 32 a := by
  show BitVec.ofInt 32 (a : Int) = _
  exact BitVec.ofInt_natCast 32 a
theorem p_toI {x : Int32} {a : Nat} (h : a < 2147483648) (e : x.toBitVec = BitVec.ofNat 32 a) : x.toInt = a := by
  show x.toBitVec.toInt = a
  have q : (BitVec.ofNat 32 a).toNat = a := by rw [BitVec.toNat_ofNat]; exact Nat.mod_eq_of_lt (by omega)
  rw [e, BitVec.toInt_eq_toNat_of_lt (by rw [q]; omega), q]
theorem p_and {a b : Nat} (ha : a < 2147483648) (hb : b < 2147483648) : bAnd a b = ((a &&& b : Nat) : Int) := by
  unfold bAnd
  refine p_toI (Nat.lt_of_le_of_lt Nat.and_le_left ha) ?_
  show (Int32.ofInt a).toBitVec &&& (Int32.ofInt b).toBitVec = _
  rw [p_of ha, p_of hb]
  apply BitVec.eq_of_toNat_eq
  rw [BitVec.toNat_and, BitVec.toNat_ofNat, BitVec.toNat_ofNat, BitVec.toNat_ofNat, Nat.mod_eq_of_lt (a := a) (by omega), Nat.mod_eq_of_lt (a := b) (by omega), Nat.mod_eq_of_lt]
  exact Nat.lt_of_le_of_lt Nat.and_le_left (by omega)
theorem p_or {a b : Nat} (ha : a < 2147483648) (hb : b < 2147483648) : bOr a b = ((a ||| b : Nat) : Int) := by
  have h : a ||| b < 2 ^ 31 := Nat.or_lt_two_pow (by omega) (by omega)
  unfold bOr
  refine p_toI (by omega) ?_
  show (Int32.ofInt a).toBitVec ||| (Int32.ofInt b).toBitVec = _
  rw [p_of ha, p_of hb]
  apply BitVec.eq_of_toNat_eq
  rw [BitVec.toNat_or, BitVec.toNat_ofNat, BitVec.toNat_ofNat, BitVec.toNat_ofNat, Nat.mod_eq_of_lt (a := a) (by omega), Nat.mod_eq_of_lt (a := b) (by omega), Nat.mod_eq_of_lt (by omega)]
theorem p_shl1 {i : Nat} (h : i < 31) : bShl 1 i = ((2 ^ i : Nat) : Int) := by
  have : ∀ j : Fin 31, bShl 1 ((j.val : Nat) : Int) = ((2 ^ j.val : Nat) : Int) := by decide +kernel
  exact this ⟨i, h⟩
theorem p_has {s i : Nat} (h : s < 1024) (hi : i < 10) : f_X12_has s i = if s.testBit i then 1 else 0 := by
  have : ∀ a : Fin 1024, ∀ j : Fin 10, f_X12_has ((a.val : Nat) : Int) ((j.val : Nat) : Int) = if a.val.testBit j.val then 1 else 0 := by decide +kernel
  exact this ⟨s, h⟩ ⟨i, hi⟩
/-- how many -/
def pCnt (s : Nat) : Nat := (List.range 10).countP (fun i => s.testBit i)
theorem p_bitc {s : Nat} (h : s < 1024) : f_J6_bitCount_0f7a4 s = (pCnt s : Int) := by
  have : ∀ a : Fin 1024, f_J6_bitCount_0f7a4 ((a.val : Nat) : Int) = (pCnt a.val : Int) := by decide +kernel
  exact this ⟨s, h⟩
theorem p_bitsF (x : Int) : ∀ (n k : Nat) (y i : Int), 0 ≤ i → i ≤ 10 → 10 - i < n → f_X12_bits_L4 (n + k) x y i = f_X12_bits_L4 n x y i := by
  intro n
  induction n with
  | zero => intro k y i h0 h1 h2; omega
  | succ n ih =>
    intro k y i h0 h1 h2
    rw [show n + 1 + k = (n + k) + 1 by omega, f_X12_bits_L4, f_X12_bits_L4, p_wI (x := i + 1) (by omega) (by omega)]
    by_cases c : 10 ≤ i
    · rw [if_pos c, if_pos c]
    · rw [if_neg c, if_neg c]
      exact ih k _ (i + 1) (by omega) (by omega) (by omega)
theorem p_bits {s n : Nat} (h : s < 1024) (hn : 11 ≤ n) : f_X12_bits n s = some (pCnt s : Int) := by
  have : ∀ a : Fin 1024, f_X12_bits 11 ((a.val : Nat) : Int) = some (pCnt a.val : Int) := by decide +kernel
  have e := this ⟨s, h⟩
  unfold f_X12_bits at *
  rw [show n = 11 + (n - 11) by omega, p_bitsF _ 11 (n - 11) 0 0 (by omega) (by omega) (by omega)]
  exact e
theorem p_and2 (s i : Nat) : s &&& 2 ^ i = if s.testBit i then 2 ^ i else 0 := by
  apply Nat.eq_of_testBit_eq
  intro j
  rw [Nat.testBit_and, Nat.testBit_two_pow]
  by_cases c : i = j
  · subst c
    cases q : s.testBit i
    · simp
    · simp [Nat.testBit_two_pow]
  · cases q : s.testBit i
    · simp [c]
    · simp [c, Nat.testBit_two_pow]
theorem p_pow31 {i : Nat} (h : i < 31) : 2 ^ i < 2147483648 := Nat.lt_of_lt_of_le (Nat.pow_lt_pow_right (by omega) h) (by omega)
theorem p_andpow {s i : Nat} (hs : s < 2147483648) (h : i < 31) : bAnd s (bShl 1 i) = if s.testBit i then ((2 ^ i : Nat) : Int) else 0 := by
  rw [p_shl1 h, p_and hs (p_pow31 h), p_and2]
  cases s.testBit i <;> simp
theorem p_andpow0 {s i : Nat} (hs : s < 2147483648) (h : i < 31) : bAnd s (bShl 1 i) = 0 ↔ s.testBit i = false := by
  rw [p_andpow hs h]
  have : 0 < 2 ^ i := Nat.two_pow_pos i
  cases s.testBit i
  · simp
  · simp only [if_true]
    constructor
    · intro q; omega
    · intro q; simp at q
theorem p_orpow {s i : Nat} (hs : s < 2147483648) (h : i < 31) : bOr s (bShl 1 i) = ((s ||| 2 ^ i : Nat) : Int) := by
  rw [p_shl1 h, p_or hs (p_pow31 h)]
/-- all of these but those -/
theorem p_andnot {a b : Nat} (ha : a < 2147483648) (hb : b < 2147483648) : bAnd a (bXor b (-1)) = ((a &&& (a ^^^ b) : Nat) : Int) := by
  unfold bAnd bXor
  have e1 : (Int32.ofInt (-1)).toBitVec = BitVec.allOnes 32 := by decide +kernel
  have h2 : a &&& (a ^^^ b) < 2147483648 := Nat.lt_of_le_of_lt Nat.and_le_left ha
  refine p_toI h2 ?_
  have e2 : Int32.ofInt ((Int32.ofInt (b : Int) ^^^ Int32.ofInt (-1)).toInt) = Int32.ofInt (b : Int) ^^^ Int32.ofInt (-1) := Int32.ofInt_toInt _
  rw [e2]
  show (Int32.ofInt a).toBitVec &&& ((Int32.ofInt b).toBitVec ^^^ (Int32.ofInt (-1)).toBitVec) = _
  rw [p_of ha, p_of hb, e1]
  apply BitVec.eq_of_getLsbD_eq
  intro i hi
  simp only [BitVec.getLsbD_and, BitVec.getLsbD_xor, BitVec.getLsbD_allOnes, BitVec.getLsbD_ofNat, Nat.testBit_and, Nat.testBit_xor]
  cases a.testBit i <;> cases b.testBit i <;> simp [hi]
