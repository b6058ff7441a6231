set_option linter.unusedVariables false
set_option linter.unusedSimpArgs false
/-! text: words as numbers -/
theorem q_of {a : Nat} : (Int64.ofInt (a : Int)).toBitVec = BitVec.ofNat 64 a := by
  show BitVec.ofInt 64 (a : Int) = _
  exact BitVec.ofInt_natCast 64 a
theorem q_toI {x : Int64} {a : Nat} (h : a < 9223372036854775808) (e : x.toBitVec = BitVec.ofNat 64 a) : x.toInt = a := by
  show x.toBitVec.toInt = a
  have q : (BitVec.ofNat 64 a).toNat = a := by rw [BitVec.toNat_ofNat]; exact Nat.mod_eq_of_lt (by omega)
  rw [e, BitVec.toInt_eq_toNat_of_lt (by rw [q]; omega), q]
theorem q_shl {w : Nat} (h : w < 36028797018963968) : lShl (w : Int) 8 = ((w * 256 : Nat) : Int) := by
  unfold lShl
  have hb : (Int32.ofInt 8).toInt64 &&& 63 = 8 := by decide +kernel
  rw [hb]
  refine q_toI (by omega) ?_
  rw [Int64.toBitVec_shiftLeft, q_of]
  have hs : (8 : Int64).toBitVec.smod 64 = 8#64 := by decide +kernel
  rw [hs]
  apply BitVec.eq_of_toNat_eq
  rw [BitVec.shiftLeft_eq', BitVec.toNat_shiftLeft, BitVec.toNat_ofNat (x := w), BitVec.toNat_ofNat (x := 8), Nat.mod_eq_of_lt (a := w) (by omega), show 8 % 2 ^ 64 = 8 by decide, BitVec.toNat_ofNat, Nat.shiftLeft_eq]
theorem q_or {a b : Nat} (ha : a < 9223372036854775808) (hb : b < 9223372036854775808) : lOr (a : Int) b = ((a ||| b : Nat) : Int) := by
  have h : a ||| b < 2 ^ 63 := Nat.or_lt_two_pow (by omega) (by omega)
  unfold lOr
  refine q_toI (by omega) ?_
  show (Int64.ofInt a).toBitVec ||| (Int64.ofInt b).toBitVec = _
  rw [q_of, q_of]
  apply BitVec.eq_of_toNat_eq
  rw [BitVec.toNat_or, BitVec.toNat_ofNat, BitVec.toNat_ofNat, BitVec.toNat_ofNat, Nat.mod_eq_of_lt (a := a) (by omega), Nat.mod_eq_of_lt (a := b) (by omega), Nat.mod_eq_of_lt (by omega)]
theorem q_next {w b : Nat} (h : w < 36028797018963968) (hb : b < 256) : lOr (lShl (w : Int) 8) b = ((w * 256 + b : Nat) : Int) := by
  rw [q_shl h, q_or (by omega) (by omega)]
  congr 1
  have := Nat.shiftLeft_add_eq_or_of_lt (i := 8) (b := b) hb w
  rw [Nat.shiftLeft_eq] at this
  exact this.symm
theorem q_shr {w : Nat} (h : w < 9223372036854775808) : lShr (w : Int) 48 = ((w / 281474976710656 : Nat) : Int) := by
  unfold lShr
  have hb : (Int32.ofInt 48).toInt64 &&& 63 = 48 := by decide +kernel
  rw [hb]
  refine q_toI (by omega) ?_
  rw [Int64.toBitVec_shiftRight, q_of]
  have hs : (48 : Int64).toBitVec.smod 64 = 48#64 := by decide +kernel
  rw [hs]
  apply BitVec.eq_of_toNat_eq
  have t : (BitVec.ofNat 64 w).toNat = w := by rw [BitVec.toNat_ofNat]; exact Nat.mod_eq_of_lt (by omega)
  have m : (BitVec.ofNat 64 w).msb = false := by
    rw [BitVec.msb_eq_false_iff_two_mul_lt, t]; omega
  rw [BitVec.sshiftRight_eq', BitVec.sshiftRight_eq_of_msb_false m, BitVec.toNat_ushiftRight, t, BitVec.toNat_ofNat (x := 48), show 48 % 2 ^ 64 = 48 by decide, BitVec.toNat_ofNat, Nat.shiftRight_eq_div_pow, Nat.mod_eq_of_lt (by omega)]
theorem q_cmp (a b : Int) : lCmp a b = 0 ↔ a = b := by
  unfold lCmp
  split
  · constructor <;> intro h <;> omega
  · split
    · exact ⟨fun _ => by assumption, fun _ => rfl⟩
    · constructor <;> intro h <;> omega
/-- a word's number; too long: one that no word has -/
def wc (B : Nat → Nat) (a : Nat) : Nat → Nat
  | 0 => 0
  | d + 1 => if d ≤ 6 then wc B a d * 256 + B (a + d) else 1152921504606846976
theorem wc_lt {B : Nat → Nat} {a : Nat} (hB : ∀ d, B (a + d) < 256) : ∀ d, d ≤ 7 → wc B a d < 256 ^ d := by
  intro d
  induction d with
  | zero => intro h; simp [wc]
  | succ d ih =>
    intro h
    have := ih (by omega)
    have b := hB d
    rw [wc, if_pos (by omega), Nat.pow_succ]
    omega
theorem wc_ge {B : Nat → Nat} {a : Nat} (hB : ∀ d, B (a + d) < 256) (hB1 : ∀ d, d < 7 → 1 ≤ B (a + d)) : ∀ d, 1 ≤ d → d ≤ 7 → 256 ^ (d - 1) ≤ wc B a d := by
  intro d
  induction d with
  | zero => intro h; omega
  | succ d ih =>
    intro h h2
    have b := hB1 d (by omega)
    rw [wc, if_pos (by omega)]
    by_cases c : d = 0
    · subst c; simp [wc]; exact b
    · have := ih (by omega) (by omega)
      obtain ⟨e, rfl⟩ : ∃ e, d = e + 1 := ⟨d - 1, by omega⟩
      simp only [Nat.add_sub_cancel] at this ⊢
      rw [Nat.pow_succ]
      omega
