set_option linter.unusedVariables false
theorem p_byteB (b : BitVec 32) (s : Nat) (hs : s ≤ 24) : (b >>> s) &&& 255#32 = (b.sshiftRight s) &&& 255#32 := by
  apply BitVec.eq_of_getLsbD_eq
  intro i hi
  rw [BitVec.getLsbD_and, BitVec.getLsbD_and, BitVec.getLsbD_ushiftRight, BitVec.getLsbD_sshiftRight]
  by_cases c : i < 8
  · have h1 : ¬ (32 ≤ i) := by omega
    have h2 : s + i < 32 := by omega
    simp [h1, h2]
  · have : (255#32).getLsbD i = false := by
      have h : ∀ j : Fin 32, 8 ≤ j.val → (255#32).getLsbD j.val = false := by decide
      exact h ⟨i, hi⟩ (by simpa using c)
    rw [this, Bool.and_false, Bool.and_false]
theorem p_byte {v s : Int} (h : s = 0 ∨ s = 8 ∨ s = 16 ∨ s = 24) : bAnd (bUshr v s) 255 = bAnd (bShr v s) 255 ∧ 0 ≤ bAnd (bShr v s) 255 ∧ bAnd (bShr v s) 255 ≤ 255 := by
  have e : bAnd (bUshr v s) 255 = bAnd (bShr v s) 255 := by
    unfold bAnd bUshr bShr
    rw [Int32.ofInt_toInt, Int32.ofInt_toInt]
    congr 1
    apply Int32.toBitVec_inj.mp
    generalize Int32.ofInt v = x
    rcases h with r | r | r | r <;> subst r
    · exact p_byteB x.toBitVec 0 (by omega)
    · exact p_byteB x.toBitVec 8 (by omega)
    · exact p_byteB x.toBitVec 16 (by omega)
    · exact p_byteB x.toBitVec 24 (by omega)
  refine ⟨e, ?_⟩
  unfold bAnd
  generalize Int32.ofInt (bShr v s) = x
  have e2 : (x &&& Int32.ofInt 255).toBitVec = BitVec.ofNat 32 (x.toBitVec.toNat &&& 255) := by
    show x.toBitVec &&& 255#32 = _
    apply BitVec.eq_of_toNat_eq
    rw [BitVec.toNat_and]
    show x.toBitVec.toNat &&& 255 = (x.toBitVec.toNat &&& 255) % 2 ^ 32
    rw [Nat.mod_eq_of_lt (Nat.lt_of_le_of_lt (Nat.and_le_right : x.toBitVec.toNat &&& 255 ≤ 255) (by decide))]
  have e3 := p_toI (a := x.toBitVec.toNat &&& 255) (Nat.lt_of_le_of_lt Nat.and_le_right (by decide)) e2
  have e4 : x.toBitVec.toNat &&& 255 ≤ 255 := Nat.and_le_right
  rw [e3]
  omega
/-- four bytes on both tapes -/
theorem p_four {M N : Mem} {n : Nat} {v t : Int} (h : pTape M N) (ht : N 801 4 = t) (h4 : t + 4 ≤ 300) (hn : 10 ≤ n) : ∃ M' N', f_X4_addFour n v M = some M' ∧ f_X12_four n v N = some N' ∧ pTape M' N' ∧ N' 801 4 = t + 4
    ∧ (∀ x, x ≠ 703 → x ≠ 704 → ∀ i, M' x i = M x i) ∧ (∀ i, i ≠ 1 → M' 703 i = M 703 i) ∧ (∀ x, x ≠ 801 → x ≠ 805 → ∀ i, N' x i = N x i) ∧ (∀ i, i ≠ 4 → N' 801 i = N 801 i) := by
  obtain ⟨a1, a2, a3⟩ := h
  obtain ⟨m, rfl⟩ : ∃ m, n = m + 6 := ⟨n - 6, by omega⟩
  have e1 : M 703 1 = t := by omega
  unfold f_X4_addFour f_X12_four
  simp (disch := omega) only [f_X4_addFour_L15, f_X12_four_L3, p_wI, p_ck, p_lt, if_pos, if_neg, up_nei, up_nex, up_eq, Option.bind_some, Int.reduceAdd, Int.reduceMul, Int.reduceSub, e1, ht]
  obtain ⟨b3, b3a, b3b⟩ := p_byte (v := v) (s := 24) (by omega)
  obtain ⟨b2, b2a, b2b⟩ := p_byte (v := v) (s := 16) (by omega)
  obtain ⟨b1, b1a, b1b⟩ := p_byte (v := v) (s := 8) (by omega)
  obtain ⟨b0, b0a, b0b⟩ := p_byte (v := v) (s := 0) (by omega)
  rw [b3, b2, b1, b0]
  generalize bAnd (bShr v 24) 255 = w3 at *
  generalize bAnd (bShr v 16) 255 = w2 at *
  generalize bAnd (bShr v 8) 255 = w1 at *
  generalize bAnd (bShr v 0) 255 = w0 at *
  rw [show t + 0 = t by omega, show t + 1 + 1 = t + 2 by omega, show t + 2 + 1 = t + 3 by omega, show t + 3 + 1 = t + 4 by omega]
  refine ⟨_, _, rfl, rfl, ⟨?_, ?_, fun i i0 i1 => ?_⟩, ?_, fun x x1 x2 i => ?_, fun i hi => ?_, fun x x1 x2 i => ?_, fun i hi => ?_⟩
  · rw [up_eq, up_eq]
  · rw [up_eq]; omega
  · rw [up_eq] at i1
    by_cases c : i < t
    · simp (disch := omega) only [up_nei, up_nex]
      exact a3 i i0 (by omega)
    · have : i = t ∨ i = t + 1 ∨ i = t + 2 ∨ i = t + 3 := by omega
      rcases this with r | r | r | r <;> subst r <;> simp (disch := omega) only [up_nei, up_nex, up_eq, true_and] <;> omega
  · rw [up_eq]
  · simp (disch := omega) only [up_nex]
  · simp (disch := omega) only [up_nex, up_nei]
  · simp (disch := omega) only [up_nex]
  · simp (disch := omega) only [up_nex, up_nei]
