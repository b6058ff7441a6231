/-! ===== which cells are of which class, and where their rows lie ===== -/
abbrev seaF (k : Int) : Prop := K0 k = (5, 17) ∧ K0 (k + 1) = (20, 9) ∧ Rf0 k 1 = k + 1 ∧ K0 (k + 2) = (20, 9) ∧ Rf0 k 2 = k + 2 ∧ K0 (k + 3) = (20, 9) ∧ Rf0 k 3 = k + 3 ∧ K0 (k + 4) = (20, 9) ∧ Rf0 k 4 = k + 4 ∧ K0 (k + 5) = (20, 9) ∧ Rf0 k 5 = k + 5 ∧ K0 (k + 6) = (20, 7) ∧ Rf0 k 7 = k + 6 ∧ K0 (k + 7) = (20, 7) ∧ Rf0 k 8 = k + 7 ∧ K0 (k + 8) = (20, 7) ∧ Rf0 k 9 = k + 8 ∧ K0 (k + 9) = (20, 7) ∧ Rf0 k 10 = k + 9 ∧ K0 (k + 10) = (20, 40) ∧ Rf0 k 16 = k + 10 ∧ 1 ≤ k ∧ k + 10 < 801 ∧ k ≠ 705 ∧ k ≠ 703
abbrev isSea (k : Int) : Prop := k = 3 ∨ k = 353 ∨ k = 762 ∨ (∃ i : Int, 0 ≤ i ∧ i < 30 ∧ k = 16 + 11 * i) ∨ (∃ i : Int, 0 ≤ i ∧ i < 30 ∧ k = 366 + 11 * i)
set_option maxRecDepth 100000 in
theorem sea_fam0_0 : seaF 16 := by decide +kernel
set_option maxRecDepth 100000 in
theorem sea_fam0_1 : seaF 27 := by decide +kernel
set_option maxRecDepth 100000 in
theorem sea_fam0_2 : seaF 38 := by decide +kernel
set_option maxRecDepth 100000 in
theorem sea_fam0_3 : seaF 49 := by decide +kernel
set_option maxRecDepth 100000 in
theorem sea_fam0_4 : seaF 60 := by decide +kernel
set_option maxRecDepth 100000 in
theorem sea_fam0_5 : seaF 71 := by decide +kernel
set_option maxRecDepth 100000 in
theorem sea_fam0_6 : seaF 82 := by decide +kernel
set_option maxRecDepth 100000 in
theorem sea_fam0_7 : seaF 93 := by decide +kernel
set_option maxRecDepth 100000 in
theorem sea_fam0_8 : seaF 104 := by decide +kernel
set_option maxRecDepth 100000 in
theorem sea_fam0_9 : seaF 115 := by decide +kernel
set_option maxRecDepth 100000 in
theorem sea_fam0_10 : seaF 126 := by decide +kernel
set_option maxRecDepth 100000 in
theorem sea_fam0_11 : seaF 137 := by decide +kernel
set_option maxRecDepth 100000 in
theorem sea_fam0_12 : seaF 148 := by decide +kernel
set_option maxRecDepth 100000 in
theorem sea_fam0_13 : seaF 159 := by decide +kernel
set_option maxRecDepth 100000 in
theorem sea_fam0_14 : seaF 170 := by decide +kernel
set_option maxRecDepth 100000 in
theorem sea_fam0_15 : seaF 181 := by decide +kernel
set_option maxRecDepth 100000 in
theorem sea_fam0_16 : seaF 192 := by decide +kernel
set_option maxRecDepth 100000 in
theorem sea_fam0_17 : seaF 203 := by decide +kernel
set_option maxRecDepth 100000 in
theorem sea_fam0_18 : seaF 214 := by decide +kernel
set_option maxRecDepth 100000 in
theorem sea_fam0_19 : seaF 225 := by decide +kernel
set_option maxRecDepth 100000 in
theorem sea_fam0_20 : seaF 236 := by decide +kernel
set_option maxRecDepth 100000 in
theorem sea_fam0_21 : seaF 247 := by decide +kernel
set_option maxRecDepth 100000 in
theorem sea_fam0_22 : seaF 258 := by decide +kernel
set_option maxRecDepth 100000 in
theorem sea_fam0_23 : seaF 269 := by decide +kernel
set_option maxRecDepth 100000 in
theorem sea_fam0_24 : seaF 280 := by decide +kernel
set_option maxRecDepth 100000 in
theorem sea_fam0_25 : seaF 291 := by decide +kernel
set_option maxRecDepth 100000 in
theorem sea_fam0_26 : seaF 302 := by decide +kernel
set_option maxRecDepth 100000 in
theorem sea_fam0_27 : seaF 313 := by decide +kernel
set_option maxRecDepth 100000 in
theorem sea_fam0_28 : seaF 324 := by decide +kernel
set_option maxRecDepth 100000 in
theorem sea_fam0_29 : seaF 335 := by decide +kernel
theorem sea_fam0 (i : Nat) (h : i < 30) : seaF (16 + 11 * (i : Int)) := by
  match i, h with
  | 0, _ => exact sea_fam0_0
  | 1, _ => exact sea_fam0_1
  | 2, _ => exact sea_fam0_2
  | 3, _ => exact sea_fam0_3
  | 4, _ => exact sea_fam0_4
  | 5, _ => exact sea_fam0_5
  | 6, _ => exact sea_fam0_6
  | 7, _ => exact sea_fam0_7
  | 8, _ => exact sea_fam0_8
  | 9, _ => exact sea_fam0_9
  | 10, _ => exact sea_fam0_10
  | 11, _ => exact sea_fam0_11
  | 12, _ => exact sea_fam0_12
  | 13, _ => exact sea_fam0_13
  | 14, _ => exact sea_fam0_14
  | 15, _ => exact sea_fam0_15
  | 16, _ => exact sea_fam0_16
  | 17, _ => exact sea_fam0_17
  | 18, _ => exact sea_fam0_18
  | 19, _ => exact sea_fam0_19
  | 20, _ => exact sea_fam0_20
  | 21, _ => exact sea_fam0_21
  | 22, _ => exact sea_fam0_22
  | 23, _ => exact sea_fam0_23
  | 24, _ => exact sea_fam0_24
  | 25, _ => exact sea_fam0_25
  | 26, _ => exact sea_fam0_26
  | 27, _ => exact sea_fam0_27
  | 28, _ => exact sea_fam0_28
  | 29, _ => exact sea_fam0_29
  | n + 30, h => exact absurd h (by omega)
set_option maxRecDepth 100000 in
theorem sea_fam1_0 : seaF 366 := by decide +kernel
set_option maxRecDepth 100000 in
theorem sea_fam1_1 : seaF 377 := by decide +kernel
set_option maxRecDepth 100000 in
theorem sea_fam1_2 : seaF 388 := by decide +kernel
set_option maxRecDepth 100000 in
theorem sea_fam1_3 : seaF 399 := by decide +kernel
set_option maxRecDepth 100000 in
theorem sea_fam1_4 : seaF 410 := by decide +kernel
set_option maxRecDepth 100000 in
theorem sea_fam1_5 : seaF 421 := by decide +kernel
set_option maxRecDepth 100000 in
theorem sea_fam1_6 : seaF 432 := by decide +kernel
set_option maxRecDepth 100000 in
theorem sea_fam1_7 : seaF 443 := by decide +kernel
set_option maxRecDepth 100000 in
theorem sea_fam1_8 : seaF 454 := by decide +kernel
set_option maxRecDepth 100000 in
theorem sea_fam1_9 : seaF 465 := by decide +kernel
set_option maxRecDepth 100000 in
theorem sea_fam1_10 : seaF 476 := by decide +kernel
set_option maxRecDepth 100000 in
theorem sea_fam1_11 : seaF 487 := by decide +kernel
set_option maxRecDepth 100000 in
theorem sea_fam1_12 : seaF 498 := by decide +kernel
set_option maxRecDepth 100000 in
theorem sea_fam1_13 : seaF 509 := by decide +kernel
set_option maxRecDepth 100000 in
theorem sea_fam1_14 : seaF 520 := by decide +kernel
set_option maxRecDepth 100000 in
theorem sea_fam1_15 : seaF 531 := by decide +kernel
set_option maxRecDepth 100000 in
theorem sea_fam1_16 : seaF 542 := by decide +kernel
set_option maxRecDepth 100000 in
theorem sea_fam1_17 : seaF 553 := by decide +kernel
set_option maxRecDepth 100000 in
theorem sea_fam1_18 : seaF 564 := by decide +kernel
set_option maxRecDepth 100000 in
theorem sea_fam1_19 : seaF 575 := by decide +kernel
set_option maxRecDepth 100000 in
theorem sea_fam1_20 : seaF 586 := by decide +kernel
set_option maxRecDepth 100000 in
theorem sea_fam1_21 : seaF 597 := by decide +kernel
set_option maxRecDepth 100000 in
theorem sea_fam1_22 : seaF 608 := by decide +kernel
set_option maxRecDepth 100000 in
theorem sea_fam1_23 : seaF 619 := by decide +kernel
set_option maxRecDepth 100000 in
theorem sea_fam1_24 : seaF 630 := by decide +kernel
set_option maxRecDepth 100000 in
theorem sea_fam1_25 : seaF 641 := by decide +kernel
set_option maxRecDepth 100000 in
theorem sea_fam1_26 : seaF 652 := by decide +kernel
set_option maxRecDepth 100000 in
theorem sea_fam1_27 : seaF 663 := by decide +kernel
set_option maxRecDepth 100000 in
theorem sea_fam1_28 : seaF 674 := by decide +kernel
set_option maxRecDepth 100000 in
theorem sea_fam1_29 : seaF 685 := by decide +kernel
theorem sea_fam1 (i : Nat) (h : i < 30) : seaF (366 + 11 * (i : Int)) := by
  match i, h with
  | 0, _ => exact sea_fam1_0
  | 1, _ => exact sea_fam1_1
  | 2, _ => exact sea_fam1_2
  | 3, _ => exact sea_fam1_3
  | 4, _ => exact sea_fam1_4
  | 5, _ => exact sea_fam1_5
  | 6, _ => exact sea_fam1_6
  | 7, _ => exact sea_fam1_7
  | 8, _ => exact sea_fam1_8
  | 9, _ => exact sea_fam1_9
  | 10, _ => exact sea_fam1_10
  | 11, _ => exact sea_fam1_11
  | 12, _ => exact sea_fam1_12
  | 13, _ => exact sea_fam1_13
  | 14, _ => exact sea_fam1_14
  | 15, _ => exact sea_fam1_15
  | 16, _ => exact sea_fam1_16
  | 17, _ => exact sea_fam1_17
  | 18, _ => exact sea_fam1_18
  | 19, _ => exact sea_fam1_19
  | 20, _ => exact sea_fam1_20
  | 21, _ => exact sea_fam1_21
  | 22, _ => exact sea_fam1_22
  | 23, _ => exact sea_fam1_23
  | 24, _ => exact sea_fam1_24
  | 25, _ => exact sea_fam1_25
  | 26, _ => exact sea_fam1_26
  | 27, _ => exact sea_fam1_27
  | 28, _ => exact sea_fam1_28
  | 29, _ => exact sea_fam1_29
  | n + 30, h => exact absurd h (by omega)
set_option maxRecDepth 100000 in
theorem sea_f3 : seaF 3 := by decide +kernel
set_option maxRecDepth 100000 in
theorem sea_f353 : seaF 353 := by decide +kernel
set_option maxRecDepth 100000 in
theorem sea_f762 : seaF 762 := by decide +kernel
theorem sea_F {k : Int} (h : isSea k) : seaF k := by
  rcases h with rfl | rfl | rfl | ⟨i, h0, h1, rfl⟩ | ⟨i, h0, h1, rfl⟩
  · exact sea_f3
  · exact sea_f353
  · exact sea_f762
  · have e : 16 + 11 * i = 16 + 11 * ((i.toNat : Nat) : Int) := by omega
    rw [e]
    exact sea_fam0 i.toNat (by omega)
  · have e : 366 + 11 * i = 366 + 11 * ((i.toNat : Nat) : Int) := by omega
    rw [e]
    exact sea_fam1 i.toNat (by omega)
theorem sea_c3 : isSea 3 := Or.inl rfl
theorem sea_c353 : isSea 353 := Or.inr (Or.inl rfl)
theorem sea_c762 : isSea 762 := Or.inr (Or.inr (Or.inl rfl))
theorem sea_k {k : Int} (h : isSea k) : K0 k = (5, 17) := (sea_F h).1
theorem sea_ak1 {k : Int} (h : isSea k) : K0 (k + 1) = (20, 9) := (sea_F h).2.1
theorem sea_r1 {k : Int} (M : Mem) (h : isSea k) : RfM M k 1 = k + 1 := by
  obtain ⟨h1, h2, h3, h4⟩ := (sea_F h).2.2.2.2.2.2.2.2.2.2.2.2.2.2.2.2.2.2.2.2.2
  unfold RfM
  rw [if_neg (fun q => h3 q.1), if_neg (fun q => h4 q.1)]
  exact (sea_F h).2.2.1
theorem sea_anz1 {k : Int} (h : isSea k) : k + 1 ≠ 0 := by have := (sea_F h).2.2.2.2.2.2.2.2.2.2.2.2.2.2.2.2.2.2.2.2.2; omega
theorem sea_a91 {k : Int} (h : isSea k) : k + 1 < 801 := by have := (sea_F h).2.2.2.2.2.2.2.2.2.2.2.2.2.2.2.2.2.2.2.2.2; omega
theorem sea_ak2 {k : Int} (h : isSea k) : K0 (k + 2) = (20, 9) := (sea_F h).2.2.2.1
theorem sea_r2 {k : Int} (M : Mem) (h : isSea k) : RfM M k 2 = k + 2 := by
  obtain ⟨h1, h2, h3, h4⟩ := (sea_F h).2.2.2.2.2.2.2.2.2.2.2.2.2.2.2.2.2.2.2.2.2
  unfold RfM
  rw [if_neg (fun q => h3 q.1), if_neg (fun q => h4 q.1)]
  exact (sea_F h).2.2.2.2.1
theorem sea_anz2 {k : Int} (h : isSea k) : k + 2 ≠ 0 := by have := (sea_F h).2.2.2.2.2.2.2.2.2.2.2.2.2.2.2.2.2.2.2.2.2; omega
theorem sea_a92 {k : Int} (h : isSea k) : k + 2 < 801 := by have := (sea_F h).2.2.2.2.2.2.2.2.2.2.2.2.2.2.2.2.2.2.2.2.2; omega
theorem sea_ak3 {k : Int} (h : isSea k) : K0 (k + 3) = (20, 9) := (sea_F h).2.2.2.2.2.1
theorem sea_r3 {k : Int} (M : Mem) (h : isSea k) : RfM M k 3 = k + 3 := by
  obtain ⟨h1, h2, h3, h4⟩ := (sea_F h).2.2.2.2.2.2.2.2.2.2.2.2.2.2.2.2.2.2.2.2.2
  unfold RfM
  rw [if_neg (fun q => h3 q.1), if_neg (fun q => h4 q.1)]
  exact (sea_F h).2.2.2.2.2.2.1
theorem sea_anz3 {k : Int} (h : isSea k) : k + 3 ≠ 0 := by have := (sea_F h).2.2.2.2.2.2.2.2.2.2.2.2.2.2.2.2.2.2.2.2.2; omega
theorem sea_a93 {k : Int} (h : isSea k) : k + 3 < 801 := by have := (sea_F h).2.2.2.2.2.2.2.2.2.2.2.2.2.2.2.2.2.2.2.2.2; omega
theorem sea_ak4 {k : Int} (h : isSea k) : K0 (k + 4) = (20, 9) := (sea_F h).2.2.2.2.2.2.2.1
theorem sea_r4 {k : Int} (M : Mem) (h : isSea k) : RfM M k 4 = k + 4 := by
  obtain ⟨h1, h2, h3, h4⟩ := (sea_F h).2.2.2.2.2.2.2.2.2.2.2.2.2.2.2.2.2.2.2.2.2
  unfold RfM
  rw [if_neg (fun q => h3 q.1), if_neg (fun q => h4 q.1)]
  exact (sea_F h).2.2.2.2.2.2.2.2.1
theorem sea_anz4 {k : Int} (h : isSea k) : k + 4 ≠ 0 := by have := (sea_F h).2.2.2.2.2.2.2.2.2.2.2.2.2.2.2.2.2.2.2.2.2; omega
theorem sea_a94 {k : Int} (h : isSea k) : k + 4 < 801 := by have := (sea_F h).2.2.2.2.2.2.2.2.2.2.2.2.2.2.2.2.2.2.2.2.2; omega
theorem sea_ak5 {k : Int} (h : isSea k) : K0 (k + 5) = (20, 9) := (sea_F h).2.2.2.2.2.2.2.2.2.1
theorem sea_r5 {k : Int} (M : Mem) (h : isSea k) : RfM M k 5 = k + 5 := by
  obtain ⟨h1, h2, h3, h4⟩ := (sea_F h).2.2.2.2.2.2.2.2.2.2.2.2.2.2.2.2.2.2.2.2.2
  unfold RfM
  rw [if_neg (fun q => h3 q.1), if_neg (fun q => h4 q.1)]
  exact (sea_F h).2.2.2.2.2.2.2.2.2.2.1
theorem sea_anz5 {k : Int} (h : isSea k) : k + 5 ≠ 0 := by have := (sea_F h).2.2.2.2.2.2.2.2.2.2.2.2.2.2.2.2.2.2.2.2.2; omega
theorem sea_a95 {k : Int} (h : isSea k) : k + 5 < 801 := by have := (sea_F h).2.2.2.2.2.2.2.2.2.2.2.2.2.2.2.2.2.2.2.2.2; omega
theorem sea_ak7 {k : Int} (h : isSea k) : K0 (k + 6) = (20, 7) := (sea_F h).2.2.2.2.2.2.2.2.2.2.2.1
theorem sea_r7 {k : Int} (M : Mem) (h : isSea k) : RfM M k 7 = k + 6 := by
  obtain ⟨h1, h2, h3, h4⟩ := (sea_F h).2.2.2.2.2.2.2.2.2.2.2.2.2.2.2.2.2.2.2.2.2
  unfold RfM
  rw [if_neg (fun q => h3 q.1), if_neg (fun q => h4 q.1)]
  exact (sea_F h).2.2.2.2.2.2.2.2.2.2.2.2.1
theorem sea_anz7 {k : Int} (h : isSea k) : k + 6 ≠ 0 := by have := (sea_F h).2.2.2.2.2.2.2.2.2.2.2.2.2.2.2.2.2.2.2.2.2; omega
theorem sea_a97 {k : Int} (h : isSea k) : k + 6 < 801 := by have := (sea_F h).2.2.2.2.2.2.2.2.2.2.2.2.2.2.2.2.2.2.2.2.2; omega
theorem sea_ak8 {k : Int} (h : isSea k) : K0 (k + 7) = (20, 7) := (sea_F h).2.2.2.2.2.2.2.2.2.2.2.2.2.1
theorem sea_r8 {k : Int} (M : Mem) (h : isSea k) : RfM M k 8 = k + 7 := by
  obtain ⟨h1, h2, h3, h4⟩ := (sea_F h).2.2.2.2.2.2.2.2.2.2.2.2.2.2.2.2.2.2.2.2.2
  unfold RfM
  rw [if_neg (fun q => h3 q.1), if_neg (fun q => h4 q.1)]
  exact (sea_F h).2.2.2.2.2.2.2.2.2.2.2.2.2.2.1
theorem sea_anz8 {k : Int} (h : isSea k) : k + 7 ≠ 0 := by have := (sea_F h).2.2.2.2.2.2.2.2.2.2.2.2.2.2.2.2.2.2.2.2.2; omega
theorem sea_a98 {k : Int} (h : isSea k) : k + 7 < 801 := by have := (sea_F h).2.2.2.2.2.2.2.2.2.2.2.2.2.2.2.2.2.2.2.2.2; omega
theorem sea_ak9 {k : Int} (h : isSea k) : K0 (k + 8) = (20, 7) := (sea_F h).2.2.2.2.2.2.2.2.2.2.2.2.2.2.2.1
theorem sea_r9 {k : Int} (M : Mem) (h : isSea k) : RfM M k 9 = k + 8 := by
  obtain ⟨h1, h2, h3, h4⟩ := (sea_F h).2.2.2.2.2.2.2.2.2.2.2.2.2.2.2.2.2.2.2.2.2
  unfold RfM
  rw [if_neg (fun q => h3 q.1), if_neg (fun q => h4 q.1)]
  exact (sea_F h).2.2.2.2.2.2.2.2.2.2.2.2.2.2.2.2.1
theorem sea_anz9 {k : Int} (h : isSea k) : k + 8 ≠ 0 := by have := (sea_F h).2.2.2.2.2.2.2.2.2.2.2.2.2.2.2.2.2.2.2.2.2; omega
theorem sea_a99 {k : Int} (h : isSea k) : k + 8 < 801 := by have := (sea_F h).2.2.2.2.2.2.2.2.2.2.2.2.2.2.2.2.2.2.2.2.2; omega
theorem sea_ak10 {k : Int} (h : isSea k) : K0 (k + 9) = (20, 7) := (sea_F h).2.2.2.2.2.2.2.2.2.2.2.2.2.2.2.2.2.1
theorem sea_r10 {k : Int} (M : Mem) (h : isSea k) : RfM M k 10 = k + 9 := by
  obtain ⟨h1, h2, h3, h4⟩ := (sea_F h).2.2.2.2.2.2.2.2.2.2.2.2.2.2.2.2.2.2.2.2.2
  unfold RfM
  rw [if_neg (fun q => h3 q.1), if_neg (fun q => h4 q.1)]
  exact (sea_F h).2.2.2.2.2.2.2.2.2.2.2.2.2.2.2.2.2.2.1
theorem sea_anz10 {k : Int} (h : isSea k) : k + 9 ≠ 0 := by have := (sea_F h).2.2.2.2.2.2.2.2.2.2.2.2.2.2.2.2.2.2.2.2.2; omega
theorem sea_a910 {k : Int} (h : isSea k) : k + 9 < 801 := by have := (sea_F h).2.2.2.2.2.2.2.2.2.2.2.2.2.2.2.2.2.2.2.2.2; omega
theorem sea_ak16 {k : Int} (h : isSea k) : K0 (k + 10) = (20, 40) := (sea_F h).2.2.2.2.2.2.2.2.2.2.2.2.2.2.2.2.2.2.2.1
theorem sea_r16 {k : Int} (M : Mem) (h : isSea k) : RfM M k 16 = k + 10 := by
  obtain ⟨h1, h2, h3, h4⟩ := (sea_F h).2.2.2.2.2.2.2.2.2.2.2.2.2.2.2.2.2.2.2.2.2
  unfold RfM
  rw [if_neg (fun q => h3 q.1), if_neg (fun q => h4 q.1)]
  exact (sea_F h).2.2.2.2.2.2.2.2.2.2.2.2.2.2.2.2.2.2.2.2.1
theorem sea_anz16 {k : Int} (h : isSea k) : k + 10 ≠ 0 := by have := (sea_F h).2.2.2.2.2.2.2.2.2.2.2.2.2.2.2.2.2.2.2.2.2; omega
theorem sea_a916 {k : Int} (h : isSea k) : k + 10 < 801 := by have := (sea_F h).2.2.2.2.2.2.2.2.2.2.2.2.2.2.2.2.2.2.2.2.2; omega
theorem sea_nz {k : Int} (h : isSea k) : k ≠ 0 := by have := (sea_F h).2.2.2.2.2.2.2.2.2.2.2.2.2.2.2.2.2.2.2.2.2; omega
theorem sea_n9 {k : Int} (h : isSea k) : k < 801 := by have := (sea_F h).2.2.2.2.2.2.2.2.2.2.2.2.2.2.2.2.2.2.2.2.2; omega
abbrev txF (k : Int) : Prop := K0 k = (6, 8) ∧ K0 (k + 1) = (20, 24) ∧ Rf0 k 1 = k + 1 ∧ K0 (k + 2) = (20, 96) ∧ Rf0 k 2 = k + 2 ∧ K0 (k + 3) = (20, 300) ∧ Rf0 k 4 = k + 3 ∧ K0 (k + 4) = (20, 300) ∧ Rf0 k 5 = k + 4 ∧ K0 (k + 5) = (20, 5) ∧ Rf0 k 6 = k + 5 ∧ K0 (k + 6) = (20, 5) ∧ Rf0 k 7 = k + 6 ∧ 1 ≤ k ∧ k + 6 < 801 ∧ k ≠ 705 ∧ k ≠ 703
abbrev isTx (k : Int) : Prop := k = 706 ∨ k = 773 ∨ k = 780 ∨ k = 787 ∨ k = 794
set_option maxRecDepth 100000 in
theorem tx_f706 : txF 706 := by decide +kernel
set_option maxRecDepth 100000 in
theorem tx_f773 : txF 773 := by decide +kernel
set_option maxRecDepth 100000 in
theorem tx_f780 : txF 780 := by decide +kernel
set_option maxRecDepth 100000 in
theorem tx_f787 : txF 787 := by decide +kernel
set_option maxRecDepth 100000 in
theorem tx_f794 : txF 794 := by decide +kernel
theorem tx_F {k : Int} (h : isTx k) : txF k := by
  rcases h with rfl | rfl | rfl | rfl | rfl
  · exact tx_f706
  · exact tx_f773
  · exact tx_f780
  · exact tx_f787
  · exact tx_f794
theorem tx_c706 : isTx 706 := Or.inl rfl
theorem tx_c773 : isTx 773 := Or.inr (Or.inl rfl)
theorem tx_c780 : isTx 780 := Or.inr (Or.inr (Or.inl rfl))
theorem tx_c787 : isTx 787 := Or.inr (Or.inr (Or.inr (Or.inl rfl)))
theorem tx_c794 : isTx 794 := Or.inr (Or.inr (Or.inr (Or.inr (rfl))))
theorem tx_k {k : Int} (h : isTx k) : K0 k = (6, 8) := (tx_F h).1
theorem tx_ak1 {k : Int} (h : isTx k) : K0 (k + 1) = (20, 24) := (tx_F h).2.1
theorem tx_r1 {k : Int} (M : Mem) (h : isTx k) : RfM M k 1 = k + 1 := by
  obtain ⟨h1, h2, h3, h4⟩ := (tx_F h).2.2.2.2.2.2.2.2.2.2.2.2.2
  unfold RfM
  rw [if_neg (fun q => h3 q.1), if_neg (fun q => h4 q.1)]
  exact (tx_F h).2.2.1
theorem tx_anz1 {k : Int} (h : isTx k) : k + 1 ≠ 0 := by have := (tx_F h).2.2.2.2.2.2.2.2.2.2.2.2.2; omega
theorem tx_a91 {k : Int} (h : isTx k) : k + 1 < 801 := by have := (tx_F h).2.2.2.2.2.2.2.2.2.2.2.2.2; omega
theorem tx_ak2 {k : Int} (h : isTx k) : K0 (k + 2) = (20, 96) := (tx_F h).2.2.2.1
theorem tx_r2 {k : Int} (M : Mem) (h : isTx k) : RfM M k 2 = k + 2 := by
  obtain ⟨h1, h2, h3, h4⟩ := (tx_F h).2.2.2.2.2.2.2.2.2.2.2.2.2
  unfold RfM
  rw [if_neg (fun q => h3 q.1), if_neg (fun q => h4 q.1)]
  exact (tx_F h).2.2.2.2.1
theorem tx_anz2 {k : Int} (h : isTx k) : k + 2 ≠ 0 := by have := (tx_F h).2.2.2.2.2.2.2.2.2.2.2.2.2; omega
theorem tx_a92 {k : Int} (h : isTx k) : k + 2 < 801 := by have := (tx_F h).2.2.2.2.2.2.2.2.2.2.2.2.2; omega
theorem tx_ak4 {k : Int} (h : isTx k) : K0 (k + 3) = (20, 300) := (tx_F h).2.2.2.2.2.1
theorem tx_r4 {k : Int} (M : Mem) (h : isTx k) : RfM M k 4 = k + 3 := by
  obtain ⟨h1, h2, h3, h4⟩ := (tx_F h).2.2.2.2.2.2.2.2.2.2.2.2.2
  unfold RfM
  rw [if_neg (fun q => h3 q.1), if_neg (fun q => h4 q.1)]
  exact (tx_F h).2.2.2.2.2.2.1
theorem tx_anz4 {k : Int} (h : isTx k) : k + 3 ≠ 0 := by have := (tx_F h).2.2.2.2.2.2.2.2.2.2.2.2.2; omega
theorem tx_a94 {k : Int} (h : isTx k) : k + 3 < 801 := by have := (tx_F h).2.2.2.2.2.2.2.2.2.2.2.2.2; omega
theorem tx_ak5 {k : Int} (h : isTx k) : K0 (k + 4) = (20, 300) := (tx_F h).2.2.2.2.2.2.2.1
theorem tx_r5 {k : Int} (M : Mem) (h : isTx k) : RfM M k 5 = k + 4 := by
  obtain ⟨h1, h2, h3, h4⟩ := (tx_F h).2.2.2.2.2.2.2.2.2.2.2.2.2
  unfold RfM
  rw [if_neg (fun q => h3 q.1), if_neg (fun q => h4 q.1)]
  exact (tx_F h).2.2.2.2.2.2.2.2.1
theorem tx_anz5 {k : Int} (h : isTx k) : k + 4 ≠ 0 := by have := (tx_F h).2.2.2.2.2.2.2.2.2.2.2.2.2; omega
theorem tx_a95 {k : Int} (h : isTx k) : k + 4 < 801 := by have := (tx_F h).2.2.2.2.2.2.2.2.2.2.2.2.2; omega
theorem tx_ak6 {k : Int} (h : isTx k) : K0 (k + 5) = (20, 5) := (tx_F h).2.2.2.2.2.2.2.2.2.1
theorem tx_r6 {k : Int} (M : Mem) (h : isTx k) : RfM M k 6 = k + 5 := by
  obtain ⟨h1, h2, h3, h4⟩ := (tx_F h).2.2.2.2.2.2.2.2.2.2.2.2.2
  unfold RfM
  rw [if_neg (fun q => h3 q.1), if_neg (fun q => h4 q.1)]
  exact (tx_F h).2.2.2.2.2.2.2.2.2.2.1
theorem tx_anz6 {k : Int} (h : isTx k) : k + 5 ≠ 0 := by have := (tx_F h).2.2.2.2.2.2.2.2.2.2.2.2.2; omega
theorem tx_a96 {k : Int} (h : isTx k) : k + 5 < 801 := by have := (tx_F h).2.2.2.2.2.2.2.2.2.2.2.2.2; omega
theorem tx_ak7 {k : Int} (h : isTx k) : K0 (k + 6) = (20, 5) := (tx_F h).2.2.2.2.2.2.2.2.2.2.2.1
theorem tx_r7 {k : Int} (M : Mem) (h : isTx k) : RfM M k 7 = k + 6 := by
  obtain ⟨h1, h2, h3, h4⟩ := (tx_F h).2.2.2.2.2.2.2.2.2.2.2.2.2
  unfold RfM
  rw [if_neg (fun q => h3 q.1), if_neg (fun q => h4 q.1)]
  exact (tx_F h).2.2.2.2.2.2.2.2.2.2.2.2.1
theorem tx_anz7 {k : Int} (h : isTx k) : k + 6 ≠ 0 := by have := (tx_F h).2.2.2.2.2.2.2.2.2.2.2.2.2; omega
theorem tx_a97 {k : Int} (h : isTx k) : k + 6 < 801 := by have := (tx_F h).2.2.2.2.2.2.2.2.2.2.2.2.2; omega
theorem tx_nz {k : Int} (h : isTx k) : k ≠ 0 := by have := (tx_F h).2.2.2.2.2.2.2.2.2.2.2.2.2; omega
theorem tx_n9 {k : Int} (h : isTx k) : k < 801 := by have := (tx_F h).2.2.2.2.2.2.2.2.2.2.2.2.2; omega
abbrev actsF (k : Int) : Prop := K0 k = (0, 3) ∧ K0 (k + 1) = (24, 30) ∧ Rf0 k 0 = k + 1 ∧ 1 ≤ k ∧ k + 1 < 801 ∧ k ≠ 705 ∧ k ≠ 703
abbrev isActs (k : Int) : Prop := k = 14 ∨ k = 364
set_option maxRecDepth 100000 in
theorem acts_f14 : actsF 14 := by decide +kernel
set_option maxRecDepth 100000 in
theorem acts_f364 : actsF 364 := by decide +kernel
theorem acts_F {k : Int} (h : isActs k) : actsF k := by
  rcases h with rfl | rfl
  · exact acts_f14
  · exact acts_f364
theorem acts_c14 : isActs 14 := Or.inl rfl
theorem acts_c364 : isActs 364 := Or.inr (rfl)
theorem acts_k {k : Int} (h : isActs k) : K0 k = (0, 3) := (acts_F h).1
theorem acts_ak0 {k : Int} (h : isActs k) : K0 (k + 1) = (24, 30) := (acts_F h).2.1
theorem acts_r0 {k : Int} (M : Mem) (h : isActs k) : RfM M k 0 = k + 1 := by
  obtain ⟨h1, h2, h3, h4⟩ := (acts_F h).2.2.2
  unfold RfM
  rw [if_neg (fun q => h3 q.1), if_neg (fun q => h4 q.1)]
  exact (acts_F h).2.2.1
theorem acts_anz0 {k : Int} (h : isActs k) : k + 1 ≠ 0 := by have := (acts_F h).2.2.2; omega
theorem acts_a90 {k : Int} (h : isActs k) : k + 1 < 801 := by have := (acts_F h).2.2.2; omega
theorem acts_nz {k : Int} (h : isActs k) : k ≠ 0 := by have := (acts_F h).2.2.2; omega
theorem acts_n9 {k : Int} (h : isActs k) : k < 801 := by have := (acts_F h).2.2.2; omega
abbrev toldF (k : Int) : Prop := K0 k = (7, 8) ∧ K0 (k + 1) = (20, 8) ∧ Rf0 k 1 = k + 1 ∧ K0 (k + 2) = (20, 8) ∧ Rf0 k 2 = k + 2 ∧ K0 (k + 3) = (20, 10) ∧ Rf0 k 4 = k + 3 ∧ K0 (k + 4) = (20, 10) ∧ Rf0 k 5 = k + 4 ∧ K0 (k + 5) = (20, 15) ∧ Rf0 k 7 = k + 5 ∧ 1 ≤ k ∧ k + 5 < 801 ∧ k ≠ 705 ∧ k ≠ 703
abbrev isTold (k : Int) : Prop := k = 346 ∨ k = 696
set_option maxRecDepth 100000 in
theorem told_f346 : toldF 346 := by decide +kernel
set_option maxRecDepth 100000 in
theorem told_f696 : toldF 696 := by decide +kernel
theorem told_F {k : Int} (h : isTold k) : toldF k := by
  rcases h with rfl | rfl
  · exact told_f346
  · exact told_f696
theorem told_c346 : isTold 346 := Or.inl rfl
theorem told_c696 : isTold 696 := Or.inr (rfl)
theorem told_k {k : Int} (h : isTold k) : K0 k = (7, 8) := (told_F h).1
theorem told_ak1 {k : Int} (h : isTold k) : K0 (k + 1) = (20, 8) := (told_F h).2.1
theorem told_r1 {k : Int} (M : Mem) (h : isTold k) : RfM M k 1 = k + 1 := by
  obtain ⟨h1, h2, h3, h4⟩ := (told_F h).2.2.2.2.2.2.2.2.2.2.2
  unfold RfM
  rw [if_neg (fun q => h3 q.1), if_neg (fun q => h4 q.1)]
  exact (told_F h).2.2.1
theorem told_anz1 {k : Int} (h : isTold k) : k + 1 ≠ 0 := by have := (told_F h).2.2.2.2.2.2.2.2.2.2.2; omega
theorem told_a91 {k : Int} (h : isTold k) : k + 1 < 801 := by have := (told_F h).2.2.2.2.2.2.2.2.2.2.2; omega
theorem told_ak2 {k : Int} (h : isTold k) : K0 (k + 2) = (20, 8) := (told_F h).2.2.2.1
theorem told_r2 {k : Int} (M : Mem) (h : isTold k) : RfM M k 2 = k + 2 := by
  obtain ⟨h1, h2, h3, h4⟩ := (told_F h).2.2.2.2.2.2.2.2.2.2.2
  unfold RfM
  rw [if_neg (fun q => h3 q.1), if_neg (fun q => h4 q.1)]
  exact (told_F h).2.2.2.2.1
theorem told_anz2 {k : Int} (h : isTold k) : k + 2 ≠ 0 := by have := (told_F h).2.2.2.2.2.2.2.2.2.2.2; omega
theorem told_a92 {k : Int} (h : isTold k) : k + 2 < 801 := by have := (told_F h).2.2.2.2.2.2.2.2.2.2.2; omega
theorem told_ak4 {k : Int} (h : isTold k) : K0 (k + 3) = (20, 10) := (told_F h).2.2.2.2.2.1
theorem told_r4 {k : Int} (M : Mem) (h : isTold k) : RfM M k 4 = k + 3 := by
  obtain ⟨h1, h2, h3, h4⟩ := (told_F h).2.2.2.2.2.2.2.2.2.2.2
  unfold RfM
  rw [if_neg (fun q => h3 q.1), if_neg (fun q => h4 q.1)]
  exact (told_F h).2.2.2.2.2.2.1
theorem told_anz4 {k : Int} (h : isTold k) : k + 3 ≠ 0 := by have := (told_F h).2.2.2.2.2.2.2.2.2.2.2; omega
theorem told_a94 {k : Int} (h : isTold k) : k + 3 < 801 := by have := (told_F h).2.2.2.2.2.2.2.2.2.2.2; omega
theorem told_ak5 {k : Int} (h : isTold k) : K0 (k + 4) = (20, 10) := (told_F h).2.2.2.2.2.2.2.1
theorem told_r5 {k : Int} (M : Mem) (h : isTold k) : RfM M k 5 = k + 4 := by
  obtain ⟨h1, h2, h3, h4⟩ := (told_F h).2.2.2.2.2.2.2.2.2.2.2
  unfold RfM
  rw [if_neg (fun q => h3 q.1), if_neg (fun q => h4 q.1)]
  exact (told_F h).2.2.2.2.2.2.2.2.1
theorem told_anz5 {k : Int} (h : isTold k) : k + 4 ≠ 0 := by have := (told_F h).2.2.2.2.2.2.2.2.2.2.2; omega
theorem told_a95 {k : Int} (h : isTold k) : k + 4 < 801 := by have := (told_F h).2.2.2.2.2.2.2.2.2.2.2; omega
theorem told_ak7 {k : Int} (h : isTold k) : K0 (k + 5) = (20, 15) := (told_F h).2.2.2.2.2.2.2.2.2.1
theorem told_r7 {k : Int} (M : Mem) (h : isTold k) : RfM M k 7 = k + 5 := by
  obtain ⟨h1, h2, h3, h4⟩ := (told_F h).2.2.2.2.2.2.2.2.2.2.2
  unfold RfM
  rw [if_neg (fun q => h3 q.1), if_neg (fun q => h4 q.1)]
  exact (told_F h).2.2.2.2.2.2.2.2.2.2.1
theorem told_anz7 {k : Int} (h : isTold k) : k + 5 ≠ 0 := by have := (told_F h).2.2.2.2.2.2.2.2.2.2.2; omega
theorem told_a97 {k : Int} (h : isTold k) : k + 5 < 801 := by have := (told_F h).2.2.2.2.2.2.2.2.2.2.2; omega
theorem told_nz {k : Int} (h : isTold k) : k ≠ 0 := by have := (told_F h).2.2.2.2.2.2.2.2.2.2.2; omega
theorem told_n9 {k : Int} (h : isTold k) : k < 801 := by have := (told_F h).2.2.2.2.2.2.2.2.2.2.2; omega
abbrev wholeF (k : Int) : Prop := K0 k = (10, 5) ∧ K0 (k + 1) = (5, 17) ∧ Rf0 k 0 = k + 1 ∧ K0 (k + 12) = (0, 3) ∧ Rf0 k 1 = k + 12 ∧ K0 (k + 344) = (7, 8) ∧ Rf0 k 2 = k + 344 ∧ 1 ≤ k ∧ k + 344 < 801 ∧ k ≠ 705 ∧ k ≠ 703
abbrev isWhole (k : Int) : Prop := k = 2 ∨ k = 352
set_option maxRecDepth 100000 in
theorem whole_f2 : wholeF 2 := by decide +kernel
set_option maxRecDepth 100000 in
theorem whole_f352 : wholeF 352 := by decide +kernel
theorem whole_F {k : Int} (h : isWhole k) : wholeF k := by
  rcases h with rfl | rfl
  · exact whole_f2
  · exact whole_f352
theorem whole_c2 : isWhole 2 := Or.inl rfl
theorem whole_c352 : isWhole 352 := Or.inr (rfl)
theorem whole_k {k : Int} (h : isWhole k) : K0 k = (10, 5) := (whole_F h).1
theorem whole_ak0 {k : Int} (h : isWhole k) : K0 (k + 1) = (5, 17) := (whole_F h).2.1
theorem whole_r0 {k : Int} (M : Mem) (h : isWhole k) : RfM M k 0 = k + 1 := by
  obtain ⟨h1, h2, h3, h4⟩ := (whole_F h).2.2.2.2.2.2.2
  unfold RfM
  rw [if_neg (fun q => h3 q.1), if_neg (fun q => h4 q.1)]
  exact (whole_F h).2.2.1
theorem whole_anz0 {k : Int} (h : isWhole k) : k + 1 ≠ 0 := by have := (whole_F h).2.2.2.2.2.2.2; omega
theorem whole_a90 {k : Int} (h : isWhole k) : k + 1 < 801 := by have := (whole_F h).2.2.2.2.2.2.2; omega
theorem whole_ak1 {k : Int} (h : isWhole k) : K0 (k + 12) = (0, 3) := (whole_F h).2.2.2.1
theorem whole_r1 {k : Int} (M : Mem) (h : isWhole k) : RfM M k 1 = k + 12 := by
  obtain ⟨h1, h2, h3, h4⟩ := (whole_F h).2.2.2.2.2.2.2
  unfold RfM
  rw [if_neg (fun q => h3 q.1), if_neg (fun q => h4 q.1)]
  exact (whole_F h).2.2.2.2.1
theorem whole_anz1 {k : Int} (h : isWhole k) : k + 12 ≠ 0 := by have := (whole_F h).2.2.2.2.2.2.2; omega
theorem whole_a91 {k : Int} (h : isWhole k) : k + 12 < 801 := by have := (whole_F h).2.2.2.2.2.2.2; omega
theorem whole_ak2 {k : Int} (h : isWhole k) : K0 (k + 344) = (7, 8) := (whole_F h).2.2.2.2.2.1
theorem whole_r2 {k : Int} (M : Mem) (h : isWhole k) : RfM M k 2 = k + 344 := by
  obtain ⟨h1, h2, h3, h4⟩ := (whole_F h).2.2.2.2.2.2.2
  unfold RfM
  rw [if_neg (fun q => h3 q.1), if_neg (fun q => h4 q.1)]
  exact (whole_F h).2.2.2.2.2.2.1
theorem whole_anz2 {k : Int} (h : isWhole k) : k + 344 ≠ 0 := by have := (whole_F h).2.2.2.2.2.2.2; omega
theorem whole_a92 {k : Int} (h : isWhole k) : k + 344 < 801 := by have := (whole_F h).2.2.2.2.2.2.2; omega
theorem whole_nz {k : Int} (h : isWhole k) : k ≠ 0 := by have := (whole_F h).2.2.2.2.2.2.2; omega
theorem whole_n9 {k : Int} (h : isWhole k) : k < 801 := by have := (whole_F h).2.2.2.2.2.2.2; omega
theorem whole_o0 {k : Int} (h : isWhole k) : isSea (k + 1) := by
  rcases h with rfl | rfl
  · exact sea_c3
  · exact sea_c353
theorem whole_o1 {k : Int} (h : isWhole k) : isActs (k + 12) := by
  rcases h with rfl | rfl
  · exact acts_c14
  · exact acts_c364
theorem whole_o2 {k : Int} (h : isWhole k) : isTold (k + 344) := by
  rcases h with rfl | rfl
  · exact told_c346
  · exact told_c696
theorem acts_sea {k i : Int} (h : isActs k) (h0 : 0 ≤ i) (h1 : i < 30) : isSea (k + 2 + 11 * i) := by
  rcases h with rfl | rfl
  · exact Or.inr (Or.inr (Or.inr (Or.inl ⟨i, h0, h1, by omega⟩)))
  · exact Or.inr (Or.inr (Or.inr (Or.inr ⟨i, h0, h1, by omega⟩)))
set_option maxRecDepth 100000 in
theorem acts_el : ∀ i : Nat, i < 30 → Rf0 15 (i : Int) = 16 + 11 * (i : Int) ∧ Rf0 365 (i : Int) = 366 + 11 * (i : Int) := by decide +kernel
theorem acts_seaR {k i : Int} (M : Mem) (h : isActs k) (h0 : 0 ≤ i) (h1 : i < 30) : RfM M (k + 1) i = k + 2 + 11 * i := by
  have h2 := acts_el i.toNat (by omega)
  rw [show ((i.toNat : Nat) : Int) = i by omega] at h2
  unfold RfM
  rcases h with rfl | rfl
  · rw [if_neg (fun q => absurd q.1 (by omega)), if_neg (fun q => absurd q.1 (by omega))]
    exact h2.1.trans (by omega)
  · rw [if_neg (fun q => absurd q.1 (by omega)), if_neg (fun q => absurd q.1 (by omega))]
    exact h2.2.trans (by omega)
theorem txs_el : ∀ i : Nat, i < 4 → Rf0 702 (i : Int) = 773 + 7 * (i : Int) := by decide +kernel
theorem txs_R {i : Int} (M : Mem) (h0 : 0 ≤ i) (h1 : i < 4) : RfM M 702 i = 773 + 7 * i := by
  have h2 := txs_el i.toNat (by omega)
  rw [show ((i.toNat : Nat) : Int) = i by omega] at h2
  unfold RfM
  rw [if_neg (fun q => absurd q.1 (by omega)), if_neg (fun q => absurd q.1 (by omega))]
  exact h2
theorem txs_tx {i : Int} (h0 : 0 ≤ i) (h1 : i < 4) : isTx (773 + 7 * i) := by
  have : i = 0 ∨ i = 1 ∨ i = 2 ∨ i = 3 := by omega
  rcases this with rfl | rfl | rfl | rfl
  · exact tx_c773
  · exact tx_c780
  · exact tx_c787
  · exact tx_c794
set_option maxRecDepth 100000 in
theorem row718_el : ∀ i : Nat, i < 9 → Rf0 718 (i : Int) = 719 + (i : Int) ∧ K0 (719 + (i : Int)) = (20, 49) := by decide +kernel
theorem row718_R {i : Int} (M : Mem) (h0 : 0 ≤ i) (h1 : i < 9) : RfM M 718 i = 719 + i := by
  have h2 := row718_el i.toNat (by omega)
  rw [show ((i.toNat : Nat) : Int) = i by omega] at h2
  unfold RfM
  rw [if_neg (fun q => absurd q.1 (by omega)), if_neg (fun q => absurd q.1 (by omega))]
  exact h2.1
theorem row718_K {i : Int} (h0 : 0 ≤ i) (h1 : i < 9) : K0 (719 + i) = (20, 49) := by
  have h2 := row718_el i.toNat (by omega)
  rw [show ((i.toNat : Nat) : Int) = i by omega] at h2
  exact h2.2
set_option maxRecDepth 100000 in
theorem row728_el : ∀ i : Nat, i < 9 → Rf0 728 (i : Int) = 729 + (i : Int) ∧ K0 (729 + (i : Int)) = (20, 49) := by decide +kernel
theorem row728_R {i : Int} (M : Mem) (h0 : 0 ≤ i) (h1 : i < 9) : RfM M 728 i = 729 + i := by
  have h2 := row728_el i.toNat (by omega)
  rw [show ((i.toNat : Nat) : Int) = i by omega] at h2
  unfold RfM
  rw [if_neg (fun q => absurd q.1 (by omega)), if_neg (fun q => absurd q.1 (by omega))]
  exact h2.1
theorem row728_K {i : Int} (h0 : 0 ≤ i) (h1 : i < 9) : K0 (729 + i) = (20, 49) := by
  have h2 := row728_el i.toNat (by omega)
  rw [show ((i.toNat : Nat) : Int) = i by omega] at h2
  exact h2.2
set_option maxRecDepth 100000 in
theorem row738_el : ∀ i : Nat, i < 9 → Rf0 738 (i : Int) = 739 + (i : Int) ∧ K0 (739 + (i : Int)) = (20, 49) := by decide +kernel
theorem row738_R {i : Int} (M : Mem) (h0 : 0 ≤ i) (h1 : i < 9) : RfM M 738 i = 739 + i := by
  have h2 := row738_el i.toNat (by omega)
  rw [show ((i.toNat : Nat) : Int) = i by omega] at h2
  unfold RfM
  rw [if_neg (fun q => absurd q.1 (by omega)), if_neg (fun q => absurd q.1 (by omega))]
  exact h2.1
theorem row738_K {i : Int} (h0 : 0 ≤ i) (h1 : i < 9) : K0 (739 + i) = (20, 49) := by
  have h2 := row738_el i.toNat (by omega)
  rw [show ((i.toNat : Nat) : Int) = i by omega] at h2
  exact h2.2
set_option maxRecDepth 100000 in
theorem row751_el : ∀ i : Nat, i < 4 → Rf0 751 (i : Int) = 752 + (i : Int) ∧ K0 (752 + (i : Int)) = (20, 5) := by decide +kernel
theorem row751_R {i : Int} (M : Mem) (h0 : 0 ≤ i) (h1 : i < 4) : RfM M 751 i = 752 + i := by
  have h2 := row751_el i.toNat (by omega)
  rw [show ((i.toNat : Nat) : Int) = i by omega] at h2
  unfold RfM
  rw [if_neg (fun q => absurd q.1 (by omega)), if_neg (fun q => absurd q.1 (by omega))]
  exact h2.1
theorem row751_K {i : Int} (h0 : 0 ≤ i) (h1 : i < 4) : K0 (752 + i) = (20, 5) := by
  have h2 := row751_el i.toNat (by omega)
  rw [show ((i.toNat : Nat) : Int) = i by omega] at h2
  exact h2.2
theorem kd_1 : K0 1 = (11, 12) := by decide +kernel
theorem rf_1_0 (M : Mem) : RfM M 1 0 = 2 := by
  show (if _ then _ else _) = _
  rw [if_neg (by omega), if_neg (by omega)]
  decide +kernel
theorem rf_1_1 (M : Mem) : RfM M 1 1 = 352 := by
  show (if _ then _ else _) = _
  rw [if_neg (by omega), if_neg (by omega)]
  decide +kernel
theorem rf_1_2 (M : Mem) : RfM M 1 2 = 3 := by
  show (if _ then _ else _) = _
  rw [if_neg (by omega), if_neg (by omega)]
  decide +kernel
theorem rf_1_3 (M : Mem) : RfM M 1 3 = 346 := by
  show (if _ then _ else _) = _
  rw [if_neg (by omega), if_neg (by omega)]
  decide +kernel
theorem rf_1_4 (M : Mem) : RfM M 1 4 = 702 := by
  show (if _ then _ else _) = _
  rw [if_neg (by omega), if_neg (by omega)]
  decide +kernel
theorem rf_1_5 (M : Mem) : RfM M 1 5 = 703 := by
  show (if _ then _ else _) = _
  rw [if_neg (by omega), if_neg (by omega)]
  decide +kernel
theorem rf_1_6 (M : Mem) : RfM M 1 6 = 705 := by
  show (if _ then _ else _) = _
  rw [if_neg (by omega), if_neg (by omega)]
  decide +kernel
theorem rf_1_7 (M : Mem) : RfM M 1 7 = 714 := by
  show (if _ then _ else _) = _
  rw [if_neg (by omega), if_neg (by omega)]
  decide +kernel
theorem rf_1_8 (M : Mem) : RfM M 1 8 = 717 := by
  show (if _ then _ else _) = _
  rw [if_neg (by omega), if_neg (by omega)]
  decide +kernel
theorem rf_1_9 (M : Mem) : RfM M 1 9 = 748 := by
  show (if _ then _ else _) = _
  rw [if_neg (by omega), if_neg (by omega)]
  decide +kernel
theorem rf_1_10 (M : Mem) : RfM M 1 10 = 757 := by
  show (if _ then _ else _) = _
  rw [if_neg (by omega), if_neg (by omega)]
  decide +kernel
theorem rf_1_11 (M : Mem) : RfM M 1 11 = 762 := by
  show (if _ then _ else _) = _
  rw [if_neg (by omega), if_neg (by omega)]
  decide +kernel
theorem kd_2 : K0 2 = (10, 5) := by decide +kernel
theorem rf_2_0 (M : Mem) : RfM M 2 0 = 3 := by
  show (if _ then _ else _) = _
  rw [if_neg (by omega), if_neg (by omega)]
  decide +kernel
theorem rf_2_1 (M : Mem) : RfM M 2 1 = 14 := by
  show (if _ then _ else _) = _
  rw [if_neg (by omega), if_neg (by omega)]
  decide +kernel
theorem rf_2_2 (M : Mem) : RfM M 2 2 = 346 := by
  show (if _ then _ else _) = _
  rw [if_neg (by omega), if_neg (by omega)]
  decide +kernel
theorem kd_3 : K0 3 = (5, 17) := by decide +kernel
theorem rf_3_1 (M : Mem) : RfM M 3 1 = 4 := by
  show (if _ then _ else _) = _
  rw [if_neg (by omega), if_neg (by omega)]
  decide +kernel
theorem rf_3_2 (M : Mem) : RfM M 3 2 = 5 := by
  show (if _ then _ else _) = _
  rw [if_neg (by omega), if_neg (by omega)]
  decide +kernel
theorem rf_3_3 (M : Mem) : RfM M 3 3 = 6 := by
  show (if _ then _ else _) = _
  rw [if_neg (by omega), if_neg (by omega)]
  decide +kernel
theorem rf_3_4 (M : Mem) : RfM M 3 4 = 7 := by
  show (if _ then _ else _) = _
  rw [if_neg (by omega), if_neg (by omega)]
  decide +kernel
theorem rf_3_5 (M : Mem) : RfM M 3 5 = 8 := by
  show (if _ then _ else _) = _
  rw [if_neg (by omega), if_neg (by omega)]
  decide +kernel
theorem rf_3_7 (M : Mem) : RfM M 3 7 = 9 := by
  show (if _ then _ else _) = _
  rw [if_neg (by omega), if_neg (by omega)]
  decide +kernel
theorem rf_3_8 (M : Mem) : RfM M 3 8 = 10 := by
  show (if _ then _ else _) = _
  rw [if_neg (by omega), if_neg (by omega)]
  decide +kernel
theorem rf_3_9 (M : Mem) : RfM M 3 9 = 11 := by
  show (if _ then _ else _) = _
  rw [if_neg (by omega), if_neg (by omega)]
  decide +kernel
theorem rf_3_10 (M : Mem) : RfM M 3 10 = 12 := by
  show (if _ then _ else _) = _
  rw [if_neg (by omega), if_neg (by omega)]
  decide +kernel
theorem rf_3_16 (M : Mem) : RfM M 3 16 = 13 := by
  show (if _ then _ else _) = _
  rw [if_neg (by omega), if_neg (by omega)]
  decide +kernel
theorem kd_14 : K0 14 = (0, 3) := by decide +kernel
theorem rf_14_0 (M : Mem) : RfM M 14 0 = 15 := by
  show (if _ then _ else _) = _
  rw [if_neg (by omega), if_neg (by omega)]
  decide +kernel
theorem kd_346 : K0 346 = (7, 8) := by decide +kernel
theorem rf_346_1 (M : Mem) : RfM M 346 1 = 347 := by
  show (if _ then _ else _) = _
  rw [if_neg (by omega), if_neg (by omega)]
  decide +kernel
theorem rf_346_2 (M : Mem) : RfM M 346 2 = 348 := by
  show (if _ then _ else _) = _
  rw [if_neg (by omega), if_neg (by omega)]
  decide +kernel
theorem rf_346_4 (M : Mem) : RfM M 346 4 = 349 := by
  show (if _ then _ else _) = _
  rw [if_neg (by omega), if_neg (by omega)]
  decide +kernel
theorem rf_346_5 (M : Mem) : RfM M 346 5 = 350 := by
  show (if _ then _ else _) = _
  rw [if_neg (by omega), if_neg (by omega)]
  decide +kernel
theorem rf_346_7 (M : Mem) : RfM M 346 7 = 351 := by
  show (if _ then _ else _) = _
  rw [if_neg (by omega), if_neg (by omega)]
  decide +kernel
theorem kd_352 : K0 352 = (10, 5) := by decide +kernel
theorem rf_352_0 (M : Mem) : RfM M 352 0 = 353 := by
  show (if _ then _ else _) = _
  rw [if_neg (by omega), if_neg (by omega)]
  decide +kernel
theorem rf_352_1 (M : Mem) : RfM M 352 1 = 364 := by
  show (if _ then _ else _) = _
  rw [if_neg (by omega), if_neg (by omega)]
  decide +kernel
theorem rf_352_2 (M : Mem) : RfM M 352 2 = 696 := by
  show (if _ then _ else _) = _
  rw [if_neg (by omega), if_neg (by omega)]
  decide +kernel
theorem kd_353 : K0 353 = (5, 17) := by decide +kernel
theorem rf_353_1 (M : Mem) : RfM M 353 1 = 354 := by
  show (if _ then _ else _) = _
  rw [if_neg (by omega), if_neg (by omega)]
  decide +kernel
theorem rf_353_2 (M : Mem) : RfM M 353 2 = 355 := by
  show (if _ then _ else _) = _
  rw [if_neg (by omega), if_neg (by omega)]
  decide +kernel
theorem rf_353_3 (M : Mem) : RfM M 353 3 = 356 := by
  show (if _ then _ else _) = _
  rw [if_neg (by omega), if_neg (by omega)]
  decide +kernel
theorem rf_353_4 (M : Mem) : RfM M 353 4 = 357 := by
  show (if _ then _ else _) = _
  rw [if_neg (by omega), if_neg (by omega)]
  decide +kernel
theorem rf_353_5 (M : Mem) : RfM M 353 5 = 358 := by
  show (if _ then _ else _) = _
  rw [if_neg (by omega), if_neg (by omega)]
  decide +kernel
theorem rf_353_7 (M : Mem) : RfM M 353 7 = 359 := by
  show (if _ then _ else _) = _
  rw [if_neg (by omega), if_neg (by omega)]
  decide +kernel
theorem rf_353_8 (M : Mem) : RfM M 353 8 = 360 := by
  show (if _ then _ else _) = _
  rw [if_neg (by omega), if_neg (by omega)]
  decide +kernel
theorem rf_353_9 (M : Mem) : RfM M 353 9 = 361 := by
  show (if _ then _ else _) = _
  rw [if_neg (by omega), if_neg (by omega)]
  decide +kernel
theorem rf_353_10 (M : Mem) : RfM M 353 10 = 362 := by
  show (if _ then _ else _) = _
  rw [if_neg (by omega), if_neg (by omega)]
  decide +kernel
theorem rf_353_16 (M : Mem) : RfM M 353 16 = 363 := by
  show (if _ then _ else _) = _
  rw [if_neg (by omega), if_neg (by omega)]
  decide +kernel
theorem kd_364 : K0 364 = (0, 3) := by decide +kernel
theorem rf_364_0 (M : Mem) : RfM M 364 0 = 365 := by
  show (if _ then _ else _) = _
  rw [if_neg (by omega), if_neg (by omega)]
  decide +kernel
theorem kd_696 : K0 696 = (7, 8) := by decide +kernel
theorem rf_696_1 (M : Mem) : RfM M 696 1 = 697 := by
  show (if _ then _ else _) = _
  rw [if_neg (by omega), if_neg (by omega)]
  decide +kernel
theorem rf_696_2 (M : Mem) : RfM M 696 2 = 698 := by
  show (if _ then _ else _) = _
  rw [if_neg (by omega), if_neg (by omega)]
  decide +kernel
theorem rf_696_4 (M : Mem) : RfM M 696 4 = 699 := by
  show (if _ then _ else _) = _
  rw [if_neg (by omega), if_neg (by omega)]
  decide +kernel
theorem rf_696_5 (M : Mem) : RfM M 696 5 = 700 := by
  show (if _ then _ else _) = _
  rw [if_neg (by omega), if_neg (by omega)]
  decide +kernel
theorem rf_696_7 (M : Mem) : RfM M 696 7 = 701 := by
  show (if _ then _ else _) = _
  rw [if_neg (by omega), if_neg (by omega)]
  decide +kernel
theorem kd_703 : K0 703 = (4, 10) := by decide +kernel
theorem rf_703_0 (M : Mem) : RfM M 703 0 = 704 := by
  show (if _ then _ else _) = _
  rw [if_neg (by omega), if_neg (by omega)]
  decide +kernel
theorem kd_705 : K0 705 = (2, 3) := by decide +kernel
theorem rf_705_0 (M : Mem) : RfM M 705 0 = 706 := by
  show (if _ then _ else _) = _
  rw [if_neg (by omega), if_neg (by omega)]
  decide +kernel
theorem rf_705_2 (M : Mem) : RfM M 705 2 = 713 := by
  show (if _ then _ else _) = _
  rw [if_neg (by omega), if_neg (by omega)]
  decide +kernel
theorem kd_714 : K0 714 = (1, 3) := by decide +kernel
theorem rf_714_0 (M : Mem) : RfM M 714 0 = 705 := by
  show (if _ then _ else _) = _
  rw [if_neg (by omega), if_neg (by omega)]
  decide +kernel
theorem rf_714_1 (M : Mem) : RfM M 714 1 = 715 := by
  show (if _ then _ else _) = _
  rw [if_neg (by omega), if_neg (by omega)]
  decide +kernel
theorem rf_714_2 (M : Mem) : RfM M 714 2 = 716 := by
  show (if _ then _ else _) = _
  rw [if_neg (by omega), if_neg (by omega)]
  decide +kernel
theorem kd_717 : K0 717 = (9, 4) := by decide +kernel
theorem rf_717_0 (M : Mem) : RfM M 717 0 = 705 := by
  show (if _ then _ else _) = _
  rw [if_neg (by omega), if_neg (by omega)]
  decide +kernel
theorem rf_717_1 (M : Mem) : RfM M 717 1 = 718 := by
  show (if _ then _ else _) = _
  rw [if_neg (by omega), if_neg (by omega)]
  decide +kernel
theorem rf_717_2 (M : Mem) : RfM M 717 2 = 728 := by
  show (if _ then _ else _) = _
  rw [if_neg (by omega), if_neg (by omega)]
  decide +kernel
theorem rf_717_3 (M : Mem) : RfM M 717 3 = 738 := by
  show (if _ then _ else _) = _
  rw [if_neg (by omega), if_neg (by omega)]
  decide +kernel
theorem kd_748 : K0 748 = (3, 8) := by decide +kernel
theorem rf_748_0 (M : Mem) : RfM M 748 0 = 705 := by
  show (if _ then _ else _) = _
  rw [if_neg (by omega), if_neg (by omega)]
  decide +kernel
theorem rf_748_1 (M : Mem) : RfM M 748 1 = 749 := by
  show (if _ then _ else _) = _
  rw [if_neg (by omega), if_neg (by omega)]
  decide +kernel
theorem rf_748_2 (M : Mem) : RfM M 748 2 = 750 := by
  show (if _ then _ else _) = _
  rw [if_neg (by omega), if_neg (by omega)]
  decide +kernel
theorem rf_748_5 (M : Mem) : RfM M 748 5 = 751 := by
  show (if _ then _ else _) = _
  rw [if_neg (by omega), if_neg (by omega)]
  decide +kernel
theorem rf_748_7 (M : Mem) : RfM M 748 7 = 756 := by
  show (if _ then _ else _) = _
  rw [if_neg (by omega), if_neg (by omega)]
  decide +kernel
theorem kd_757 : K0 757 = (8, 4) := by decide +kernel
theorem rf_757_0 (M : Mem) : RfM M 757 0 = 758 := by
  show (if _ then _ else _) = _
  rw [if_neg (by omega), if_neg (by omega)]
  decide +kernel
theorem rf_757_1 (M : Mem) : RfM M 757 1 = 759 := by
  show (if _ then _ else _) = _
  rw [if_neg (by omega), if_neg (by omega)]
  decide +kernel
theorem rf_757_2 (M : Mem) : RfM M 757 2 = 760 := by
  show (if _ then _ else _) = _
  rw [if_neg (by omega), if_neg (by omega)]
  decide +kernel
theorem rf_757_3 (M : Mem) : RfM M 757 3 = 761 := by
  show (if _ then _ else _) = _
  rw [if_neg (by omega), if_neg (by omega)]
  decide +kernel
theorem kd_762 : K0 762 = (5, 17) := by decide +kernel
theorem rf_762_1 (M : Mem) : RfM M 762 1 = 763 := by
  show (if _ then _ else _) = _
  rw [if_neg (by omega), if_neg (by omega)]
  decide +kernel
theorem rf_762_2 (M : Mem) : RfM M 762 2 = 764 := by
  show (if _ then _ else _) = _
  rw [if_neg (by omega), if_neg (by omega)]
  decide +kernel
theorem rf_762_3 (M : Mem) : RfM M 762 3 = 765 := by
  show (if _ then _ else _) = _
  rw [if_neg (by omega), if_neg (by omega)]
  decide +kernel
theorem rf_762_4 (M : Mem) : RfM M 762 4 = 766 := by
  show (if _ then _ else _) = _
  rw [if_neg (by omega), if_neg (by omega)]
  decide +kernel
theorem rf_762_5 (M : Mem) : RfM M 762 5 = 767 := by
  show (if _ then _ else _) = _
  rw [if_neg (by omega), if_neg (by omega)]
  decide +kernel
theorem rf_762_7 (M : Mem) : RfM M 762 7 = 768 := by
  show (if _ then _ else _) = _
  rw [if_neg (by omega), if_neg (by omega)]
  decide +kernel
theorem rf_762_8 (M : Mem) : RfM M 762 8 = 769 := by
  show (if _ then _ else _) = _
  rw [if_neg (by omega), if_neg (by omega)]
  decide +kernel
theorem rf_762_9 (M : Mem) : RfM M 762 9 = 770 := by
  show (if _ then _ else _) = _
  rw [if_neg (by omega), if_neg (by omega)]
  decide +kernel
theorem rf_762_10 (M : Mem) : RfM M 762 10 = 771 := by
  show (if _ then _ else _) = _
  rw [if_neg (by omega), if_neg (by omega)]
  decide +kernel
theorem rf_762_16 (M : Mem) : RfM M 762 16 = 772 := by
  show (if _ then _ else _) = _
  rw [if_neg (by omega), if_neg (by omega)]
  decide +kernel
theorem kd_801 : K0 801 = (12, 43) := by decide +kernel
theorem rf_801_0 (M : Mem) : RfM M 801 0 = 802 := by
  show (if _ then _ else _) = _
  rw [if_neg (by omega), if_neg (by omega)]
  decide +kernel
theorem rf_801_1 (M : Mem) : RfM M 801 1 = 803 := by
  show (if _ then _ else _) = _
  rw [if_neg (by omega), if_neg (by omega)]
  decide +kernel
theorem rf_801_2 (M : Mem) : RfM M 801 2 = 804 := by
  show (if _ then _ else _) = _
  rw [if_neg (by omega), if_neg (by omega)]
  decide +kernel
theorem rf_801_3 (M : Mem) : RfM M 801 3 = 805 := by
  show (if _ then _ else _) = _
  rw [if_neg (by omega), if_neg (by omega)]
  decide +kernel
theorem rf_801_15 (M : Mem) : RfM M 801 15 = 806 := by
  show (if _ then _ else _) = _
  rw [if_neg (by omega), if_neg (by omega)]
  decide +kernel
theorem rf_801_25 (M : Mem) : RfM M 801 25 = 807 := by
  show (if _ then _ else _) = _
  rw [if_neg (by omega), if_neg (by omega)]
  decide +kernel
theorem rf_801_26 (M : Mem) : RfM M 801 26 = 808 := by
  show (if _ then _ else _) = _
  rw [if_neg (by omega), if_neg (by omega)]
  decide +kernel
theorem rf_801_27 (M : Mem) : RfM M 801 27 = 809 := by
  show (if _ then _ else _) = _
  rw [if_neg (by omega), if_neg (by omega)]
  decide +kernel
theorem rf_801_30 (M : Mem) : RfM M 801 30 = 810 := by
  show (if _ then _ else _) = _
  rw [if_neg (by omega), if_neg (by omega)]
  decide +kernel
theorem rf_801_31 (M : Mem) : RfM M 801 31 = 811 := by
  show (if _ then _ else _) = _
  rw [if_neg (by omega), if_neg (by omega)]
  decide +kernel
theorem rf_801_32 (M : Mem) : RfM M 801 32 = 812 := by
  show (if _ then _ else _) = _
  rw [if_neg (by omega), if_neg (by omega)]
  decide +kernel
theorem rf_801_33 (M : Mem) : RfM M 801 33 = 813 := by
  show (if _ then _ else _) = _
  rw [if_neg (by omega), if_neg (by omega)]
  decide +kernel
theorem rf_801_34 (M : Mem) : RfM M 801 34 = 814 := by
  show (if _ then _ else _) = _
  rw [if_neg (by omega), if_neg (by omega)]
  decide +kernel
theorem rf_801_35 (M : Mem) : RfM M 801 35 = 815 := by
  show (if _ then _ else _) = _
  rw [if_neg (by omega), if_neg (by omega)]
  decide +kernel
theorem rf_801_36 (M : Mem) : RfM M 801 36 = 816 := by
  show (if _ then _ else _) = _
  rw [if_neg (by omega), if_neg (by omega)]
  decide +kernel
theorem rf_801_37 (M : Mem) : RfM M 801 37 = 817 := by
  show (if _ then _ else _) = _
  rw [if_neg (by omega), if_neg (by omega)]
  decide +kernel
theorem rf_801_38 (M : Mem) : RfM M 801 38 = 818 := by
  show (if _ then _ else _) = _
  rw [if_neg (by omega), if_neg (by omega)]
  decide +kernel
theorem rf_801_39 (M : Mem) : RfM M 801 39 = 819 := by
  show (if _ then _ else _) = _
  rw [if_neg (by omega), if_neg (by omega)]
  decide +kernel
theorem rf_801_40 (M : Mem) : RfM M 801 40 = 820 := by
  show (if _ then _ else _) = _
  rw [if_neg (by omega), if_neg (by omega)]
  decide +kernel
theorem rf_801_41 (M : Mem) : RfM M 801 41 = 821 := by
  show (if _ then _ else _) = _
  rw [if_neg (by omega), if_neg (by omega)]
  decide +kernel
theorem rf_801_42 (M : Mem) : RfM M 801 42 = 822 := by
  show (if _ then _ else _) = _
  rw [if_neg (by omega), if_neg (by omega)]
  decide +kernel
theorem kd_4 : K0 4 = (20, 9) := by decide +kernel
theorem kd_5 : K0 5 = (20, 9) := by decide +kernel
theorem kd_6 : K0 6 = (20, 9) := by decide +kernel
theorem kd_7 : K0 7 = (20, 9) := by decide +kernel
theorem kd_8 : K0 8 = (20, 9) := by decide +kernel
theorem kd_9 : K0 9 = (20, 7) := by decide +kernel
theorem kd_10 : K0 10 = (20, 7) := by decide +kernel
theorem kd_11 : K0 11 = (20, 7) := by decide +kernel
theorem kd_12 : K0 12 = (20, 7) := by decide +kernel
theorem kd_13 : K0 13 = (20, 40) := by decide +kernel
theorem kd_15 : K0 15 = (24, 30) := by decide +kernel
theorem kd_347 : K0 347 = (20, 8) := by decide +kernel
theorem kd_348 : K0 348 = (20, 8) := by decide +kernel
theorem kd_349 : K0 349 = (20, 10) := by decide +kernel
theorem kd_350 : K0 350 = (20, 10) := by decide +kernel
theorem kd_351 : K0 351 = (20, 15) := by decide +kernel
theorem kd_354 : K0 354 = (20, 9) := by decide +kernel
theorem kd_355 : K0 355 = (20, 9) := by decide +kernel
theorem kd_356 : K0 356 = (20, 9) := by decide +kernel
theorem kd_357 : K0 357 = (20, 9) := by decide +kernel
theorem kd_358 : K0 358 = (20, 9) := by decide +kernel
theorem kd_359 : K0 359 = (20, 7) := by decide +kernel
theorem kd_360 : K0 360 = (20, 7) := by decide +kernel
theorem kd_361 : K0 361 = (20, 7) := by decide +kernel
theorem kd_362 : K0 362 = (20, 7) := by decide +kernel
theorem kd_363 : K0 363 = (20, 40) := by decide +kernel
theorem kd_365 : K0 365 = (24, 30) := by decide +kernel
theorem kd_697 : K0 697 = (20, 8) := by decide +kernel
theorem kd_698 : K0 698 = (20, 8) := by decide +kernel
theorem kd_699 : K0 699 = (20, 10) := by decide +kernel
theorem kd_700 : K0 700 = (20, 10) := by decide +kernel
theorem kd_701 : K0 701 = (20, 15) := by decide +kernel
theorem kd_702 : K0 702 = (25, 4) := by decide +kernel
theorem kd_704 : K0 704 = (20, 300) := by decide +kernel
theorem kd_713 : K0 713 = (20, 64) := by decide +kernel
theorem kd_715 : K0 715 = (20, 9) := by decide +kernel
theorem kd_716 : K0 716 = (20, 9) := by decide +kernel
theorem kd_718 : K0 718 = (26, 9) := by decide +kernel
theorem kd_728 : K0 728 = (26, 9) := by decide +kernel
theorem kd_738 : K0 738 = (26, 9) := by decide +kernel
theorem kd_749 : K0 749 = (20, 4) := by decide +kernel
theorem kd_750 : K0 750 = (20, 4) := by decide +kernel
theorem kd_751 : K0 751 = (26, 4) := by decide +kernel
theorem kd_756 : K0 756 = (20, 4) := by decide +kernel
theorem kd_758 : K0 758 = (20, 9) := by decide +kernel
theorem kd_759 : K0 759 = (20, 10) := by decide +kernel
theorem kd_760 : K0 760 = (20, 10) := by decide +kernel
theorem kd_761 : K0 761 = (20, 9) := by decide +kernel
theorem kd_763 : K0 763 = (20, 9) := by decide +kernel
theorem kd_764 : K0 764 = (20, 9) := by decide +kernel
theorem kd_765 : K0 765 = (20, 9) := by decide +kernel
theorem kd_766 : K0 766 = (20, 9) := by decide +kernel
theorem kd_767 : K0 767 = (20, 9) := by decide +kernel
theorem kd_768 : K0 768 = (20, 7) := by decide +kernel
theorem kd_769 : K0 769 = (20, 7) := by decide +kernel
theorem kd_770 : K0 770 = (20, 7) := by decide +kernel
theorem kd_771 : K0 771 = (20, 7) := by decide +kernel
theorem kd_772 : K0 772 = (20, 40) := by decide +kernel
theorem kd_802 : K0 802 = (20, 10606) := by decide +kernel
theorem kd_803 : K0 803 = (20, 10606) := by decide +kernel
theorem kd_804 : K0 804 = (20, 2916) := by decide +kernel
theorem kd_805 : K0 805 = (20, 300) := by decide +kernel
theorem kd_806 : K0 806 = (20, 160) := by decide +kernel
theorem kd_807 : K0 807 = (23, 330) := by decide +kernel
theorem kd_808 : K0 808 = (21, 330) := by decide +kernel
theorem kd_809 : K0 809 = (21, 7) := by decide +kernel
theorem kd_810 : K0 810 = (20, 9) := by decide +kernel
theorem kd_811 : K0 811 = (20, 9) := by decide +kernel
theorem kd_812 : K0 812 = (20, 130) := by decide +kernel
theorem kd_813 : K0 813 = (20, 384) := by decide +kernel
theorem kd_814 : K0 814 = (20, 441) := by decide +kernel
theorem kd_815 : K0 815 = (20, 8) := by decide +kernel
theorem kd_816 : K0 816 = (20, 7) := by decide +kernel
theorem kd_817 : K0 817 = (20, 7) := by decide +kernel
theorem kd_818 : K0 818 = (20, 4) := by decide +kernel
theorem kd_819 : K0 819 = (20, 4) := by decide +kernel
theorem kd_820 : K0 820 = (20, 10) := by decide +kernel
theorem kd_821 : K0 821 = (20, 10) := by decide +kernel
theorem kd_822 : K0 822 = (20, 7) := by decide +kernel
theorem rf_705_1 (M N : Mem) : RfM (mx M N) 705 1 = M 0 0 := by
  show (if _ then _ else _) = _
  rw [if_pos ⟨rfl, rfl⟩]
  exact mxL (by omega)
theorem rf_703_4 (M N : Mem) : RfM (mx M N) 703 4 = M 0 1 := by
  show (if _ then _ else _) = _
  rw [if_neg (by omega), if_pos ⟨rfl, rfl⟩]
  exact mxL (by omega)
