set_option linter.unusedVariables false
set_option linter.unusedSimpArgs false
/-! wrecks in the order of reigns: places taken out of a row, their reigns always higher -/
def pCand (a : Nat → Int) (m : Nat) (p : List Nat) : Prop := p.Pairwise (fun i j => i < j ∧ a i < a j) ∧ ∀ x ∈ p, x < m
/-- one row before another, by the first that differs -/
def Low : List Int → List Int → Prop
  | x :: xs, y :: ys => x < y ∨ (x = y ∧ Low xs ys)
  | _, _ => False
theorem pCand_cons {a : Nat → Int} {m i : Nat} {p : List Nat} : pCand a m (i :: p) ↔ (i < m ∧ (∀ j ∈ p, i < j ∧ a i < a j) ∧ pCand a m p) := by
  unfold pCand
  rw [List.pairwise_cons]
  constructor
  · rintro ⟨⟨h1, h2⟩, h3⟩
    exact ⟨h3 i (List.mem_cons_self), h1, h2, fun x hx => h3 x (List.mem_cons_of_mem _ hx)⟩
  · rintro ⟨h1, h2, h3, h4⟩
    refine ⟨⟨h2, h3⟩, fun x hx => ?_⟩
    rcases List.mem_cons.mp hx with e | e
    · rw [e]; exact h1
    · exact h4 x e
theorem pCand_two {a : Nat → Int} {m i j : Nat} {p : List Nat} (hi : i < j) (ha : a i < a j) (h : pCand a m (j :: p)) : pCand a m (i :: j :: p) := by
  have g := pCand_cons.mp h
  refine pCand_cons.mpr ⟨by omega, fun x hx => ?_, h⟩
  rcases List.mem_cons.mp hx with e | e
  · rw [e]; exact ⟨hi, ha⟩
  · have := g.2.1 x e
    omega
theorem pCand_sub {a : Nat → Int} {m : Nat} {p q : List Nat} (h : pCand a m p) (s : q.Sublist p) : pCand a m q :=
  ⟨h.1.sublist s, fun x hx => h.2 x (s.subset hx)⟩
/-- how long the longest is that begins at i -/
def pLen (a : Nat → Int) (m i : Nat) (v : Int) : Prop := (∃ p, pCand a m (i :: p) ∧ ((i :: p).length : Int) = v) ∧ ∀ p, pCand a m (i :: p) → ((i :: p).length : Int) ≤ v
theorem pLen_cut {a : Nat → Int} {m i : Nat} {v : Int} (h : pLen a m i v) {k : Nat} (hk : 1 ≤ k) (hv : (k : Int) ≤ v) : ∃ p, pCand a m (i :: p) ∧ (i :: p).length = k := by
  obtain ⟨⟨p, h1, h2⟩, -⟩ := h
  obtain ⟨k, rfl⟩ : ∃ n, k = n + 1 := ⟨k - 1, by omega⟩
  rw [List.length_cons] at h2
  refine ⟨p.take k, pCand_sub h1 (List.Sublist.cons₂ _ (List.take_sublist k p)), ?_⟩
  rw [List.length_cons, List.length_take]
  omega
theorem pLen_mono {a : Nat → Int} {m i : Nat} {v : Int} (h : pLen a m i v) : 1 ≤ v := by
  obtain ⟨⟨p, h1, h2⟩, -⟩ := h
  rw [List.length_cons] at h2
  omega
/-- the least of the longest, by the first that differs -/
def pBest (a : Nat → Int) (m : Nat) (x : Int) (f : Nat) (R : List Nat) : Prop :=
  pCand a m R ∧ (∀ y ∈ R, f ≤ y ∧ x < a y) ∧ ∀ p, pCand a m p → p.length = R.length → (∀ y ∈ p, f ≤ y ∧ x < a y) → ¬ Low (p.map a) (R.map a)
/-- the first of it -/
theorem pBest_head {a : Nat → Int} {m f r c : Nat} {x : Int} {R : List Nat} {ro : Nat → Int} (hr : ∀ i, i < m → pLen a m i (ro i)) (h : pBest a m x f (r :: R))
    (c0 : f ≤ c ∧ c < m ∧ x < a c ∧ ((R.length + 1 : Nat) : Int) ≤ ro c) (c1 : ∀ i, f ≤ i → i < m → x < a i → ((R.length + 1 : Nat) : Int) ≤ ro i → a c ≤ a i ∧ (a c = a i → c ≤ i)) :
    a c = a r ∧ pBest a m (a c) (c + 1) R := by
  obtain ⟨h1, h2, h3⟩ := h
  have g := pCand_cons.mp h1
  have hr0 := h2 r List.mem_cons_self
  have len := (hr r g.1).2 R h1
  rw [List.length_cons] at len
  have k := c1 r hr0.1 g.1 hr0.2 len
  obtain ⟨p, p1, p2⟩ := pLen_cut (hr c c0.2.1) (k := R.length + 1) (by omega) c0.2.2.2
  have gp := pCand_cons.mp p1
  have nl := h3 (c :: p) p1 (by rw [p2, List.length_cons]) (fun y hy => by
    rcases List.mem_cons.mp hy with e | e
    · rw [e]; exact ⟨c0.1, c0.2.2.1⟩
    · have := gp.2.1 y e
      omega)
  have ec : a c = a r := by
    by_cases q : a c < a r
    · exact absurd (Or.inl q) nl
    · omega
  have cr := k.2 ec
  refine ⟨ec, g.2.2, fun y hy => ?_, fun p' q1 q2 q3 q4 => ?_⟩
  · have := g.2.1 y hy
    omega
  · refine h3 (c :: p') (pCand_cons.mpr ⟨c0.2.1, fun j hj => ?_, q1⟩) (by rw [List.length_cons, List.length_cons, q2]) (fun y hy => ?_) (Or.inr ⟨ec, q4⟩)
    · have := q3 j hj
      omega
    · rcases List.mem_cons.mp hy with e | e
      · rw [e]; exact ⟨c0.1, c0.2.2.1⟩
      · have := q3 y e
        omega
/-- a set of places, in their order -/
def pEls (m s : Nat) : List Nat := (List.range m).filter (fun i => s.testBit i)
theorem pEls_mem {m s x : Nat} : x ∈ pEls m s ↔ x < m ∧ s.testBit x = true := by
  unfold pEls
  rw [List.mem_filter, List.mem_range]
theorem pEls_up (m s : Nat) : (pEls m s).Pairwise (· < ·) := List.Pairwise.filter _ List.pairwise_lt_range
theorem pEls_succ (m s : Nat) : pEls (m + 1) s = pEls m s ++ (if s.testBit m = true then [m] else []) := by
  unfold pEls
  rw [List.range_succ, List.filter_append]
  cases h : s.testBit m <;> simp [h]
theorem pEls_len {m s : Nat} (hm : m ≤ 10) (hs : s < 2 ^ m) : (pEls m s).length = pCnt s := by
  have key : ∀ d, m ≤ d → ((List.range d).filter (fun i => s.testBit i)).length = (pEls m s).length := by
    intro d
    induction d with
    | zero => intro hd; rw [show m = 0 by omega]; rfl
    | succ d ih =>
      intro hd
      by_cases c : m = d + 1
      · rw [c]; rfl
      · rw [List.range_succ, List.filter_append, List.length_append, ih (by omega)]
        have : s.testBit d = false := p_hi hs (by omega)
        simp [this]
  unfold pCnt
  rw [List.countP_eq_length_filter]
  exact (key 10 hm).symm
theorem p_sorted : ∀ (p q : List Nat), p.Pairwise (· < ·) → q.Pairwise (· < ·) → (∀ x, x ∈ p ↔ x ∈ q) → p = q
  | [], [], _, _, _ => rfl
  | [], y :: q, _, _, h => absurd ((h y).mpr List.mem_cons_self) (by simp)
  | x :: p, [], _, _, h => absurd ((h x).mp List.mem_cons_self) (by simp)
  | x :: p, y :: q, hp, hq, h => by
    rw [List.pairwise_cons] at hp hq
    have xy : x = y := by
      have h1 := List.mem_cons.mp ((h x).mp List.mem_cons_self)
      have h2 := List.mem_cons.mp ((h y).mpr List.mem_cons_self)
      rcases h1 with e | e
      · exact e
      · rcases h2 with e2 | e2
        · exact e2.symm
        · have := hq.1 x e
          have := hp.1 y e2
          omega
    subst xy
    rw [p_sorted p q hp.2 hq.2 (fun z => ?_)]
    constructor
    · intro hz
      rcases List.mem_cons.mp ((h z).mp (List.mem_cons_of_mem _ hz)) with e | e
      · have := hp.1 z hz
        omega
      · exact e
    · intro hz
      rcases List.mem_cons.mp ((h z).mpr (List.mem_cons_of_mem _ hz)) with e | e
      · have := hq.1 z hz
        omega
      · exact e
/-- every such list is a set's -/
theorem pEls_of {m : Nat} : ∀ (p : List Nat), p.Pairwise (· < ·) → (∀ x ∈ p, x < m) → ∃ s, s < 2 ^ m ∧ pEls m s = p := by
  have key : ∀ p : List Nat, (∀ x ∈ p, x < m) → ∃ s, s < 2 ^ m ∧ ∀ x, s.testBit x = true ↔ x ∈ p := by
    intro p
    induction p with
    | nil => exact fun _ => ⟨0, Nat.two_pow_pos m, fun x => by simp⟩
    | cons i p ih =>
      intro h
      obtain ⟨s, s1, s2⟩ := ih (fun x hx => h x (List.mem_cons_of_mem _ hx))
      refine ⟨s ||| 2 ^ i, Nat.or_lt_two_pow s1 (Nat.pow_lt_pow_right (by omega) (h i List.mem_cons_self)), fun x => ?_⟩
      rw [Nat.testBit_or, Nat.testBit_two_pow, Bool.or_eq_true, decide_eq_true_iff, s2, List.mem_cons]
      constructor
      · rintro (e | e)
        · exact Or.inr e
        · exact Or.inl e.symm
      · rintro (e | e)
        · exact Or.inr e.symm
        · exact Or.inl e
  intro p hp hm
  obtain ⟨s, s1, s2⟩ := key p hm
  refine ⟨s, s1, p_sorted _ _ (pEls_up m s) hp (fun x => ?_)⟩
  rw [pEls_mem, s2]
  exact ⟨fun z => z.2, fun z => ⟨hm x z, z⟩⟩
theorem pEls_cand {a : Nat → Int} {m s : Nat} : pCand a m (pEls m s) ↔ (pEls m s).Pairwise (fun i j => a i < a j) := by
  unfold pCand
  constructor
  · intro h
    exact h.1.imp (fun z => z.2)
  · intro h
    exact ⟨(pEls_up m s).and h, fun x hx => (pEls_mem.mp hx).1⟩
