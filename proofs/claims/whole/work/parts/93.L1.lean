set_option linter.unusedVariables false
set_option linter.unusedSimpArgs false
/-! in order: the class's two loops -/
section Ord
variable {M0 : Mem} {m : Nat} {a : Nat → Int}
/-- the reigns, as the class keeps them -/
def pRei (M0 : Mem) (m : Nat) (a : Nat → Int) : Prop := m ≤ 10 ∧ M0 346 3 = m ∧ ∀ i : Nat, i < m → M0 349 i = a i ∧ 0 ≤ a i ∧ a i ≤ 99
def pM350 (M0 M : Mem) : Prop := ∀ x, x ≠ 350 → ∀ j, M x j = M0 x j
theorem l_row24 (hr : pRei M0 m a) (x1 : Int) {i : Nat} (hi : i < m) : ∀ (k n j : Nat) (v : Int) (M : Mem), m - j < k → k ≤ n → i < j → j ≤ m → pM350 M0 M → (∀ q : Nat, i < q → q < m → pLen a m q (M 350 q)) → M 350 i = v → 1 ≤ v → v ≤ 100 →
    (∃ p, pCand a m (i :: p) ∧ ((i :: p).length : Int) = v) → (∀ p, pCand a m (i :: p) → (∀ h t, p = h :: t → h < j) → ((i :: p).length : Int) ≤ v) →
    ∃ M', f_X7_measureRows_L24 n 346 x1 i j M = some M' ∧ pM350 M0 M' ∧ (∀ q : Nat, i ≤ q → q < m → pLen a m q (M' 350 q)) := by
  intro k
  induction k with
  | zero => intro n j v M g0; omega
  | succ k ih =>
    intro n j v M g0 g1 ij jm fM rows ev v1 v2 hex hmax
    obtain ⟨n, rfl⟩ : ∃ n', n = n' + 1 := ⟨n - 1, by omega⟩
    rw [f_X7_measureRows_L24, show (346 : Int) + 3 = 349 by decide, show (346 : Int) + 4 = 350 by decide, fM 346 (by decide), hr.2.1]
    have m10 := hr.1
    by_cases c : j = m
    · subst c
      rw [if_pos (by omega)]
      refine ⟨M, rfl, fM, fun q q0 q1 => ?_⟩
      by_cases e : q = i
      · subst e
        rw [ev]
        refine ⟨hex, fun p hp => hmax p hp (fun h t e => ?_)⟩
        exact hp.2 h (by rw [e]; simp)
      · exact rows q (by omega) q1
    · have ai := (hr.2.2 i hi)
      have aj := (hr.2.2 j (by omega))
      rw [if_neg (by omega), p_ck (by omega), p_ck (by omega), fM 349 (by decide), fM 349 (by decide), ai.1, aj.1, p_wI (x := (j : Int) + 1) (by omega) (by omega), show (j : Int) + 1 = ((j + 1 : Nat) : Int) by omega]
      by_cases d : a j ≤ a i
      · rw [if_pos d]
        refine ih n (j + 1) v M (by omega) (by omega) (by omega) (by omega) fM rows ev v1 v2 hex (fun p hp hh => ?_)
        refine hmax p hp (fun h t e => ?_)
        have := hh h t e
        have g := (pCand_cons.mp hp).2.1 h (by rw [e]; simp)
        by_cases q : h = j
        · subst q; omega
        · omega
      · have rj := rows j ij (by omega)
        have rj1 := pLen_mono rj
        obtain ⟨pj, pj1, pj2⟩ := rj.1
        have len10 : M 350 j ≤ 10 := by
          rw [← pj2]
          have hs := pEls_of (m := m) (j :: pj) (pj1.1.imp (fun z => z.1)) pj1.2
          obtain ⟨s, s1, s2⟩ := hs
          have := pEls_len m10 s1
          rw [s2] at this
          have le : pCnt s ≤ 10 := by unfold pCnt; exact Nat.le_trans List.countP_le_length (by simp)
          omega
        rw [if_neg d, p_wI (x := M 350 j + 1) (by omega) (by omega), ev]
        rw [p_lt]
        have fM' : pM350 M0 (upM M 350 i (max v (M 350 j + 1))) := fun x hx q => by rw [up_nex hx]; exact fM x hx q
        refine ih n (j + 1) (max v (M 350 j + 1)) _ (by omega) (by omega) (by omega) (by omega) fM' (fun q q0 q1 => ?_) up_eq (by omega) (by omega) ?_ (fun p hp hh => ?_)
        · rw [up_nei (by omega)]
          exact rows q q0 q1
        · by_cases q : v ≤ M 350 j + 1
          · refine ⟨j :: pj, pCand_two ij (by omega) pj1, ?_⟩
            rw [List.length_cons] at pj2 ⊢
            rw [List.length_cons]
            omega
          · obtain ⟨p, p1, p2⟩ := hex
            exact ⟨p, p1, by omega⟩
        · by_cases q : ∀ h t, p = h :: t → h < j
          · have := hmax p hp q
            omega
          · have : ∃ t, p = j :: t := by
              cases p with
              | nil => exact absurd (fun h t e => by cases e) q
              | cons h t =>
                have := hh h t rfl
                by_cases e : h = j
                · exact ⟨t, by rw [e]⟩
                · refine absurd (fun h' t' e' => ?_) q
                  injection e' with e1 e2
                  omega
            obtain ⟨t, rfl⟩ := this
            have := rj.2 t ((pCand_cons.mp hp).2.2)
            rw [List.length_cons]
            omega
theorem l_row9 (hr : pRei M0 m a) : ∀ (k n i : Nat) (L : Int) (M : Mem), i < k → k + 20 ≤ n → i ≤ m → pM350 M0 M → (∀ q : Nat, i ≤ q → q < m → pLen a m q (M 350 q)) → 0 ≤ L → L ≤ 10 →
    (∃ p, pCand a m p ∧ (p.length : Int) = L) → (∀ p, pCand a m p → (∀ x ∈ p, i ≤ x) → (p.length : Int) ≤ L) →
    ∃ L' M', f_X7_measureRows_L9 n 346 L ((i : Int) - 1) M = some (L', M') ∧ pM350 M0 M' ∧ (∀ q : Nat, q < m → pLen a m q (M' 350 q)) ∧ 0 ≤ L' ∧ L' ≤ 10 ∧ (∃ p, pCand a m p ∧ (p.length : Int) = L') ∧ (∀ p, pCand a m p → (p.length : Int) ≤ L') := by
  intro k
  induction k with
  | zero => intro n i L M g0; omega
  | succ k ih =>
    intro n i L M g0 g1 im fM rows L0 L1 hex hmax
    obtain ⟨n, rfl⟩ : ∃ n', n = n' + 1 := ⟨n - 1, by omega⟩
    have m10 := hr.1
    rw [f_X7_measureRows_L9]
    by_cases c : i = 0
    · subst c
      rw [if_pos (by omega)]
      exact ⟨L, M, rfl, fM, fun q hq => rows q (by omega) hq, L0, L1, hex, fun p hp => hmax p hp (fun x hx => by omega)⟩
    · obtain ⟨i, rfl⟩ : ∃ i', i = i' + 1 := ⟨i - 1, by omega⟩
      rw [show (((i + 1 : Nat) : Int) - 1) = (i : Int) by omega, if_neg (by omega), p_ck (by omega), p_lt, show (346 : Int) + 4 = 350 by decide, p_wI (x := (i : Int) + 1) (by omega) (by omega), show (i : Int) + 1 = ((i + 1 : Nat) : Int) by omega, p_wI (x := (i : Int) + (-1)) (by omega) (by omega)]
      have one : pCand a m [i] := pCand_cons.mpr ⟨by omega, fun j hj => by simp at hj, List.Pairwise.nil, fun x hx => by simp at hx⟩
      obtain ⟨M', e1, e2, e3⟩ := l_row24 hr L (i := i) (by omega) (m + 1) n (i + 1) 1 (upM M 350 i 1) (by omega) (by omega) (by omega) (by omega) (fun x hx q => by rw [up_nex hx]; exact fM x hx q) (fun q q0 q1 => by rw [up_nei (by omega)]; exact rows q (by omega) q1) up_eq (by omega) (by omega) ⟨[], one, rfl⟩ (fun p hp hh => by
        cases p with
        | nil => simp
        | cons h t =>
          have := hh h t rfl
          have := (pCand_cons.mp hp).2.1 h List.mem_cons_self
          omega)
      rw [e1, Option.bind_some]
      have ri := e3 i (by omega) (by omega)
      have ri1 := pLen_mono ri
      have len10 : M' 350 i ≤ 10 := by
        obtain ⟨pj, pj1, pj2⟩ := ri.1
        rw [← pj2]
        obtain ⟨s, s1, s2⟩ := pEls_of (m := m) (i :: pj) (pj1.1.imp (fun z => z.1)) pj1.2
        have := pEls_len m10 s1
        rw [s2] at this
        have le : pCnt s ≤ 10 := by unfold pCnt; exact Nat.le_trans List.countP_le_length (by simp)
        omega
      refine ih n i (max L (M' 350 i)) M' (by omega) (by omega) (by omega) e2 e3 (by omega) (by omega) ?_ (fun p hp hh => ?_)
      · by_cases q : L ≤ M' 350 i
        · obtain ⟨p, p1, p2⟩ := ri.1
          exact ⟨i :: p, p1, by omega⟩
        · obtain ⟨p, p1, p2⟩ := hex
          exact ⟨p, p1, by omega⟩
      · by_cases q : ∀ x ∈ p, i + 1 ≤ x
        · have := hmax p hp q
          omega
        · cases p with
          | nil => exact absurd (fun x hx => by simp at hx) q
          | cons h t =>
            have h0 := hh h List.mem_cons_self
            have g := pCand_cons.mp hp
            by_cases e : h = i
            · subst e
              have := ri.2 t hp
              omega
            · refine absurd (fun x hx => ?_) q
              rcases List.mem_cons.mp hx with e' | e'
              · omega
              · have := g.2.1 x e'
                omega
/-- what the scan has found so far -/
def pScan (a : Nat → Int) (m : Nat) (M : Mem) (f : Nat) (x need : Int) (i : Nat) (r : Int) : Prop := (r = -1 ∧ ∀ j : Nat, f ≤ j → j < i → x < a j → ¬ need ≤ M 350 j) ∨ (∃ c : Nat, r = c ∧ f ≤ c ∧ c < i ∧ c < m ∧ x < a c ∧ need ≤ M 350 c ∧ ∀ j : Nat, f ≤ j → j < i → x < a j → need ≤ M 350 j → a c ≤ a j ∧ (a c = a j → c ≤ j))
/-- the scan for the next -/
theorem l_scan (hr : pRei M0 m a) {M : Mem} (fM : pM350 M0 M) (x1 x2 : Int) {x need : Int} {f : Nat} : ∀ (k n i : Nat) (r : Int), m - i < k → k ≤ n → f ≤ i → i ≤ m →
    pScan a m M f x need i r →
    ∃ r', f_X7_reignInOrder_L23 n 346 x1 x2 x need r i M = some r' ∧ pScan a m M f x need m r' := by
  intro k
  induction k with
  | zero => intro n i r g0; omega
  | succ k ih =>
    intro n i r g0 g1 fi im hinv
    obtain ⟨n, rfl⟩ : ∃ n', n = n' + 1 := ⟨n - 1, by omega⟩
    have m10 := hr.1
    rw [f_X7_reignInOrder_L23, show (346 : Int) + 3 = 349 by decide, show (346 : Int) + 4 = 350 by decide, fM 346 (by decide), hr.2.1]
    by_cases c : i = m
    · subst c
      rw [if_pos (by omega)]
      exact ⟨r, rfl, hinv⟩
    · have ai := (hr.2.2 i (by omega))
      rw [if_neg (by omega), p_ck (by omega), fM 349 (by decide), ai.1, p_wI (x := (i : Int) + 1) (by omega) (by omega), show (i : Int) + 1 = ((i + 1 : Nat) : Int) by omega]
      have skip : (¬ (x < a i ∧ need ≤ M 350 i)) → ∃ r', f_X7_reignInOrder_L23 n 346 x1 x2 x need r ((i + 1 : Nat) : Int) M = some r' ∧ pScan a m M f x need m r' := by
        intro z
        refine ih n (i + 1) r (by omega) (by omega) (by omega) (by omega) ?_
        rcases hinv with ⟨h1, h2⟩ | ⟨c, h1, h2, hci, h3, h4, h5, h6⟩
        · refine Or.inl ⟨h1, fun j j0 j1 j2 j3 => ?_⟩
          by_cases e : j = i
          · subst e; exact z ⟨j2, j3⟩
          · exact h2 j j0 (by omega) j2 j3
        · refine Or.inr ⟨c, h1, h2, by omega, h3, h4, h5, fun j j0 j1 j2 j3 => ?_⟩
          by_cases e : j = i
          · subst e; exact absurd ⟨j2, j3⟩ z
          · exact h6 j j0 (by omega) j2 j3
      by_cases d : a i ≤ x
      · rw [if_pos d]
        exact skip (by omega)
      · rw [if_neg d]
        by_cases e : M 350 i < need
        · rw [if_pos e]
          exact skip (by omega)
        · rw [if_neg e]
          rcases hinv with ⟨h1, h2⟩ | ⟨c, h1, h2, hci, h3, h4, h5, h6⟩
          · rw [if_pos h1]
            refine ih n (i + 1) i (by omega) (by omega) (by omega) (by omega) (Or.inr ⟨i, rfl, fi, by omega, by omega, by omega, by omega, fun j j0 j1 j2 j3 => ?_⟩)
            by_cases q : j = i
            · subst q; omega
            · exact absurd j3 (h2 j j0 (by omega) j2)
          · have ac := hr.2.2 c h3
            rw [if_neg (show ¬ r = -1 by omega), p_ck (by omega), h1, fM 349 (by decide), ac.1]
            by_cases q : a c ≤ a i
            · rw [if_pos q]
              refine ih n (i + 1) c (by omega) (by omega) (by omega) (by omega) (Or.inr ⟨c, rfl, h2, by omega, h3, h4, h5, fun j j0 j1 j2 j3 => ?_⟩)
              by_cases q2 : j = i
              · subst q2
                exact ⟨q, fun _ => by omega⟩
              · exact h6 j j0 (by omega) j2 j3
            · rw [if_neg q]
              refine ih n (i + 1) i (by omega) (by omega) (by omega) (by omega) (Or.inr ⟨i, rfl, fi, by omega, by omega, by omega, by omega, fun j j0 j1 j2 j3 => ?_⟩)
              by_cases q2 : j = i
              · subst q2; omega
              · have := h6 j j0 (by omega) j2 j3
                omega
end Ord
