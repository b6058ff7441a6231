set_option linter.unusedVariables false
set_option linter.unusedSimpArgs false
/-! the law's loop: every op's answers agree -/
def okL (o : Option (Int × Mem × Mem)) : Prop := ∃ M' N', o = some (1, M', N')
theorem okL_ite {c : Prop} [Decidable c] {a b : Option (Int × Mem × Mem)} (h1 : c → okL a) (h2 : ¬ c → okL b) : okL (if c then a else b) := by
  by_cases z : c
  · rw [if_pos z]; exact h1 z
  · rw [if_neg z]; exact h2 z
theorem okL_ck {c : Prop} [Decidable c] {a : Option (Int × Mem × Mem)} (hc : c) (h : okL a) : okL (ck c a) := by rw [p_ck hc]; exact h
theorem okL_sim {A B : Option (Int × Mem)} {N : Mem} {K : Mem → Mem → Option (Int × Mem × Mem)} (s : pSim A B N) (hK : ∀ M N, pRel M N → okL (K M N)) : okL (A.bind fun q => B.bind fun r => if q.1 = r.1 then K q.2 r.2 else some (0, q.2, r.2)) := by
  obtain ⟨v, M', N', e1, e2, r⟩ := s
  rw [e1, e2, Option.bind_some, Option.bind_some, if_pos rfl]
  exact hK M' N' r
theorem okL_val {A B : Option Int} {a b : Option (Int × Mem × Mem)} (s : ∃ r, A = some r ∧ B = some r) (h : okL a) : okL (A.bind fun q => B.bind fun r => if q = r then a else b) := by
  obtain ⟨v, e1, e2⟩ := s
  rw [e1, e2, Option.bind_some, Option.bind_some, if_pos rfl]
  exact h
theorem okL_is {A : Int} {B : Option Int} {a b : Option (Int × Mem × Mem)} (s : B = some A) (h : okL a) : okL (B.bind fun r => if A = r then a else b) := by
  rw [s, Option.bind_some, if_pos rfl]
  exact h
theorem pSimT_pSim {P : Int → Prop} {A B : Option (Int × Mem)} {N : Mem} (s : pSimT P A B N) : pSim A B N := by
  obtain ⟨v, M', N', e1, e2, r⟩ := s
  exact ⟨v, M', N', e1, e2, r.1⟩
theorem l_lawLoop {L : Int} {xs : Int → Int} (hL : 0 ≤ L ∧ L ≤ 3072) : ∀ (k n : Nat) (x3 : Int) (M N : Mem), L - x3 < k → 12001 + k ≤ n → 0 ≤ x3 → x3 ≤ L + 6 → pRel M N → okL (f_L_law_L18 n L xs x3 M N) := by
  intro k
  induction k with
  | zero =>
    intro n x3 M N g0 g1 g2 g3 h
    obtain ⟨n, rfl⟩ : ∃ n', n = n' + 1 := ⟨n - 1, by omega⟩
    rw [f_L_law_L18, p_wI (x := L - 6) (by omega) (by omega), if_pos (by omega)]
    exact ⟨M, N, rfl⟩
  | succ k ih =>
    intro n x3 M N g0 g1 g2 g3 h
    obtain ⟨n, rfl⟩ : ∃ n', n = n' + 1 := ⟨n - 1, by omega⟩
    rw [f_L_law_L18, p_wI (x := L - 6) (by omega) (by omega)]
    refine okL_ite (fun _ => ⟨M, N, rfl⟩) (fun le => ?_)
    have le6 : x3 + 6 ≤ L := by omega
    have w1 : wI (x3 + 1) = x3 + 1 := p_wI (by omega) (by omega)
    have w2 : wI (x3 + 2) = x3 + 2 := p_wI (by omega) (by omega)
    have w3 : wI (x3 + 3) = x3 + 3 := p_wI (by omega) (by omega)
    have w4 : wI (x3 + 4) = x3 + 4 := p_wI (by omega) (by omega)
    have w5 : wI (x3 + 5) = x3 + 5 := p_wI (by omega) (by omega)
    have w6 : wI (x3 + 6) = x3 + 6 := p_wI (by omega) (by omega)
    rw [w1, w2, w3, w4, w5, w6]
    have c0 : 0 ≤ x3 ∧ x3 < L := by omega
    have c1 : 0 ≤ x3 + 1 ∧ x3 + 1 < L := by omega
    have c2 : 0 ≤ x3 + 2 ∧ x3 + 2 < L := by omega
    have c3 : 0 ≤ x3 + 3 ∧ x3 + 3 < L := by omega
    have c4 : 0 ≤ x3 + 4 ∧ x3 + 4 < L := by omega
    have c5 : 0 ≤ x3 + 5 ∧ x3 + 5 < L := by omega
    have hK : ∀ M N, pRel M N → okL (f_L_law_L18 n L xs (x3 + 6) M N) := fun M N hr => ih n (x3 + 6) M N (by omega) (by omega) (by omega) (by omega) hr
    have hh := hK M N h
    refine okL_ck c0 ?_
    refine okL_ite (fun _ => ?_) (fun _ => ?_)
    · refine okL_ck c1 ?_
      refine okL_ck c2 ?_
      refine okL_ck c3 ?_
      refine okL_ck c4 ?_
      
      exact okL_sim (K := fun M N => f_L_law_L18 n L xs (x3 + 6) M N) (pSimT_pSim (t_step h (by omega))) hK
    refine okL_ite (fun _ => ?_) (fun _ => ?_)
    · refine okL_ck c1 ?_
      refine okL_ck c2 ?_
      refine okL_ck c3 ?_
      
      exact okL_sim (K := fun M N => f_L_law_L18 n L xs (x3 + 6) M N) (pSimT_pSim (t_ship h)) hK
    refine okL_ite (fun _ => ?_) (fun _ => ?_)
    · refine okL_ck c1 ?_
      refine okL_ck c2 ?_
      refine okL_ck c3 ?_
      refine okL_ck c4 ?_
      refine okL_ck c5 ?_
      
      exact okL_sim (K := fun M N => f_L_law_L18 n L xs (x3 + 6) M N) (s_feed h (by omega)) hK
    refine okL_ite (fun _ => ?_) (fun _ => ?_)
    · refine okL_ck c1 ?_
      
      obtain ⟨v, M1, N1, e1, e2, r⟩ := s_end (p := xs (x3 + 1)) h
      rw [p_lt, p_lt, e1, e2, if_pos rfl]
      exact hK M1 N1 r
    refine okL_ite (fun _ => ?_) (fun _ => ?_)
    · 
      exact okL_sim (K := fun M N => f_L_law_L18 n L xs (x3 + 6) M N) (s_text h (by omega) (by omega)) hK
    refine okL_ite (fun _ => ?_) (fun _ => ?_)
    · refine okL_ck c1 ?_
      
      rw [s_fault (p := xs (x3 + 1)) h, if_pos rfl]
      exact hh
    refine okL_ite (fun _ => ?_) (fun _ => ?_)
    · refine okL_ck c1 ?_
      
      obtain ⟨v, M1, N1, e1, e2, r⟩ := s_by (p := xs (x3 + 1)) h
      rw [e1, Option.bind_some, p_lt, e2, if_pos rfl]
      exact hK M1 N1 r
    refine okL_ite (fun _ => ?_) (fun _ => ?_)
    · refine okL_ck c1 ?_
      
      exact okL_sim (K := fun M N => f_L_law_L18 n L xs (x3 + 6) M N) (s_hour h (by omega) (by omega)) hK
    refine okL_ite (fun _ => ?_) (fun _ => ?_)
    · refine okL_ck c1 ?_
      refine okL_ck c2 ?_
      
      exact okL_sim (K := fun M N => f_L_law_L18 n L xs (x3 + 6) M N) (pSimT_pSim (t_flood h (by omega))) hK
    refine okL_ite (fun _ => ?_) (fun _ => ?_)
    · refine okL_ck c1 ?_
      refine okL_ck c2 ?_
      
      exact okL_sim (K := fun M N => f_L_law_L18 n L xs (x3 + 6) M N) (pSimT_pSim (t_raise h (by omega))) hK
    refine okL_ite (fun _ => ?_) (fun _ => ?_)
    · refine okL_ck c1 ?_
      
      exact okL_sim (K := fun M N => f_L_law_L18 n L xs (x3 + 6) M N) (pSimT_pSim (t_mend h (by omega))) hK
    refine okL_ite (fun _ => ?_) (fun _ => ?_)
    · refine okL_ck c1 ?_
      refine okL_ck c2 ?_
      
      exact okL_sim (K := fun M N => f_L_law_L18 n L xs (x3 + 6) M N) (pSimT_pSim (t_bind h (by omega))) hK
    refine okL_ite (fun _ => ?_) (fun _ => ?_)
    · refine okL_ck c1 ?_
      
      exact okL_sim (K := fun M N => f_L_law_L18 n L xs (x3 + 6) M N) (s_played h (by omega) (by omega)) hK
    refine okL_ite (fun _ => ?_) (fun _ => ?_)
    · refine okL_ck c1 ?_
      refine okL_ck c2 ?_
      
      exact okL_sim (K := fun M N => f_L_law_L18 n L xs (x3 + 6) M N) (s_centuries h (by omega) (by omega)) hK
    refine okL_ite (fun _ => ?_) (fun _ => ?_)
    · 
      exact okL_sim (K := fun M N => f_L_law_L18 n L xs (x3 + 6) M N) (s_undo h (by omega)) hK
    refine okL_ite (fun _ => ?_) (fun _ => ?_)
    · refine okL_ck c1 ?_
      refine okL_ck c2 ?_
      
      exact okL_sim (K := fun M N => f_L_law_L18 n L xs (x3 + 6) M N) (s_ofStep h (by omega) (by omega)) hK
    refine okL_ite (fun _ => ?_) (fun _ => ?_)
    · refine okL_ck c1 ?_
      refine okL_ck c2 ?_
      
      exact okL_val (s_ofShip h) hh
    refine okL_ite (fun _ => ?_) (fun _ => ?_)
    · refine okL_ck c1 ?_
      
      exact okL_is (s_is h) hh
    refine okL_ite (fun _ => ?_) (fun _ => ?_)
    · refine okL_ck c1 ?_
      refine okL_ck c2 ?_
      
      exact okL_val (s_book h) hh
    refine okL_ite (fun _ => ?_) (fun _ => ?_)
    · refine okL_ck c1 ?_
      refine okL_ck c2 ?_
      refine okL_ck c3 ?_
      
      exact okL_sim (K := fun M N => f_L_law_L18 n L xs (x3 + 6) M N) (s_foretoldShip h (by omega) (by omega)) hK
    refine okL_ite (fun _ => ?_) (fun _ => ?_)
    · refine okL_ck c1 ?_
      refine okL_ck c2 ?_
      refine okL_ck c3 ?_
      
      exact okL_sim (K := fun M N => f_L_law_L18 n L xs (x3 + 6) M N) (s_foretoldStep h (by omega) (by omega)) hK
    refine okL_ite (fun _ => ?_) (fun _ => ?_)
    · refine okL_ck c1 ?_
      
      exact okL_sim (K := fun M N => f_L_law_L18 n L xs (x3 + 6) M N) (s_comes h (by omega) (by omega)) hK
    refine okL_ite (fun _ => ?_) (fun _ => ?_)
    · refine okL_ck c1 ?_
      refine okL_ck c2 ?_
      refine okL_ck c3 ?_
      refine okL_ck c4 ?_
      refine okL_ck c5 ?_
      
      exact okL_sim (K := fun M N => f_L_law_L18 n L xs (x3 + 6) M N) (s_voyage h (by omega) (by omega)) hK
    refine okL_ite (fun _ => ?_) (fun _ => ?_)
    · refine okL_ck c1 ?_
      refine okL_ck c2 ?_
      refine okL_ck c3 ?_
      refine okL_ck c4 ?_
      
      exact okL_sim (K := fun M N => f_L_law_L18 n L xs (x3 + 6) M N) (s_hauling h (by omega) (by omega)) hK
    refine okL_ite (fun _ => ?_) (fun _ => ?_)
    · refine okL_ck c1 ?_
      refine okL_ck c2 ?_
      
      exact okL_sim (K := fun M N => f_L_law_L18 n L xs (x3 + 6) M N) (s_thing h (by omega) (by omega)) hK
    refine okL_ite (fun _ => ?_) (fun _ => ?_)
    · refine okL_ck c1 ?_
      refine okL_ck c2 ?_
      
      exact okL_sim (K := fun M N => f_L_law_L18 n L xs (x3 + 6) M N) (s_upThere h (by omega) (by omega)) hK
    refine okL_ite (fun _ => ?_) (fun _ => ?_)
    · refine okL_ck c1 ?_
      
      exact okL_sim (K := fun M N => f_L_law_L18 n L xs (x3 + 6) M N) (s_toRaise h (by omega) (by omega)) hK
    refine okL_ite (fun _ => ?_) (fun _ => ?_)
    · refine okL_ck c1 ?_
      refine okL_ck c2 ?_
      
      exact okL_sim (K := fun M N => f_L_law_L18 n L xs (x3 + 6) M N) (s_states h (by omega) (by omega)) hK
    refine okL_ite (fun _ => ?_) (fun _ => ?_)
    · refine okL_ck c1 ?_
      refine okL_ck c2 ?_
      
      exact okL_sim (K := fun M N => f_L_law_L18 n L xs (x3 + 6) M N) (s_sound h) hK
    refine okL_ite (fun _ => ?_) (fun _ => ?_)
    · refine okL_ck c1 ?_
      refine okL_ck c2 ?_
      
      have go : ∀ q : Int, (∀ a : Int → Option (Int × Mem × Mem), (if xs (x3 + 2) = 0 then a 0 else a 1) = a q) → okL (f_L_law_L18_J1188 n L xs (fun x3 M N => f_L_law_L18 n L xs x3 M N) x3 (xs (x3 + 1)) q M N) := by
        intro q hq
        obtain ⟨r, e1, e2⟩ := s_high (n := n) (p := xs (x3 + 1)) (q := q) h (by omega)
        unfold f_L_law_L18_J1188
        rw [w1, w2, e1, Option.bind_some, p_ck c1, p_ck c2]
        rw [hq (fun z => f_L_law_L18_J1210 n L xs (fun x3 M N => f_L_law_L18 n L xs x3 M N) x3 r (xs (x3 + 1)) z M N)]
        unfold f_L_law_L18_J1210
        rw [e2, Option.bind_some, if_pos rfl, w6]
        exact hh
      refine okL_ite (fun z => go 0 (fun a => if_pos z)) (fun z => go 1 (fun a => if_neg z))
    refine okL_ite (fun _ => ?_) (fun _ => ?_)
    · refine okL_ck c1 ?_
      
      exact okL_sim (K := fun M N => f_L_law_L18 n L xs (x3 + 6) M N) (s_wreck h) hK
    refine okL_ite (fun _ => ?_) (fun _ => ?_)
    · refine okL_ck c1 ?_
      
      exact okL_sim (K := fun M N => f_L_law_L18 n L xs (x3 + 6) M N) (s_inOrder h (by omega) (by omega)) hK
    refine okL_ite (fun _ => ?_) (fun _ => ?_)
    · 
      exact okL_val (s_ooo h (by omega)) hh
    refine okL_ite (fun _ => ?_) (fun _ => ?_)
    · refine okL_ck c1 ?_
      refine okL_ck c2 ?_
      
      exact okL_sim (K := fun M N => f_L_law_L18 n L xs (x3 + 6) M N) (s_misheard h) hK
    refine okL_ite (fun _ => ?_) (fun _ => ?_)
    · refine okL_ck c1 ?_
      
      exact okL_val (s_apart h (by omega) (by omega)) hh
    refine okL_ite (fun _ => ?_) (fun _ => ?_)
    · refine okL_ck c1 ?_
      
      exact okL_val (s_chains h (by omega) (by omega)) hh
    refine okL_ite (fun _ => ?_) (fun _ => ?_)
    · refine okL_ck c1 ?_
      refine okL_ck c2 ?_
      
      have go : ∀ q : Int, (∀ a : Int → Option (Int × Mem × Mem), (if xs (x3 + 2) = 0 then a 0 else a 1) = a q) → okL (f_L_law_L18_J1375 n L xs (fun x3 M N => f_L_law_L18 n L xs x3 M N) x3 (xs (x3 + 1)) q M N) := by
        intro q hq
        obtain ⟨r, e1, e2⟩ := s_waiting (n := n) (p := xs (x3 + 1)) (q := q) h (by omega)
        unfold f_L_law_L18_J1375
        rw [w1, w2, e1, Option.bind_some, p_ck c1, p_ck c2]
        rw [hq (fun z => f_L_law_L18_J1397 n L xs (fun x3 M N => f_L_law_L18 n L xs x3 M N) x3 r (xs (x3 + 1)) z M N)]
        unfold f_L_law_L18_J1397
        rw [e2, Option.bind_some, if_pos rfl, w6]
        exact hh
      refine okL_ite (fun z => go 0 (fun a => if_pos z)) (fun z => go 1 (fun a => if_neg z))
    refine okL_ite (fun _ => ?_) (fun _ => ?_)
    · refine okL_ck c1 ?_
      
      have go : ∀ q : Int, (∀ a : Int → Option (Int × Mem × Mem), (if xs (x3 + 1) = 0 then a 0 else a 1) = a q) → okL (f_L_law_L18_J1419 n L xs (fun x3 M N => f_L_law_L18 n L xs x3 M N) x3 q M N) := by
        intro q hq
        obtain ⟨v, M1, N1, e1, e2, r⟩ := s_run (nA := n) (nB := n) (p := q) h (by omega) (by omega)
        unfold f_L_law_L18_J1419
        rw [w1, e1, Option.bind_some, p_ck c1]
        rw [hq (fun z => f_L_law_L18_J1436 n L xs (fun x3 M N => f_L_law_L18 n L xs x3 M N) x3 v z M1 N)]
        unfold f_L_law_L18_J1436
        rw [e2, Option.bind_some, if_pos rfl, w6]
        exact hK M1 N1 r
      refine okL_ite (fun z => go 0 (fun a => if_pos z)) (fun z => go 1 (fun a => if_neg z))
    refine okL_ite (fun _ => ?_) (fun _ => ?_)
    · 
      exact okL_sim (K := fun M N => f_L_law_L18 n L xs (x3 + 6) M N) (s_image h (by omega) (by omega)) hK
    refine okL_ite (fun _ => ?_) (fun _ => ?_)
    · 
      exact okL_sim (K := fun M N => f_L_law_L18 n L xs (x3 + 6) M N) (s_back h (by omega) (by omega)) hK
    refine okL_ite (fun _ => ?_) (fun _ => ?_)
    · refine okL_ck c1 ?_
      
      exact okL_is (s_about h) hh
    exact hh
