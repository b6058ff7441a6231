set_option linter.unusedVariables false
set_option linter.unusedSimpArgs false
/-- the goal of one ship changes after keep -/
theorem pRel_goalUp {M N : Mem} {p v : Int} (h : pRel M N) {ka : Int} (hf : pAge N ka) (p0 : 0 ≤ p) (p1 : p < N 802 1) (v0 : 0 ≤ v) (v1 : v < N 802 0) (hka : ka ≤ 280 := by omega) :
    pRel (upM M 11 p v) (upM N 802 (90 + 6 * p) v) := by
  have hn := pR_num h
  have hs := pR_step h
  have hS := pR_ship h
  have hB := h.1.2.2.2.1
  obtain ⟨f1, f2, f3, f4, f5⟩ := hf
  have hc := (pR_ctl h).1
  have st : pStat (N 802) (upM N 802 (90 + 6 * p) v 802) := ⟨fun i hi => up_nei (by omega), fun s s0 s1 => ⟨up_nei (by omega), up_nei (by omega), up_nei (by omega), up_nei (by omega)⟩, fun s s0 s1 => ⟨up_nei (by omega), up_nei (by omega), up_nei (by omega)⟩⟩
  have h762 := h.2.2.1 762 (Or.inr (Or.inr (Or.inl rfl)))
  have b40 : ∀ i : Int, upM M 11 p v 3 i = M 3 i := fun i => up_nex (by omega)
  refine pRel_live (M := M) (N := N) h (fun x hx hx2 i => up_nex (by omega)) ?_ (fun x x0 x1 i => up_nex (by omega)) ⟨up_nex (by omega), up_nex (by omega), up_nex (by omega), up_nex (by omega)⟩ st ?_ ?_ ?_ ?_ (fun j j0 j1 hb => ?_) (fun _ => ?_)
  · rw [up_nex (by omega), up_nex (by omega), up_nex (by omega)]
    exact h762
  · clear hB h762 st
    clear h
    simp (disch := omega) only [pOK, pvA, up_nei]
    refine ⟨by omega, by omega, by omega, by omega, by omega, by omega, by omega, fun i i0 i1 => ?_, fun i i0 i1 => ?_⟩
    · have := hs i i0 i1
      clear hs hS
      try simp (disch := omega) only [up_nei]
      omega
    · have := hS i i0 i1
      clear hs hS
      simp only [up_at]
      refine ⟨?_, ?_, ?_, ?_⟩ <;> (try split) <;> omega
  · clear hB h762 st
    clear h
    simp (disch := omega) only [pEq, pvA, pvM, up_nei, up_nex, Int.reduceAdd]
    refine ⟨by omega, by omega, by omega, by omega, by omega, by omega, fun i i0 i1 => ?_, fun i i0 i1 => ?_⟩
    · have := hs i i0 i1
      clear hs hS
      try simp (disch := omega) only [up_nei, up_nex]
      omega
    · have := hS i i0 i1
      clear hs hS
      simp only [up_at, upM, Int.reduceAdd, true_and]
      refine ⟨?_, ?_, ?_⟩ <;> (try split) <;> (try split) <;> omega
  · clear hB h762 st
    clear h
    simp (disch := omega) only [pEqS, pvA, pvM, up_nei, up_nex, Int.reduceAdd]
    refine ⟨fun i i0 i1 => ?_, fun i i0 i1 => ?_⟩
    · have := hs i i0 i1
      clear hs hS
      try simp (disch := omega) only [up_nei, up_nex, Int.reduceAdd]
      omega
    · have := hS i i0 i1
      clear hs hS
      try simp (disch := omega) only [up_nei, up_nex, Int.reduceAdd]
      omega
  · rw [up_nei (by omega)]
    obtain ⟨b1, b2, b3⟩ := hB
    refine ⟨by rw [b40]; exact b1, b2, fun i i0 i1 => ?_⟩
    rw [up_nex (by omega), up_nei (by omega)]
    exact b3 i i0 i1
  · exact pBook_same (fun _ _ _ _ => rfl) (fun i hi => up_nei (by omega)) hb
  · refine ⟨?_, ?_, ?_, ?_, fun i i0 i1 => ?_, fun i i0 i1 => ?_⟩
    · show upM N 802 _ v 802 _ ≤ upM N 802 _ v 802 _
      rw [up_nei (by omega), up_nei (by omega)]; omega
    · show upM N 802 _ v 802 _ ≤ upM N 802 _ v 802 _
      rw [up_nei (by omega), up_nei (by omega)]; omega
    · show upM N 802 _ v 802 _ ≤ upM N 802 _ v 802 _
      rw [up_nei (by omega), up_nei (by omega)]; omega
    · show upM N 802 _ v 802 _ ≤ upM N 802 _ v 802 _ + 280
      rw [up_nei (by omega), up_nei (by omega)]; omega
    · change upM N 802 _ v 802 _ ≤ i at i0
      change i < upM N 802 _ v 802 _ at i1
      rw [up_nei (by omega)] at i0 i1
      omega
    · change upM N 802 _ v 802 _ ≤ i at i0
      change i < upM N 802 _ v 802 _ at i1
      rw [up_nei (by omega)] at i0 i1
      omega
theorem t_bind {M N : Mem} {n : Nat} {p q : Int} (h : pRel M N) (hn : 2000 ≤ n) : pSimT (fun v => v = 0 ∨ v = 1) (f_X11_bind p q M) (f_X12_bind n p q N) N := by
  have h1 := pR_num h
  unfold f_X11_bind f_X12_bind
  rw [p_isShipM h, p_isShipN h, p_isStepM h, p_isStepN h]
  by_cases hp : 0 ≤ p ∧ p < N 802 1
  · by_cases hq : 0 ≤ q ∧ q < N 802 0
    · have h2 := pR_ship h p hp.1 hp.2
      rw [if_pos hp, if_pos hq]
      simp (disch := omega) only [if_pos, if_neg, p_ck, p_get, Option.bind_some]
      rw [show 88 + 6 * p + 2 = 90 + 6 * p by omega, ← h2.2.2.1.1]
      by_cases e : M 11 p = q
      · rw [if_neg (by omega), if_neg (by omega)]
        exact ⟨0, M, N, rfl, rfl, h, rfl, Or.inl rfl⟩
      · obtain ⟨M', N', k1, k2, k3, k4, k5, k6, k7⟩ := s_keep h hn
        rw [if_pos e, if_pos e, k1, k2]
        simp (disch := omega) only [Option.bind_some, p_lt, p_set]
        have e0 : N' 802 0 = N 802 0 := k6 0 (by omega) (by omega)
        have e1 : N' 802 1 = N 802 1 := k6 1 (by omega) (by omega)
        rw [show 88 + 6 * p + 2 = 90 + 6 * p by omega]
        exact ⟨1, _, _, rfl, rfl, pRel_goalUp k3 k7 hp.1 (by omega) hq.1 (by omega), (up_nei (by omega)).trans (k6 2 (by omega) (by omega)), Or.inr rfl⟩
    · simp (disch := omega) only [if_pos, if_neg]
      exact ⟨0, M, N, rfl, rfl, h, rfl, Or.inl rfl⟩
  · simp (disch := omega) only [if_pos, if_neg]
    exact ⟨0, M, N, rfl, rfl, h, rfl, Or.inl rfl⟩
theorem t_mend {M N : Mem} {n : Nat} {p : Int} (h : pRel M N) (hn : 2000 ≤ n) : pSimT (fun v => -1 ≤ v) (f_X11_mend p M) (f_X12_mend n p N) N := by
  have h1 := pR_num h
  unfold f_X11_mend f_X12_mend
  rw [p_riserM h, p_riserN h]
  by_cases hp : 0 ≤ p ∧ p < N 802 0 - 1
  · obtain ⟨M', N', k1, k2, k3, k4, k5, k6, k7⟩ := s_keep h hn
    have e0 : N' 802 0 = N 802 0 := k6 0 (by omega) (by omega)
    have h2 := pR_step k3 p hp.1 (by omega)
    rw [if_pos hp, k1, k2]
    simp (disch := omega) only [if_pos, if_neg, p_ck, p_at, p_put, p_lt, Option.bind_some]
    refine ⟨_, _, _, rfl, ?_, pRel_stepUp (w := 4) k3 k7 hp.1 (by omega) (by omega) (by omega) (v := 0) (by omega) ⟨fun _ => by omega, fun z => by omega, fun z => by omega, fun z => by omega⟩, (up_nei (by omega)).trans (k6 2 (by omega) (by omega)), ?_⟩
    · rw [h2.2.2.2.2.1, show 16 + 8 * p + 4 = 20 + 8 * p by omega]
    · show -1 ≤ _
      omega
  · simp (disch := omega) only [if_pos, if_neg]
    exact ⟨-1, M, N, rfl, rfl, h, rfl, Int.le_refl _⟩
theorem t_flood {M N : Mem} {n : Nat} {p q : Int} (h : pRel M N) (hn : 2000 ≤ n) : pSimT (fun v => -1 ≤ v) (f_X11_flood p q M) (f_X12_flood n p q N) N := by
  have h1 := pR_num h
  unfold f_X11_flood f_X12_flood f_X12_floodNow f_X5_addWater
  rw [p_isStepM h, p_isStepN h, p_isB, p_isIn]
  by_cases hp : 0 ≤ p ∧ p < N 802 0
  · by_cases hq : 1 ≤ q ∧ q ≤ 999
    · obtain ⟨M', N', k1, k2, k3, k4, k5, k6, k7⟩ := s_keep h hn
      have e0 : N' 802 0 = N 802 0 := k6 0 (by omega) (by omega)
      have h2 := pR_step k3 p hp.1 (by omega)
      have h3 := h2.2.2.1
      rw [if_pos hp, if_pos hq, k1, k2]
      simp (disch := omega) only [if_pos, if_neg, p_ck, p_at, p_put, p_lt, Option.bind_some, Int.reduceAdd]
      rw [show 16 + 8 * p + 2 = 18 + 8 * p by omega, h3.1, p_wI (x := N' 802 (18 + 8 * p) + q) (by omega) (by omega), p_cut (by omega) (by omega) (by omega), up_eq, up_eq]
      have e : max 0 (min (N' 802 (18 + 8 * p) + q) 999) = min 999 (N' 802 (18 + 8 * p) + q) := by omega
      rw [e]
      refine ⟨_, _, _, rfl, rfl, ?_, (up_nei (by omega)).trans (k6 2 (by omega) (by omega)), by show -1 ≤ min 999 (N' 802 (18 + 8 * p) + q); omega⟩
      have g := pRel_stepUp (w := 2) (v := min 999 (N' 802 (18 + 8 * p) + q)) k3 k7 hp.1 (by omega) (by omega) (by omega) (by omega) ⟨fun z => by omega, fun z => by omega, fun z => by omega, fun z => by omega⟩
      rw [show 16 + 8 * p + 2 = 18 + 8 * p by omega] at g
      exact g
    · simp (disch := omega) only [if_pos, if_neg]
      exact ⟨-1, M, N, rfl, rfl, h, rfl, Int.le_refl _⟩
  · simp (disch := omega) only [if_pos, if_neg]
    exact ⟨-1, M, N, rfl, rfl, h, rfl, Int.le_refl _⟩
