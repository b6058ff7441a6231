set_option linter.unusedVariables false
set_option linter.unusedSimpArgs false
theorem up_at {N : Mem} {a v j : Int} : upM N 802 a v 802 j = if j = a then v else N 802 j := by unfold upM; simp
def pSimT (P : Int → Prop) (a b : Option (Int × Mem)) (N : Mem) : Prop := ∃ v M' N', a = some (v, M') ∧ b = some (v, N') ∧ pRel M' N' ∧ N' 802 2 = N 802 2 ∧ P v
theorem pSimT.sim {P : Int → Prop} {a b : Option (Int × Mem)} {N : Mem} (h : pSimT P a b N) : pSim a b N := by
  obtain ⟨v, M', N', h1, h2, h3, -⟩ := h
  exact ⟨v, M', N', h1, h2, h3⟩
/-- one number of one step changes after keep: 1 sill, 2 water, 3 fish, 4 worn -/
theorem pRel_stepUp {M N : Mem} {p v w : Int} (h : pRel M N) {ka : Int} (hf : pAge N ka) (p0 : 0 ≤ p) (p1 : p < N 802 0) (w0 : 1 ≤ w) (w1 : w ≤ 4) (v0 : 0 ≤ v) (v1 : (w = 1 → v ≤ 99) ∧ (w = 2 → v ≤ 999) ∧ (w = 3 → v ≤ 999) ∧ (w = 4 → v ≤ 100)) (hka : ka ≤ 280 := by omega) :
    pRel (upM M (4 + w) p v) (upM N 802 (16 + 8 * p + w) v) := by
  have hn := pR_num h
  have hs := pR_step h
  have hS := pR_ship h
  have hB := h.1.2.2.2.1
  obtain ⟨f1, f2, f3, f4, f5⟩ := hf
  have hc := (pR_ctl h).1
  have st : pStat (N 802) (upM N 802 (16 + 8 * p + w) v 802) := ⟨fun i hi => up_nei (by omega), fun s s0 s1 => ⟨up_nei (by omega), up_nei (by omega), up_nei (by omega), up_nei (by omega)⟩, fun s s0 s1 => ⟨up_nei (by omega), up_nei (by omega), up_nei (by omega)⟩⟩
  have h762 := h.2.2.1 762 (Or.inr (Or.inr (Or.inl rfl)))
  have b40 : ∀ i : Int, upM M (4 + w) p v 3 i = M 3 i := fun i => up_nex (by omega)
  refine pRel_live (M := M) (N := N) h (fun x hx hx2 i => up_nex (by omega)) ?_ (fun x x0 x1 i => up_nex (by omega)) ⟨up_nex (by omega), up_nex (by omega), up_nex (by omega), up_nex (by omega)⟩ st ?_ ?_ ?_ ?_ (fun j j0 j1 hb => ?_) (fun _ => ?_)
  · rw [up_nex (by omega), up_nex (by omega), up_nex (by omega)]
    exact h762
  · clear hB h762 st
    clear h
    simp (disch := omega) only [pOK, pvA, up_nei]
    refine ⟨by omega, by omega, by omega, by omega, by omega, by omega, by omega, fun i i0 i1 => ?_, fun i i0 i1 => ?_⟩
    · have := hs i i0 i1
      clear hs hS
      simp only [up_at]
      refine ⟨?_, ?_, ?_, ?_, ?_⟩ <;> (try split) <;> omega
    · have := hS i i0 i1
      clear hs hS
      simp (disch := omega) only [up_nei]
      omega
  · clear hB h762 st
    clear h
    simp (disch := omega) only [pEq, pvA, pvM, up_nei, up_nex, Int.reduceAdd]
    refine ⟨by omega, by omega, by omega, by omega, by omega, by omega, fun i i0 i1 => ?_, fun i i0 i1 => ?_⟩
    · have := hs i i0 i1
      clear hs hS
      simp only [up_at, upM, Int.reduceAdd, true_and]
      refine ⟨?_, ?_, ?_, ?_⟩ <;> (try split) <;> (try split) <;> omega
    · have := hS i i0 i1
      clear hs hS
      try simp (disch := omega) only [up_nei, up_nex, Int.reduceAdd]
      omega
  · clear hB h762 st
    clear h
    simp (disch := omega) only [pEqS, pvA, pvM, up_nei, up_nex, Int.reduceAdd]
    refine ⟨fun i i0 i1 => ?_, fun i i0 i1 => ?_⟩
    · have := hs i i0 i1
      clear hs hS
      try simp (disch := omega) only [up_nei, up_nex, Int.reduceAdd]
      omega
    · have := hS i i0 i1
      clear hs hS
      try simp (disch := omega) only [up_nei, up_nex, Int.reduceAdd]
      omega
  · rw [up_nei (by omega)]
    obtain ⟨b1, b2, b3⟩ := hB
    refine ⟨by rw [b40]; exact b1, b2, fun i i0 i1 => ?_⟩
    rw [up_nex (by omega), up_nei (by omega)]
    exact b3 i i0 i1
  · exact pBook_same (fun _ _ _ _ => rfl) (fun i hi => up_nei (by omega)) hb
  · refine ⟨?_, ?_, ?_, ?_, fun i i0 i1 => ?_, fun i i0 i1 => ?_⟩
    · show upM N 802 _ v 802 _ ≤ upM N 802 _ v 802 _
      rw [up_nei (by omega), up_nei (by omega)]; omega
    · show upM N 802 _ v 802 _ ≤ upM N 802 _ v 802 _
      rw [up_nei (by omega), up_nei (by omega)]; omega
    · show upM N 802 _ v 802 _ ≤ upM N 802 _ v 802 _
      rw [up_nei (by omega), up_nei (by omega)]; omega
    · show upM N 802 _ v 802 _ ≤ upM N 802 _ v 802 _ + 280
      rw [up_nei (by omega), up_nei (by omega)]; omega
    · change upM N 802 _ v 802 _ ≤ i at i0
      change i < upM N 802 _ v 802 _ at i1
      rw [up_nei (by omega)] at i0 i1
      omega
    · change upM N 802 _ v 802 _ ≤ i at i0
      change i < upM N 802 _ v 802 _ at i1
      rw [up_nei (by omega)] at i0 i1
      omega
theorem t_raise {M N : Mem} {n : Nat} {p q : Int} (h : pRel M N) (hn : 2000 ≤ n) : pSimT (fun v => v = 0 ∨ v = 1) (f_X11_raise p q M) (f_X12_raise n p q N) N := by
  have h1 := pR_num h
  unfold f_X11_raise f_X12_raise
  rw [p_isStepM h, p_isStepN h, p_isB, p_isIn]
  by_cases hp : 0 ≤ p ∧ p < N 802 0
  · by_cases hq : 0 ≤ q ∧ q ≤ 99
    · have h2 := pR_step h p hp.1 hp.2
      rw [if_pos hp, if_pos hq]
      simp (disch := omega) only [if_pos, if_neg, p_ck, p_at, Option.bind_some]
      rw [show 16 + 8 * p + 1 = 17 + 8 * p by omega, ← h2.2.1.1]
      by_cases e : M 5 p = q
      · rw [if_neg (by omega), if_neg (by omega)]
        exact ⟨0, M, N, rfl, rfl, h, rfl, Or.inl rfl⟩
      · obtain ⟨M', N', k1, k2, k3, k4, k5, k6, k7⟩ := s_keep h hn
        rw [if_pos e, if_pos e, k1, k2]
        simp (disch := omega) only [Option.bind_some, p_lt, p_put]
        have e0 : N' 802 0 = N 802 0 := k6 0 (by omega) (by omega)
        exact ⟨1, _, _, rfl, rfl, pRel_stepUp (w := 1) k3 k7 hp.1 (by omega) (by omega) (by omega) hq.1 ⟨fun _ => hq.2, fun z => by omega, fun z => by omega, fun z => by omega⟩, (up_nei (by omega)).trans (k6 2 (by omega) (by omega)), Or.inr rfl⟩
    · simp (disch := omega) only [if_pos, if_neg]
      exact ⟨0, M, N, rfl, rfl, h, rfl, Or.inl rfl⟩
  · rw [if_neg hp]
    exact ⟨0, M, N, rfl, rfl, h, rfl, Or.inl rfl⟩
