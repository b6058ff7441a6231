set_option linter.unusedVariables false
set_option linter.unusedSimpArgs false
/-- the hours at which the class goes -/
def vG (G : Int → Int → Int) : Nat → Int
  | 0 => G 0 0
  | i + 1 => G ((i : Int) + 1) (vG G i + 1)
section VoyG
variable {c : Int → Int → Int} {R n H : Int} {P C G : Int → Int → Int} {E : Int → Int → Int → Int}
theorem vPath (hc : ∀ k t, 0 ≤ k → k < R → 0 ≤ t → t < 48 → 0 ≤ c k t ∧ c k t ≤ 9999) (h1 : 1 ≤ R) (h2 : R ≤ n) (h3 : n ≤ 48) (h8 : R ≤ 8) (hP : vIsP c R n P C G) (hE : ∀ H, R ≤ H → H ≤ n → vE c R H (E H)) (hH : C 0 0 = H) : ∀ i : Nat, (i : Int) < R → (i : Int) ≤ vG G i ∧ vG G i ≤ n - R + i ∧ C ((i : Int) + 1) (vG G i + 1) = H := by
  intro i
  induction i with
  | zero =>
    intro hi
    have g := vGoes hc h1 h2 h3 h8 hP hE (k := 0) (Int.le_refl _) (by omega) (H := H) (n - R).toNat 0 (by omega) (Int.le_refl _) hH
    exact ⟨g.1, by have := g.2.1; show G 0 0 ≤ _; omega, g.2.2.1⟩
  | succ i ih =>
    intro hi
    obtain ⟨a1, a2, a3⟩ := ih (by omega)
    have g := vGoes hc h1 h2 h3 h8 hP hE (k := (i : Int) + 1) (by omega) (by omega) (H := H) (n - R + ((i : Int) + 1) - (vG G i + 1)).toNat (vG G i + 1) (by omega) (by omega) a3
    show ((i + 1 : Nat) : Int) ≤ G ((i : Int) + 1) (vG G i + 1) ∧ G ((i : Int) + 1) (vG G i + 1) ≤ n - R + ((i + 1 : Nat) : Int) ∧ C (((i + 1 : Nat) : Int) + 1) (G ((i : Int) + 1) (vG G i + 1) + 1) = H
    refine ⟨by omega, by omega, ?_⟩
    have := g.2.2.1
    rw [show ((i + 1 : Nat) : Int) = (i : Int) + 1 by omega]
    exact this
end VoyG
section VoyF
variable {R H n' : Int} {F : Int → Int} {P C G : Int → Int → Int} {E : Int → Int → Int → Int}
/-- the search for the hour -/
theorem l_find27 {N : Mem} (hR : R ≤ 8) {k least g : Int} (k0 : 0 ≤ k) (kR : k + 1 < R) (g1 : g ≤ 46) (hb : ∀ u, 0 ≤ u → u ≤ 47 → 0 ≤ N 813 (48 * k + u) ∧ N 813 (48 * k + u) ≤ 9999 ∧ 0 ≤ N 814 (49 * (k + 1) + (u + 1)) ∧ N 814 (49 * (k + 1) + (u + 1)) ≤ 100000000) (hg : N 813 (48 * k + g) + N 814 (49 * (k + 1) + (g + 1)) = least) (a b : Int) :
    ∀ (f n : Nat) (t : Int), g - t < f → f ≤ n → 0 ≤ t → t ≤ g → (∀ u, t ≤ u → u < g → N 813 (48 * k + u) + N 814 (49 * (k + 1) + (u + 1)) ≠ least) → f_X12_findGoes_L27 n a b t k least N = some g := by
  intro f
  induction f with
  | zero => intro n t h0; omega
  | succ f ih =>
    intro n t h0 h1 t0 t1 hu
    obtain ⟨n, rfl⟩ : ∃ m, n = m + 1 := ⟨n - 1, by omega⟩
    have hbt := hb t t0 (by omega)
    rw [f_X12_findGoes_L27, p_wI (x := 48 * k) (by omega) (by omega), p_wI (x := 48 * k + t) (by omega) (by omega), p_ck (show 0 ≤ 48 * k + t ∧ 48 * k + t < 384 by omega), p_wI (x := k + 1) (by omega) (by omega), p_wI (x := 49 * (k + 1)) (by omega) (by omega), p_wI (x := 49 * (k + 1) + t) (by omega) (by omega), p_wI (x := 49 * (k + 1) + t + 1) (by omega) (by omega), p_ck (show 0 ≤ 49 * (k + 1) + t + 1 ∧ 49 * (k + 1) + t + 1 < 441 by omega), show 49 * (k + 1) + t + 1 = 49 * (k + 1) + (t + 1) by omega, p_wI (x := N 813 (48 * k + t) + N 814 (49 * (k + 1) + (t + 1))) (by omega) (by omega), p_wI (x := t + 1) (by omega) (by omega)]
    by_cases q : t = g
    · subst q
      rw [if_pos hg]
    · rw [if_neg (hu t (Int.le_refl _) (by omega))]
      exact ih n (t + 1) (by omega) (by omega) (by omega) (by omega) (fun u u0 u1 => hu u (by omega) u1)
theorem vNVle {c : Int → Int → Int} {L : Int → Int → Int} (hc : ∀ k t, 0 ≤ k → k < R → 0 ≤ t → t < 48 → 0 ≤ c k t ∧ c k t ≤ 9999) (h1 : 1 ≤ H) (hH : H ≤ 48) (h : vIsL c R H L) : ∀ (j : Nat) (k : Int), R - 1 - k = j → 0 ≤ k → ∀ (i : Nat) (t : Int), 48 - t = i → 0 ≤ t → 0 ≤ L k t ∧ L k t ≤ 100000000 := by
  intro j
  induction j with
  | zero =>
    intro k hk k0 i t hi t0
    have := hc (R - 1) (H - 1) (by omega) (by omega) (by omega) (by omega)
    rw [show k = R - 1 by omega, h.1 t t0 (by omega)]
    split <;> omega
  | succ j ihj =>
    intro k hk k0 i
    obtain ⟨a1, a2⟩ := h.2 k k0 (by omega)
    induction i with
    | zero => intro t hi t0; rw [show t = 48 by omega, a1]; omega
    | succ i ih =>
      intro t hi t0
      have x := ihj (k + 1) (by omega) (by omega) i (t + 1) (by omega) (by omega)
      have y := ih (t + 1) (by omega) (by omega)
      have z := hc k t k0 (by omega) t0 (by omega)
      rw [a2 t t0 (by omega)]
      omega
/-- the reference finds the class's hours -/
theorem l_findGoes {N : Mem} (hc : ∀ q, 0 ≤ q → q < 48 * R → N 813 q = F q ∧ 0 ≤ F q ∧ F q ≤ 9999) (h1 : 1 ≤ R) (h2 : R ≤ n') (h3 : n' ≤ 48) (h8 : R ≤ 8) (hP : vIsP (fun k t => F (48 * k + t)) R n' P C G) (hE : ∀ H, R ≤ H → H ≤ n' → vIsL (fun k t => F (48 * k + t)) R H (E H)) (hH : C 0 0 = H) (hH0 : R ≤ H) (hH1 : H ≤ n') (hL : vIsL (fun k t => F (48 * k + t)) R H (fun k t => N 814 (49 * k + t))) {n : Nat} (hn : 200 ≤ n) :
    ∃ N', f_X12_findGoes n R H N = some N' ∧ (∀ x, x ≠ 815 → ∀ j, N' x j = N x j) ∧ (∀ i : Nat, (i : Int) < R → N' 815 i = vG G i) := by
  have hc' : ∀ k t, 0 ≤ k → k < R → 0 ≤ t → t < 48 → 0 ≤ (fun k t => F (48 * k + t)) k t ∧ (fun k t => F (48 * k + t)) k t ≤ 9999 := fun k t k0 k1 t0 t1 => (hc (48 * k + t) (by omega) (by omega)).2
  have hE' : ∀ H, R ≤ H → H ≤ n' → vE (fun k t => F (48 * k + t)) R H (vExt R H (E H)) := fun H q0 q1 => vExt_E hc' h1 (by omega) (by omega) (hE H q0 q1)
  have path := vPath hc' h1 h2 h3 h8 hP hE' hH
  have uq : ∀ k t, 0 ≤ k → k < R → 0 ≤ t → t ≤ 48 → E H k t = N 814 (49 * k + t) := fun k t k0 k1 t0 t1 => vUniq (hE H hH0 hH1) hL (R - 1 - k).toNat k (by omega) k0 (48 - t).toNat t (by omega) t0
  have ub : ∀ k t, 0 ≤ k → k < R → 0 ≤ t → t ≤ 48 → 0 ≤ N 814 (49 * k + t) ∧ N 814 (49 * k + t) ≤ 100000000 := fun k t k0 k1 t0 t1 => vNVle hc' (by omega) (by omega) hL (R - 1 - k).toNat k (by omega) k0 (48 - t).toNat t (by omega) t0
  have ext : ∀ k t, k < R → vExt R H (E H) k t = E H k t := fun k t hk => by unfold vExt; rw [if_neg (by omega)]
  have loop : ∀ (f m : Nat) (k : Nat) (t : Int) (N1 : Mem), R - 1 - k < f → f + 60 ≤ m → (k : Int) ≤ R - 1 → (t = match k with | 0 => 0 | i + 1 => vG G i + 1) → (∀ x, x ≠ 815 → ∀ j, N1 x j = N x j) → (∀ i : Nat, i < k → N1 815 i = vG G i) →
      ∃ N', f_X12_findGoes_L5 m R H t k N1 = some N' ∧ (∀ x, x ≠ 815 → ∀ j, N' x j = N x j) ∧ (∀ i : Nat, (i : Int) < R - 1 → N' 815 i = vG G i) := by
    intro f
    induction f with
    | zero => intro m k t N1 q0; omega
    | succ f ih =>
      intro m k t N1 q0 q1 q2 ht fr hi
      obtain ⟨m, rfl⟩ : ∃ m', m = m' + 1 := ⟨m - 1, by omega⟩
      rw [f_X12_findGoes_L5, p_wI (x := R - 1) (by omega) (by omega)]
      by_cases c : R - 1 ≤ k
      · rw [if_pos c]
        exact ⟨N1, rfl, fr, fun i i1 => hi i (by omega)⟩
      · have tk : (k : Int) ≤ t ∧ t ≤ n' - R + k ∧ C k t = H := by
          cases k with
          | zero =>
            have ht : t = 0 := ht
            rw [ht]; exact ⟨by omega, by omega, hH⟩
          | succ k =>
            have := path k (by omega)
            rw [ht]
            show ((k + 1 : Nat) : Int) ≤ vG G k + 1 ∧ vG G k + 1 ≤ _ ∧ C ((k + 1 : Nat) : Int) (vG G k + 1) = H
            exact ⟨by omega, by omega, this.2.2⟩
        have gk : G k t = vG G k := by
          cases k with
          | zero => rw [ht]; rfl
          | succ k => rw [ht]; rfl
        have g := vGoes hc' h1 h2 h3 h8 hP hE' (k := (k : Int)) (by omega) (by omega) (H := H) (n' - R + k - t).toNat t (by omega) tk.1 tk.2.2
        rw [gk] at g
        obtain ⟨w1, w2, w3, w4, w5⟩ := g
        have e813 : ∀ u, 0 ≤ u → u ≤ 47 → N1 813 (48 * k + u) = F (48 * k + u) := fun u u0 u1 => by rw [fr 813 (by decide)]; exact (hc _ (by omega) (by omega)).1
        have e814 : ∀ j, N1 814 j = N 814 j := fr 814 (by decide)
        have conv : ∀ u, 0 ≤ u → u ≤ 47 → vExt R H (E H) ((k : Int) + 1) (u + 1) = N1 814 (49 * ((k : Int) + 1) + (u + 1)) := fun u u0 u1 => by rw [ext _ _ (by omega), uq _ _ (by omega) (by omega) (by omega) (by omega), e814]
        have eL : vExt R H (E H) k t = N1 814 (49 * k + t) := by rw [ext _ _ (by omega), uq _ _ (by omega) (by omega) (by omega) (by omega), e814]
        have fnd := l_find27 (N := N1) h8 (k := k) (least := N1 814 (49 * k + t)) (g := vG G k) (by omega) (by omega) (by omega) (fun u u0 u1 => by
            rw [e813 u u0 u1, e814]
            have := (hc (48 * k + u) (by omega) (by omega)).2
            have := ub ((k : Int) + 1) (u + 1) (by omega) (by omega) (by omega) (by omega)
            omega) (by rw [e813 _ (by omega) (by omega), ← conv _ (by omega) (by omega), ← eL]; exact w4) R H 60 m t (by omega) (by omega) (by omega) w1 (fun u u0 u1 => by
            rw [e813 u (by omega) (by omega), ← conv u (by omega) (by omega), ← eL]
            exact w5 u u0 u1)
        rw [if_neg c, p_wI (x := 49 * (k : Int)) (by omega) (by omega), p_wI (x := 49 * (k : Int) + t) (by omega) (by omega), p_ck (show 0 ≤ 49 * (k : Int) + t ∧ 49 * (k : Int) + t < 441 by omega), fnd, Option.bind_some, p_ck (show 0 ≤ (k : Int) ∧ (k : Int) < 8 by omega), p_wI (x := vG G k + 1) (by omega) (by omega), p_wI (x := (k : Int) + 1) (by omega) (by omega), show (k : Int) + 1 = ((k + 1 : Nat) : Int) by omega]
        simp only [p_lt]
        refine ih m (k + 1) _ _ (by omega) (by omega) (by omega) rfl (fun x hx j => by rw [up_nex hx]; exact fr x hx j) (fun i i1 => ?_)
        by_cases e : i = k
        · subst e; rw [up_eq]
        · rw [up_nei (by omega)]; exact hi i (by omega)
  obtain ⟨N1, a1, a2, a3⟩ := loop 20 n 0 0 N (by omega) (by omega) (by omega) rfl (fun _ _ _ => rfl) (fun i hi => by omega)
  have a1' : f_X12_findGoes_L5 n R H 0 0 N = some N1 := a1
  obtain ⟨r, hr⟩ : ∃ r : Nat, R - 1 = r := ⟨(R - 1).toNat, by omega⟩
  have pr := path r (by omega)
  have hRR := (hP.1 (vG G r + 1) (by omega) (by omega)).2
  rw [show (r : Int) + 1 = R by omega, hRR] at pr
  unfold f_X12_findGoes
  rw [a1', Option.bind_some, p_wI (x := R - 1) (by omega) (by omega), p_wI (x := H - 1) (by omega) (by omega), p_ck (by omega)]
  refine ⟨_, rfl, fun x hx j => by rw [up_nex hx]; exact a2 x hx j, fun i hi => ?_⟩
  by_cases e : i = r
  · subst e
    rw [hr, up_eq]
    omega
  · rw [up_nei (by omega)]
    exact a3 i (by omega)
end VoyF
