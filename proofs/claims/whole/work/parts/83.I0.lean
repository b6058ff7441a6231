set_option linter.unusedVariables false
set_option linter.unusedSimpArgs false
/-! voyages: two ways of planning, as numbers -/
/-- the reference's table for an hour H of coming, with one row more -/
def vE (c : Int → Int → Int) (R H : Int) (E : Int → Int → Int) : Prop := (∀ t, 0 ≤ t → t ≤ 48 → E R t = if t = H then 0 else 100000000) ∧ (∀ k, 0 ≤ k → k < R → E k 48 = 100000000 ∧ ∀ t, 0 ≤ t → t < 48 → E k t = min (c k t + E (k + 1) (t + 1)) (E k (t + 1)))
def vIsL (c : Int → Int → Int) (R H : Int) (L : Int → Int → Int) : Prop := (∀ t, 0 ≤ t → t ≤ 48 → L (R - 1) t = if t < H then c (R - 1) (H - 1) else 100000000) ∧ (∀ k, 0 ≤ k → k < R - 1 → L k 48 = 100000000 ∧ ∀ t, 0 ≤ t → t < 48 → L k t = min (c k t + L (k + 1) (t + 1)) (L k (t + 1)))
/-- the class's tables -/
def vIsP (c : Int → Int → Int) (R n : Int) (P C G : Int → Int → Int) : Prop := (∀ t, 0 ≤ t → t ≤ n → P R t = 0 ∧ C R t = t)
  ∧ (∀ k t, 0 ≤ k → k < R → 0 ≤ t → t ≤ n - R + k →
    ((t = n - R + k ∨ ¬ (P k (t + 1) < c k t + P (k + 1) (t + 1) ∨ (P k (t + 1) = c k t + P (k + 1) (t + 1) ∧ C k (t + 1) < C (k + 1) (t + 1)))) ∧ P k t = c k t + P (k + 1) (t + 1) ∧ C k t = C (k + 1) (t + 1) ∧ G k t = t)
    ∨ (t < n - R + k ∧ (P k (t + 1) < c k t + P (k + 1) (t + 1) ∨ (P k (t + 1) = c k t + P (k + 1) (t + 1) ∧ C k (t + 1) < C (k + 1) (t + 1))) ∧ P k t = P k (t + 1) ∧ C k t = C k (t + 1) ∧ G k t = G k (t + 1)))
def vExt (R H : Int) (L : Int → Int → Int) : Int → Int → Int := fun k t => if k = R then (if t = H then 0 else 100000000) else L k t
theorem vExt_E {c : Int → Int → Int} {R H : Int} {L : Int → Int → Int} (hc : ∀ k t, 0 ≤ k → k < R → 0 ≤ t → t < 48 → 0 ≤ c k t ∧ c k t ≤ 9999) (h1 : 1 ≤ R) (h2 : 1 ≤ H) (h3 : H ≤ 48) (hL : vIsL c R H L) : vE c R H (vExt R H L) := by
  obtain ⟨a, b⟩ := hL
  refine ⟨fun t t0 t1 => by unfold vExt; rw [if_pos rfl], fun k k0 k1 => ?_⟩
  by_cases q : k = R - 1
  · subst q
    have e : ∀ t, vExt R H L (R - 1) t = L (R - 1) t := fun t => by unfold vExt; rw [if_neg (by omega)]
    have e2 : ∀ t, vExt R H L (R - 1 + 1) t = if t = H then 0 else 100000000 := fun t => by unfold vExt; rw [if_pos (by omega)]
    refine ⟨by rw [e, a 48 (by omega) (by omega), if_neg (by omega)], fun t t0 t1 => ?_⟩
    have g := hc (R - 1) t (by omega) (by omega) t0 t1
    have g2 := hc (R - 1) (H - 1) (by omega) (by omega) (by omega) (by omega)
    rw [e, e, e2, a t t0 (by omega), a (t + 1) (by omega) (by omega)]
    by_cases x : t + 1 = H
    · rw [if_pos (by omega), if_pos x, if_neg (by omega), show H - 1 = t by omega]
      omega
    · rw [if_neg x]
      by_cases y : t < H
      · rw [if_pos y, if_pos (by omega)]; omega
      · rw [if_neg y, if_neg (by omega)]; omega
  · have e : ∀ t, vExt R H L k t = L k t := fun t => by unfold vExt; rw [if_neg (by omega)]
    have e2 : ∀ t, vExt R H L (k + 1) t = L (k + 1) t := fun t => by unfold vExt; rw [if_neg (by omega)]
    obtain ⟨b1, b2⟩ := b k k0 (by omega)
    refine ⟨by rw [e]; exact b1, fun t t0 t1 => ?_⟩
    rw [e, e, e2]
    exact b2 t t0 t1
theorem vNV {c : Int → Int → Int} {R H : Int} {E : Int → Int → Int} (hc : ∀ k t, 0 ≤ k → k < R → 0 ≤ t → t < 48 → 0 ≤ c k t ∧ c k t ≤ 9999) (hE : vE c R H E) : ∀ (j : Nat) (k : Int), R - k = j → 0 ≤ k → ∀ (i : Nat) (t : Int), 48 - t = i → 0 ≤ t → H - R + k < t → 100000000 ≤ E k t := by
  intro j
  induction j with
  | zero =>
    intro k hk k0 i t hi t0 t1
    rw [show k = R by omega, hE.1 t t0 (by omega), if_neg (by omega)]
    omega
  | succ j ihj =>
    intro k hk k0 i
    obtain ⟨e1, e2⟩ := hE.2 k k0 (by omega)
    induction i with
    | zero => intro t hi t0 t1; rw [show t = 48 by omega, e1]; omega
    | succ i ih =>
      intro t hi t0 t1
      have g := hc k t k0 (by omega) t0 (by omega)
      have a := ihj (k + 1) (by omega) (by omega) i (t + 1) (by omega) (by omega) (by omega)
      have b := ih (t + 1) (by omega) (by omega) (by omega)
      rw [e2 t t0 (by omega)]
      omega
section Voy
variable {c : Int → Int → Int} {R n : Int} {P C G : Int → Int → Int} {E : Int → Int → Int → Int}
/-- the class's pence are the least of the reference's, and it comes at the least such hour -/
def vGood (R n : Int) (P C : Int → Int → Int) (E : Int → Int → Int → Int) (k t : Int) : Prop := (∀ H, R ≤ H → H ≤ n → P k t ≤ E H k t ∧ (E H k t = P k t → C k t ≤ H)) ∧ E (C k t) k t = P k t ∧ R ≤ C k t ∧ C k t ≤ n ∧ 0 ≤ P k t ∧ P k t ≤ 9999 * (R - k)
theorem vMain (hc : ∀ k t, 0 ≤ k → k < R → 0 ≤ t → t < 48 → 0 ≤ c k t ∧ c k t ≤ 9999) (h1 : 1 ≤ R) (h2 : R ≤ n) (h3 : n ≤ 48) (h8 : R ≤ 8) (hP : vIsP c R n P C G) (hE : ∀ H, R ≤ H → H ≤ n → vE c R H (E H)) :
    ∀ (j : Nat) (k : Int), R - k = j → 0 ≤ k → ∀ (i : Nat) (t : Int), n - R + k - t = i → k ≤ t → vGood R n P C E k t := by
  intro j
  induction j with
  | zero =>
    intro k hk k0 i t hi t0
    have hkR : k = R := by omega
    subst hkR
    obtain ⟨p1, p2⟩ := hP.1 t (by omega) (by omega)
    refine ⟨fun H H0 H1 => ?_, ?_, by omega, by omega, by omega, by omega⟩
    · rw [(hE H H0 H1).1 t (by omega) (by omega), p1, p2]
      by_cases q : t = H
      · rw [if_pos q]; omega
      · rw [if_neg q]; omega
    · rw [p2, (hE t (by omega) (by omega)).1 t (by omega) (by omega), if_pos rfl, p1]
  | succ j ihj =>
    intro k hk k0 i
    induction i with
    | zero =>
      intro t hi t0
      have g := hc k t k0 (by omega) (by omega) (by omega)
      obtain ⟨a1, a2, a3, a4, a5, a6⟩ := ihj (k + 1) (by omega) (by omega) (n - R + (k + 1) - (t + 1)).toNat (t + 1) (by omega) (by omega)
      rcases hP.2 k t k0 (by omega) (by omega) (by omega) with ⟨-, b1, b2, b3⟩ | ⟨b0, -⟩
      · have step : ∀ H, R ≤ H → H ≤ n → E H k t = min (c k t + E H (k + 1) (t + 1)) (E H k (t + 1)) ∧ 100000000 ≤ E H k (t + 1) := fun H H0 H1 => ⟨((hE H H0 H1).2 k k0 (by omega)).2 t (by omega) (by omega), vNV hc (hE H H0 H1) (j + 1) k hk k0 (48 - (t + 1)).toNat (t + 1) (by omega) (by omega) (by omega)⟩
        refine ⟨fun H H0 H1 => ?_, ?_, by omega, by omega, by omega, by omega⟩
        · obtain ⟨s1, s2⟩ := step H H0 H1
          obtain ⟨q1, q2⟩ := a1 H H0 H1
          rw [s1, b1, b2]
          exact ⟨by omega, fun z => q2 (by omega)⟩
        · obtain ⟨s1, s2⟩ := step (C k t) (by omega) (by omega)
          rw [s1, b1]
          rw [b2] at s2 ⊢
          omega
      · omega
    | succ i ih =>
      intro t hi t0
      have g := hc k t k0 (by omega) (by omega) (by omega)
      obtain ⟨a1, a2, a3, a4, a5, a6⟩ := ihj (k + 1) (by omega) (by omega) (n - R + (k + 1) - (t + 1)).toNat (t + 1) (by omega) (by omega)
      obtain ⟨w1, w2, w3, w4, w5, w6⟩ := ih (t + 1) (by omega) (by omega)
      have step : ∀ H, R ≤ H → H ≤ n → E H k t = min (c k t + E H (k + 1) (t + 1)) (E H k (t + 1)) := fun H H0 H1 => ((hE H H0 H1).2 k k0 (by omega)).2 t (by omega) (by omega)
      rcases hP.2 k t k0 (by omega) (by omega) (by omega) with ⟨b0, b1, b2, b3⟩ | ⟨b0, b0', b1, b2, b3⟩
      · refine ⟨fun H H0 H1 => ?_, ?_, by omega, by omega, by omega, by omega⟩
        · have s1 := step H H0 H1
          obtain ⟨q1, q2⟩ := a1 H H0 H1
          obtain ⟨r1, r2⟩ := w1 H H0 H1
          rw [s1, b1, b2]
          refine ⟨by omega, fun z => ?_⟩
          by_cases y : E H (k + 1) (t + 1) = P (k + 1) (t + 1)
          · exact q2 y
          · have := r2 (by omega)
            omega
        · have s1 := step (C k t) (by omega) (by omega)
          have r1 := (w1 (C k t) (by omega) (by omega)).1
          rw [s1, b1]
          rw [b2] at r1 ⊢
          omega
      · refine ⟨fun H H0 H1 => ?_, ?_, by omega, by omega, by omega, by omega⟩
        · have s1 := step H H0 H1
          obtain ⟨q1, q2⟩ := a1 H H0 H1
          obtain ⟨r1, r2⟩ := w1 H H0 H1
          rw [s1, b1, b2]
          refine ⟨by omega, fun z => ?_⟩
          by_cases y : E H k (t + 1) = P k (t + 1)
          · exact r2 y
          · have := q2 (by omega)
            omega
        · have s1 := step (C k t) (by omega) (by omega)
          have q1 := (a1 (C k t) (by omega) (by omega)).1
          rw [s1, b1]
          rw [b2] at q1 ⊢
          omega
/-- the hour at which the class goes is the first that the reference finds -/
theorem vGoes (hc : ∀ k t, 0 ≤ k → k < R → 0 ≤ t → t < 48 → 0 ≤ c k t ∧ c k t ≤ 9999) (h1 : 1 ≤ R) (h2 : R ≤ n) (h3 : n ≤ 48) (h8 : R ≤ 8) (hP : vIsP c R n P C G) (hE : ∀ H, R ≤ H → H ≤ n → vE c R H (E H)) {k : Int} (k0 : 0 ≤ k) (kR : k < R) {H : Int} :
    ∀ (i : Nat) (t : Int), n - R + k - t = i → k ≤ t → C k t = H → t ≤ G k t ∧ G k t ≤ n - R + k ∧ C (k + 1) (G k t + 1) = H ∧ c k (G k t) + E H (k + 1) (G k t + 1) = E H k t ∧ (∀ u, t ≤ u → u < G k t → c k u + E H (k + 1) (u + 1) ≠ E H k t) := by
  intro i
  have good : ∀ k t, 0 ≤ k → k ≤ R → k ≤ t → t ≤ n - R + k → vGood R n P C E k t := fun k t q0 q1 q2 q3 => vMain hc h1 h2 h3 h8 hP hE (R - k).toNat k (by omega) q0 (n - R + k - t).toNat t (by omega) q2
  induction i with
  | zero =>
    intro t hi t0 hC
    obtain ⟨a1, a2, a3, a4, a5, a6⟩ := good (k + 1) (t + 1) (by omega) (by omega) (by omega) (by omega)
    obtain ⟨w1, w2, w3, w4, w5, w6⟩ := good k t k0 (by omega) t0 (by omega)
    rcases hP.2 k t k0 (by omega) (by omega) (by omega) with ⟨-, b1, b2, b3⟩ | ⟨b0, -⟩
    · rw [b3]
      rw [hC] at w2
      rw [← b2, hC] at a2
      exact ⟨Int.le_refl _, by omega, by omega, by omega, fun u u0 u1 => by omega⟩
    · omega
  | succ i ih =>
    intro t hi t0 hC
    obtain ⟨a1, a2, a3, a4, a5, a6⟩ := good (k + 1) (t + 1) (by omega) (by omega) (by omega) (by omega)
    obtain ⟨w1, w2, w3, w4, w5, w6⟩ := good k t k0 (by omega) t0 (by omega)
    rcases hP.2 k t k0 (by omega) (by omega) (by omega) with ⟨b0, b1, b2, b3⟩ | ⟨b0, b0', b1, b2, b3⟩
    · rw [b3]
      rw [hC] at w2
      rw [← b2, hC] at a2
      exact ⟨Int.le_refl _, by omega, by omega, by omega, fun u u0 u1 => by omega⟩
    · obtain ⟨c1, c2, c3, c4, c5⟩ := ih (t + 1) (by omega) (by omega) (by omega)
      obtain ⟨y1, y2, y3, y4, y5, y6⟩ := good k (t + 1) k0 (by omega) (by omega) (by omega)
      have hH : R ≤ H ∧ H ≤ n := by omega
      rw [hC] at w2
      rw [← b2, hC] at y2
      have eE : E H k (t + 1) = E H k t := by omega
      obtain ⟨q1, q2⟩ := a1 H hH.1 hH.2
      rw [b3]
      rw [eE] at c4 c5
      refine ⟨by omega, c2, c3, c4, fun u u0 u1 => ?_⟩
      by_cases q : u = t
      · subst q
        intro z
        have : E H (k + 1) (u + 1) = P (k + 1) (u + 1) := by omega
        have := q2 this
        omega
      · exact c5 u (by omega) u1
end Voy
