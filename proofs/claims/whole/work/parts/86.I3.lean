set_option linter.unusedVariables false
set_option linter.unusedSimpArgs false
/-! the class's voyage -/
/-- what planning may change in the class -/
def pFPl (M1 M : Mem) : Prop := (∀ x, x ≠ 713 → ¬ (719 ≤ x ∧ x < 749) → x ≠ 762 → ∀ j, M x j = M1 x j) ∧ (∀ j, j ≠ 11 → M 762 j = M1 762 j)
/-- the class's tables of a store -/
abbrev vP (M : Mem) : Int → Int → Int := fun k t => M (719 + k) t
abbrev vC (M : Mem) : Int → Int → Int := fun k t => M (729 + k) t
abbrev vGo (M : Mem) : Int → Int → Int := fun k t => M (739 + k) t
/-- a row of them, at t -/
def vRowAt (c : Int → Int → Int) (R n : Int) (M : Mem) (k t : Int) : Prop :=
    ((t = n - R + k ∨ ¬ (vP M k (t + 1) < c k t + vP M (k + 1) (t + 1) ∨ (vP M k (t + 1) = c k t + vP M (k + 1) (t + 1) ∧ vC M k (t + 1) < vC M (k + 1) (t + 1)))) ∧ vP M k t = c k t + vP M (k + 1) (t + 1) ∧ vC M k t = vC M (k + 1) (t + 1) ∧ vGo M k t = t)
    ∨ (t < n - R + k ∧ (vP M k (t + 1) < c k t + vP M (k + 1) (t + 1) ∨ (vP M k (t + 1) = c k t + vP M (k + 1) (t + 1) ∧ vC M k (t + 1) < vC M (k + 1) (t + 1))) ∧ vP M k t = vP M k (t + 1) ∧ vC M k t = vC M k (t + 1) ∧ vGo M k t = vGo M k (t + 1))
theorem vRow_same {c : Int → Int → Int} {R n : Int} {M M' : Mem} {k t : Int} (h : vRowAt c R n M k t) (e : ∀ i u, (i = k ∧ (u = t ∨ u = t + 1)) ∨ (i = k + 1 ∧ u = t + 1) → M' (719 + i) u = M (719 + i) u ∧ M' (729 + i) u = M (729 + i) u ∧ M' (739 + i) u = M (739 + i) u) : vRowAt c R n M' k t := by
  unfold vRowAt vP vC vGo at *
  obtain ⟨a1, a2, a3⟩ := e k t (Or.inl ⟨rfl, Or.inl rfl⟩)
  obtain ⟨b1, b2, b3⟩ := e k (t + 1) (Or.inl ⟨rfl, Or.inr rfl⟩)
  obtain ⟨d1, d2, d3⟩ := e (k + 1) (t + 1) (Or.inr ⟨rfl, rfl⟩)
  rw [a1, a2, a3, b1, b2, b3, d1, d2]
  exact h
section VoyM
variable {M1 N0 : Mem} {w fr R n : Int} {F : Int → Int}
theorem l_plan9 (hR : R ≤ 8) (hR0 : 1 ≤ R) (hn : n ≤ 48) (a b d e : Int) : ∀ (f m : Nat) (t : Int) (M : Mem), n + 1 - t < f → f ≤ m → 0 ≤ t → t ≤ n + 1 →
    ∃ M', f_X9_plan_L9 m a b d R n e t M = some M' ∧ (∀ x, x ≠ 719 + R → x ≠ 729 + R → ∀ j, M' x j = M x j) ∧ (∀ u, t ≤ u → u ≤ n → M' (719 + R) u = 0 ∧ M' (729 + R) u = u) ∧ (∀ u, u < t → M' (719 + R) u = M (719 + R) u ∧ M' (729 + R) u = M (729 + R) u) := by
  intro f
  induction f with
  | zero => intro m t M g0; omega
  | succ f ih =>
    intro m t M g0 g1 t0 t1
    obtain ⟨m, rfl⟩ : ∃ m', m = m' + 1 := ⟨m - 1, by omega⟩
    rw [f_X9_plan_L9]
    by_cases c : n < t
    · rw [if_pos c]
      exact ⟨M, rfl, fun _ _ _ _ => rfl, fun u u0 u1 => by omega, fun _ _ => ⟨rfl, rfl⟩⟩
    · rw [if_neg c, p_ck (by omega), p_ck (by omega), p_wI (x := t + 1) (by omega) (by omega)]
      simp only [p_lt]
      obtain ⟨M', a1, a2, a3, a4⟩ := ih m (t + 1) (upM (upM M (719 + R) t 0) (729 + R) t t) (by omega) (by omega) (by omega) (by omega)
      refine ⟨M', a1, fun x x0 x1 j => by rw [a2 x x0 x1, up_nex x1, up_nex x0], fun u u0 u1 => ?_, fun u u0 => ?_⟩
      · by_cases q : u = t
        · subst q
          obtain ⟨y1, y2⟩ := a4 u (by omega)
          rw [y1, y2, up_eq, up_nex (by omega), up_eq]
          exact ⟨rfl, rfl⟩
        · exact a3 u (by omega) u1
      · obtain ⟨y1, y2⟩ := a4 u (by omega)
        rw [y1, y2, up_nei (by omega), up_nex (by omega), up_nei (by omega), up_nex (by omega)]
        exact ⟨rfl, rfl⟩
theorem l_plan70 (hF : pToll N0 w fr R F) (hL : pLaw M1 N0) (hS : pSt M1 N0 762) (h8 : 0 ≤ N0 802 8 ∧ N0 802 8 ≤ 9999) (f0 : 0 ≤ fr) (f9 : fr ≤ 9) (hR : R ≤ 8) (hn : n ≤ 48) (hRn : R ≤ n) {k : Int} (k0 : 0 ≤ k) (kR : k < R) : ∀ (f m : Nat) (t : Int) (M : Mem), t + 1 < f → f + 500 ≤ m → -1 ≤ t → t ≤ n - R + k → pFPl M1 M → (∀ u, 0 ≤ u → u ≤ n - R + k + 1 → 0 ≤ M (719 + (k + 1)) u ∧ M (719 + (k + 1)) u ≤ 9999 * (R - k - 1)) → (∀ u, t < u → u ≤ n - R + k → vRowAt (fun k t => F (48 * k + t)) R n M k u ∧ 0 ≤ M (719 + k) u ∧ M (719 + k) u ≤ 9999 * (R - k)) →
    ∃ M', f_X9_plan_L70 m 762 w fr R n (N0 802 8) k (n - R + k) t M = some M' ∧ pFPl M1 M' ∧ (∀ x, 719 ≤ x → x < 749 → x ≠ 719 + k → x ≠ 729 + k → x ≠ 739 + k → ∀ j, M' x j = M x j) ∧ (∀ u, 0 ≤ u → u ≤ n - R + k → vRowAt (fun k t => F (48 * k + t)) R n M' k u ∧ 0 ≤ M' (719 + k) u ∧ M' (719 + k) u ≤ 9999 * (R - k)) := by
  intro f
  induction f with
  | zero => intro m t M g0; omega
  | succ f ih =>
    intro m t M g0 g1 t0 t1 fr0 hb hrow
    obtain ⟨m, rfl⟩ : ∃ m', m = m' + 1 := ⟨m - 1, by omega⟩
    rw [f_X9_plan_L70]
    by_cases c : t < 0
    · rw [if_pos c]
      exact ⟨M, rfl, fr0, fun _ _ _ _ _ _ _ => rfl, fun u u0 u1 => hrow u (by omega) u1⟩
    · have hM9 : ∀ x, x ≠ 762 → ∀ j, upM M 762 11 (N0 802 8 + t) x j = M x j := fun x hx j => up_nex hx
      have hL9 : pLaw (upM M 762 11 (N0 802 8 + t)) N0 := pLaw_same hL (by rw [hM9 0 (by decide)]; exact fr0.1 0 (by decide) (by decide) (by decide) 0) (fun x hx j => by rw [hM9 x (by omega)]; exact fr0.1 x (by omega) (by omega) (by omega) j) rfl (fun _ => rfl)
      have hS9 : pSt (upM M 762 11 (N0 802 8 + t)) N0 762 := by
        obtain ⟨u1, u2⟩ := hS
        refine ⟨by rw [up_nei (by decide), fr0.2 0 (by decide)]; exact u1, fun i i0 i1 => ?_⟩
        rw [hM9 (762 + 1) (by decide), hM9 (762 + 2) (by decide), hM9 (762 + 3) (by decide), hM9 (762 + 4) (by decide), hM9 (762 + 5) (by decide), fr0.1 (762 + 1) (by decide) (by decide) (by decide), fr0.1 (762 + 2) (by decide) (by decide) (by decide), fr0.1 (762 + 3) (by decide) (by decide) (by decide), fr0.1 (762 + 4) (by decide) (by decide) (by decide), fr0.1 (762 + 5) (by decide) (by decide) (by decide)]
        exact u2 i i0 i1
      obtain ⟨d1, d2, -⟩ := hF (48 * k + t) ⟨by omega, by omega⟩
      rw [show (48 * k + t) / 48 = k by omega, show (48 * k + t) % 48 = t by omega] at d2
      obtain ⟨M3, b1, b2⟩ := d2 m _ (by omega) hL9 hS9 up_eq
      have e1 : wI (t + (-1)) = t - 1 := by rw [p_wI (by omega) (by omega)]; omega
      have hbt := hb (t + 1) (by omega) (by omega)
      have m3 : ∀ x, 719 ≤ x → x < 749 → ∀ j, M3 x j = M x j := fun x x0 x1 j => by rw [b2 x (by omega), hM9 x (by omega)]
      have f3 : pFPl M1 M3 := ⟨fun x x0 x1 x2 j => by rw [b2 x x0, hM9 x x2]; exact fr0.1 x x0 x1 x2 j, fun j hj => by rw [b2 762 (by decide), up_nei hj]; exact fr0.2 j hj⟩
      have kmul : 9999 * (R - k - 1) ≤ 9999 * 7 := by omega
      rw [if_neg c, p_wI (x := N0 802 8 + t) (by omega) (by omega)]
      simp only [p_lt]
      rw [p_ck (show 0 ≤ k ∧ k < 9 by omega), p_wI (x := fr + k) (by omega) (by omega), b1, Option.bind_some]
      dsimp only
      rw [p_wI (x := k + 1) (by omega) (by omega), p_wI (x := t + 1) (by omega) (by omega), p_ck (show 0 ≤ k + 1 ∧ k + 1 < 9 by omega), p_ck (show 0 ≤ t + 1 ∧ t + 1 < 49 by omega), p_ck (show 0 ≤ t ∧ t < 49 by omega), m3 (719 + (k + 1)) (by omega) (by omega), p_wI (x := F (48 * k + t) + M (719 + (k + 1)) (t + 1)) (by omega) (by omega), up_nex (y := 729 + (k + 1)) (by omega), m3 (729 + (k + 1)) (by omega) (by omega), e1]
      -- after the row's numbers at t are written
      have fin : ∀ (p q g : Int) (M5 : Mem), (∀ x j, ¬ ((x = 719 + k ∨ x = 729 + k ∨ x = 739 + k) ∧ j = t) → M5 x j = M3 x j) → M5 (719 + k) t = p → M5 (729 + k) t = q → M5 (739 + k) t = g → 0 ≤ p → p ≤ 9999 * (R - k) →
          (((t = n - R + k ∨ ¬ (M (719 + k) (t + 1) < F (48 * k + t) + M (719 + (k + 1)) (t + 1) ∨ (M (719 + k) (t + 1) = F (48 * k + t) + M (719 + (k + 1)) (t + 1) ∧ M (729 + k) (t + 1) < M (729 + (k + 1)) (t + 1)))) ∧ p = F (48 * k + t) + M (719 + (k + 1)) (t + 1) ∧ q = M (729 + (k + 1)) (t + 1) ∧ g = t)
            ∨ (t < n - R + k ∧ (M (719 + k) (t + 1) < F (48 * k + t) + M (719 + (k + 1)) (t + 1) ∨ (M (719 + k) (t + 1) = F (48 * k + t) + M (719 + (k + 1)) (t + 1) ∧ M (729 + k) (t + 1) < M (729 + (k + 1)) (t + 1))) ∧ p = M (719 + k) (t + 1) ∧ q = M (729 + k) (t + 1) ∧ g = M (739 + k) (t + 1))) →
          ∃ M', f_X9_plan_L70 m 762 w fr R n (N0 802 8) k (n - R + k) (t - 1) M5 = some M' ∧ pFPl M1 M' ∧ (∀ x, 719 ≤ x → x < 749 → x ≠ 719 + k → x ≠ 729 + k → x ≠ 739 + k → ∀ j, M' x j = M x j) ∧ (∀ u, 0 ≤ u → u ≤ n - R + k → vRowAt (fun k t => F (48 * k + t)) R n M' k u ∧ 0 ≤ M' (719 + k) u ∧ M' (719 + k) u ≤ 9999 * (R - k)) := by
        intro p q g M5 h5 hp hq hg p0 p1 hrt
        have e5 : ∀ i u, 0 ≤ i → i ≤ 8 → ¬ (i = k ∧ u = t) → M5 (719 + i) u = M (719 + i) u ∧ M5 (729 + i) u = M (729 + i) u ∧ M5 (739 + i) u = M (739 + i) u := fun i u i0 i1 hi => ⟨by rw [h5 _ _ (by omega)]; exact m3 _ (by omega) (by omega) u, by rw [h5 _ _ (by omega)]; exact m3 _ (by omega) (by omega) u, by rw [h5 _ _ (by omega)]; exact m3 _ (by omega) (by omega) u⟩
        obtain ⟨M', a1, a2, a3, a4⟩ := ih m (t - 1) M5 (by omega) (by omega) (by omega) (by omega) ⟨fun x x0 x1 x2 j => by rw [h5 _ _ (by omega)]; exact f3.1 x x0 x1 x2 j, fun j hj => by rw [h5 _ _ (by omega)]; exact f3.2 j hj⟩ (fun u u0 u1 => by rw [(e5 (k + 1) u (by omega) (by omega) (by omega)).1]; exact hb u u0 u1) (fun u u0 u1 => by
          by_cases y : u = t
          · subst y
            refine ⟨?_, by rw [hp]; exact p0, by rw [hp]; exact p1⟩
            unfold vRowAt vP vC vGo
            have z1 := e5 k (u + 1) (by omega) (by omega) (by omega)
            have z2 := e5 (k + 1) (u + 1) (by omega) (by omega) (by omega)
            rw [hp, hq, hg, z1.1, z1.2.1, z1.2.2, z2.1, z2.2.1]
            exact hrt
          · obtain ⟨y1, y2⟩ := hrow u (by omega) u1
            refine ⟨vRow_same y1 (fun i v hv => e5 i v (by omega) (by omega) (by omega)), ?_⟩
            rw [(e5 k u (by omega) (by omega) (by omega)).1]
            exact y2)
        refine ⟨M', a1, a2, fun x x0 x1 x2 x3 x4 j => ?_, a4⟩
        rw [a3 x x0 x1 x2 x3 x4 j, h5 x j (by omega), m3 x x0 x1]
      generalize hM17 : upM (upM (upM M3 (719 + k) t (F (48 * k + t) + M (719 + (k + 1)) (t + 1))) (729 + k) t (M (729 + (k + 1)) (t + 1))) (739 + k) t t = M17
      have h17 : ∀ x j, ¬ ((x = 719 + k ∨ x = 729 + k ∨ x = 739 + k) ∧ j = t) → M17 x j = M3 x j := fun x j hx => by rw [← hM17, up_ne (by omega), up_ne (by omega), up_ne (by omega)]
      have p17 : M17 (719 + k) t = F (48 * k + t) + M (719 + (k + 1)) (t + 1) := by rw [← hM17, up_nex (by omega), up_nex (by omega), up_eq]
      have q17 : M17 (729 + k) t = M (729 + (k + 1)) (t + 1) := by rw [← hM17, up_nex (by omega), up_eq]
      have g17 : M17 (739 + k) t = t := by rw [← hM17, up_eq]
      have n1 : M17 (719 + k) (t + 1) = M (719 + k) (t + 1) := by rw [h17 _ _ (by omega), m3 _ (by omega) (by omega)]
      have n2 : M17 (729 + k) (t + 1) = M (729 + k) (t + 1) := by rw [h17 _ _ (by omega), m3 _ (by omega) (by omega)]
      have n3 : M17 (739 + k) (t + 1) = M (739 + k) (t + 1) := by rw [h17 _ _ (by omega), m3 _ (by omega) (by omega)]
      by_cases l : n - R + k ≤ t
      · rw [if_pos l]
        exact fin _ _ _ M17 h17 p17 q17 g17 (by omega) (by omega) (Or.inl ⟨Or.inl (by omega), rfl, rfl, rfl⟩)
      · obtain ⟨r1, r2, r3⟩ := hrow (t + 1) (by omega) (by omega)
        rw [if_neg l]
        unfold f_X9_isWaitBetter
        rw [p_ck (show 0 ≤ k ∧ k < 9 by omega), p_wI (x := t + 1) (by omega) (by omega), p_ck (show 0 ≤ t + 1 ∧ t + 1 < 49 by omega), p_ck (show 0 ≤ t ∧ t < 49 by omega), n1, n2, p17, q17]
        have wait : (M (719 + k) (t + 1) < F (48 * k + t) + M (719 + (k + 1)) (t + 1) ∨ (M (719 + k) (t + 1) = F (48 * k + t) + M (719 + (k + 1)) (t + 1) ∧ M (729 + k) (t + 1) < M (729 + (k + 1)) (t + 1))) →
            ∃ M', (lt (upM M17 (719 + k) t (M (719 + k) (t + 1))) fun M21 => lt (upM M21 (729 + k) t (M21 (729 + k) (t + 1))) fun M22 => lt (upM M22 (739 + k) t (M22 (739 + k) (t + 1))) fun M23 => f_X9_plan_L70 m 762 w fr R n (N0 802 8) k (n - R + k) (t - 1) M23) = some M' ∧ pFPl M1 M' ∧ (∀ x, 719 ≤ x → x < 749 → x ≠ 719 + k → x ≠ 729 + k → x ≠ 739 + k → ∀ j, M' x j = M x j) ∧ (∀ u, 0 ≤ u → u ≤ n - R + k → vRowAt (fun k t => F (48 * k + t)) R n M' k u ∧ 0 ≤ M' (719 + k) u ∧ M' (719 + k) u ≤ 9999 * (R - k)) := by
          intro hw
          simp only [p_lt]
          rw [up_nex (y := 729 + k) (by omega), n2, up_nex (y := 739 + k) (by omega), up_nex (y := 739 + k) (by omega), n3]
          exact fin (M (719 + k) (t + 1)) (M (729 + k) (t + 1)) (M (739 + k) (t + 1)) _ (fun x j hx => by rw [up_ne (by omega), up_ne (by omega), up_ne (by omega), h17 x j hx]) (by rw [up_nex (by omega), up_nex (by omega), up_eq]) (by rw [up_nex (by omega), up_eq]) up_eq r2 r3 (Or.inr ⟨by omega, hw, rfl, rfl, rfl⟩)
        have stay : ¬ (M (719 + k) (t + 1) < F (48 * k + t) + M (719 + (k + 1)) (t + 1) ∨ (M (719 + k) (t + 1) = F (48 * k + t) + M (719 + (k + 1)) (t + 1) ∧ M (729 + k) (t + 1) < M (729 + (k + 1)) (t + 1))) → _ := fun hw => fin _ _ _ M17 h17 p17 q17 g17 (by omega) (by omega) (Or.inl ⟨Or.inr hw, rfl, rfl, rfl⟩)
        by_cases y : M (719 + k) (t + 1) = F (48 * k + t) + M (719 + (k + 1)) (t + 1)
        · rw [if_pos y]
          by_cases z : M (729 + (k + 1)) (t + 1) ≤ M (729 + k) (t + 1)
          · rw [if_pos z, Option.bind_some, if_pos rfl]
            exact stay (by omega)
          · rw [if_neg z, Option.bind_some, if_neg (by decide)]
            exact wait (by omega)
        · rw [if_neg y]
          by_cases z : F (48 * k + t) + M (719 + (k + 1)) (t + 1) ≤ M (719 + k) (t + 1)
          · rw [if_pos z, Option.bind_some, if_pos rfl]
            exact stay (by omega)
          · rw [if_neg z, Option.bind_some, if_neg (by decide)]
            exact wait (by omega)
theorem l_plan51 (hF : pToll N0 w fr R F) (hL : pLaw M1 N0) (hS : pSt M1 N0 762) (h8 : 0 ≤ N0 802 8 ∧ N0 802 8 ≤ 9999) (f0 : 0 ≤ fr) (f9 : fr ≤ 9) (hR : R ≤ 8) (hn : n ≤ 48) (hRn : R ≤ n) : ∀ (f m : Nat) (k : Int) (M : Mem), k + 1 < f → f + 700 ≤ m → -1 ≤ k → k < R → pFPl M1 M → (∀ u, 0 ≤ u → u ≤ n - R + k + 1 → 0 ≤ M (719 + (k + 1)) u ∧ M (719 + (k + 1)) u ≤ 9999 * (R - k - 1)) → (∀ i u, k < i → i < R → 0 ≤ u → u ≤ n - R + i → vRowAt (fun k t => F (48 * k + t)) R n M i u) → (∀ u, 0 ≤ u → u ≤ n → M (719 + R) u = 0 ∧ M (729 + R) u = u) →
    ∃ M', f_X9_plan_L51 m 762 w fr R n (N0 802 8) k M = some M' ∧ pFPl M1 M' ∧ vIsP (fun k t => F (48 * k + t)) R n (vP M') (vC M') (vGo M') := by
  intro f
  induction f with
  | zero => intro m k M g0; omega
  | succ f ih =>
    intro m k M g0 g1 k0 k1 fr0 hb hrow hlast
    obtain ⟨m, rfl⟩ : ∃ m', m = m' + 1 := ⟨m - 1, by omega⟩
    rw [f_X9_plan_L51]
    by_cases c : k < 0
    · rw [if_pos c]
      exact ⟨M, rfl, fr0, hlast, fun i u i0 i1 u0 u1 => hrow i u (by omega) i1 u0 u1⟩
    · have e1 : wI (k + (-1)) = k - 1 := by rw [p_wI (by omega) (by omega)]; omega
      obtain ⟨M2, b1, b2, b3, b4⟩ := l_plan70 hF hL hS h8 f0 f9 hR hn hRn (k := k) (by omega) k1 60 m (n - R + k) M (by omega) (by omega) (by omega) (by omega) fr0 hb (fun u u0 u1 => by omega)
      rw [if_neg c, p_wI (x := n - R) (by omega) (by omega), p_wI (x := n - R + k) (by omega) (by omega), b1, Option.bind_some, e1]
      refine ih m (k - 1) M2 (by omega) (by omega) (by omega) (by omega) b2 (fun u u0 u1 => ?_) (fun i u i0 i1 u0 u1 => ?_) (fun u u0 u1 => ?_)
      · have := (b4 u u0 (by omega)).2
        rw [show k - 1 + 1 = k by omega, show R - (k - 1) - 1 = R - k by omega]
        exact this
      · by_cases e : i = k
        · subst e; exact (b4 u u0 u1).1
        · exact vRow_same (hrow i u (by omega) i1 u0 u1) (fun j v hv => ⟨b3 _ (by omega) (by omega) (by omega) (by omega) (by omega) _, b3 _ (by omega) (by omega) (by omega) (by omega) (by omega) _, b3 _ (by omega) (by omega) (by omega) (by omega) (by omega) _⟩)
      · rw [b3 _ (by omega) (by omega) (by omega) (by omega) (by omega), b3 _ (by omega) (by omega) (by omega) (by omega) (by omega)]
        exact hlast u u0 u1
theorem l_planM (hF : pToll N0 w fr R F) (hL : pLaw M1 N0) (hS : pSt M1 N0 762) (h11 : M1 762 11 = N0 802 8) (h8 : 0 ≤ N0 802 8 ∧ N0 802 8 ≤ 9999) (f0 : 0 ≤ fr) (f9 : fr ≤ 9) (hR0 : 1 ≤ R) (hR : R ≤ 8) (hn : n ≤ 48) (hRn : R ≤ n) {m : Nat} (hm : 1000 ≤ m) :
    ∃ M', f_X9_plan m 762 w fr R n M1 = some M' ∧ pFPl M1 M' ∧ vIsP (fun k t => F (48 * k + t)) R n (vP M') (vC M') (vGo M') := by
  obtain ⟨M2, a1, a2, a3, -⟩ := l_plan9 (R := R) (n := n) hR hR0 hn 762 w fr (N0 802 8) 60 m 0 M1 (by omega) (by omega) (by omega) (by omega)
  obtain ⟨M3, b1, b2, b3⟩ := l_plan51 hF hL hS h8 f0 f9 hR hn hRn 20 m (R - 1) M2 (by omega) (by omega) (by omega) (by omega) ⟨fun x x0 x1 x2 j => a2 x (by omega) (by omega) j, fun j _ => a2 762 (by omega) (by omega) j⟩ (fun u u0 u1 => by
    rw [show R - 1 + 1 = R by omega, (a3 u u0 (by omega)).1]
    omega) (fun i u i0 i1 => by omega) (fun u u0 u1 => a3 u u0 u1)
  unfold f_X9_plan
  rw [h11, a1, Option.bind_some, p_wI (x := R - 1) (by omega) (by omega), b1, Option.bind_some]
  exact ⟨M3, rfl, b2, b3⟩
theorem l_hoursOf {M : Mem} (hP : ∀ i : Nat, (i : Int) < R → 0 ≤ vG (vGo M) i ∧ vG (vGo M) i ≤ 47) (hR : R ≤ 8) {p : Nat} (hp : (p : Int) < R) : ∀ (f m : Nat) (i : Nat), p - i < f → f ≤ m → i ≤ p → f_X9_hoursAheadOf_L11 m p (vG (vGo M) i) ((i : Int) + 1) M = some (vG (vGo M) p) := by
  intro f
  induction f with
  | zero => intro m i g0; omega
  | succ f ih =>
    intro m i g0 g1 i0
    obtain ⟨m, rfl⟩ : ∃ m', m = m' + 1 := ⟨m - 1, by omega⟩
    have := hP i (by omega)
    rw [f_X9_hoursAheadOf_L11]
    by_cases c : i = p
    · subst c
      rw [if_pos (by omega)]
    · rw [if_neg (by omega), p_ck (by omega), p_wI (x := vG (vGo M) i + 1) (by omega) (by omega), p_ck (by omega), p_wI (x := (i : Int) + 1 + 1) (by omega) (by omega)]
      exact ih m (i + 1) (by omega) (by omega) (by omega)
end VoyM
