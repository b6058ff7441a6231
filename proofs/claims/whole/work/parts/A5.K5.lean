set_option linter.unusedVariables false
set_option linter.unusedSimpArgs false
/-! ===== the store behind the constructors is the one of part 14 ===== -/
def lC : CL := c_X11 1 [((11, 12), [], [])]
def lM : CL := c_X12 801 (lC ++ [((12, 43), [], [])])
/-- the numbers of a cell at first -/
def iXk (x : Nat) (k : Kd) : List Int := if k.1 = 5 then [0, 0, 0, 0, 0, 0, 0, 0, 0, 0, 0, 0, 0, 0, 83] else if k.1 = 10 then [0, 0, 0, 0, -1] else if k.1 = 4 then [0, 0, -1, -1] else if k.1 = 12 then [0, 0, 0, 0, 0, -1, -1, 0, 0, 0, 0, 0, 0, 0, 0, 0, 0, 0, 0, 0, 0, 0, 0, 0, 0, 0, 0, 0, 1] else []
def ini : Mem := fun x j => if x = 0 then (if j = 0 then 706 else 0) else (iXk x.toNat (K0 x)).getD j.toNat 0
def eqP : List Int → List Int → Bool
  | [], [] => true
  | [], b :: bs => decide (b = 0) && eqP [] bs
  | a :: as, [] => decide (a = 0) && eqP as []
  | a :: as, b :: bs => decide (a = b) && eqP as bs
theorem eqP_get : ∀ (as bs : List Int), eqP as bs = true → ∀ j : Nat, as.getD j 0 = bs.getD j 0
  | [], [], _, j => rfl
  | [], b :: bs, h, j => by
    rw [eqP, Bool.and_eq_true, decide_eq_true_eq] at h
    cases j with
    | zero => exact h.1.symm
    | succ j => exact eqP_get [] bs h.2 j
  | a :: as, [], h, j => by
    rw [eqP, Bool.and_eq_true, decide_eq_true_eq] at h
    cases j with
    | zero => exact h.1
    | succ j => exact eqP_get as [] h.2 j
  | a :: as, b :: bs, h, j => by
    rw [eqP, Bool.and_eq_true, decide_eq_true_eq] at h
    cases j with
    | zero => exact h.1
    | succ j => exact eqP_get as bs h.2 j
def chkL : Nat → List Kd → List (List Int) → CL → Bool
  | x, k :: ks, r :: rs, c :: cs => decide (c.1 = k) && eqP c.2.1 r && eqP c.2.2 (iXk x k) && chkL (x + 1) ks rs cs
  | x, [], [], [] => Nat.beq x 823
  | _, _, _, _ => false
theorem chk_get : ∀ (cs : CL) (x : Nat) (ks : List Kd) (rs : List (List Int)), chkL x ks rs cs = true → x + cs.length = 823 ∧ ∀ i, i < cs.length → (cs.getD i ((99, 0), [], [])).1 = ks.getD i (99, 0) ∧ (∀ j : Nat, (cs.getD i ((99, 0), [], [])).2.1.getD j 0 = (rs.getD i []).getD j 0) ∧ (∀ j : Nat, (cs.getD i ((99, 0), [], [])).2.2.getD j 0 = (iXk (x + i) (ks.getD i (99, 0))).getD j 0) := by
  intro cs
  induction cs with
  | nil =>
    intro x ks rs h
    cases ks with
    | nil =>
      cases rs with
      | nil =>
        rw [chkL] at h
        exact ⟨Nat.eq_of_beq_eq_true h, fun i hi => absurd hi (Nat.not_lt_zero i)⟩
      | cons r rs => rw [chkL] at h; cases h; all_goals intros; contradiction
    | cons k ks =>
      cases rs with
      | nil => rw [chkL] at h; cases h; all_goals intros; contradiction
      | cons r rs => rw [chkL] at h; cases h; all_goals intros; contradiction
  | cons c cs ih =>
    intro x ks rs h
    cases ks with
    | nil => cases rs <;> (rw [chkL] at h; cases h; all_goals intros; contradiction)
    | cons k ks =>
      cases rs with
      | nil => rw [chkL] at h; cases h; all_goals intros; contradiction
      | cons r rs =>
        rw [chkL, Bool.and_eq_true, Bool.and_eq_true, Bool.and_eq_true, decide_eq_true_eq] at h
        obtain ⟨⟨⟨h1, h2⟩, h3⟩, h4⟩ := h
        obtain ⟨g1, g2⟩ := ih (x + 1) ks rs h4
        refine ⟨by rw [List.length_cons]; omega, fun i hi => ?_⟩
        cases i with
        | zero => exact ⟨h1, eqP_get _ _ h2, eqP_get _ _ h3⟩
        | succ i =>
          have := g2 i (by rw [List.length_cons] at hi; omega)
          rw [show x + 1 + i = x + (i + 1) by omega] at this
          exact this
set_option maxRecDepth 1000000 in
theorem lM_chk : chkL 1 kdL.tail rfL.tail lM = true := by decide +kernel
theorem kd_cons : kdL = (99, 0) :: kdL.tail := rfl
theorem rf_cons : rfL = [] :: rfL.tail := rfl
theorem ini00 : ini 0 0 = 706 := rfl
theorem ini01 : ini 0 1 = 0 := rfl
theorem mx_ini : mx ini ini = ini := by
  funext x j
  unfold mx
  split <;> rfl
theorem lM_like : likeS (sgL lM) (sg (mx ini ini)) := by
  obtain ⟨g1, g2⟩ := chk_get lM 1 _ _ lM_chk
  rw [mx_ini]
  have len : lM.length = 822 := by omega
  refine ⟨len, fun x x1 x2 => ?_⟩
  have x3 : x ≤ 822 := by
    have : ((sgL lM).1 : Int) = 822 := by show ((lM.length : Nat) : Int) = 822; omega
    omega
  obtain ⟨i, rfl⟩ : ∃ i : Nat, x = (i : Int) + 1 := ⟨x.toNat - 1, by omega⟩
  obtain ⟨h1, h2, h3⟩ := g2 i (by omega)
  have e0 : ((i : Int) + 1).toNat = i + 1 := by omega
  have k0 : K0 ((i : Int) + 1) = kdL.tail.getD i (99, 0) := by
    unfold K0
    rw [e0, kd_cons]
    rfl
  have r0 : rfL.getD (i + 1) [] = rfL.tail.getD i [] := by
    rw [rf_cons]
    rfl
  have c0 : clAt lM ((i : Int) + 1) = lM.getD i ((99, 0), [], []) := by
    unfold clAt
    rw [e0]
    rfl
  refine ⟨?_, fun j => ?_, fun j => ?_⟩
  · show (clAt lM ((i : Int) + 1)).1 = K0 ((i : Int) + 1)
    rw [c0, k0]; exact h1
  · show (clAt lM ((i : Int) + 1)).2.1.getD ((j : Int)).toNat 0 = RfM ini ((i : Int) + 1) (j : Int)
    have jj : ((j : Int)).toNat = j := by omega
    have base : Rf0 ((i : Int) + 1) (j : Int) = (clAt lM ((i : Int) + 1)).2.1.getD j 0 := by
      unfold Rf0
      rw [e0, r0, c0, jj]
      exact (h2 j).symm
    rw [jj]
    unfold RfM
    by_cases a : (i : Int) + 1 = 705 ∧ (j : Int) = 1
    · rw [if_pos a, ini00, ← base, a.1, a.2]
      decide +kernel
    · rw [if_neg a]
      by_cases b : (i : Int) + 1 = 703 ∧ (j : Int) = 4
      · rw [if_pos b, ini01, ← base, b.1, b.2]
        decide +kernel
      · rw [if_neg b]
        exact base.symm
  · show (clAt lM ((i : Int) + 1)).2.2.getD ((j : Int)).toNat 0 = ini ((i : Int) + 1) (j : Int)
    have jj : ((j : Int)).toNat = j := by omega
    unfold ini
    rw [if_neg (by omega), e0, k0, c0, jj, h3 j, show 1 + i = i + 1 by omega]
section Tail
variable {g : Gm} {d : Nat}
/-- the model's constructor, from where its rows are written -/
theorem ev_mtail {n : Nat} {N1 N' : Mem} (hd : 1 ≤ d) (h1 : N1 = upM (upM ini 802 11 83) 802 3 (-1)) (hc : f_X12_copy n 802 803 N1 = some N') : Ev g d mtX12_init 195 [(0, vR 801)] [] (sg (mx ini ini)) (0, 0) vN (sg (mx ini N')) := by
  refine ev_aload_n (pc := 195) 0 dX12_init_195 rfl rfl ?_
  refine ev_getR (pc := 196) fl12_7 rfl dX12_init_196 rfl kd_801 (by omega) (rf_801_0 _) ?_
  refine ev_bipush (pc := 199) (x := 11) dX12_init_199 cb_11 ?_
  refine ev_bipush (pc := 201) (x := 83) dX12_init_201 cb_83 ?_
  refine ev_istr (pc := 203) dX12_init_203 kd_802 (by omega) (by omega) (by omega) (by omega) rfl ?_
  refine ev_aload_n (pc := 204) 0 dX12_init_204 rfl rfl ?_
  refine ev_getR (pc := 205) fl12_7 rfl dX12_init_205 rfl kd_801 (by omega) (rf_801_0 _) ?_
  refine ev_iconst (pc := 208) (x := 3) dX12_init_208 ci_3 ?_
  refine ev_iconst (pc := 209) (x := (-1)) dX12_init_209 ci_m1 ?_
  refine ev_istr (pc := 210) dX12_init_210 kd_802 (by omega) (by omega) (by omega) (by omega) rfl ?_
  refine ev_aload_n (pc := 211) 0 dX12_init_211 rfl rfl ?_
  refine ev_getR (pc := 212) fl12_7 rfl dX12_init_212 rfl kd_801 (by omega) (rf_801_0 _) ?_
  refine ev_aload_n (pc := 215) 0 dX12_init_215 rfl rfl ?_
  refine ev_getR (pc := 216) fl12_13 rfl dX12_init_216 rfl kd_801 (by omega) (rf_801_1 _) ?_
  rw [h1] at hc
  refine ev_cS0 (pc := 219) [vR 802, vR 803] [] rfl mkX12_copy ml12_86 msX12_copy dX12_init_219 rfl (Nat.le_of_ble_eq_true rfl) (by omega) (e_X12_copy (d := d - 1) (M' := N') (by omega) ⟨kd_802, (by omega), (by omega)⟩ ⟨kd_803, (by omega), (by omega)⟩ hc) ?_
  exact ev_vret (pc := 222) dX12_init_222 rfl
/-- the model's constructor on the cell 801 -/
theorem e_X12_init {n : Nat} {N1 N' : Mem} (hd : 1 ≤ d) (ok : okC (lC ++ [((12, 43), [], [])]) 801 (12, 43)) (h1 : N1 = upM (upM ini 802 11 83) 802 3 (-1)) (hc : f_X12_copy n 802 803 N1 = some N') : EvM g d mtX12_init [vR 801] (sgL (lC ++ [((12, 43), [], [])])) (21, 26285) vN (sg (mx ini N')) := by
  refine EvM.of mkX12_init.2.2.2.1 (Nat.le_of_ble_eq_true rfl) ?_
  change Ev g d mtX12_init 0 [(0, vR 801)] [] (sgL (lC ++ [((12, 43), [], [])])) (21, 26285) vN (sg (mx ini N'))
  refine c_X12_ok ok hd ?_
  exact ev_like lM_like (ev_mtail hd h1 hc)
end Tail
