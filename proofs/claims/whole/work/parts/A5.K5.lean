set_option linter.unusedVariables false
set_option linter.unusedSimpArgs false
/-! ===== the store behind the constructors is the one of part 14 ===== -/
def lC : CL := c_X11 1 [((11, 12), [], [])]
def lM : CL := c_X12 801 (lC ++ [((12, 43), [], [])])
/-- the numbers of a cell at first -/
def iXk (x : Nat) (k : Kd) : List Int := if k.1 = 5 then [0, 0, 0, 0, 0, 0, 0, 0, 0, 0, 0, 0, 0, 0, 83] else if k.1 = 10 then [0, 0, 0, 0, -1] else if k.1 = 4 then [0, 0, -1, -1] else if k.1 = 12 then [0, 0, 0, 0, 0, -1, -1, 0, 0, 0, 0, 0, 0, 0, 0, 0, 0, 0, 0, 0, 0, 0, 0, 0, 0, 0, 0, 0, 1] else []
def ini : Mem := fun x j => if x = 0 then (if j = 0 then 706 else 0) else (iXk x.toNat (K0 x)).getD j.toNat 0
def eqP : List Int → List Int → Bool
  | [], bs => bs.all (fun b => decide (b = 0))
  | a :: as, bs => decide (a = bs.headD 0) && eqP as bs.tail
theorem eqP_get : ∀ (as bs : List Int), eqP as bs = true → ∀ j : Nat, as.getD j 0 = bs.getD j 0
  | [], bs, h, j => by
    rw [eqP, List.all_eq_true] at h
    rw [List.getD_eq_getElem?_getD, List.getD_eq_getElem?_getD]
    cases e : bs[j]? with
    | none => rfl
    | some b => exact (of_decide_eq_true (h b (List.mem_of_getElem? e))).symm
  | a :: as, bs, h, j => by
    rw [eqP, Bool.and_eq_true, decide_eq_true_eq] at h
    cases j with
    | zero =>
      rw [h.1]
      cases bs <;> rfl
    | succ j =>
      have := eqP_get as bs.tail h.2 j
      cases bs with
      | nil => exact this
      | cons b bs => exact this
def chkL : CL → Nat → List Kd → List (List Int) → Bool
  | [], x, _, _ => Nat.beq x 823
  | c :: cs, x, ks, rs => decide (c.1 = ks.headD (99, 0)) && eqP c.2.1 (rs.headD []) && eqP c.2.2 (iXk x (ks.headD (99, 0))) && chkL cs (x + 1) ks.tail rs.tail
theorem chk_get : ∀ (cs : CL) (x : Nat) (ks : List Kd) (rs : List (List Int)), chkL cs x ks rs = true → x + cs.length = 823 ∧ ∀ i, i < cs.length → (cs.getD i ((99, 0), [], [])).1 = ks.getD i (99, 0) ∧ (∀ j : Nat, (cs.getD i ((99, 0), [], [])).2.1.getD j 0 = (rs.getD i []).getD j 0) ∧ (∀ j : Nat, (cs.getD i ((99, 0), [], [])).2.2.getD j 0 = (iXk (x + i) (ks.getD i (99, 0))).getD j 0) := by
  intro cs
  induction cs with
  | nil =>
    intro x ks rs h
    rw [chkL] at h
    exact ⟨Nat.eq_of_beq_eq_true h, fun i hi => absurd hi (Nat.not_lt_zero i)⟩
  | cons c cs ih =>
    intro x ks rs h
    rw [chkL, Bool.and_eq_true, Bool.and_eq_true, Bool.and_eq_true, decide_eq_true_eq] at h
    obtain ⟨⟨⟨h1, h2⟩, h3⟩, h4⟩ := h
    obtain ⟨g1, g2⟩ := ih (x + 1) ks.tail rs.tail h4
    have k0 : ks.headD (99, 0) = ks.getD 0 (99, 0) := by cases ks <;> rfl
    have r0 : rs.headD [] = rs.getD 0 [] := by cases rs <;> rfl
    have k1 : ∀ i, ks.tail.getD i (99, 0) = ks.getD (i + 1) (99, 0) := by intro i; cases ks <;> rfl
    have r1 : ∀ i, rs.tail.getD i [] = rs.getD (i + 1) [] := by intro i; cases rs <;> rfl
    refine ⟨by rw [List.length_cons]; omega, fun i hi => ?_⟩
    cases i with
    | zero =>
      rw [← k0, ← r0]
      exact ⟨h1, eqP_get _ _ h2, eqP_get _ _ h3⟩
    | succ i =>
      have := g2 i (by rw [List.length_cons] at hi; omega)
      rw [show x + 1 + i = x + (i + 1) by omega, k1, r1] at this
      exact this
theorem lC_x : lC = xX_X11 1 := xf_X11 (l := []) (l0 := [((11, 12), [], [])]) (k := 1) rfl rfl
theorem lM_x : lM = xX_X11 1 ++ xX_X12 801 := by
  unfold lM
  rw [lC_x]
  exact xf_X12 (l := xX_X11 1) rfl (by rw [List.length_append, xl_X11]; rfl)
set_option maxRecDepth 1000000 in
theorem lM_chk0 : chkL (xX_X11 1 ++ xX_X12 801) 1 kdL.tail rfL.tail = true := by decide +kernel
theorem lM_chk : chkL lM 1 kdL.tail rfL.tail = true := by
  rw [lM_x]
  exact lM_chk0
theorem kd_cons : kdL = (99, 0) :: kdL.tail := rfl
theorem rf_cons : rfL = [] :: rfL.tail := rfl
theorem ini00 : ini 0 0 = 706 := rfl
theorem ini01 : ini 0 1 = 0 := rfl
theorem mx_ini : mx ini ini = ini := by
  funext x j
  unfold mx
  split <;> rfl
theorem like_of {lM : CL} (hc : chkL lM 1 kdL.tail rfL.tail = true) : likeS (sgL lM) (sg (mx ini ini)) := by
  obtain ⟨g1, g2⟩ := chk_get lM 1 _ _ hc
  rw [mx_ini]
  have len : lM.length = 822 := by omega
  refine ⟨len, fun x x1 x2 => ?_⟩
  have x3 : x ≤ 822 := by
    have : ((sgL lM).1 : Int) = 822 := by show ((lM.length : Nat) : Int) = 822; omega
    omega
  obtain ⟨i, rfl⟩ : ∃ i : Nat, x = (i : Int) + 1 := ⟨x.toNat - 1, by omega⟩
  obtain ⟨h1, h2, h3⟩ := g2 i (by omega)
  have e0 : ((i : Int) + 1).toNat = i + 1 := by omega
  have k0 : K0 ((i : Int) + 1) = kdL.tail.getD i (99, 0) := by
    unfold K0
    rw [e0, kd_cons]
    rfl
  have r0 : rfL.getD (i + 1) [] = rfL.tail.getD i [] := by
    rw [rf_cons]
    rfl
  have c0 : clAt lM ((i : Int) + 1) = lM.getD i ((99, 0), [], []) := by
    unfold clAt
    rw [e0]
    rfl
  refine ⟨?_, fun j => ?_, fun j => ?_⟩
  · show (clAt lM ((i : Int) + 1)).1 = K0 ((i : Int) + 1)
    rw [c0, k0]; exact h1
  · show (clAt lM ((i : Int) + 1)).2.1.getD ((j : Int)).toNat 0 = RfM ini ((i : Int) + 1) (j : Int)
    have jj : ((j : Int)).toNat = j := by omega
    have base : Rf0 ((i : Int) + 1) (j : Int) = (clAt lM ((i : Int) + 1)).2.1.getD j 0 := by
      unfold Rf0
      rw [e0, r0, c0, jj]
      exact (h2 j).symm
    rw [jj]
    unfold RfM
    by_cases a : (i : Int) + 1 = 705 ∧ (j : Int) = 1
    · rw [if_pos a, ini00, ← base, a.1, a.2]
      decide +kernel
    · rw [if_neg a]
      by_cases b : (i : Int) + 1 = 703 ∧ (j : Int) = 4
      · rw [if_pos b, ini01, ← base, b.1, b.2]
        decide +kernel
      · rw [if_neg b]
        exact base.symm
  · show (clAt lM ((i : Int) + 1)).2.2.getD ((j : Int)).toNat 0 = ini ((i : Int) + 1) (j : Int)
    have jj : ((j : Int)).toNat = j := by omega
    unfold ini
    rw [if_neg (by omega), e0, k0, c0, jj, h3 j, show 1 + i = i + 1 by omega]
theorem lM_like : likeS (sgL lM) (sg (mx ini ini)) := like_of lM_chk
section Tail
variable {g : Gm} {d : Nat}
/-- the model's constructor, from where its rows are written -/
theorem ev_mtail {n : Nat} {N1 N' : Mem} (hd : 1 ≤ d) (h1 : N1 = upM (upM ini 802 11 83) 802 3 (-1)) (hc : f_X12_copy n 802 803 N1 = some N') : Ev g d mtX12_init 195 [(0, vR 801)] [] (sg (mx ini ini)) (0, 0) vN (sg (mx ini N')) := by
  refine ev_aload_n (pc := 195) 0 dX12_init_195 rfl rfl ?_
  refine ev_getR (pc := 196) fl12_7 rfl dX12_init_196 rfl kd_801 (by omega) (rf_801_0 _) ?_
  refine ev_bipush (pc := 199) (x := 11) dX12_init_199 cb_11 ?_
  refine ev_bipush (pc := 201) (x := 83) dX12_init_201 cb_83 ?_
  refine ev_istr (pc := 203) dX12_init_203 kd_802 (by omega) (by omega) (by omega) (by omega) rfl ?_
  refine ev_aload_n (pc := 204) 0 dX12_init_204 rfl rfl ?_
  refine ev_getR (pc := 205) fl12_7 rfl dX12_init_205 rfl kd_801 (by omega) (rf_801_0 _) ?_
  refine ev_iconst (pc := 208) (x := 3) dX12_init_208 ci_3 ?_
  refine ev_iconst (pc := 209) (x := (-1)) dX12_init_209 ci_m1 ?_
  refine ev_istr (pc := 210) dX12_init_210 kd_802 (by omega) (by omega) (by omega) (by omega) rfl ?_
  refine ev_aload_n (pc := 211) 0 dX12_init_211 rfl rfl ?_
  refine ev_getR (pc := 212) fl12_7 rfl dX12_init_212 rfl kd_801 (by omega) (rf_801_0 _) ?_
  refine ev_aload_n (pc := 215) 0 dX12_init_215 rfl rfl ?_
  refine ev_getR (pc := 216) fl12_13 rfl dX12_init_216 rfl kd_801 (by omega) (rf_801_1 _) ?_
  rw [h1] at hc
  refine ev_cS0 (pc := 219) [vR 802, vR 803] [] rfl mkX12_copy ml12_86 msX12_copy dX12_init_219 rfl (Nat.le_of_ble_eq_true rfl) (by omega) (e_X12_copy (d := d - 1) (M' := N') (by omega) ⟨kd_802, (by omega), (by omega)⟩ ⟨kd_803, (by omega), (by omega)⟩ hc) ?_
  exact ev_vret (pc := 222) dX12_init_222 rfl
/-- the model's constructor on the cell 801 -/
theorem e_X12_init {n : Nat} {N1 N' : Mem} (hd : 1 ≤ d) (ok : okC (lC ++ [((12, 43), [], [])]) 801 (12, 43)) (h1 : N1 = upM (upM ini 802 11 83) 802 3 (-1)) (hc : f_X12_copy n 802 803 N1 = some N') : EvM g d mtX12_init [vR 801] (sgL (lC ++ [((12, 43), [], [])])) (21, 26285) vN (sg (mx ini N')) := by
  refine EvM.of mkX12_init.2.2.2.1 (Nat.le_of_ble_eq_true rfl) ?_
  change Ev g d mtX12_init 0 [(0, vR 801)] [] (sgL (lC ++ [((12, 43), [], [])])) (21, 26285) vN (sg (mx ini N'))
  refine c_X12_ok ok hd ?_
  exact ev_like lM_like (ev_mtail hd h1 hc)
end Tail
