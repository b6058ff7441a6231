/-! ===== the law's loop ===== -/
def f_L_law_L18_J1210 (n : Nat) (L : Int) (xs : Int → Int) (K : Int → Mem → Mem → Option (Int × Mem × Mem)) (x3 s0 s2 s3 : Int) (M N : Mem) : Option (Int × Mem × Mem) := (f_X12_high n s2 s3 N).bind fun q182 => if s0 = q182 then (K (wI (x3 + 6)) M N) else (some (0, M, N))
set_option maxRecDepth 100000 in
set_option maxHeartbeats 4000000 in
theorem e_L_law_L18_J1210 {g : Gm} {d : Nat} {n : Nat} {L : Int} {xs : Int → Int} {K : Int → Mem → Mem → Option (Int × Mem × Mem)} {x3 s0 s2 s3 : Int} {M N : Mem} {v : Int} {M' N' : Mem} (hd : 114 ≤ d) (hLs : L = scL g) (hxs : xs = scX g) (hK : ∀ {x3 : Int} {M N : Mem}, K x3 M N = some (v, M', N') → Ev g d mtL_law 18 [(0, vS 8), (1, vR 1), (2, vR 801), (3, vI x3)] [] (sg (mx M N)) (0, 0) (vI v) (sg (mx M' N'))) (h : f_L_law_L18_J1210 n L xs K x3 s0 s2 s3 M N = some (v, M', N')) : Ev g d mtL_law 1210 [(0, vS 8), (1, vR 1), (2, vR 801), (3, vI x3)] [vI s3, vI s2, vR 801, vI s0] (sg (mx M N)) (0, 0) (vI v) (sg (mx M' N')) := by
  unfold f_L_law_L18_J1210 at h
  obtain ⟨q182, hq182, h⟩ := bd h
  refine ev_cV (pc := 1210) [vI s2, vI s3] [vI s0] rfl mkX12_high mlL_141 mnX12_high dL_law_1210 kd_801 (by omega) rfl (Nat.le_of_ble_eq_true rfl) (by omega) rfl (e_X12_high (d := d - 1) (v := q182) (by omega)  hq182) ?_
  refine ev_icmp_eq (pc := 1213) (tgt := 1493) dL_law_1213 (by decide) (fun b183 => ?_) (fun b183 => ?_)
  · rw [if_pos b183] at h
    refine ev_iinc (pc := 1493) (il' := [(3, vI (wI (x3 + 6))), (0, vS 8), (1, vR 1), (2, vR 801)]) 3 dL_law_1493 rfl (Nat.le_of_ble_eq_true rfl) rfl rfl ?_
    refine ev_goto (pc := 1496) (tgt := 18) dL_law_1496 (by decide) ?_
    refine ev_pick [1, 2, 3, 0] rfl ?_
    exact hK h
  · rw [if_neg b183] at h
    refine ev_iconst (pc := 1216) (x := 0) dL_law_1216 ci_0 ?_
    cases h
    exact ev_zret (pc := 1217) (Or.inl rfl) dL_law_1217 rfl
def f_L_law_L18_J1188 (n : Nat) (L : Int) (xs : Int → Int) (K : Int → Mem → Mem → Option (Int × Mem × Mem)) (x3 s1 s2 : Int) (M N : Mem) : Option (Int × Mem × Mem) := (f_X11_high n s1 s2 M).bind fun q178 => ck (0 ≤ (wI (x3 + 1)) ∧ (wI (x3 + 1)) < L) (ck (0 ≤ (wI (x3 + 2)) ∧ (wI (x3 + 2)) < L) (if (xs (wI (x3 + 2))) = 0 then (f_L_law_L18_J1210 n L xs (K) x3 q178 (xs (wI (x3 + 1))) 0 M N) else (f_L_law_L18_J1210 n L xs (K) x3 q178 (xs (wI (x3 + 1))) 1 M N)))
set_option maxRecDepth 100000 in
set_option maxHeartbeats 4000000 in
theorem e_L_law_L18_J1188 {g : Gm} {d : Nat} {n : Nat} {L : Int} {xs : Int → Int} {K : Int → Mem → Mem → Option (Int × Mem × Mem)} {x3 s1 s2 : Int} {M N : Mem} {v : Int} {M' N' : Mem} (hd : 114 ≤ d) (hLs : L = scL g) (hxs : xs = scX g) (hK : ∀ {x3 : Int} {M N : Mem}, K x3 M N = some (v, M', N') → Ev g d mtL_law 18 [(0, vS 8), (1, vR 1), (2, vR 801), (3, vI x3)] [] (sg (mx M N)) (0, 0) (vI v) (sg (mx M' N'))) (h : f_L_law_L18_J1188 n L xs K x3 s1 s2 M N = some (v, M', N')) : Ev g d mtL_law 1188 [(0, vS 8), (1, vR 1), (2, vR 801), (3, vI x3)] [vI s2, vI s1, vR 1] (sg (mx M N)) (0, 0) (vI v) (sg (mx M' N')) := by
  unfold f_L_law_L18_J1188 at h
  obtain ⟨q178, hq178, h⟩ := bd h
  refine ev_cV (pc := 1188) [vI s1, vI s2] [] rfl mkX11_high mlL_137 mnX11_high dL_law_1188 kd_1 (by omega) rfl (Nat.le_of_ble_eq_true rfl) (by omega) rfl (e_X11_high (d := d - 1) (v := q178) (by omega)  hq178) ?_
  refine ev_aload_n (pc := 1191) 2 dL_law_1191 rfl rfl ?_
  refine ev_aload_nS (pc := 1192) 0 dL_law_1192 rfl rfl ?_
  refine ev_iload_n (pc := 1193) 3 dL_law_1193 rfl rfl ?_
  refine ev_iconst (pc := 1194) (x := 1) dL_law_1194 ci_1 ?_
  refine ev_iadd (pc := 1195) dL_law_1195 ?_
  obtain ⟨c179, h⟩ := ck_some h
  refine ev_sld (pc := 1196) hLs hxs c179.1 c179.2 dL_law_1196 ?_
  refine ev_aload_nS (pc := 1197) 0 dL_law_1197 rfl rfl ?_
  refine ev_iload_n (pc := 1198) 3 dL_law_1198 rfl rfl ?_
  refine ev_iconst (pc := 1199) (x := 2) dL_law_1199 ci_2 ?_
  refine ev_iadd (pc := 1200) dL_law_1200 ?_
  obtain ⟨c180, h⟩ := ck_some h
  refine ev_sld (pc := 1201) hLs hxs c180.1 c180.2 dL_law_1201 ?_
  refine ev_if_eq (pc := 1202) (tgt := 1209) dL_law_1202 (by decide) (fun b181 => ?_) (fun b181 => ?_)
  · rw [if_pos b181] at h
    refine ev_iconst (pc := 1209) (x := 0) dL_law_1209 ci_0 ?_
    refine ev_pick [0, 1, 2, 3] rfl ?_
    exact e_L_law_L18_J1210 hd hLs hxs hK h
  · rw [if_neg b181] at h
    refine ev_iconst (pc := 1205) (x := 1) dL_law_1205 ci_1 ?_
    refine ev_goto (pc := 1206) (tgt := 1210) dL_law_1206 (by decide) ?_
    refine ev_pick [0, 1, 2, 3] rfl ?_
    exact e_L_law_L18_J1210 hd hLs hxs hK h
def f_L_law_L18_J1397 (n : Nat) (L : Int) (xs : Int → Int) (K : Int → Mem → Mem → Option (Int × Mem × Mem)) (x3 s0 s2 s3 : Int) (M N : Mem) : Option (Int × Mem × Mem) := (f_X12_waiting n s2 s3 N).bind fun q222 => if s0 = q222 then (K (wI (x3 + 6)) M N) else (some (0, M, N))
set_option maxRecDepth 100000 in
set_option maxHeartbeats 4000000 in
theorem e_L_law_L18_J1397 {g : Gm} {d : Nat} {n : Nat} {L : Int} {xs : Int → Int} {K : Int → Mem → Mem → Option (Int × Mem × Mem)} {x3 s0 s2 s3 : Int} {M N : Mem} {v : Int} {M' N' : Mem} (hd : 114 ≤ d) (hLs : L = scL g) (hxs : xs = scX g) (hK : ∀ {x3 : Int} {M N : Mem}, K x3 M N = some (v, M', N') → Ev g d mtL_law 18 [(0, vS 8), (1, vR 1), (2, vR 801), (3, vI x3)] [] (sg (mx M N)) (0, 0) (vI v) (sg (mx M' N'))) (h : f_L_law_L18_J1397 n L xs K x3 s0 s2 s3 M N = some (v, M', N')) : Ev g d mtL_law 1397 [(0, vS 8), (1, vR 1), (2, vR 801), (3, vI x3)] [vI s3, vI s2, vR 801, vI s0] (sg (mx M N)) (0, 0) (vI v) (sg (mx M' N')) := by
  unfold f_L_law_L18_J1397 at h
  obtain ⟨q222, hq222, h⟩ := bd h
  refine ev_cV (pc := 1397) [vI s2, vI s3] [vI s0] rfl mkX12_waiting mlL_169 mnX12_waiting dL_law_1397 kd_801 (by omega) rfl (Nat.le_of_ble_eq_true rfl) (by omega) rfl (e_X12_waiting (d := d - 1) (v := q222) (by omega)  hq222) ?_
  refine ev_icmp_eq (pc := 1400) (tgt := 1493) dL_law_1400 (by decide) (fun b223 => ?_) (fun b223 => ?_)
  · rw [if_pos b223] at h
    refine ev_iinc (pc := 1493) (il' := [(3, vI (wI (x3 + 6))), (0, vS 8), (1, vR 1), (2, vR 801)]) 3 dL_law_1493 rfl (Nat.le_of_ble_eq_true rfl) rfl rfl ?_
    refine ev_goto (pc := 1496) (tgt := 18) dL_law_1496 (by decide) ?_
    refine ev_pick [1, 2, 3, 0] rfl ?_
    exact hK h
  · rw [if_neg b223] at h
    refine ev_iconst (pc := 1403) (x := 0) dL_law_1403 ci_0 ?_
    cases h
    exact ev_zret (pc := 1404) (Or.inl rfl) dL_law_1404 rfl
def f_L_law_L18_J1375 (n : Nat) (L : Int) (xs : Int → Int) (K : Int → Mem → Mem → Option (Int × Mem × Mem)) (x3 s1 s2 : Int) (M N : Mem) : Option (Int × Mem × Mem) := (f_X11_waiting n s1 s2 M).bind fun q218 => ck (0 ≤ (wI (x3 + 1)) ∧ (wI (x3 + 1)) < L) (ck (0 ≤ (wI (x3 + 2)) ∧ (wI (x3 + 2)) < L) (if (xs (wI (x3 + 2))) = 0 then (f_L_law_L18_J1397 n L xs (K) x3 q218 (xs (wI (x3 + 1))) 0 M N) else (f_L_law_L18_J1397 n L xs (K) x3 q218 (xs (wI (x3 + 1))) 1 M N)))
set_option maxRecDepth 100000 in
set_option maxHeartbeats 4000000 in
theorem e_L_law_L18_J1375 {g : Gm} {d : Nat} {n : Nat} {L : Int} {xs : Int → Int} {K : Int → Mem → Mem → Option (Int × Mem × Mem)} {x3 s1 s2 : Int} {M N : Mem} {v : Int} {M' N' : Mem} (hd : 114 ≤ d) (hLs : L = scL g) (hxs : xs = scX g) (hK : ∀ {x3 : Int} {M N : Mem}, K x3 M N = some (v, M', N') → Ev g d mtL_law 18 [(0, vS 8), (1, vR 1), (2, vR 801), (3, vI x3)] [] (sg (mx M N)) (0, 0) (vI v) (sg (mx M' N'))) (h : f_L_law_L18_J1375 n L xs K x3 s1 s2 M N = some (v, M', N')) : Ev g d mtL_law 1375 [(0, vS 8), (1, vR 1), (2, vR 801), (3, vI x3)] [vI s2, vI s1, vR 1] (sg (mx M N)) (0, 0) (vI v) (sg (mx M' N')) := by
  unfold f_L_law_L18_J1375 at h
  obtain ⟨q218, hq218, h⟩ := bd h
  refine ev_cV (pc := 1375) [vI s1, vI s2] [] rfl mkX11_waiting mlL_166 mnX11_waiting dL_law_1375 kd_1 (by omega) rfl (Nat.le_of_ble_eq_true rfl) (by omega) rfl (e_X11_waiting (d := d - 1) (v := q218) (by omega)  hq218) ?_
  refine ev_aload_n (pc := 1378) 2 dL_law_1378 rfl rfl ?_
  refine ev_aload_nS (pc := 1379) 0 dL_law_1379 rfl rfl ?_
  refine ev_iload_n (pc := 1380) 3 dL_law_1380 rfl rfl ?_
  refine ev_iconst (pc := 1381) (x := 1) dL_law_1381 ci_1 ?_
  refine ev_iadd (pc := 1382) dL_law_1382 ?_
  obtain ⟨c219, h⟩ := ck_some h
  refine ev_sld (pc := 1383) hLs hxs c219.1 c219.2 dL_law_1383 ?_
  refine ev_aload_nS (pc := 1384) 0 dL_law_1384 rfl rfl ?_
  refine ev_iload_n (pc := 1385) 3 dL_law_1385 rfl rfl ?_
  refine ev_iconst (pc := 1386) (x := 2) dL_law_1386 ci_2 ?_
  refine ev_iadd (pc := 1387) dL_law_1387 ?_
  obtain ⟨c220, h⟩ := ck_some h
  refine ev_sld (pc := 1388) hLs hxs c220.1 c220.2 dL_law_1388 ?_
  refine ev_if_eq (pc := 1389) (tgt := 1396) dL_law_1389 (by decide) (fun b221 => ?_) (fun b221 => ?_)
  · rw [if_pos b221] at h
    refine ev_iconst (pc := 1396) (x := 0) dL_law_1396 ci_0 ?_
    refine ev_pick [0, 1, 2, 3] rfl ?_
    exact e_L_law_L18_J1397 hd hLs hxs hK h
  · rw [if_neg b221] at h
    refine ev_iconst (pc := 1392) (x := 1) dL_law_1392 ci_1 ?_
    refine ev_goto (pc := 1393) (tgt := 1397) dL_law_1393 (by decide) ?_
    refine ev_pick [0, 1, 2, 3] rfl ?_
    exact e_L_law_L18_J1397 hd hLs hxs hK h
def f_L_law_L18_J1436 (n : Nat) (L : Int) (xs : Int → Int) (K : Int → Mem → Mem → Option (Int × Mem × Mem)) (x3 s0 s2 : Int) (M N : Mem) : Option (Int × Mem × Mem) := (f_X12_run n s2 N).bind fun q230 => if s0 = q230.1 then (K (wI (x3 + 6)) M q230.2) else (some (0, M, q230.2))
set_option maxRecDepth 100000 in
set_option maxHeartbeats 4000000 in
theorem e_L_law_L18_J1436 {g : Gm} {d : Nat} {n : Nat} {L : Int} {xs : Int → Int} {K : Int → Mem → Mem → Option (Int × Mem × Mem)} {x3 s0 s2 : Int} {M N : Mem} {v : Int} {M' N' : Mem} (hd : 114 ≤ d) (hLs : L = scL g) (hxs : xs = scX g) (hK : ∀ {x3 : Int} {M N : Mem}, K x3 M N = some (v, M', N') → Ev g d mtL_law 18 [(0, vS 8), (1, vR 1), (2, vR 801), (3, vI x3)] [] (sg (mx M N)) (0, 0) (vI v) (sg (mx M' N'))) (h : f_L_law_L18_J1436 n L xs K x3 s0 s2 M N = some (v, M', N')) : Ev g d mtL_law 1436 [(0, vS 8), (1, vR 1), (2, vR 801), (3, vI x3)] [vI s2, vR 801, vI s0] (sg (mx M N)) (0, 0) (vI v) (sg (mx M' N')) := by
  unfold f_L_law_L18_J1436 at h
  obtain ⟨q230, hq230, h⟩ := bd h
  refine ev_cV (pc := 1436) [vI s2] [vI s0] rfl mkX12_run mlL_174 mnX12_run dL_law_1436 kd_801 (by omega) rfl (Nat.le_of_ble_eq_true rfl) (by omega) rfl (e_X12_run (d := d - 1) (v := q230.1) (M' := q230.2) (by omega)  hq230) ?_
  refine ev_icmp_eq (pc := 1439) (tgt := 1493) dL_law_1439 (by decide) (fun b231 => ?_) (fun b231 => ?_)
  · rw [if_pos b231] at h
    refine ev_iinc (pc := 1493) (il' := [(3, vI (wI (x3 + 6))), (0, vS 8), (1, vR 1), (2, vR 801)]) 3 dL_law_1493 rfl (Nat.le_of_ble_eq_true rfl) rfl rfl ?_
    refine ev_goto (pc := 1496) (tgt := 18) dL_law_1496 (by decide) ?_
    refine ev_pick [1, 2, 3, 0] rfl ?_
    exact hK h
  · rw [if_neg b231] at h
    refine ev_iconst (pc := 1442) (x := 0) dL_law_1442 ci_0 ?_
    cases h
    exact ev_zret (pc := 1443) (Or.inl rfl) dL_law_1443 rfl
def f_L_law_L18_J1419 (n : Nat) (L : Int) (xs : Int → Int) (K : Int → Mem → Mem → Option (Int × Mem × Mem)) (x3 s1 : Int) (M N : Mem) : Option (Int × Mem × Mem) := (f_X11_run n s1 M).bind fun q227 => ck (0 ≤ (wI (x3 + 1)) ∧ (wI (x3 + 1)) < L) (if (xs (wI (x3 + 1))) = 0 then (f_L_law_L18_J1436 n L xs (K) x3 q227.1 0 q227.2 N) else (f_L_law_L18_J1436 n L xs (K) x3 q227.1 1 q227.2 N))
set_option maxRecDepth 100000 in
set_option maxHeartbeats 4000000 in
theorem e_L_law_L18_J1419 {g : Gm} {d : Nat} {n : Nat} {L : Int} {xs : Int → Int} {K : Int → Mem → Mem → Option (Int × Mem × Mem)} {x3 s1 : Int} {M N : Mem} {v : Int} {M' N' : Mem} (hd : 114 ≤ d) (hLs : L = scL g) (hxs : xs = scX g) (hK : ∀ {x3 : Int} {M N : Mem}, K x3 M N = some (v, M', N') → Ev g d mtL_law 18 [(0, vS 8), (1, vR 1), (2, vR 801), (3, vI x3)] [] (sg (mx M N)) (0, 0) (vI v) (sg (mx M' N'))) (h : f_L_law_L18_J1419 n L xs K x3 s1 M N = some (v, M', N')) : Ev g d mtL_law 1419 [(0, vS 8), (1, vR 1), (2, vR 801), (3, vI x3)] [vI s1, vR 1] (sg (mx M N)) (0, 0) (vI v) (sg (mx M' N')) := by
  unfold f_L_law_L18_J1419 at h
  obtain ⟨q227, hq227, h⟩ := bd h
  refine ev_cV (pc := 1419) [vI s1] [] rfl mkX11_run mlL_170 mnX11_run dL_law_1419 kd_1 (by omega) rfl (Nat.le_of_ble_eq_true rfl) (by omega) rfl (e_X11_run (d := d - 1) (v := q227.1) (M' := q227.2) (by omega)  hq227) ?_
  refine ev_aload_n (pc := 1422) 2 dL_law_1422 rfl rfl ?_
  refine ev_aload_nS (pc := 1423) 0 dL_law_1423 rfl rfl ?_
  refine ev_iload_n (pc := 1424) 3 dL_law_1424 rfl rfl ?_
  refine ev_iconst (pc := 1425) (x := 1) dL_law_1425 ci_1 ?_
  refine ev_iadd (pc := 1426) dL_law_1426 ?_
  obtain ⟨c228, h⟩ := ck_some h
  refine ev_sld (pc := 1427) hLs hxs c228.1 c228.2 dL_law_1427 ?_
  refine ev_if_eq (pc := 1428) (tgt := 1435) dL_law_1428 (by decide) (fun b229 => ?_) (fun b229 => ?_)
  · rw [if_pos b229] at h
    refine ev_iconst (pc := 1435) (x := 0) dL_law_1435 ci_0 ?_
    refine ev_pick [0, 1, 2, 3] rfl ?_
    exact e_L_law_L18_J1436 hd hLs hxs hK h
  · rw [if_neg b229] at h
    refine ev_iconst (pc := 1431) (x := 1) dL_law_1431 ci_1 ?_
    refine ev_goto (pc := 1432) (tgt := 1436) dL_law_1432 (by decide) ?_
    refine ev_pick [0, 1, 2, 3] rfl ?_
    exact e_L_law_L18_J1436 hd hLs hxs hK h
def f_L_law_L18 : Nat → Int → (Int → Int) → Int → Mem → Mem → Option (Int × Mem × Mem)
  | 0, _, _, _, _, _ => none
  | n + 1, L, xs, x3, M, N => if (wI (L - 6)) < x3 then (some (1, M, N)) else (ck (0 ≤ x3 ∧ x3 < L) ((if (bAnd (xs x3) 63) = 0 then (ck (0 ≤ (wI (x3 + 1)) ∧ (wI (x3 + 1)) < L) (ck (0 ≤ (wI (x3 + 2)) ∧ (wI (x3 + 2)) < L) (ck (0 ≤ (wI (x3 + 3)) ∧ (wI (x3 + 3)) < L) (ck (0 ≤ (wI (x3 + 4)) ∧ (wI (x3 + 4)) < L) ((f_X11_step (xs (wI (x3 + 1))) (xs (wI (x3 + 2))) (xs (wI (x3 + 3))) (xs (wI (x3 + 4))) M).bind fun q8 => (f_X12_step n (xs (wI (x3 + 1))) (xs (wI (x3 + 2))) (xs (wI (x3 + 3))) (xs (wI (x3 + 4))) N).bind fun q9 => if q8.1 = q9.1 then (f_L_law_L18 n L xs (wI (x3 + 6)) q8.2 q9.2) else (some (0, q8.2, q9.2))))))) else (if (bAnd (xs x3) 63) = 1 then (ck (0 ≤ (wI (x3 + 1)) ∧ (wI (x3 + 1)) < L) (ck (0 ≤ (wI (x3 + 2)) ∧ (wI (x3 + 2)) < L) (ck (0 ≤ (wI (x3 + 3)) ∧ (wI (x3 + 3)) < L) ((f_X11_ship (xs (wI (x3 + 1))) (xs (wI (x3 + 2))) (xs (wI (x3 + 3))) M).bind fun q15 => (f_X12_ship (xs (wI (x3 + 1))) (xs (wI (x3 + 2))) (xs (wI (x3 + 3))) N).bind fun q16 => if q15.1 = q16.1 then (f_L_law_L18 n L xs (wI (x3 + 6)) q15.2 q16.2) else (some (0, q15.2, q16.2)))))) else (if (bAnd (xs x3) 63) = 2 then (ck (0 ≤ (wI (x3 + 1)) ∧ (wI (x3 + 1)) < L) (ck (0 ≤ (wI (x3 + 2)) ∧ (wI (x3 + 2)) < L) (ck (0 ≤ (wI (x3 + 3)) ∧ (wI (x3 + 3)) < L) (ck (0 ≤ (wI (x3 + 4)) ∧ (wI (x3 + 4)) < L) (ck (0 ≤ (wI (x3 + 5)) ∧ (wI (x3 + 5)) < L) ((f_X11_feed n (xs (wI (x3 + 1))) (xs (wI (x3 + 2))) (xs (wI (x3 + 3))) (xs (wI (x3 + 4))) (xs (wI (x3 + 5))) M).bind fun q24 => (f_X12_feed n (xs (wI (x3 + 1))) (xs (wI (x3 + 2))) (xs (wI (x3 + 3))) (xs (wI (x3 + 4))) (xs (wI (x3 + 5))) N).bind fun q25 => if q24.1 = q25.1 then (f_L_law_L18 n L xs (wI (x3 + 6)) q24.2 q25.2) else (some (0, q24.2, q25.2)))))))) else (if (bAnd (xs x3) 63) = 3 then (ck (0 ≤ (wI (x3 + 1)) ∧ (wI (x3 + 1)) < L) (lt (f_X11_end (xs (wI (x3 + 1))) M) fun q29 => lt (f_X12_end (xs (wI (x3 + 1))) N) fun q30 => if q29.1 = q30.1 then (f_L_law_L18 n L xs (wI (x3 + 6)) q29.2 q30.2) else (some (0, q29.2, q30.2)))) else (if (bAnd (xs x3) 63) = 4 then ((f_X11_text n M).bind fun q33 => (f_X12_text n N).bind fun q34 => if q33.1 = q34.1 then (f_L_law_L18 n L xs (wI (x3 + 6)) q33.2 q34.2) else (some (0, q33.2, q34.2))) else (if (bAnd (xs x3) 63) = 5 then (ck (0 ≤ (wI (x3 + 1)) ∧ (wI (x3 + 1)) < L) (if (f_X11_fault (xs (wI (x3 + 1))) M) = (f_X12_fault (xs (wI (x3 + 1))) N) then (f_L_law_L18 n L xs (wI (x3 + 6)) M N) else (some (0, M, N)))) else (if (bAnd (xs x3) 63) = 6 then (ck (0 ≤ (wI (x3 + 1)) ∧ (wI (x3 + 1)) < L) ((f_X11_by (xs (wI (x3 + 1))) M).bind fun q41 => lt (f_X12_by (xs (wI (x3 + 1))) N) fun q42 => if q41.1 = q42.1 then (f_L_law_L18 n L xs (wI (x3 + 6)) q41.2 q42.2) else (some (0, q41.2, q42.2)))) else (if (bAnd (xs x3) 63) = 7 then (ck (0 ≤ (wI (x3 + 1)) ∧ (wI (x3 + 1)) < L) ((f_X11_hour n (xs (wI (x3 + 1))) M).bind fun q46 => (f_X12_hour n (xs (wI (x3 + 1))) N).bind fun q47 => if q46.1 = q47.1 then (f_L_law_L18 n L xs (wI (x3 + 6)) q46.2 q47.2) else (some (0, q46.2, q47.2)))) else (if (bAnd (xs x3) 63) = 8 then (ck (0 ≤ (wI (x3 + 1)) ∧ (wI (x3 + 1)) < L) (ck (0 ≤ (wI (x3 + 2)) ∧ (wI (x3 + 2)) < L) ((f_X11_flood (xs (wI (x3 + 1))) (xs (wI (x3 + 2))) M).bind fun q52 => (f_X12_flood n (xs (wI (x3 + 1))) (xs (wI (x3 + 2))) N).bind fun q53 => if q52.1 = q53.1 then (f_L_law_L18 n L xs (wI (x3 + 6)) q52.2 q53.2) else (some (0, q52.2, q53.2))))) else (if (bAnd (xs x3) 63) = 9 then (ck (0 ≤ (wI (x3 + 1)) ∧ (wI (x3 + 1)) < L) (ck (0 ≤ (wI (x3 + 2)) ∧ (wI (x3 + 2)) < L) ((f_X11_raise (xs (wI (x3 + 1))) (xs (wI (x3 + 2))) M).bind fun q58 => (f_X12_raise n (xs (wI (x3 + 1))) (xs (wI (x3 + 2))) N).bind fun q59 => if q58.1 = q59.1 then (f_L_law_L18 n L xs (wI (x3 + 6)) q58.2 q59.2) else (some (0, q58.2, q59.2))))) else (if (bAnd (xs x3) 63) = 10 then (ck (0 ≤ (wI (x3 + 1)) ∧ (wI (x3 + 1)) < L) ((f_X11_mend (xs (wI (x3 + 1))) M).bind fun q63 => (f_X12_mend n (xs (wI (x3 + 1))) N).bind fun q64 => if q63.1 = q64.1 then (f_L_law_L18 n L xs (wI (x3 + 6)) q63.2 q64.2) else (some (0, q63.2, q64.2)))) else (if (bAnd (xs x3) 63) = 11 then (ck (0 ≤ (wI (x3 + 1)) ∧ (wI (x3 + 1)) < L) (ck (0 ≤ (wI (x3 + 2)) ∧ (wI (x3 + 2)) < L) ((f_X11_bind (xs (wI (x3 + 1))) (xs (wI (x3 + 2))) M).bind fun q69 => (f_X12_bind n (xs (wI (x3 + 1))) (xs (wI (x3 + 2))) N).bind fun q70 => if q69.1 = q70.1 then (f_L_law_L18 n L xs (wI (x3 + 6)) q69.2 q70.2) else (some (0, q69.2, q70.2))))) else (if (bAnd (xs x3) 63) = 12 then (ck (0 ≤ (wI (x3 + 1)) ∧ (wI (x3 + 1)) < L) ((f_X11_played n (xs (wI (x3 + 1))) M).bind fun q74 => (f_X12_played n (xs (wI (x3 + 1))) N).bind fun q75 => if q74.1 = q75.1 then (f_L_law_L18 n L xs (wI (x3 + 6)) q74.2 q75.2) else (some (0, q74.2, q75.2)))) else (if (bAnd (xs x3) 63) = 13 then (ck (0 ≤ (wI (x3 + 1)) ∧ (wI (x3 + 1)) < L) (ck (0 ≤ (wI (x3 + 2)) ∧ (wI (x3 + 2)) < L) ((f_X11_centuries n (xs (wI (x3 + 1))) (xs (wI (x3 + 2))) M).bind fun q80 => (f_X12_centuries n (xs (wI (x3 + 1))) (xs (wI (x3 + 2))) N).bind fun q81 => if q80.1 = q81.1 then (f_L_law_L18 n L xs (wI (x3 + 6)) q80.2 q81.2) else (some (0, q80.2, q81.2))))) else (if (bAnd (xs x3) 63) = 14 then ((f_X11_undo M).bind fun q84 => (f_X12_undo n N).bind fun q85 => if q84.1 = q85.1 then (f_L_law_L18 n L xs (wI (x3 + 6)) q84.2 q85.2) else (some (0, q84.2, q85.2))) else (if (bAnd (xs x3) 63) = 15 then (ck (0 ≤ (wI (x3 + 1)) ∧ (wI (x3 + 1)) < L) (ck (0 ≤ (wI (x3 + 2)) ∧ (wI (x3 + 2)) < L) ((f_X11_ofStep n (xs (wI (x3 + 1))) (xs (wI (x3 + 2))) M).bind fun q90 => (f_X12_ofStep n (xs (wI (x3 + 1))) (xs (wI (x3 + 2))) N).bind fun q91 => if q90.1 = q91.1 then (f_L_law_L18 n L xs (wI (x3 + 6)) q90.2 q91.2) else (some (0, q90.2, q91.2))))) else (if (bAnd (xs x3) 63) = 16 then (ck (0 ≤ (wI (x3 + 1)) ∧ (wI (x3 + 1)) < L) (ck (0 ≤ (wI (x3 + 2)) ∧ (wI (x3 + 2)) < L) ((f_X11_ofShip (xs (wI (x3 + 1))) (xs (wI (x3 + 2))) M).bind fun q96 => (f_X12_ofShip (xs (wI (x3 + 1))) (xs (wI (x3 + 2))) N).bind fun q97 => if q96 = q97 then (f_L_law_L18 n L xs (wI (x3 + 6)) M N) else (some (0, M, N))))) else (if (bAnd (xs x3) 63) = 17 then (ck (0 ≤ (wI (x3 + 1)) ∧ (wI (x3 + 1)) < L) ((f_X12_is (xs (wI (x3 + 1))) N).bind fun q101 => if (f_X11_is (xs (wI (x3 + 1))) M) = q101 then (f_L_law_L18 n L xs (wI (x3 + 6)) M N) else (some (0, M, N)))) else (if (bAnd (xs x3) 63) = 18 then (ck (0 ≤ (wI (x3 + 1)) ∧ (wI (x3 + 1)) < L) (ck (0 ≤ (wI (x3 + 2)) ∧ (wI (x3 + 2)) < L) ((f_X11_book (xs (wI (x3 + 1))) (xs (wI (x3 + 2))) M).bind fun q106 => (f_X12_book (xs (wI (x3 + 1))) (xs (wI (x3 + 2))) N).bind fun q107 => if q106 = q107 then (f_L_law_L18 n L xs (wI (x3 + 6)) M N) else (some (0, M, N))))) else (if (bAnd (xs x3) 63) = 19 then (ck (0 ≤ (wI (x3 + 1)) ∧ (wI (x3 + 1)) < L) (ck (0 ≤ (wI (x3 + 2)) ∧ (wI (x3 + 2)) < L) (ck (0 ≤ (wI (x3 + 3)) ∧ (wI (x3 + 3)) < L) ((f_X11_foretoldShip n (xs (wI (x3 + 1))) (xs (wI (x3 + 2))) (xs (wI (x3 + 3))) M).bind fun q113 => (f_X12_foretoldShip n (xs (wI (x3 + 1))) (xs (wI (x3 + 2))) (xs (wI (x3 + 3))) N).bind fun q114 => if q113.1 = q114.1 then (f_L_law_L18 n L xs (wI (x3 + 6)) q113.2 q114.2) else (some (0, q113.2, q114.2)))))) else (if (bAnd (xs x3) 63) = 20 then (ck (0 ≤ (wI (x3 + 1)) ∧ (wI (x3 + 1)) < L) (ck (0 ≤ (wI (x3 + 2)) ∧ (wI (x3 + 2)) < L) (ck (0 ≤ (wI (x3 + 3)) ∧ (wI (x3 + 3)) < L) ((f_X11_foretoldStep n (xs (wI (x3 + 1))) (xs (wI (x3 + 2))) (xs (wI (x3 + 3))) M).bind fun q120 => (f_X12_foretoldStep n (xs (wI (x3 + 1))) (xs (wI (x3 + 2))) (xs (wI (x3 + 3))) N).bind fun q121 => if q120.1 = q121.1 then (f_L_law_L18 n L xs (wI (x3 + 6)) q120.2 q121.2) else (some (0, q120.2, q121.2)))))) else (if (bAnd (xs x3) 63) = 21 then (ck (0 ≤ (wI (x3 + 1)) ∧ (wI (x3 + 1)) < L) ((f_X11_comes n (xs (wI (x3 + 1))) M).bind fun q125 => (f_X12_comes n (xs (wI (x3 + 1))) N).bind fun q126 => if q125.1 = q126.1 then (f_L_law_L18 n L xs (wI (x3 + 6)) q125.2 q126.2) else (some (0, q125.2, q126.2)))) else (if (bAnd (xs x3) 63) = 22 then (ck (0 ≤ (wI (x3 + 1)) ∧ (wI (x3 + 1)) < L) (ck (0 ≤ (wI (x3 + 2)) ∧ (wI (x3 + 2)) < L) (ck (0 ≤ (wI (x3 + 3)) ∧ (wI (x3 + 3)) < L) (ck (0 ≤ (wI (x3 + 4)) ∧ (wI (x3 + 4)) < L) (ck (0 ≤ (wI (x3 + 5)) ∧ (wI (x3 + 5)) < L) ((f_X11_voyage n (xs (wI (x3 + 1))) (xs (wI (x3 + 2))) (xs (wI (x3 + 3))) (xs (wI (x3 + 4))) (xs (wI (x3 + 5))) M).bind fun q134 => (f_X12_voyage n (xs (wI (x3 + 1))) (xs (wI (x3 + 2))) (xs (wI (x3 + 3))) (xs (wI (x3 + 4))) (xs (wI (x3 + 5))) N).bind fun q135 => if q134.1 = q135.1 then (f_L_law_L18 n L xs (wI (x3 + 6)) q134.2 q135.2) else (some (0, q134.2, q135.2)))))))) else (if (bAnd (xs x3) 63) = 23 then (ck (0 ≤ (wI (x3 + 1)) ∧ (wI (x3 + 1)) < L) (ck (0 ≤ (wI (x3 + 2)) ∧ (wI (x3 + 2)) < L) (ck (0 ≤ (wI (x3 + 3)) ∧ (wI (x3 + 3)) < L) (ck (0 ≤ (wI (x3 + 4)) ∧ (wI (x3 + 4)) < L) ((f_X11_hauling n (xs (wI (x3 + 1))) (xs (wI (x3 + 2))) (xs (wI (x3 + 3))) (xs (wI (x3 + 4))) M).bind fun q142 => (f_X12_hauling n (xs (wI (x3 + 1))) (xs (wI (x3 + 2))) (xs (wI (x3 + 3))) (xs (wI (x3 + 4))) N).bind fun q143 => if q142.1 = q143.1 then (f_L_law_L18 n L xs (wI (x3 + 6)) q142.2 q143.2) else (some (0, q142.2, q143.2))))))) else (if (bAnd (xs x3) 63) = 24 then (ck (0 ≤ (wI (x3 + 1)) ∧ (wI (x3 + 1)) < L) (ck (0 ≤ (wI (x3 + 2)) ∧ (wI (x3 + 2)) < L) ((f_X11_thing n (xs (wI (x3 + 1))) (xs (wI (x3 + 2))) M).bind fun q148 => (f_X12_thing n (xs (wI (x3 + 1))) (xs (wI (x3 + 2))) N).bind fun q149 => if q148.1 = q149.1 then (f_L_law_L18 n L xs (wI (x3 + 6)) q148.2 q149.2) else (some (0, q148.2, q149.2))))) else (if (bAnd (xs x3) 63) = 25 then (ck (0 ≤ (wI (x3 + 1)) ∧ (wI (x3 + 1)) < L) (ck (0 ≤ (wI (x3 + 2)) ∧ (wI (x3 + 2)) < L) ((f_X11_upThere n (xs (wI (x3 + 1))) (xs (wI (x3 + 2))) M).bind fun q154 => (f_X12_upThere n (xs (wI (x3 + 1))) (xs (wI (x3 + 2))) N).bind fun q155 => if q154.1 = q155.1 then (f_L_law_L18 n L xs (wI (x3 + 6)) q154.2 q155.2) else (some (0, q154.2, q155.2))))) else (if (bAnd (xs x3) 63) = 26 then (ck (0 ≤ (wI (x3 + 1)) ∧ (wI (x3 + 1)) < L) ((f_X11_toRaise n (xs (wI (x3 + 1))) M).bind fun q159 => (f_X12_toRaise n (xs (wI (x3 + 1))) N).bind fun q160 => if q159.1 = q160.1 then (f_L_law_L18 n L xs (wI (x3 + 6)) q159.2 q160.2) else (some (0, q159.2, q160.2)))) else (if (bAnd (xs x3) 63) = 27 then (ck (0 ≤ (wI (x3 + 1)) ∧ (wI (x3 + 1)) < L) (ck (0 ≤ (wI (x3 + 2)) ∧ (wI (x3 + 2)) < L) ((f_X11_states n (xs (wI (x3 + 1))) (xs (wI (x3 + 2))) M).bind fun q165 => (f_X12_states n (xs (wI (x3 + 1))) (xs (wI (x3 + 2))) N).bind fun q166 => if q165.1 = q166.1 then (f_L_law_L18 n L xs (wI (x3 + 6)) q165.2 q166.2) else (some (0, q165.2, q166.2))))) else (if (bAnd (xs x3) 63) = 28 then (ck (0 ≤ (wI (x3 + 1)) ∧ (wI (x3 + 1)) < L) (ck (0 ≤ (wI (x3 + 2)) ∧ (wI (x3 + 2)) < L) ((f_X11_sound (xs (wI (x3 + 1))) (xs (wI (x3 + 2))) M).bind fun q171 => (f_X12_sound (xs (wI (x3 + 1))) (xs (wI (x3 + 2))) N).bind fun q172 => if q171.1 = q172.1 then (f_L_law_L18 n L xs (wI (x3 + 6)) q171.2 q172.2) else (some (0, q171.2, q172.2))))) else (if (bAnd (xs x3) 63) = 29 then (ck (0 ≤ (wI (x3 + 1)) ∧ (wI (x3 + 1)) < L) (ck (0 ≤ (wI (x3 + 2)) ∧ (wI (x3 + 2)) < L) (if (xs (wI (x3 + 2))) = 0 then (f_L_law_L18_J1188 n L xs (fun x3 M N => f_L_law_L18 n L xs x3 M N) x3 (xs (wI (x3 + 1))) 0 M N) else (f_L_law_L18_J1188 n L xs (fun x3 M N => f_L_law_L18 n L xs x3 M N) x3 (xs (wI (x3 + 1))) 1 M N)))) else (if (bAnd (xs x3) 63) = 30 then (ck (0 ≤ (wI (x3 + 1)) ∧ (wI (x3 + 1)) < L) ((f_X11_wreck (xs (wI (x3 + 1))) M).bind fun q186 => (f_X12_wreck (xs (wI (x3 + 1))) N).bind fun q187 => if q186.1 = q187.1 then (f_L_law_L18 n L xs (wI (x3 + 6)) q186.2 q187.2) else (some (0, q186.2, q187.2)))) else (if (bAnd (xs x3) 63) = 31 then (ck (0 ≤ (wI (x3 + 1)) ∧ (wI (x3 + 1)) < L) ((f_X11_inOrder n (xs (wI (x3 + 1))) M).bind fun q191 => (f_X12_inOrder n (xs (wI (x3 + 1))) N).bind fun q192 => if q191.1 = q192.1 then (f_L_law_L18 n L xs (wI (x3 + 6)) q191.2 q192.2) else (some (0, q191.2, q192.2)))) else (if (bAnd (xs x3) 63) = 32 then ((f_X11_outOfOrder n M).bind fun q195 => (f_X12_outOfOrder n N).bind fun q196 => if q195 = q196 then (f_L_law_L18 n L xs (wI (x3 + 6)) M N) else (some (0, M, N))) else (if (bAnd (xs x3) 63) = 33 then (ck (0 ≤ (wI (x3 + 1)) ∧ (wI (x3 + 1)) < L) (ck (0 ≤ (wI (x3 + 2)) ∧ (wI (x3 + 2)) < L) ((f_X11_misheard (xs (wI (x3 + 1))) (xs (wI (x3 + 2))) M).bind fun q201 => (f_X12_misheard (xs (wI (x3 + 1))) (xs (wI (x3 + 2))) N).bind fun q202 => if q201.1 = q202.1 then (f_L_law_L18 n L xs (wI (x3 + 6)) q201.2 q202.2) else (some (0, q201.2, q202.2))))) else (if (bAnd (xs x3) 63) = 34 then (ck (0 ≤ (wI (x3 + 1)) ∧ (wI (x3 + 1)) < L) ((f_X11_apart n (xs (wI (x3 + 1))) M).bind fun q206 => (f_X12_apart n (xs (wI (x3 + 1))) N).bind fun q207 => if q206 = q207 then (f_L_law_L18 n L xs (wI (x3 + 6)) M N) else (some (0, M, N)))) else (if (bAnd (xs x3) 63) = 35 then (ck (0 ≤ (wI (x3 + 1)) ∧ (wI (x3 + 1)) < L) ((f_X11_chains n (xs (wI (x3 + 1))) M).bind fun q211 => (f_X12_chains n (xs (wI (x3 + 1))) N).bind fun q212 => if q211 = q212 then (f_L_law_L18 n L xs (wI (x3 + 6)) M N) else (some (0, M, N)))) else (if (bAnd (xs x3) 63) = 36 then (ck (0 ≤ (wI (x3 + 1)) ∧ (wI (x3 + 1)) < L) (ck (0 ≤ (wI (x3 + 2)) ∧ (wI (x3 + 2)) < L) (if (xs (wI (x3 + 2))) = 0 then (f_L_law_L18_J1375 n L xs (fun x3 M N => f_L_law_L18 n L xs x3 M N) x3 (xs (wI (x3 + 1))) 0 M N) else (f_L_law_L18_J1375 n L xs (fun x3 M N => f_L_law_L18 n L xs x3 M N) x3 (xs (wI (x3 + 1))) 1 M N)))) else (if (bAnd (xs x3) 63) = 37 then (ck (0 ≤ (wI (x3 + 1)) ∧ (wI (x3 + 1)) < L) (if (xs (wI (x3 + 1))) = 0 then (f_L_law_L18_J1419 n L xs (fun x3 M N => f_L_law_L18 n L xs x3 M N) x3 0 M N) else (f_L_law_L18_J1419 n L xs (fun x3 M N => f_L_law_L18 n L xs x3 M N) x3 1 M N))) else (if (bAnd (xs x3) 63) = 38 then ((f_X11_image n M).bind fun q233 => (f_X12_image n N).bind fun q234 => if q233.1 = q234.1 then (f_L_law_L18 n L xs (wI (x3 + 6)) q233.2 q234.2) else (some (0, q233.2, q234.2))) else (if (bAnd (xs x3) 63) = 39 then ((f_X11_back n M).bind fun q237 => (f_X12_back n N).bind fun q238 => if q237.1 = q238.1 then (f_L_law_L18 n L xs (wI (x3 + 6)) q237.2 q238.2) else (some (0, q237.2, q238.2))) else (if (bAnd (xs x3) 63) = 40 then (ck (0 ≤ (wI (x3 + 1)) ∧ (wI (x3 + 1)) < L) ((f_X12_about (xs (wI (x3 + 1))) N).bind fun q242 => if (f_X11_about (xs (wI (x3 + 1))) M) = q242 then (f_L_law_L18 n L xs (wI (x3 + 6)) M N) else (some (0, M, N)))) else (f_L_law_L18 n L xs (wI (x3 + 6)) M N))))))))))))))))))))))))))))))))))))))))))))
set_option maxRecDepth 100000 in
set_option maxHeartbeats 4000000 in
theorem e_L_law_L18 {g : Gm} {d : Nat} {L : Int} {xs : Int → Int} (hd : 114 ≤ d) (hLs : L = scL g) (hxs : xs = scX g) : ∀ (n : Nat) {x3 : Int} {M N : Mem} {v : Int} {M' N' : Mem}, f_L_law_L18 n L xs x3 M N = some (v, M', N') → Ev g d mtL_law 18 [(0, vS 8), (1, vR 1), (2, vR 801), (3, vI x3)] [] (sg (mx M N)) (0, 0) (vI v) (sg (mx M' N')) := by
  intro n
  induction n with
  | zero =>
    intro x3 M N v M' N' h
    rw [f_L_law_L18.eq_1] at h
    cases h
  | succ n ih =>
    intro x3 M N v M' N' h
    rw [f_L_law_L18.eq_2] at h
    refine ev_iload_n (pc := 18) 3 dL_law_18 rfl rfl ?_
    refine ev_aload_nS (pc := 19) 0 dL_law_19 rfl rfl ?_
    refine ev_slen (pc := 20) hLs dL_law_20 ?_
    refine ev_bipush (pc := 21) (x := 6) dL_law_21 cb_6 ?_
    refine ev_isub (pc := 23) dL_law_23 ?_
    refine ev_icmp_gt (pc := 24) (tgt := 1499) dL_law_24 (by decide) (fun b1 => ?_) (fun b1 => ?_)
    · rw [if_pos b1] at h
      refine ev_iconst (pc := 1499) (x := 1) dL_law_1499 ci_1 ?_
      cases h
      exact ev_zret (pc := 1500) (Or.inr rfl) dL_law_1500 rfl
    · rw [if_neg b1] at h
      refine ev_aload_nS (pc := 27) 0 dL_law_27 rfl rfl ?_
      refine ev_iload_n (pc := 28) 3 dL_law_28 rfl rfl ?_
      obtain ⟨c2, h⟩ := ck_some h
      refine ev_sld (pc := 29) hLs hxs c2.1 c2.2 dL_law_29 ?_
      refine ev_bipush (pc := 30) (x := 63) dL_law_30 cb_63 ?_
      refine ev_iand (pc := 32) dL_law_32 ?_
      by_cases b3 : (bAnd (xs x3) 63) = 0
      · rw [if_pos b3] at h
        refine ev_tswIn (pc := 33) (tgt := 212) dL_law_33 (by omega) (by omega) (by rw [b3] <;> rfl) (by decide) ?_
        refine ev_aload_n (pc := 212) 1 dL_law_212 rfl rfl ?_
        refine ev_aload_nS (pc := 213) 0 dL_law_213 rfl rfl ?_
        refine ev_iload_n (pc := 214) 3 dL_law_214 rfl rfl ?_
        refine ev_iconst (pc := 215) (x := 1) dL_law_215 ci_1 ?_
        refine ev_iadd (pc := 216) dL_law_216 ?_
        obtain ⟨c4, h⟩ := ck_some h
        refine ev_sld (pc := 217) hLs hxs c4.1 c4.2 dL_law_217 ?_
        refine ev_aload_nS (pc := 218) 0 dL_law_218 rfl rfl ?_
        refine ev_iload_n (pc := 219) 3 dL_law_219 rfl rfl ?_
        refine ev_iconst (pc := 220) (x := 2) dL_law_220 ci_2 ?_
        refine ev_iadd (pc := 221) dL_law_221 ?_
        obtain ⟨c5, h⟩ := ck_some h
        refine ev_sld (pc := 222) hLs hxs c5.1 c5.2 dL_law_222 ?_
        refine ev_aload_nS (pc := 223) 0 dL_law_223 rfl rfl ?_
        refine ev_iload_n (pc := 224) 3 dL_law_224 rfl rfl ?_
        refine ev_iconst (pc := 225) (x := 3) dL_law_225 ci_3 ?_
        refine ev_iadd (pc := 226) dL_law_226 ?_
        obtain ⟨c6, h⟩ := ck_some h
        refine ev_sld (pc := 227) hLs hxs c6.1 c6.2 dL_law_227 ?_
        refine ev_aload_nS (pc := 228) 0 dL_law_228 rfl rfl ?_
        refine ev_iload_n (pc := 229) 3 dL_law_229 rfl rfl ?_
        refine ev_iconst (pc := 230) (x := 4) dL_law_230 ci_4 ?_
        refine ev_iadd (pc := 231) dL_law_231 ?_
        obtain ⟨c7, h⟩ := ck_some h
        refine ev_sld (pc := 232) hLs hxs c7.1 c7.2 dL_law_232 ?_
        obtain ⟨q8, hq8, h⟩ := bd h
        refine ev_cV (pc := 233) [vI (xs (wI (x3 + 1))), vI (xs (wI (x3 + 2))), vI (xs (wI (x3 + 3))), vI (xs (wI (x3 + 4)))] [] rfl mkX11_step mlL_13 mnX11_step dL_law_233 kd_1 (by omega) rfl (Nat.le_of_ble_eq_true rfl) (by omega) rfl (e_X11_step (d := d - 1) (v := q8.1) (M' := q8.2) (by omega)  hq8) ?_
        refine ev_aload_n (pc := 236) 2 dL_law_236 rfl rfl ?_
        refine ev_aload_nS (pc := 237) 0 dL_law_237 rfl rfl ?_
        refine ev_iload_n (pc := 238) 3 dL_law_238 rfl rfl ?_
        refine ev_iconst (pc := 239) (x := 1) dL_law_239 ci_1 ?_
        refine ev_iadd (pc := 240) dL_law_240 ?_
        refine ev_sld (pc := 241) hLs hxs c4.1 c4.2 dL_law_241 ?_
        refine ev_aload_nS (pc := 242) 0 dL_law_242 rfl rfl ?_
        refine ev_iload_n (pc := 243) 3 dL_law_243 rfl rfl ?_
        refine ev_iconst (pc := 244) (x := 2) dL_law_244 ci_2 ?_
        refine ev_iadd (pc := 245) dL_law_245 ?_
        refine ev_sld (pc := 246) hLs hxs c5.1 c5.2 dL_law_246 ?_
        refine ev_aload_nS (pc := 247) 0 dL_law_247 rfl rfl ?_
        refine ev_iload_n (pc := 248) 3 dL_law_248 rfl rfl ?_
        refine ev_iconst (pc := 249) (x := 3) dL_law_249 ci_3 ?_
        refine ev_iadd (pc := 250) dL_law_250 ?_
        refine ev_sld (pc := 251) hLs hxs c6.1 c6.2 dL_law_251 ?_
        refine ev_aload_nS (pc := 252) 0 dL_law_252 rfl rfl ?_
        refine ev_iload_n (pc := 253) 3 dL_law_253 rfl rfl ?_
        refine ev_iconst (pc := 254) (x := 4) dL_law_254 ci_4 ?_
        refine ev_iadd (pc := 255) dL_law_255 ?_
        refine ev_sld (pc := 256) hLs hxs c7.1 c7.2 dL_law_256 ?_
        obtain ⟨q9, hq9, h⟩ := bd h
        refine ev_cV (pc := 257) [vI (xs (wI (x3 + 1))), vI (xs (wI (x3 + 2))), vI (xs (wI (x3 + 3))), vI (xs (wI (x3 + 4)))] [vI q8.1] rfl mkX12_step mlL_17 mnX12_step dL_law_257 kd_801 (by omega) rfl (Nat.le_of_ble_eq_true rfl) (by omega) rfl (e_X12_step (d := d - 1) (v := q9.1) (M' := q9.2) (by omega)  hq9) ?_
        refine ev_icmp_eq (pc := 260) (tgt := 1493) dL_law_260 (by decide) (fun b10 => ?_) (fun b10 => ?_)
        · rw [if_pos b10] at h
          refine ev_iinc (pc := 1493) (il' := [(3, vI (wI (x3 + 6))), (0, vS 8), (1, vR 1), (2, vR 801)]) 3 dL_law_1493 rfl (Nat.le_of_ble_eq_true rfl) rfl rfl ?_
          refine ev_goto (pc := 1496) (tgt := 18) dL_law_1496 (by decide) ?_
          refine ev_pick [1, 2, 3, 0] rfl ?_
          exact ih h
        · rw [if_neg b10] at h
          refine ev_iconst (pc := 263) (x := 0) dL_law_263 ci_0 ?_
          cases h
          exact ev_zret (pc := 264) (Or.inl rfl) dL_law_264 rfl
      · rw [if_neg b3] at h
        by_cases b11 : (bAnd (xs x3) 63) = 1
        · rw [if_pos b11] at h
          refine ev_tswIn (pc := 33) (tgt := 265) dL_law_33 (by omega) (by omega) (by rw [b11] <;> rfl) (by decide) ?_
          refine ev_aload_n (pc := 265) 1 dL_law_265 rfl rfl ?_
          refine ev_aload_nS (pc := 266) 0 dL_law_266 rfl rfl ?_
          refine ev_iload_n (pc := 267) 3 dL_law_267 rfl rfl ?_
          refine ev_iconst (pc := 268) (x := 1) dL_law_268 ci_1 ?_
          refine ev_iadd (pc := 269) dL_law_269 ?_
          obtain ⟨c12, h⟩ := ck_some h
          refine ev_sld (pc := 270) hLs hxs c12.1 c12.2 dL_law_270 ?_
          refine ev_aload_nS (pc := 271) 0 dL_law_271 rfl rfl ?_
          refine ev_iload_n (pc := 272) 3 dL_law_272 rfl rfl ?_
          refine ev_iconst (pc := 273) (x := 2) dL_law_273 ci_2 ?_
          refine ev_iadd (pc := 274) dL_law_274 ?_
          obtain ⟨c13, h⟩ := ck_some h
          refine ev_sld (pc := 275) hLs hxs c13.1 c13.2 dL_law_275 ?_
          refine ev_aload_nS (pc := 276) 0 dL_law_276 rfl rfl ?_
          refine ev_iload_n (pc := 277) 3 dL_law_277 rfl rfl ?_
          refine ev_iconst (pc := 278) (x := 3) dL_law_278 ci_3 ?_
          refine ev_iadd (pc := 279) dL_law_279 ?_
          obtain ⟨c14, h⟩ := ck_some h
          refine ev_sld (pc := 280) hLs hxs c14.1 c14.2 dL_law_280 ?_
          obtain ⟨q15, hq15, h⟩ := bd h
          refine ev_cV (pc := 281) [vI (xs (wI (x3 + 1))), vI (xs (wI (x3 + 2))), vI (xs (wI (x3 + 3)))] [] rfl mkX11_ship mlL_18 mnX11_ship dL_law_281 kd_1 (by omega) rfl (Nat.le_of_ble_eq_true rfl) (by omega) rfl (e_X11_ship (d := d - 1) (v := q15.1) (M' := q15.2) (by omega)  hq15) ?_
          refine ev_aload_n (pc := 284) 2 dL_law_284 rfl rfl ?_
          refine ev_aload_nS (pc := 285) 0 dL_law_285 rfl rfl ?_
          refine ev_iload_n (pc := 286) 3 dL_law_286 rfl rfl ?_
          refine ev_iconst (pc := 287) (x := 1) dL_law_287 ci_1 ?_
          refine ev_iadd (pc := 288) dL_law_288 ?_
          refine ev_sld (pc := 289) hLs hxs c12.1 c12.2 dL_law_289 ?_
          refine ev_aload_nS (pc := 290) 0 dL_law_290 rfl rfl ?_
          refine ev_iload_n (pc := 291) 3 dL_law_291 rfl rfl ?_
          refine ev_iconst (pc := 292) (x := 2) dL_law_292 ci_2 ?_
          refine ev_iadd (pc := 293) dL_law_293 ?_
          refine ev_sld (pc := 294) hLs hxs c13.1 c13.2 dL_law_294 ?_
          refine ev_aload_nS (pc := 295) 0 dL_law_295 rfl rfl ?_
          refine ev_iload_n (pc := 296) 3 dL_law_296 rfl rfl ?_
          refine ev_iconst (pc := 297) (x := 3) dL_law_297 ci_3 ?_
          refine ev_iadd (pc := 298) dL_law_298 ?_
          refine ev_sld (pc := 299) hLs hxs c14.1 c14.2 dL_law_299 ?_
          obtain ⟨q16, hq16, h⟩ := bd h
          refine ev_cV (pc := 300) [vI (xs (wI (x3 + 1))), vI (xs (wI (x3 + 2))), vI (xs (wI (x3 + 3)))] [vI q15.1] rfl mkX12_ship mlL_22 mnX12_ship dL_law_300 kd_801 (by omega) rfl (Nat.le_of_ble_eq_true rfl) (by omega) rfl (e_X12_ship (d := d - 1) (v := q16.1) (M' := q16.2) (by omega)  hq16) ?_
          refine ev_icmp_eq (pc := 303) (tgt := 1493) dL_law_303 (by decide) (fun b17 => ?_) (fun b17 => ?_)
          · rw [if_pos b17] at h
            refine ev_iinc (pc := 1493) (il' := [(3, vI (wI (x3 + 6))), (0, vS 8), (1, vR 1), (2, vR 801)]) 3 dL_law_1493 rfl (Nat.le_of_ble_eq_true rfl) rfl rfl ?_
            refine ev_goto (pc := 1496) (tgt := 18) dL_law_1496 (by decide) ?_
            refine ev_pick [1, 2, 3, 0] rfl ?_
            exact ih h
          · rw [if_neg b17] at h
            refine ev_iconst (pc := 306) (x := 0) dL_law_306 ci_0 ?_
            cases h
            exact ev_zret (pc := 307) (Or.inl rfl) dL_law_307 rfl
        · rw [if_neg b11] at h
          by_cases b18 : (bAnd (xs x3) 63) = 2
          · rw [if_pos b18] at h
            refine ev_tswIn (pc := 33) (tgt := 308) dL_law_33 (by omega) (by omega) (by rw [b18] <;> rfl) (by decide) ?_
            refine ev_aload_n (pc := 308) 1 dL_law_308 rfl rfl ?_
            refine ev_aload_nS (pc := 309) 0 dL_law_309 rfl rfl ?_
            refine ev_iload_n (pc := 310) 3 dL_law_310 rfl rfl ?_
            refine ev_iconst (pc := 311) (x := 1) dL_law_311 ci_1 ?_
            refine ev_iadd (pc := 312) dL_law_312 ?_
            obtain ⟨c19, h⟩ := ck_some h
            refine ev_sld (pc := 313) hLs hxs c19.1 c19.2 dL_law_313 ?_
            refine ev_aload_nS (pc := 314) 0 dL_law_314 rfl rfl ?_
            refine ev_iload_n (pc := 315) 3 dL_law_315 rfl rfl ?_
            refine ev_iconst (pc := 316) (x := 2) dL_law_316 ci_2 ?_
            refine ev_iadd (pc := 317) dL_law_317 ?_
            obtain ⟨c20, h⟩ := ck_some h
            refine ev_sld (pc := 318) hLs hxs c20.1 c20.2 dL_law_318 ?_
            refine ev_aload_nS (pc := 319) 0 dL_law_319 rfl rfl ?_
            refine ev_iload_n (pc := 320) 3 dL_law_320 rfl rfl ?_
            refine ev_iconst (pc := 321) (x := 3) dL_law_321 ci_3 ?_
            refine ev_iadd (pc := 322) dL_law_322 ?_
            obtain ⟨c21, h⟩ := ck_some h
            refine ev_sld (pc := 323) hLs hxs c21.1 c21.2 dL_law_323 ?_
            refine ev_aload_nS (pc := 324) 0 dL_law_324 rfl rfl ?_
            refine ev_iload_n (pc := 325) 3 dL_law_325 rfl rfl ?_
            refine ev_iconst (pc := 326) (x := 4) dL_law_326 ci_4 ?_
            refine ev_iadd (pc := 327) dL_law_327 ?_
            obtain ⟨c22, h⟩ := ck_some h
            refine ev_sld (pc := 328) hLs hxs c22.1 c22.2 dL_law_328 ?_
            refine ev_aload_nS (pc := 329) 0 dL_law_329 rfl rfl ?_
            refine ev_iload_n (pc := 330) 3 dL_law_330 rfl rfl ?_
            refine ev_iconst (pc := 331) (x := 5) dL_law_331 ci_5 ?_
            refine ev_iadd (pc := 332) dL_law_332 ?_
            obtain ⟨c23, h⟩ := ck_some h
            refine ev_sld (pc := 333) hLs hxs c23.1 c23.2 dL_law_333 ?_
            obtain ⟨q24, hq24, h⟩ := bd h
            refine ev_cV (pc := 334) [vI (xs (wI (x3 + 1))), vI (xs (wI (x3 + 2))), vI (xs (wI (x3 + 3))), vI (xs (wI (x3 + 4))), vI (xs (wI (x3 + 5)))] [] rfl mkX11_feed mlL_23 mnX11_feed dL_law_334 kd_1 (by omega) rfl (Nat.le_of_ble_eq_true rfl) (by omega) rfl (e_X11_feed (d := d - 1) (v := q24.1) (M' := q24.2) (by omega)  hq24) ?_
            refine ev_aload_n (pc := 337) 2 dL_law_337 rfl rfl ?_
            refine ev_aload_nS (pc := 338) 0 dL_law_338 rfl rfl ?_
            refine ev_iload_n (pc := 339) 3 dL_law_339 rfl rfl ?_
            refine ev_iconst (pc := 340) (x := 1) dL_law_340 ci_1 ?_
            refine ev_iadd (pc := 341) dL_law_341 ?_
            refine ev_sld (pc := 342) hLs hxs c19.1 c19.2 dL_law_342 ?_
            refine ev_aload_nS (pc := 343) 0 dL_law_343 rfl rfl ?_
            refine ev_iload_n (pc := 344) 3 dL_law_344 rfl rfl ?_
            refine ev_iconst (pc := 345) (x := 2) dL_law_345 ci_2 ?_
            refine ev_iadd (pc := 346) dL_law_346 ?_
            refine ev_sld (pc := 347) hLs hxs c20.1 c20.2 dL_law_347 ?_
            refine ev_aload_nS (pc := 348) 0 dL_law_348 rfl rfl ?_
            refine ev_iload_n (pc := 349) 3 dL_law_349 rfl rfl ?_
            refine ev_iconst (pc := 350) (x := 3) dL_law_350 ci_3 ?_
            refine ev_iadd (pc := 351) dL_law_351 ?_
            refine ev_sld (pc := 352) hLs hxs c21.1 c21.2 dL_law_352 ?_
            refine ev_aload_nS (pc := 353) 0 dL_law_353 rfl rfl ?_
            refine ev_iload_n (pc := 354) 3 dL_law_354 rfl rfl ?_
            refine ev_iconst (pc := 355) (x := 4) dL_law_355 ci_4 ?_
            refine ev_iadd (pc := 356) dL_law_356 ?_
            refine ev_sld (pc := 357) hLs hxs c22.1 c22.2 dL_law_357 ?_
            refine ev_aload_nS (pc := 358) 0 dL_law_358 rfl rfl ?_
            refine ev_iload_n (pc := 359) 3 dL_law_359 rfl rfl ?_
            refine ev_iconst (pc := 360) (x := 5) dL_law_360 ci_5 ?_
            refine ev_iadd (pc := 361) dL_law_361 ?_
            refine ev_sld (pc := 362) hLs hxs c23.1 c23.2 dL_law_362 ?_
            obtain ⟨q25, hq25, h⟩ := bd h
            refine ev_cV (pc := 363) [vI (xs (wI (x3 + 1))), vI (xs (wI (x3 + 2))), vI (xs (wI (x3 + 3))), vI (xs (wI (x3 + 4))), vI (xs (wI (x3 + 5)))] [vI q24.1] rfl mkX12_feed mlL_27 mnX12_feed dL_law_363 kd_801 (by omega) rfl (Nat.le_of_ble_eq_true rfl) (by omega) rfl (e_X12_feed (d := d - 1) (v := q25.1) (M' := q25.2) (by omega)  hq25) ?_
            refine ev_icmp_eq (pc := 366) (tgt := 1493) dL_law_366 (by decide) (fun b26 => ?_) (fun b26 => ?_)
            · rw [if_pos b26] at h
              refine ev_iinc (pc := 1493) (il' := [(3, vI (wI (x3 + 6))), (0, vS 8), (1, vR 1), (2, vR 801)]) 3 dL_law_1493 rfl (Nat.le_of_ble_eq_true rfl) rfl rfl ?_
              refine ev_goto (pc := 1496) (tgt := 18) dL_law_1496 (by decide) ?_
              refine ev_pick [1, 2, 3, 0] rfl ?_
              exact ih h
            · rw [if_neg b26] at h
              refine ev_iconst (pc := 369) (x := 0) dL_law_369 ci_0 ?_
              cases h
              exact ev_zret (pc := 370) (Or.inl rfl) dL_law_370 rfl
          · rw [if_neg b18] at h
            by_cases b27 : (bAnd (xs x3) 63) = 3
            · rw [if_pos b27] at h
              refine ev_tswIn (pc := 33) (tgt := 371) dL_law_33 (by omega) (by omega) (by rw [b27] <;> rfl) (by decide) ?_
              refine ev_aload_n (pc := 371) 1 dL_law_371 rfl rfl ?_
              refine ev_aload_nS (pc := 372) 0 dL_law_372 rfl rfl ?_
              refine ev_iload_n (pc := 373) 3 dL_law_373 rfl rfl ?_
              refine ev_iconst (pc := 374) (x := 1) dL_law_374 ci_1 ?_
              refine ev_iadd (pc := 375) dL_law_375 ?_
              obtain ⟨c28, h⟩ := ck_some h
              refine ev_sld (pc := 376) hLs hxs c28.1 c28.2 dL_law_376 ?_
              obtain ⟨q29, hq29, h⟩ := lt_some h
              refine ev_cV (pc := 377) [vI (xs (wI (x3 + 1)))] [] rfl mkX11_end mlL_28 mnX11_end dL_law_377 kd_1 (by omega) rfl (Nat.le_of_ble_eq_true rfl) (by omega) rfl (e_X11_end (d := d - 1) (v := q29.1) (M' := q29.2) (by omega)  hq29.symm) ?_
              refine ev_aload_n (pc := 380) 2 dL_law_380 rfl rfl ?_
              refine ev_aload_nS (pc := 381) 0 dL_law_381 rfl rfl ?_
              refine ev_iload_n (pc := 382) 3 dL_law_382 rfl rfl ?_
              refine ev_iconst (pc := 383) (x := 1) dL_law_383 ci_1 ?_
              refine ev_iadd (pc := 384) dL_law_384 ?_
              refine ev_sld (pc := 385) hLs hxs c28.1 c28.2 dL_law_385 ?_
              obtain ⟨q30, hq30, h⟩ := lt_some h
              refine ev_cV (pc := 386) [vI (xs (wI (x3 + 1)))] [vI q29.1] rfl mkX12_end mlL_32 mnX12_end dL_law_386 kd_801 (by omega) rfl (Nat.le_of_ble_eq_true rfl) (by omega) rfl (e_X12_end (d := d - 1) (v := q30.1) (M' := q30.2) (by omega)  hq30.symm) ?_
              refine ev_icmp_eq (pc := 389) (tgt := 1493) dL_law_389 (by decide) (fun b31 => ?_) (fun b31 => ?_)
              · rw [if_pos b31] at h
                refine ev_iinc (pc := 1493) (il' := [(3, vI (wI (x3 + 6))), (0, vS 8), (1, vR 1), (2, vR 801)]) 3 dL_law_1493 rfl (Nat.le_of_ble_eq_true rfl) rfl rfl ?_
                refine ev_goto (pc := 1496) (tgt := 18) dL_law_1496 (by decide) ?_
                refine ev_pick [1, 2, 3, 0] rfl ?_
                exact ih h
              · rw [if_neg b31] at h
                refine ev_iconst (pc := 392) (x := 0) dL_law_392 ci_0 ?_
                cases h
                exact ev_zret (pc := 393) (Or.inl rfl) dL_law_393 rfl
            · rw [if_neg b27] at h
              by_cases b32 : (bAnd (xs x3) 63) = 4
              · rw [if_pos b32] at h
                refine ev_tswIn (pc := 33) (tgt := 394) dL_law_33 (by omega) (by omega) (by rw [b32] <;> rfl) (by decide) ?_
                refine ev_aload_n (pc := 394) 1 dL_law_394 rfl rfl ?_
                obtain ⟨q33, hq33, h⟩ := bd h
                refine ev_cV (pc := 395) [] [] rfl mkX11_text mlL_33 mnX11_text dL_law_395 kd_1 (by omega) rfl (Nat.le_of_ble_eq_true rfl) (by omega) rfl (e_X11_text (d := d - 1) (v := q33.1) (M' := q33.2) (by omega)  hq33) ?_
                refine ev_aload_n (pc := 398) 2 dL_law_398 rfl rfl ?_
                obtain ⟨q34, hq34, h⟩ := bd h
                refine ev_cV (pc := 399) [] [vI q33.1] rfl mkX12_text mlL_37 mnX12_text dL_law_399 kd_801 (by omega) rfl (Nat.le_of_ble_eq_true rfl) (by omega) rfl (e_X12_text (d := d - 1) (v := q34.1) (M' := q34.2) (by omega)  hq34) ?_
                refine ev_icmp_eq (pc := 402) (tgt := 1493) dL_law_402 (by decide) (fun b35 => ?_) (fun b35 => ?_)
                · rw [if_pos b35] at h
                  refine ev_iinc (pc := 1493) (il' := [(3, vI (wI (x3 + 6))), (0, vS 8), (1, vR 1), (2, vR 801)]) 3 dL_law_1493 rfl (Nat.le_of_ble_eq_true rfl) rfl rfl ?_
                  refine ev_goto (pc := 1496) (tgt := 18) dL_law_1496 (by decide) ?_
                  refine ev_pick [1, 2, 3, 0] rfl ?_
                  exact ih h
                · rw [if_neg b35] at h
                  refine ev_iconst (pc := 405) (x := 0) dL_law_405 ci_0 ?_
                  cases h
                  exact ev_zret (pc := 406) (Or.inl rfl) dL_law_406 rfl
              · rw [if_neg b32] at h
                by_cases b36 : (bAnd (xs x3) 63) = 5
                · rw [if_pos b36] at h
                  refine ev_tswIn (pc := 33) (tgt := 407) dL_law_33 (by omega) (by omega) (by rw [b36] <;> rfl) (by decide) ?_
                  refine ev_aload_n (pc := 407) 1 dL_law_407 rfl rfl ?_
                  refine ev_aload_nS (pc := 408) 0 dL_law_408 rfl rfl ?_
                  refine ev_iload_n (pc := 409) 3 dL_law_409 rfl rfl ?_
                  refine ev_iconst (pc := 410) (x := 1) dL_law_410 ci_1 ?_
                  refine ev_iadd (pc := 411) dL_law_411 ?_
                  obtain ⟨c37, h⟩ := ck_some h
                  refine ev_sld (pc := 412) hLs hxs c37.1 c37.2 dL_law_412 ?_
                  refine ev_cV (pc := 413) [vI (xs (wI (x3 + 1)))] [] rfl mkX11_fault mlL_38 mnX11_fault dL_law_413 kd_1 (by omega) rfl (Nat.le_of_ble_eq_true rfl) (by omega) rfl (e_X11_fault (d := d - 1) (v := (f_X11_fault (xs (wI (x3 + 1))) M)) (by omega)  rfl) ?_
                  refine ev_aload_n (pc := 416) 2 dL_law_416 rfl rfl ?_
                  refine ev_aload_nS (pc := 417) 0 dL_law_417 rfl rfl ?_
                  refine ev_iload_n (pc := 418) 3 dL_law_418 rfl rfl ?_
                  refine ev_iconst (pc := 419) (x := 1) dL_law_419 ci_1 ?_
                  refine ev_iadd (pc := 420) dL_law_420 ?_
                  refine ev_sld (pc := 421) hLs hxs c37.1 c37.2 dL_law_421 ?_
                  refine ev_cV (pc := 422) [vI (xs (wI (x3 + 1)))] [vI (f_X11_fault (xs (wI (x3 + 1))) M)] rfl mkX12_fault mlL_41 mnX12_fault dL_law_422 kd_801 (by omega) rfl (Nat.le_of_ble_eq_true rfl) (by omega) rfl (e_X12_fault (d := d - 1) (v := (f_X12_fault (xs (wI (x3 + 1))) N)) (by omega)  rfl) ?_
                  refine ev_icmp_eq (pc := 425) (tgt := 1493) dL_law_425 (by decide) (fun b38 => ?_) (fun b38 => ?_)
                  · rw [if_pos b38] at h
                    refine ev_iinc (pc := 1493) (il' := [(3, vI (wI (x3 + 6))), (0, vS 8), (1, vR 1), (2, vR 801)]) 3 dL_law_1493 rfl (Nat.le_of_ble_eq_true rfl) rfl rfl ?_
                    refine ev_goto (pc := 1496) (tgt := 18) dL_law_1496 (by decide) ?_
                    refine ev_pick [1, 2, 3, 0] rfl ?_
                    exact ih h
                  · rw [if_neg b38] at h
                    refine ev_iconst (pc := 428) (x := 0) dL_law_428 ci_0 ?_
                    cases h
                    exact ev_zret (pc := 429) (Or.inl rfl) dL_law_429 rfl
                · rw [if_neg b36] at h
                  by_cases b39 : (bAnd (xs x3) 63) = 6
                  · rw [if_pos b39] at h
                    refine ev_tswIn (pc := 33) (tgt := 430) dL_law_33 (by omega) (by omega) (by rw [b39] <;> rfl) (by decide) ?_
                    refine ev_aload_n (pc := 430) 1 dL_law_430 rfl rfl ?_
                    refine ev_aload_nS (pc := 431) 0 dL_law_431 rfl rfl ?_
                    refine ev_iload_n (pc := 432) 3 dL_law_432 rfl rfl ?_
                    refine ev_iconst (pc := 433) (x := 1) dL_law_433 ci_1 ?_
                    refine ev_iadd (pc := 434) dL_law_434 ?_
                    obtain ⟨c40, h⟩ := ck_some h
                    refine ev_sld (pc := 435) hLs hxs c40.1 c40.2 dL_law_435 ?_
                    obtain ⟨q41, hq41, h⟩ := bd h
                    refine ev_cV (pc := 436) [vI (xs (wI (x3 + 1)))] [] rfl mkX11_by mlL_42 mnX11_by dL_law_436 kd_1 (by omega) rfl (Nat.le_of_ble_eq_true rfl) (by omega) rfl (e_X11_by (d := d - 1) (v := q41.1) (M' := q41.2) (by omega)  hq41) ?_
                    refine ev_aload_n (pc := 439) 2 dL_law_439 rfl rfl ?_
                    refine ev_aload_nS (pc := 440) 0 dL_law_440 rfl rfl ?_
                    refine ev_iload_n (pc := 441) 3 dL_law_441 rfl rfl ?_
                    refine ev_iconst (pc := 442) (x := 1) dL_law_442 ci_1 ?_
                    refine ev_iadd (pc := 443) dL_law_443 ?_
                    refine ev_sld (pc := 444) hLs hxs c40.1 c40.2 dL_law_444 ?_
                    obtain ⟨q42, hq42, h⟩ := lt_some h
                    refine ev_cV (pc := 445) [vI (xs (wI (x3 + 1)))] [vI q41.1] rfl mkX12_by mlL_46 mnX12_by dL_law_445 kd_801 (by omega) rfl (Nat.le_of_ble_eq_true rfl) (by omega) rfl (e_X12_by (d := d - 1) (v := q42.1) (M' := q42.2) (by omega)  hq42.symm) ?_
                    refine ev_icmp_eq (pc := 448) (tgt := 1493) dL_law_448 (by decide) (fun b43 => ?_) (fun b43 => ?_)
                    · rw [if_pos b43] at h
                      refine ev_iinc (pc := 1493) (il' := [(3, vI (wI (x3 + 6))), (0, vS 8), (1, vR 1), (2, vR 801)]) 3 dL_law_1493 rfl (Nat.le_of_ble_eq_true rfl) rfl rfl ?_
                      refine ev_goto (pc := 1496) (tgt := 18) dL_law_1496 (by decide) ?_
                      refine ev_pick [1, 2, 3, 0] rfl ?_
                      exact ih h
                    · rw [if_neg b43] at h
                      refine ev_iconst (pc := 451) (x := 0) dL_law_451 ci_0 ?_
                      cases h
                      exact ev_zret (pc := 452) (Or.inl rfl) dL_law_452 rfl
                  · rw [if_neg b39] at h
                    by_cases b44 : (bAnd (xs x3) 63) = 7
                    · rw [if_pos b44] at h
                      refine ev_tswIn (pc := 33) (tgt := 453) dL_law_33 (by omega) (by omega) (by rw [b44] <;> rfl) (by decide) ?_
                      refine ev_aload_n (pc := 453) 1 dL_law_453 rfl rfl ?_
                      refine ev_aload_nS (pc := 454) 0 dL_law_454 rfl rfl ?_
                      refine ev_iload_n (pc := 455) 3 dL_law_455 rfl rfl ?_
                      refine ev_iconst (pc := 456) (x := 1) dL_law_456 ci_1 ?_
                      refine ev_iadd (pc := 457) dL_law_457 ?_
                      obtain ⟨c45, h⟩ := ck_some h
                      refine ev_sld (pc := 458) hLs hxs c45.1 c45.2 dL_law_458 ?_
                      obtain ⟨q46, hq46, h⟩ := bd h
                      refine ev_cV (pc := 459) [vI (xs (wI (x3 + 1)))] [] rfl mkX11_hour mlL_47 mnX11_hour dL_law_459 kd_1 (by omega) rfl (Nat.le_of_ble_eq_true rfl) (by omega) rfl (e_X11_hour (d := d - 1) (v := q46.1) (M' := q46.2) (by omega)  hq46) ?_
                      refine ev_aload_n (pc := 462) 2 dL_law_462 rfl rfl ?_
                      refine ev_aload_nS (pc := 463) 0 dL_law_463 rfl rfl ?_
                      refine ev_iload_n (pc := 464) 3 dL_law_464 rfl rfl ?_
                      refine ev_iconst (pc := 465) (x := 1) dL_law_465 ci_1 ?_
                      refine ev_iadd (pc := 466) dL_law_466 ?_
                      refine ev_sld (pc := 467) hLs hxs c45.1 c45.2 dL_law_467 ?_
                      obtain ⟨q47, hq47, h⟩ := bd h
                      refine ev_cV (pc := 468) [vI (xs (wI (x3 + 1)))] [vI q46.1] rfl mkX12_hour mlL_50 mnX12_hour dL_law_468 kd_801 (by omega) rfl (Nat.le_of_ble_eq_true rfl) (by omega) rfl (e_X12_hour (d := d - 1) (v := q47.1) (M' := q47.2) (by omega)  hq47) ?_
                      refine ev_icmp_eq (pc := 471) (tgt := 1493) dL_law_471 (by decide) (fun b48 => ?_) (fun b48 => ?_)
                      · rw [if_pos b48] at h
                        refine ev_iinc (pc := 1493) (il' := [(3, vI (wI (x3 + 6))), (0, vS 8), (1, vR 1), (2, vR 801)]) 3 dL_law_1493 rfl (Nat.le_of_ble_eq_true rfl) rfl rfl ?_
                        refine ev_goto (pc := 1496) (tgt := 18) dL_law_1496 (by decide) ?_
                        refine ev_pick [1, 2, 3, 0] rfl ?_
                        exact ih h
                      · rw [if_neg b48] at h
                        refine ev_iconst (pc := 474) (x := 0) dL_law_474 ci_0 ?_
                        cases h
                        exact ev_zret (pc := 475) (Or.inl rfl) dL_law_475 rfl
                    · rw [if_neg b44] at h
                      by_cases b49 : (bAnd (xs x3) 63) = 8
                      · rw [if_pos b49] at h
                        refine ev_tswIn (pc := 33) (tgt := 476) dL_law_33 (by omega) (by omega) (by rw [b49] <;> rfl) (by decide) ?_
                        refine ev_aload_n (pc := 476) 1 dL_law_476 rfl rfl ?_
                        refine ev_aload_nS (pc := 477) 0 dL_law_477 rfl rfl ?_
                        refine ev_iload_n (pc := 478) 3 dL_law_478 rfl rfl ?_
                        refine ev_iconst (pc := 479) (x := 1) dL_law_479 ci_1 ?_
                        refine ev_iadd (pc := 480) dL_law_480 ?_
                        obtain ⟨c50, h⟩ := ck_some h
                        refine ev_sld (pc := 481) hLs hxs c50.1 c50.2 dL_law_481 ?_
                        refine ev_aload_nS (pc := 482) 0 dL_law_482 rfl rfl ?_
                        refine ev_iload_n (pc := 483) 3 dL_law_483 rfl rfl ?_
                        refine ev_iconst (pc := 484) (x := 2) dL_law_484 ci_2 ?_
                        refine ev_iadd (pc := 485) dL_law_485 ?_
                        obtain ⟨c51, h⟩ := ck_some h
                        refine ev_sld (pc := 486) hLs hxs c51.1 c51.2 dL_law_486 ?_
                        obtain ⟨q52, hq52, h⟩ := bd h
                        refine ev_cV (pc := 487) [vI (xs (wI (x3 + 1))), vI (xs (wI (x3 + 2)))] [] rfl mkX11_flood mlL_51 mnX11_flood dL_law_487 kd_1 (by omega) rfl (Nat.le_of_ble_eq_true rfl) (by omega) rfl (e_X11_flood (d := d - 1) (v := q52.1) (M' := q52.2) (by omega)  hq52) ?_
                        refine ev_aload_n (pc := 490) 2 dL_law_490 rfl rfl ?_
                        refine ev_aload_nS (pc := 491) 0 dL_law_491 rfl rfl ?_
                        refine ev_iload_n (pc := 492) 3 dL_law_492 rfl rfl ?_
                        refine ev_iconst (pc := 493) (x := 1) dL_law_493 ci_1 ?_
                        refine ev_iadd (pc := 494) dL_law_494 ?_
                        refine ev_sld (pc := 495) hLs hxs c50.1 c50.2 dL_law_495 ?_
                        refine ev_aload_nS (pc := 496) 0 dL_law_496 rfl rfl ?_
                        refine ev_iload_n (pc := 497) 3 dL_law_497 rfl rfl ?_
                        refine ev_iconst (pc := 498) (x := 2) dL_law_498 ci_2 ?_
                        refine ev_iadd (pc := 499) dL_law_499 ?_
                        refine ev_sld (pc := 500) hLs hxs c51.1 c51.2 dL_law_500 ?_
                        obtain ⟨q53, hq53, h⟩ := bd h
                        refine ev_cV (pc := 501) [vI (xs (wI (x3 + 1))), vI (xs (wI (x3 + 2)))] [vI q52.1] rfl mkX12_flood mlL_55 mnX12_flood dL_law_501 kd_801 (by omega) rfl (Nat.le_of_ble_eq_true rfl) (by omega) rfl (e_X12_flood (d := d - 1) (v := q53.1) (M' := q53.2) (by omega)  hq53) ?_
                        refine ev_icmp_eq (pc := 504) (tgt := 1493) dL_law_504 (by decide) (fun b54 => ?_) (fun b54 => ?_)
                        · rw [if_pos b54] at h
                          refine ev_iinc (pc := 1493) (il' := [(3, vI (wI (x3 + 6))), (0, vS 8), (1, vR 1), (2, vR 801)]) 3 dL_law_1493 rfl (Nat.le_of_ble_eq_true rfl) rfl rfl ?_
                          refine ev_goto (pc := 1496) (tgt := 18) dL_law_1496 (by decide) ?_
                          refine ev_pick [1, 2, 3, 0] rfl ?_
                          exact ih h
                        · rw [if_neg b54] at h
                          refine ev_iconst (pc := 507) (x := 0) dL_law_507 ci_0 ?_
                          cases h
                          exact ev_zret (pc := 508) (Or.inl rfl) dL_law_508 rfl
                      · rw [if_neg b49] at h
                        by_cases b55 : (bAnd (xs x3) 63) = 9
                        · rw [if_pos b55] at h
                          refine ev_tswIn (pc := 33) (tgt := 509) dL_law_33 (by omega) (by omega) (by rw [b55] <;> rfl) (by decide) ?_
                          refine ev_aload_n (pc := 509) 1 dL_law_509 rfl rfl ?_
                          refine ev_aload_nS (pc := 510) 0 dL_law_510 rfl rfl ?_
                          refine ev_iload_n (pc := 511) 3 dL_law_511 rfl rfl ?_
                          refine ev_iconst (pc := 512) (x := 1) dL_law_512 ci_1 ?_
                          refine ev_iadd (pc := 513) dL_law_513 ?_
                          obtain ⟨c56, h⟩ := ck_some h
                          refine ev_sld (pc := 514) hLs hxs c56.1 c56.2 dL_law_514 ?_
                          refine ev_aload_nS (pc := 515) 0 dL_law_515 rfl rfl ?_
                          refine ev_iload_n (pc := 516) 3 dL_law_516 rfl rfl ?_
                          refine ev_iconst (pc := 517) (x := 2) dL_law_517 ci_2 ?_
                          refine ev_iadd (pc := 518) dL_law_518 ?_
                          obtain ⟨c57, h⟩ := ck_some h
                          refine ev_sld (pc := 519) hLs hxs c57.1 c57.2 dL_law_519 ?_
                          obtain ⟨q58, hq58, h⟩ := bd h
                          refine ev_cV (pc := 520) [vI (xs (wI (x3 + 1))), vI (xs (wI (x3 + 2)))] [] rfl mkX11_raise mlL_56 mnX11_raise dL_law_520 kd_1 (by omega) rfl (Nat.le_of_ble_eq_true rfl) (by omega) rfl (e_X11_raise (d := d - 1) (v := q58.1) (M' := q58.2) (by omega)  hq58) ?_
                          refine ev_aload_n (pc := 523) 2 dL_law_523 rfl rfl ?_
                          refine ev_aload_nS (pc := 524) 0 dL_law_524 rfl rfl ?_
                          refine ev_iload_n (pc := 525) 3 dL_law_525 rfl rfl ?_
                          refine ev_iconst (pc := 526) (x := 1) dL_law_526 ci_1 ?_
                          refine ev_iadd (pc := 527) dL_law_527 ?_
                          refine ev_sld (pc := 528) hLs hxs c56.1 c56.2 dL_law_528 ?_
                          refine ev_aload_nS (pc := 529) 0 dL_law_529 rfl rfl ?_
                          refine ev_iload_n (pc := 530) 3 dL_law_530 rfl rfl ?_
                          refine ev_iconst (pc := 531) (x := 2) dL_law_531 ci_2 ?_
                          refine ev_iadd (pc := 532) dL_law_532 ?_
                          refine ev_sld (pc := 533) hLs hxs c57.1 c57.2 dL_law_533 ?_
                          obtain ⟨q59, hq59, h⟩ := bd h
                          refine ev_cV (pc := 534) [vI (xs (wI (x3 + 1))), vI (xs (wI (x3 + 2)))] [vI q58.1] rfl mkX12_raise mlL_60 mnX12_raise dL_law_534 kd_801 (by omega) rfl (Nat.le_of_ble_eq_true rfl) (by omega) rfl (e_X12_raise (d := d - 1) (v := q59.1) (M' := q59.2) (by omega)  hq59) ?_
                          refine ev_icmp_eq (pc := 537) (tgt := 1493) dL_law_537 (by decide) (fun b60 => ?_) (fun b60 => ?_)
                          · rw [if_pos b60] at h
                            refine ev_iinc (pc := 1493) (il' := [(3, vI (wI (x3 + 6))), (0, vS 8), (1, vR 1), (2, vR 801)]) 3 dL_law_1493 rfl (Nat.le_of_ble_eq_true rfl) rfl rfl ?_
                            refine ev_goto (pc := 1496) (tgt := 18) dL_law_1496 (by decide) ?_
                            refine ev_pick [1, 2, 3, 0] rfl ?_
                            exact ih h
                          · rw [if_neg b60] at h
                            refine ev_iconst (pc := 540) (x := 0) dL_law_540 ci_0 ?_
                            cases h
                            exact ev_zret (pc := 541) (Or.inl rfl) dL_law_541 rfl
                        · rw [if_neg b55] at h
                          by_cases b61 : (bAnd (xs x3) 63) = 10
                          · rw [if_pos b61] at h
                            refine ev_tswIn (pc := 33) (tgt := 542) dL_law_33 (by omega) (by omega) (by rw [b61] <;> rfl) (by decide) ?_
                            refine ev_aload_n (pc := 542) 1 dL_law_542 rfl rfl ?_
                            refine ev_aload_nS (pc := 543) 0 dL_law_543 rfl rfl ?_
                            refine ev_iload_n (pc := 544) 3 dL_law_544 rfl rfl ?_
                            refine ev_iconst (pc := 545) (x := 1) dL_law_545 ci_1 ?_
                            refine ev_iadd (pc := 546) dL_law_546 ?_
                            obtain ⟨c62, h⟩ := ck_some h
                            refine ev_sld (pc := 547) hLs hxs c62.1 c62.2 dL_law_547 ?_
                            obtain ⟨q63, hq63, h⟩ := bd h
                            refine ev_cV (pc := 548) [vI (xs (wI (x3 + 1)))] [] rfl mkX11_mend mlL_61 mnX11_mend dL_law_548 kd_1 (by omega) rfl (Nat.le_of_ble_eq_true rfl) (by omega) rfl (e_X11_mend (d := d - 1) (v := q63.1) (M' := q63.2) (by omega)  hq63) ?_
                            refine ev_aload_n (pc := 551) 2 dL_law_551 rfl rfl ?_
                            refine ev_aload_nS (pc := 552) 0 dL_law_552 rfl rfl ?_
                            refine ev_iload_n (pc := 553) 3 dL_law_553 rfl rfl ?_
                            refine ev_iconst (pc := 554) (x := 1) dL_law_554 ci_1 ?_
                            refine ev_iadd (pc := 555) dL_law_555 ?_
                            refine ev_sld (pc := 556) hLs hxs c62.1 c62.2 dL_law_556 ?_
                            obtain ⟨q64, hq64, h⟩ := bd h
                            refine ev_cV (pc := 557) [vI (xs (wI (x3 + 1)))] [vI q63.1] rfl mkX12_mend mlL_64 mnX12_mend dL_law_557 kd_801 (by omega) rfl (Nat.le_of_ble_eq_true rfl) (by omega) rfl (e_X12_mend (d := d - 1) (v := q64.1) (M' := q64.2) (by omega)  hq64) ?_
                            refine ev_icmp_eq (pc := 560) (tgt := 1493) dL_law_560 (by decide) (fun b65 => ?_) (fun b65 => ?_)
                            · rw [if_pos b65] at h
                              refine ev_iinc (pc := 1493) (il' := [(3, vI (wI (x3 + 6))), (0, vS 8), (1, vR 1), (2, vR 801)]) 3 dL_law_1493 rfl (Nat.le_of_ble_eq_true rfl) rfl rfl ?_
                              refine ev_goto (pc := 1496) (tgt := 18) dL_law_1496 (by decide) ?_
                              refine ev_pick [1, 2, 3, 0] rfl ?_
                              exact ih h
                            · rw [if_neg b65] at h
                              refine ev_iconst (pc := 563) (x := 0) dL_law_563 ci_0 ?_
                              cases h
                              exact ev_zret (pc := 564) (Or.inl rfl) dL_law_564 rfl
                          · rw [if_neg b61] at h
                            by_cases b66 : (bAnd (xs x3) 63) = 11
                            · rw [if_pos b66] at h
                              refine ev_tswIn (pc := 33) (tgt := 565) dL_law_33 (by omega) (by omega) (by rw [b66] <;> rfl) (by decide) ?_
                              refine ev_aload_n (pc := 565) 1 dL_law_565 rfl rfl ?_
                              refine ev_aload_nS (pc := 566) 0 dL_law_566 rfl rfl ?_
                              refine ev_iload_n (pc := 567) 3 dL_law_567 rfl rfl ?_
                              refine ev_iconst (pc := 568) (x := 1) dL_law_568 ci_1 ?_
                              refine ev_iadd (pc := 569) dL_law_569 ?_
                              obtain ⟨c67, h⟩ := ck_some h
                              refine ev_sld (pc := 570) hLs hxs c67.1 c67.2 dL_law_570 ?_
                              refine ev_aload_nS (pc := 571) 0 dL_law_571 rfl rfl ?_
                              refine ev_iload_n (pc := 572) 3 dL_law_572 rfl rfl ?_
                              refine ev_iconst (pc := 573) (x := 2) dL_law_573 ci_2 ?_
                              refine ev_iadd (pc := 574) dL_law_574 ?_
                              obtain ⟨c68, h⟩ := ck_some h
                              refine ev_sld (pc := 575) hLs hxs c68.1 c68.2 dL_law_575 ?_
                              obtain ⟨q69, hq69, h⟩ := bd h
                              refine ev_cV (pc := 576) [vI (xs (wI (x3 + 1))), vI (xs (wI (x3 + 2)))] [] rfl mkX11_bind mlL_65 mnX11_bind dL_law_576 kd_1 (by omega) rfl (Nat.le_of_ble_eq_true rfl) (by omega) rfl (e_X11_bind (d := d - 1) (v := q69.1) (M' := q69.2) (by omega)  hq69) ?_
                              refine ev_aload_n (pc := 579) 2 dL_law_579 rfl rfl ?_
                              refine ev_aload_nS (pc := 580) 0 dL_law_580 rfl rfl ?_
                              refine ev_iload_n (pc := 581) 3 dL_law_581 rfl rfl ?_
                              refine ev_iconst (pc := 582) (x := 1) dL_law_582 ci_1 ?_
                              refine ev_iadd (pc := 583) dL_law_583 ?_
                              refine ev_sld (pc := 584) hLs hxs c67.1 c67.2 dL_law_584 ?_
                              refine ev_aload_nS (pc := 585) 0 dL_law_585 rfl rfl ?_
                              refine ev_iload_n (pc := 586) 3 dL_law_586 rfl rfl ?_
                              refine ev_iconst (pc := 587) (x := 2) dL_law_587 ci_2 ?_
                              refine ev_iadd (pc := 588) dL_law_588 ?_
                              refine ev_sld (pc := 589) hLs hxs c68.1 c68.2 dL_law_589 ?_
                              obtain ⟨q70, hq70, h⟩ := bd h
                              refine ev_cV (pc := 590) [vI (xs (wI (x3 + 1))), vI (xs (wI (x3 + 2)))] [vI q69.1] rfl mkX12_bind mlL_68 mnX12_bind dL_law_590 kd_801 (by omega) rfl (Nat.le_of_ble_eq_true rfl) (by omega) rfl (e_X12_bind (d := d - 1) (v := q70.1) (M' := q70.2) (by omega)  hq70) ?_
                              refine ev_icmp_eq (pc := 593) (tgt := 1493) dL_law_593 (by decide) (fun b71 => ?_) (fun b71 => ?_)
                              · rw [if_pos b71] at h
                                refine ev_iinc (pc := 1493) (il' := [(3, vI (wI (x3 + 6))), (0, vS 8), (1, vR 1), (2, vR 801)]) 3 dL_law_1493 rfl (Nat.le_of_ble_eq_true rfl) rfl rfl ?_
                                refine ev_goto (pc := 1496) (tgt := 18) dL_law_1496 (by decide) ?_
                                refine ev_pick [1, 2, 3, 0] rfl ?_
                                exact ih h
                              · rw [if_neg b71] at h
                                refine ev_iconst (pc := 596) (x := 0) dL_law_596 ci_0 ?_
                                cases h
                                exact ev_zret (pc := 597) (Or.inl rfl) dL_law_597 rfl
                            · rw [if_neg b66] at h
                              by_cases b72 : (bAnd (xs x3) 63) = 12
                              · rw [if_pos b72] at h
                                refine ev_tswIn (pc := 33) (tgt := 598) dL_law_33 (by omega) (by omega) (by rw [b72] <;> rfl) (by decide) ?_
                                refine ev_aload_n (pc := 598) 1 dL_law_598 rfl rfl ?_
                                refine ev_aload_nS (pc := 599) 0 dL_law_599 rfl rfl ?_
                                refine ev_iload_n (pc := 600) 3 dL_law_600 rfl rfl ?_
                                refine ev_iconst (pc := 601) (x := 1) dL_law_601 ci_1 ?_
                                refine ev_iadd (pc := 602) dL_law_602 ?_
                                obtain ⟨c73, h⟩ := ck_some h
                                refine ev_sld (pc := 603) hLs hxs c73.1 c73.2 dL_law_603 ?_
                                obtain ⟨q74, hq74, h⟩ := bd h
                                refine ev_cV (pc := 604) [vI (xs (wI (x3 + 1)))] [] rfl mkX11_played mlL_69 mnX11_played dL_law_604 kd_1 (by omega) rfl (Nat.le_of_ble_eq_true rfl) (by omega) rfl (e_X11_played (d := d - 1) (v := q74.1) (M' := q74.2) (by omega)  hq74) ?_
                                refine ev_aload_n (pc := 607) 2 dL_law_607 rfl rfl ?_
                                refine ev_aload_nS (pc := 608) 0 dL_law_608 rfl rfl ?_
                                refine ev_iload_n (pc := 609) 3 dL_law_609 rfl rfl ?_
                                refine ev_iconst (pc := 610) (x := 1) dL_law_610 ci_1 ?_
                                refine ev_iadd (pc := 611) dL_law_611 ?_
                                refine ev_sld (pc := 612) hLs hxs c73.1 c73.2 dL_law_612 ?_
                                obtain ⟨q75, hq75, h⟩ := bd h
                                refine ev_cV (pc := 613) [vI (xs (wI (x3 + 1)))] [vI q74.1] rfl mkX12_played mlL_72 mnX12_played dL_law_613 kd_801 (by omega) rfl (Nat.le_of_ble_eq_true rfl) (by omega) rfl (e_X12_played (d := d - 1) (v := q75.1) (M' := q75.2) (by omega)  hq75) ?_
                                refine ev_icmp_eq (pc := 616) (tgt := 1493) dL_law_616 (by decide) (fun b76 => ?_) (fun b76 => ?_)
                                · rw [if_pos b76] at h
                                  refine ev_iinc (pc := 1493) (il' := [(3, vI (wI (x3 + 6))), (0, vS 8), (1, vR 1), (2, vR 801)]) 3 dL_law_1493 rfl (Nat.le_of_ble_eq_true rfl) rfl rfl ?_
                                  refine ev_goto (pc := 1496) (tgt := 18) dL_law_1496 (by decide) ?_
                                  refine ev_pick [1, 2, 3, 0] rfl ?_
                                  exact ih h
                                · rw [if_neg b76] at h
                                  refine ev_iconst (pc := 619) (x := 0) dL_law_619 ci_0 ?_
                                  cases h
                                  exact ev_zret (pc := 620) (Or.inl rfl) dL_law_620 rfl
                              · rw [if_neg b72] at h
                                by_cases b77 : (bAnd (xs x3) 63) = 13
                                · rw [if_pos b77] at h
                                  refine ev_tswIn (pc := 33) (tgt := 621) dL_law_33 (by omega) (by omega) (by rw [b77] <;> rfl) (by decide) ?_
                                  refine ev_aload_n (pc := 621) 1 dL_law_621 rfl rfl ?_
                                  refine ev_aload_nS (pc := 622) 0 dL_law_622 rfl rfl ?_
                                  refine ev_iload_n (pc := 623) 3 dL_law_623 rfl rfl ?_
                                  refine ev_iconst (pc := 624) (x := 1) dL_law_624 ci_1 ?_
                                  refine ev_iadd (pc := 625) dL_law_625 ?_
                                  obtain ⟨c78, h⟩ := ck_some h
                                  refine ev_sld (pc := 626) hLs hxs c78.1 c78.2 dL_law_626 ?_
                                  refine ev_aload_nS (pc := 627) 0 dL_law_627 rfl rfl ?_
                                  refine ev_iload_n (pc := 628) 3 dL_law_628 rfl rfl ?_
                                  refine ev_iconst (pc := 629) (x := 2) dL_law_629 ci_2 ?_
                                  refine ev_iadd (pc := 630) dL_law_630 ?_
                                  obtain ⟨c79, h⟩ := ck_some h
                                  refine ev_sld (pc := 631) hLs hxs c79.1 c79.2 dL_law_631 ?_
                                  obtain ⟨q80, hq80, h⟩ := bd h
                                  refine ev_cV (pc := 632) [vI (xs (wI (x3 + 1))), vI (xs (wI (x3 + 2)))] [] rfl mkX11_centuries mlL_73 mnX11_centuries dL_law_632 kd_1 (by omega) rfl (Nat.le_of_ble_eq_true rfl) (by omega) rfl (e_X11_centuries (d := d - 1) (v := q80.1) (M' := q80.2) (by omega)  hq80) ?_
                                  refine ev_aload_n (pc := 635) 2 dL_law_635 rfl rfl ?_
                                  refine ev_aload_nS (pc := 636) 0 dL_law_636 rfl rfl ?_
                                  refine ev_iload_n (pc := 637) 3 dL_law_637 rfl rfl ?_
                                  refine ev_iconst (pc := 638) (x := 1) dL_law_638 ci_1 ?_
                                  refine ev_iadd (pc := 639) dL_law_639 ?_
                                  refine ev_sld (pc := 640) hLs hxs c78.1 c78.2 dL_law_640 ?_
                                  refine ev_aload_nS (pc := 641) 0 dL_law_641 rfl rfl ?_
                                  refine ev_iload_n (pc := 642) 3 dL_law_642 rfl rfl ?_
                                  refine ev_iconst (pc := 643) (x := 2) dL_law_643 ci_2 ?_
                                  refine ev_iadd (pc := 644) dL_law_644 ?_
                                  refine ev_sld (pc := 645) hLs hxs c79.1 c79.2 dL_law_645 ?_
                                  obtain ⟨q81, hq81, h⟩ := bd h
                                  refine ev_cV (pc := 646) [vI (xs (wI (x3 + 1))), vI (xs (wI (x3 + 2)))] [vI q80.1] rfl mkX12_centuries mlL_76 mnX12_centuries dL_law_646 kd_801 (by omega) rfl (Nat.le_of_ble_eq_true rfl) (by omega) rfl (e_X12_centuries (d := d - 1) (v := q81.1) (M' := q81.2) (by omega)  hq81) ?_
                                  refine ev_icmp_eq (pc := 649) (tgt := 1493) dL_law_649 (by decide) (fun b82 => ?_) (fun b82 => ?_)
                                  · rw [if_pos b82] at h
                                    refine ev_iinc (pc := 1493) (il' := [(3, vI (wI (x3 + 6))), (0, vS 8), (1, vR 1), (2, vR 801)]) 3 dL_law_1493 rfl (Nat.le_of_ble_eq_true rfl) rfl rfl ?_
                                    refine ev_goto (pc := 1496) (tgt := 18) dL_law_1496 (by decide) ?_
                                    refine ev_pick [1, 2, 3, 0] rfl ?_
                                    exact ih h
                                  · rw [if_neg b82] at h
                                    refine ev_iconst (pc := 652) (x := 0) dL_law_652 ci_0 ?_
                                    cases h
                                    exact ev_zret (pc := 653) (Or.inl rfl) dL_law_653 rfl
                                · rw [if_neg b77] at h
                                  by_cases b83 : (bAnd (xs x3) 63) = 14
                                  · rw [if_pos b83] at h
                                    refine ev_tswIn (pc := 33) (tgt := 654) dL_law_33 (by omega) (by omega) (by rw [b83] <;> rfl) (by decide) ?_
                                    refine ev_aload_n (pc := 654) 1 dL_law_654 rfl rfl ?_
                                    obtain ⟨q84, hq84, h⟩ := bd h
                                    refine ev_cV (pc := 655) [] [] rfl mkX11_undo mlL_77 mnX11_undo dL_law_655 kd_1 (by omega) rfl (Nat.le_of_ble_eq_true rfl) (by omega) rfl (e_X11_undo (d := d - 1) (v := q84.1) (M' := q84.2) (by omega)  hq84) ?_
                                    refine ev_aload_n (pc := 658) 2 dL_law_658 rfl rfl ?_
                                    obtain ⟨q85, hq85, h⟩ := bd h
                                    refine ev_cV (pc := 659) [] [vI q84.1] rfl mkX12_undo mlL_80 mnX12_undo dL_law_659 kd_801 (by omega) rfl (Nat.le_of_ble_eq_true rfl) (by omega) rfl (e_X12_undo (d := d - 1) (v := q85.1) (M' := q85.2) (by omega)  hq85) ?_
                                    refine ev_icmp_eq (pc := 662) (tgt := 1493) dL_law_662 (by decide) (fun b86 => ?_) (fun b86 => ?_)
                                    · rw [if_pos b86] at h
                                      refine ev_iinc (pc := 1493) (il' := [(3, vI (wI (x3 + 6))), (0, vS 8), (1, vR 1), (2, vR 801)]) 3 dL_law_1493 rfl (Nat.le_of_ble_eq_true rfl) rfl rfl ?_
                                      refine ev_goto (pc := 1496) (tgt := 18) dL_law_1496 (by decide) ?_
                                      refine ev_pick [1, 2, 3, 0] rfl ?_
                                      exact ih h
                                    · rw [if_neg b86] at h
                                      refine ev_iconst (pc := 665) (x := 0) dL_law_665 ci_0 ?_
                                      cases h
                                      exact ev_zret (pc := 666) (Or.inl rfl) dL_law_666 rfl
                                  · rw [if_neg b83] at h
                                    by_cases b87 : (bAnd (xs x3) 63) = 15
                                    · rw [if_pos b87] at h
                                      refine ev_tswIn (pc := 33) (tgt := 667) dL_law_33 (by omega) (by omega) (by rw [b87] <;> rfl) (by decide) ?_
                                      refine ev_aload_n (pc := 667) 1 dL_law_667 rfl rfl ?_
                                      refine ev_aload_nS (pc := 668) 0 dL_law_668 rfl rfl ?_
                                      refine ev_iload_n (pc := 669) 3 dL_law_669 rfl rfl ?_
                                      refine ev_iconst (pc := 670) (x := 1) dL_law_670 ci_1 ?_
                                      refine ev_iadd (pc := 671) dL_law_671 ?_
                                      obtain ⟨c88, h⟩ := ck_some h
                                      refine ev_sld (pc := 672) hLs hxs c88.1 c88.2 dL_law_672 ?_
                                      refine ev_aload_nS (pc := 673) 0 dL_law_673 rfl rfl ?_
                                      refine ev_iload_n (pc := 674) 3 dL_law_674 rfl rfl ?_
                                      refine ev_iconst (pc := 675) (x := 2) dL_law_675 ci_2 ?_
                                      refine ev_iadd (pc := 676) dL_law_676 ?_
                                      obtain ⟨c89, h⟩ := ck_some h
                                      refine ev_sld (pc := 677) hLs hxs c89.1 c89.2 dL_law_677 ?_
                                      obtain ⟨q90, hq90, h⟩ := bd h
                                      refine ev_cV (pc := 678) [vI (xs (wI (x3 + 1))), vI (xs (wI (x3 + 2)))] [] rfl mkX11_ofStep mlL_81 mnX11_ofStep dL_law_678 kd_1 (by omega) rfl (Nat.le_of_ble_eq_true rfl) (by omega) rfl (e_X11_ofStep (d := d - 1) (v := q90.1) (M' := q90.2) (by omega)  hq90) ?_
                                      refine ev_aload_n (pc := 681) 2 dL_law_681 rfl rfl ?_
                                      refine ev_aload_nS (pc := 682) 0 dL_law_682 rfl rfl ?_
                                      refine ev_iload_n (pc := 683) 3 dL_law_683 rfl rfl ?_
                                      refine ev_iconst (pc := 684) (x := 1) dL_law_684 ci_1 ?_
                                      refine ev_iadd (pc := 685) dL_law_685 ?_
                                      refine ev_sld (pc := 686) hLs hxs c88.1 c88.2 dL_law_686 ?_
                                      refine ev_aload_nS (pc := 687) 0 dL_law_687 rfl rfl ?_
                                      refine ev_iload_n (pc := 688) 3 dL_law_688 rfl rfl ?_
                                      refine ev_iconst (pc := 689) (x := 2) dL_law_689 ci_2 ?_
                                      refine ev_iadd (pc := 690) dL_law_690 ?_
                                      refine ev_sld (pc := 691) hLs hxs c89.1 c89.2 dL_law_691 ?_
                                      obtain ⟨q91, hq91, h⟩ := bd h
                                      refine ev_cV (pc := 692) [vI (xs (wI (x3 + 1))), vI (xs (wI (x3 + 2)))] [vI q90.1] rfl mkX12_ofStep mlL_84 mnX12_ofStep dL_law_692 kd_801 (by omega) rfl (Nat.le_of_ble_eq_true rfl) (by omega) rfl (e_X12_ofStep (d := d - 1) (v := q91.1) (M' := q91.2) (by omega)  hq91) ?_
                                      refine ev_icmp_eq (pc := 695) (tgt := 1493) dL_law_695 (by decide) (fun b92 => ?_) (fun b92 => ?_)
                                      · rw [if_pos b92] at h
                                        refine ev_iinc (pc := 1493) (il' := [(3, vI (wI (x3 + 6))), (0, vS 8), (1, vR 1), (2, vR 801)]) 3 dL_law_1493 rfl (Nat.le_of_ble_eq_true rfl) rfl rfl ?_
                                        refine ev_goto (pc := 1496) (tgt := 18) dL_law_1496 (by decide) ?_
                                        refine ev_pick [1, 2, 3, 0] rfl ?_
                                        exact ih h
                                      · rw [if_neg b92] at h
                                        refine ev_iconst (pc := 698) (x := 0) dL_law_698 ci_0 ?_
                                        cases h
                                        exact ev_zret (pc := 699) (Or.inl rfl) dL_law_699 rfl
                                    · rw [if_neg b87] at h
                                      by_cases b93 : (bAnd (xs x3) 63) = 16
                                      · rw [if_pos b93] at h
                                        refine ev_tswIn (pc := 33) (tgt := 700) dL_law_33 (by omega) (by omega) (by rw [b93] <;> rfl) (by decide) ?_
                                        refine ev_aload_n (pc := 700) 1 dL_law_700 rfl rfl ?_
                                        refine ev_aload_nS (pc := 701) 0 dL_law_701 rfl rfl ?_
                                        refine ev_iload_n (pc := 702) 3 dL_law_702 rfl rfl ?_
                                        refine ev_iconst (pc := 703) (x := 1) dL_law_703 ci_1 ?_
                                        refine ev_iadd (pc := 704) dL_law_704 ?_
                                        obtain ⟨c94, h⟩ := ck_some h
                                        refine ev_sld (pc := 705) hLs hxs c94.1 c94.2 dL_law_705 ?_
                                        refine ev_aload_nS (pc := 706) 0 dL_law_706 rfl rfl ?_
                                        refine ev_iload_n (pc := 707) 3 dL_law_707 rfl rfl ?_
                                        refine ev_iconst (pc := 708) (x := 2) dL_law_708 ci_2 ?_
                                        refine ev_iadd (pc := 709) dL_law_709 ?_
                                        obtain ⟨c95, h⟩ := ck_some h
                                        refine ev_sld (pc := 710) hLs hxs c95.1 c95.2 dL_law_710 ?_
                                        obtain ⟨q96, hq96, h⟩ := bd h
                                        refine ev_cV (pc := 711) [vI (xs (wI (x3 + 1))), vI (xs (wI (x3 + 2)))] [] rfl mkX11_ofShip mlL_85 mnX11_ofShip dL_law_711 kd_1 (by omega) rfl (Nat.le_of_ble_eq_true rfl) (by omega) rfl (e_X11_ofShip (d := d - 1) (v := q96) (by omega)  hq96) ?_
                                        refine ev_aload_n (pc := 714) 2 dL_law_714 rfl rfl ?_
                                        refine ev_aload_nS (pc := 715) 0 dL_law_715 rfl rfl ?_
                                        refine ev_iload_n (pc := 716) 3 dL_law_716 rfl rfl ?_
                                        refine ev_iconst (pc := 717) (x := 1) dL_law_717 ci_1 ?_
                                        refine ev_iadd (pc := 718) dL_law_718 ?_
                                        refine ev_sld (pc := 719) hLs hxs c94.1 c94.2 dL_law_719 ?_
                                        refine ev_aload_nS (pc := 720) 0 dL_law_720 rfl rfl ?_
                                        refine ev_iload_n (pc := 721) 3 dL_law_721 rfl rfl ?_
                                        refine ev_iconst (pc := 722) (x := 2) dL_law_722 ci_2 ?_
                                        refine ev_iadd (pc := 723) dL_law_723 ?_
                                        refine ev_sld (pc := 724) hLs hxs c95.1 c95.2 dL_law_724 ?_
                                        obtain ⟨q97, hq97, h⟩ := bd h
                                        refine ev_cV (pc := 725) [vI (xs (wI (x3 + 1))), vI (xs (wI (x3 + 2)))] [vI q96] rfl mkX12_ofShip mlL_88 mnX12_ofShip dL_law_725 kd_801 (by omega) rfl (Nat.le_of_ble_eq_true rfl) (by omega) rfl (e_X12_ofShip (d := d - 1) (v := q97) (by omega)  hq97) ?_
                                        refine ev_icmp_eq (pc := 728) (tgt := 1493) dL_law_728 (by decide) (fun b98 => ?_) (fun b98 => ?_)
                                        · rw [if_pos b98] at h
                                          refine ev_iinc (pc := 1493) (il' := [(3, vI (wI (x3 + 6))), (0, vS 8), (1, vR 1), (2, vR 801)]) 3 dL_law_1493 rfl (Nat.le_of_ble_eq_true rfl) rfl rfl ?_
                                          refine ev_goto (pc := 1496) (tgt := 18) dL_law_1496 (by decide) ?_
                                          refine ev_pick [1, 2, 3, 0] rfl ?_
                                          exact ih h
                                        · rw [if_neg b98] at h
                                          refine ev_iconst (pc := 731) (x := 0) dL_law_731 ci_0 ?_
                                          cases h
                                          exact ev_zret (pc := 732) (Or.inl rfl) dL_law_732 rfl
                                      · rw [if_neg b93] at h
                                        by_cases b99 : (bAnd (xs x3) 63) = 17
                                        · rw [if_pos b99] at h
                                          refine ev_tswIn (pc := 33) (tgt := 733) dL_law_33 (by omega) (by omega) (by rw [b99] <;> rfl) (by decide) ?_
                                          refine ev_aload_n (pc := 733) 1 dL_law_733 rfl rfl ?_
                                          refine ev_aload_nS (pc := 734) 0 dL_law_734 rfl rfl ?_
                                          refine ev_iload_n (pc := 735) 3 dL_law_735 rfl rfl ?_
                                          refine ev_iconst (pc := 736) (x := 1) dL_law_736 ci_1 ?_
                                          refine ev_iadd (pc := 737) dL_law_737 ?_
                                          obtain ⟨c100, h⟩ := ck_some h
                                          refine ev_sld (pc := 738) hLs hxs c100.1 c100.2 dL_law_738 ?_
                                          refine ev_cV (pc := 739) [vI (xs (wI (x3 + 1)))] [] rfl mkX11_is mlL_89 mnX11_is dL_law_739 kd_1 (by omega) rfl (Nat.le_of_ble_eq_true rfl) (by omega) rfl (e_X11_is (d := d - 1) (v := (f_X11_is (xs (wI (x3 + 1))) M)) (by omega)  rfl) ?_
                                          refine ev_aload_n (pc := 742) 2 dL_law_742 rfl rfl ?_
                                          refine ev_aload_nS (pc := 743) 0 dL_law_743 rfl rfl ?_
                                          refine ev_iload_n (pc := 744) 3 dL_law_744 rfl rfl ?_
                                          refine ev_iconst (pc := 745) (x := 1) dL_law_745 ci_1 ?_
                                          refine ev_iadd (pc := 746) dL_law_746 ?_
                                          refine ev_sld (pc := 747) hLs hxs c100.1 c100.2 dL_law_747 ?_
                                          obtain ⟨q101, hq101, h⟩ := bd h
                                          refine ev_cV (pc := 748) [vI (xs (wI (x3 + 1)))] [vI (f_X11_is (xs (wI (x3 + 1))) M)] rfl mkX12_is mlL_92 mnX12_is dL_law_748 kd_801 (by omega) rfl (Nat.le_of_ble_eq_true rfl) (by omega) rfl (e_X12_is (d := d - 1) (v := q101) (by omega)  hq101) ?_
                                          refine ev_icmp_eq (pc := 751) (tgt := 1493) dL_law_751 (by decide) (fun b102 => ?_) (fun b102 => ?_)
                                          · rw [if_pos b102] at h
                                            refine ev_iinc (pc := 1493) (il' := [(3, vI (wI (x3 + 6))), (0, vS 8), (1, vR 1), (2, vR 801)]) 3 dL_law_1493 rfl (Nat.le_of_ble_eq_true rfl) rfl rfl ?_
                                            refine ev_goto (pc := 1496) (tgt := 18) dL_law_1496 (by decide) ?_
                                            refine ev_pick [1, 2, 3, 0] rfl ?_
                                            exact ih h
                                          · rw [if_neg b102] at h
                                            refine ev_iconst (pc := 754) (x := 0) dL_law_754 ci_0 ?_
                                            cases h
                                            exact ev_zret (pc := 755) (Or.inl rfl) dL_law_755 rfl
                                        · rw [if_neg b99] at h
                                          by_cases b103 : (bAnd (xs x3) 63) = 18
                                          · rw [if_pos b103] at h
                                            refine ev_tswIn (pc := 33) (tgt := 756) dL_law_33 (by omega) (by omega) (by rw [b103] <;> rfl) (by decide) ?_
                                            refine ev_aload_n (pc := 756) 1 dL_law_756 rfl rfl ?_
                                            refine ev_aload_nS (pc := 757) 0 dL_law_757 rfl rfl ?_
                                            refine ev_iload_n (pc := 758) 3 dL_law_758 rfl rfl ?_
                                            refine ev_iconst (pc := 759) (x := 1) dL_law_759 ci_1 ?_
                                            refine ev_iadd (pc := 760) dL_law_760 ?_
                                            obtain ⟨c104, h⟩ := ck_some h
                                            refine ev_sld (pc := 761) hLs hxs c104.1 c104.2 dL_law_761 ?_
                                            refine ev_aload_nS (pc := 762) 0 dL_law_762 rfl rfl ?_
                                            refine ev_iload_n (pc := 763) 3 dL_law_763 rfl rfl ?_
                                            refine ev_iconst (pc := 764) (x := 2) dL_law_764 ci_2 ?_
                                            refine ev_iadd (pc := 765) dL_law_765 ?_
                                            obtain ⟨c105, h⟩ := ck_some h
                                            refine ev_sld (pc := 766) hLs hxs c105.1 c105.2 dL_law_766 ?_
                                            obtain ⟨q106, hq106, h⟩ := bd h
                                            refine ev_cV (pc := 767) [vI (xs (wI (x3 + 1))), vI (xs (wI (x3 + 2)))] [] rfl mkX11_book mlL_93 mnX11_book dL_law_767 kd_1 (by omega) rfl (Nat.le_of_ble_eq_true rfl) (by omega) rfl (e_X11_book (d := d - 1) (v := q106) (by omega)  hq106) ?_
                                            refine ev_aload_n (pc := 770) 2 dL_law_770 rfl rfl ?_
                                            refine ev_aload_nS (pc := 771) 0 dL_law_771 rfl rfl ?_
                                            refine ev_iload_n (pc := 772) 3 dL_law_772 rfl rfl ?_
                                            refine ev_iconst (pc := 773) (x := 1) dL_law_773 ci_1 ?_
                                            refine ev_iadd (pc := 774) dL_law_774 ?_
                                            refine ev_sld (pc := 775) hLs hxs c104.1 c104.2 dL_law_775 ?_
                                            refine ev_aload_nS (pc := 776) 0 dL_law_776 rfl rfl ?_
                                            refine ev_iload_n (pc := 777) 3 dL_law_777 rfl rfl ?_
                                            refine ev_iconst (pc := 778) (x := 2) dL_law_778 ci_2 ?_
                                            refine ev_iadd (pc := 779) dL_law_779 ?_
                                            refine ev_sld (pc := 780) hLs hxs c105.1 c105.2 dL_law_780 ?_
                                            obtain ⟨q107, hq107, h⟩ := bd h
                                            refine ev_cV (pc := 781) [vI (xs (wI (x3 + 1))), vI (xs (wI (x3 + 2)))] [vI q106] rfl mkX12_book mlL_96 mnX12_book dL_law_781 kd_801 (by omega) rfl (Nat.le_of_ble_eq_true rfl) (by omega) rfl (e_X12_book (d := d - 1) (v := q107) (by omega)  hq107) ?_
                                            refine ev_icmp_eq (pc := 784) (tgt := 1493) dL_law_784 (by decide) (fun b108 => ?_) (fun b108 => ?_)
                                            · rw [if_pos b108] at h
                                              refine ev_iinc (pc := 1493) (il' := [(3, vI (wI (x3 + 6))), (0, vS 8), (1, vR 1), (2, vR 801)]) 3 dL_law_1493 rfl (Nat.le_of_ble_eq_true rfl) rfl rfl ?_
                                              refine ev_goto (pc := 1496) (tgt := 18) dL_law_1496 (by decide) ?_
                                              refine ev_pick [1, 2, 3, 0] rfl ?_
                                              exact ih h
                                            · rw [if_neg b108] at h
                                              refine ev_iconst (pc := 787) (x := 0) dL_law_787 ci_0 ?_
                                              cases h
                                              exact ev_zret (pc := 788) (Or.inl rfl) dL_law_788 rfl
                                          · rw [if_neg b103] at h
                                            by_cases b109 : (bAnd (xs x3) 63) = 19
                                            · rw [if_pos b109] at h
                                              refine ev_tswIn (pc := 33) (tgt := 789) dL_law_33 (by omega) (by omega) (by rw [b109] <;> rfl) (by decide) ?_
                                              refine ev_aload_n (pc := 789) 1 dL_law_789 rfl rfl ?_
                                              refine ev_aload_nS (pc := 790) 0 dL_law_790 rfl rfl ?_
                                              refine ev_iload_n (pc := 791) 3 dL_law_791 rfl rfl ?_
                                              refine ev_iconst (pc := 792) (x := 1) dL_law_792 ci_1 ?_
                                              refine ev_iadd (pc := 793) dL_law_793 ?_
                                              obtain ⟨c110, h⟩ := ck_some h
                                              refine ev_sld (pc := 794) hLs hxs c110.1 c110.2 dL_law_794 ?_
                                              refine ev_aload_nS (pc := 795) 0 dL_law_795 rfl rfl ?_
                                              refine ev_iload_n (pc := 796) 3 dL_law_796 rfl rfl ?_
                                              refine ev_iconst (pc := 797) (x := 2) dL_law_797 ci_2 ?_
                                              refine ev_iadd (pc := 798) dL_law_798 ?_
                                              obtain ⟨c111, h⟩ := ck_some h
                                              refine ev_sld (pc := 799) hLs hxs c111.1 c111.2 dL_law_799 ?_
                                              refine ev_aload_nS (pc := 800) 0 dL_law_800 rfl rfl ?_
                                              refine ev_iload_n (pc := 801) 3 dL_law_801 rfl rfl ?_
                                              refine ev_iconst (pc := 802) (x := 3) dL_law_802 ci_3 ?_
                                              refine ev_iadd (pc := 803) dL_law_803 ?_
                                              obtain ⟨c112, h⟩ := ck_some h
                                              refine ev_sld (pc := 804) hLs hxs c112.1 c112.2 dL_law_804 ?_
                                              obtain ⟨q113, hq113, h⟩ := bd h
                                              refine ev_cV (pc := 805) [vI (xs (wI (x3 + 1))), vI (xs (wI (x3 + 2))), vI (xs (wI (x3 + 3)))] [] rfl mkX11_foretoldShip mlL_97 mnX11_foretoldShip dL_law_805 kd_1 (by omega) rfl (Nat.le_of_ble_eq_true rfl) (by omega) rfl (e_X11_foretoldShip (d := d - 1) (v := q113.1) (M' := q113.2) (by omega)  hq113) ?_
                                              refine ev_aload_n (pc := 808) 2 dL_law_808 rfl rfl ?_
                                              refine ev_aload_nS (pc := 809) 0 dL_law_809 rfl rfl ?_
                                              refine ev_iload_n (pc := 810) 3 dL_law_810 rfl rfl ?_
                                              refine ev_iconst (pc := 811) (x := 1) dL_law_811 ci_1 ?_
                                              refine ev_iadd (pc := 812) dL_law_812 ?_
                                              refine ev_sld (pc := 813) hLs hxs c110.1 c110.2 dL_law_813 ?_
                                              refine ev_aload_nS (pc := 814) 0 dL_law_814 rfl rfl ?_
                                              refine ev_iload_n (pc := 815) 3 dL_law_815 rfl rfl ?_
                                              refine ev_iconst (pc := 816) (x := 2) dL_law_816 ci_2 ?_
                                              refine ev_iadd (pc := 817) dL_law_817 ?_
                                              refine ev_sld (pc := 818) hLs hxs c111.1 c111.2 dL_law_818 ?_
                                              refine ev_aload_nS (pc := 819) 0 dL_law_819 rfl rfl ?_
                                              refine ev_iload_n (pc := 820) 3 dL_law_820 rfl rfl ?_
                                              refine ev_iconst (pc := 821) (x := 3) dL_law_821 ci_3 ?_
                                              refine ev_iadd (pc := 822) dL_law_822 ?_
                                              refine ev_sld (pc := 823) hLs hxs c112.1 c112.2 dL_law_823 ?_
                                              obtain ⟨q114, hq114, h⟩ := bd h
                                              refine ev_cV (pc := 824) [vI (xs (wI (x3 + 1))), vI (xs (wI (x3 + 2))), vI (xs (wI (x3 + 3)))] [vI q113.1] rfl mkX12_foretoldShip mlL_100 mnX12_foretoldShip dL_law_824 kd_801 (by omega) rfl (Nat.le_of_ble_eq_true rfl) (by omega) rfl (e_X12_foretoldShip (d := d - 1) (v := q114.1) (M' := q114.2) (by omega)  hq114) ?_
                                              refine ev_icmp_eq (pc := 827) (tgt := 1493) dL_law_827 (by decide) (fun b115 => ?_) (fun b115 => ?_)
                                              · rw [if_pos b115] at h
                                                refine ev_iinc (pc := 1493) (il' := [(3, vI (wI (x3 + 6))), (0, vS 8), (1, vR 1), (2, vR 801)]) 3 dL_law_1493 rfl (Nat.le_of_ble_eq_true rfl) rfl rfl ?_
                                                refine ev_goto (pc := 1496) (tgt := 18) dL_law_1496 (by decide) ?_
                                                refine ev_pick [1, 2, 3, 0] rfl ?_
                                                exact ih h
                                              · rw [if_neg b115] at h
                                                refine ev_iconst (pc := 830) (x := 0) dL_law_830 ci_0 ?_
                                                cases h
                                                exact ev_zret (pc := 831) (Or.inl rfl) dL_law_831 rfl
                                            · rw [if_neg b109] at h
                                              by_cases b116 : (bAnd (xs x3) 63) = 20
                                              · rw [if_pos b116] at h
                                                refine ev_tswIn (pc := 33) (tgt := 832) dL_law_33 (by omega) (by omega) (by rw [b116] <;> rfl) (by decide) ?_
                                                refine ev_aload_n (pc := 832) 1 dL_law_832 rfl rfl ?_
                                                refine ev_aload_nS (pc := 833) 0 dL_law_833 rfl rfl ?_
                                                refine ev_iload_n (pc := 834) 3 dL_law_834 rfl rfl ?_
                                                refine ev_iconst (pc := 835) (x := 1) dL_law_835 ci_1 ?_
                                                refine ev_iadd (pc := 836) dL_law_836 ?_
                                                obtain ⟨c117, h⟩ := ck_some h
                                                refine ev_sld (pc := 837) hLs hxs c117.1 c117.2 dL_law_837 ?_
                                                refine ev_aload_nS (pc := 838) 0 dL_law_838 rfl rfl ?_
                                                refine ev_iload_n (pc := 839) 3 dL_law_839 rfl rfl ?_
                                                refine ev_iconst (pc := 840) (x := 2) dL_law_840 ci_2 ?_
                                                refine ev_iadd (pc := 841) dL_law_841 ?_
                                                obtain ⟨c118, h⟩ := ck_some h
                                                refine ev_sld (pc := 842) hLs hxs c118.1 c118.2 dL_law_842 ?_
                                                refine ev_aload_nS (pc := 843) 0 dL_law_843 rfl rfl ?_
                                                refine ev_iload_n (pc := 844) 3 dL_law_844 rfl rfl ?_
                                                refine ev_iconst (pc := 845) (x := 3) dL_law_845 ci_3 ?_
                                                refine ev_iadd (pc := 846) dL_law_846 ?_
                                                obtain ⟨c119, h⟩ := ck_some h
                                                refine ev_sld (pc := 847) hLs hxs c119.1 c119.2 dL_law_847 ?_
                                                obtain ⟨q120, hq120, h⟩ := bd h
                                                refine ev_cV (pc := 848) [vI (xs (wI (x3 + 1))), vI (xs (wI (x3 + 2))), vI (xs (wI (x3 + 3)))] [] rfl mkX11_foretoldStep mlL_101 mnX11_foretoldStep dL_law_848 kd_1 (by omega) rfl (Nat.le_of_ble_eq_true rfl) (by omega) rfl (e_X11_foretoldStep (d := d - 1) (v := q120.1) (M' := q120.2) (by omega)  hq120) ?_
                                                refine ev_aload_n (pc := 851) 2 dL_law_851 rfl rfl ?_
                                                refine ev_aload_nS (pc := 852) 0 dL_law_852 rfl rfl ?_
                                                refine ev_iload_n (pc := 853) 3 dL_law_853 rfl rfl ?_
                                                refine ev_iconst (pc := 854) (x := 1) dL_law_854 ci_1 ?_
                                                refine ev_iadd (pc := 855) dL_law_855 ?_
                                                refine ev_sld (pc := 856) hLs hxs c117.1 c117.2 dL_law_856 ?_
                                                refine ev_aload_nS (pc := 857) 0 dL_law_857 rfl rfl ?_
                                                refine ev_iload_n (pc := 858) 3 dL_law_858 rfl rfl ?_
                                                refine ev_iconst (pc := 859) (x := 2) dL_law_859 ci_2 ?_
                                                refine ev_iadd (pc := 860) dL_law_860 ?_
                                                refine ev_sld (pc := 861) hLs hxs c118.1 c118.2 dL_law_861 ?_
                                                refine ev_aload_nS (pc := 862) 0 dL_law_862 rfl rfl ?_
                                                refine ev_iload_n (pc := 863) 3 dL_law_863 rfl rfl ?_
                                                refine ev_iconst (pc := 864) (x := 3) dL_law_864 ci_3 ?_
                                                refine ev_iadd (pc := 865) dL_law_865 ?_
                                                refine ev_sld (pc := 866) hLs hxs c119.1 c119.2 dL_law_866 ?_
                                                obtain ⟨q121, hq121, h⟩ := bd h
                                                refine ev_cV (pc := 867) [vI (xs (wI (x3 + 1))), vI (xs (wI (x3 + 2))), vI (xs (wI (x3 + 3)))] [vI q120.1] rfl mkX12_foretoldStep mlL_104 mnX12_foretoldStep dL_law_867 kd_801 (by omega) rfl (Nat.le_of_ble_eq_true rfl) (by omega) rfl (e_X12_foretoldStep (d := d - 1) (v := q121.1) (M' := q121.2) (by omega)  hq121) ?_
                                                refine ev_icmp_eq (pc := 870) (tgt := 1493) dL_law_870 (by decide) (fun b122 => ?_) (fun b122 => ?_)
                                                · rw [if_pos b122] at h
                                                  refine ev_iinc (pc := 1493) (il' := [(3, vI (wI (x3 + 6))), (0, vS 8), (1, vR 1), (2, vR 801)]) 3 dL_law_1493 rfl (Nat.le_of_ble_eq_true rfl) rfl rfl ?_
                                                  refine ev_goto (pc := 1496) (tgt := 18) dL_law_1496 (by decide) ?_
                                                  refine ev_pick [1, 2, 3, 0] rfl ?_
                                                  exact ih h
                                                · rw [if_neg b122] at h
                                                  refine ev_iconst (pc := 873) (x := 0) dL_law_873 ci_0 ?_
                                                  cases h
                                                  exact ev_zret (pc := 874) (Or.inl rfl) dL_law_874 rfl
                                              · rw [if_neg b116] at h
                                                by_cases b123 : (bAnd (xs x3) 63) = 21
                                                · rw [if_pos b123] at h
                                                  refine ev_tswIn (pc := 33) (tgt := 875) dL_law_33 (by omega) (by omega) (by rw [b123] <;> rfl) (by decide) ?_
                                                  refine ev_aload_n (pc := 875) 1 dL_law_875 rfl rfl ?_
                                                  refine ev_aload_nS (pc := 876) 0 dL_law_876 rfl rfl ?_
                                                  refine ev_iload_n (pc := 877) 3 dL_law_877 rfl rfl ?_
                                                  refine ev_iconst (pc := 878) (x := 1) dL_law_878 ci_1 ?_
                                                  refine ev_iadd (pc := 879) dL_law_879 ?_
                                                  obtain ⟨c124, h⟩ := ck_some h
                                                  refine ev_sld (pc := 880) hLs hxs c124.1 c124.2 dL_law_880 ?_
                                                  obtain ⟨q125, hq125, h⟩ := bd h
                                                  refine ev_cV (pc := 881) [vI (xs (wI (x3 + 1)))] [] rfl mkX11_comes mlL_105 mnX11_comes dL_law_881 kd_1 (by omega) rfl (Nat.le_of_ble_eq_true rfl) (by omega) rfl (e_X11_comes (d := d - 1) (v := q125.1) (M' := q125.2) (by omega)  hq125) ?_
                                                  refine ev_aload_n (pc := 884) 2 dL_law_884 rfl rfl ?_
                                                  refine ev_aload_nS (pc := 885) 0 dL_law_885 rfl rfl ?_
                                                  refine ev_iload_n (pc := 886) 3 dL_law_886 rfl rfl ?_
                                                  refine ev_iconst (pc := 887) (x := 1) dL_law_887 ci_1 ?_
                                                  refine ev_iadd (pc := 888) dL_law_888 ?_
                                                  refine ev_sld (pc := 889) hLs hxs c124.1 c124.2 dL_law_889 ?_
                                                  obtain ⟨q126, hq126, h⟩ := bd h
                                                  refine ev_cV (pc := 890) [vI (xs (wI (x3 + 1)))] [vI q125.1] rfl mkX12_comes mlL_108 mnX12_comes dL_law_890 kd_801 (by omega) rfl (Nat.le_of_ble_eq_true rfl) (by omega) rfl (e_X12_comes (d := d - 1) (v := q126.1) (M' := q126.2) (by omega)  hq126) ?_
                                                  refine ev_icmp_eq (pc := 893) (tgt := 1493) dL_law_893 (by decide) (fun b127 => ?_) (fun b127 => ?_)
                                                  · rw [if_pos b127] at h
                                                    refine ev_iinc (pc := 1493) (il' := [(3, vI (wI (x3 + 6))), (0, vS 8), (1, vR 1), (2, vR 801)]) 3 dL_law_1493 rfl (Nat.le_of_ble_eq_true rfl) rfl rfl ?_
                                                    refine ev_goto (pc := 1496) (tgt := 18) dL_law_1496 (by decide) ?_
                                                    refine ev_pick [1, 2, 3, 0] rfl ?_
                                                    exact ih h
                                                  · rw [if_neg b127] at h
                                                    refine ev_iconst (pc := 896) (x := 0) dL_law_896 ci_0 ?_
                                                    cases h
                                                    exact ev_zret (pc := 897) (Or.inl rfl) dL_law_897 rfl
                                                · rw [if_neg b123] at h
                                                  by_cases b128 : (bAnd (xs x3) 63) = 22
                                                  · rw [if_pos b128] at h
                                                    refine ev_tswIn (pc := 33) (tgt := 898) dL_law_33 (by omega) (by omega) (by rw [b128] <;> rfl) (by decide) ?_
                                                    refine ev_aload_n (pc := 898) 1 dL_law_898 rfl rfl ?_
                                                    refine ev_aload_nS (pc := 899) 0 dL_law_899 rfl rfl ?_
                                                    refine ev_iload_n (pc := 900) 3 dL_law_900 rfl rfl ?_
                                                    refine ev_iconst (pc := 901) (x := 1) dL_law_901 ci_1 ?_
                                                    refine ev_iadd (pc := 902) dL_law_902 ?_
                                                    obtain ⟨c129, h⟩ := ck_some h
                                                    refine ev_sld (pc := 903) hLs hxs c129.1 c129.2 dL_law_903 ?_
                                                    refine ev_aload_nS (pc := 904) 0 dL_law_904 rfl rfl ?_
                                                    refine ev_iload_n (pc := 905) 3 dL_law_905 rfl rfl ?_
                                                    refine ev_iconst (pc := 906) (x := 2) dL_law_906 ci_2 ?_
                                                    refine ev_iadd (pc := 907) dL_law_907 ?_
                                                    obtain ⟨c130, h⟩ := ck_some h
                                                    refine ev_sld (pc := 908) hLs hxs c130.1 c130.2 dL_law_908 ?_
                                                    refine ev_aload_nS (pc := 909) 0 dL_law_909 rfl rfl ?_
                                                    refine ev_iload_n (pc := 910) 3 dL_law_910 rfl rfl ?_
                                                    refine ev_iconst (pc := 911) (x := 3) dL_law_911 ci_3 ?_
                                                    refine ev_iadd (pc := 912) dL_law_912 ?_
                                                    obtain ⟨c131, h⟩ := ck_some h
                                                    refine ev_sld (pc := 913) hLs hxs c131.1 c131.2 dL_law_913 ?_
                                                    refine ev_aload_nS (pc := 914) 0 dL_law_914 rfl rfl ?_
                                                    refine ev_iload_n (pc := 915) 3 dL_law_915 rfl rfl ?_
                                                    refine ev_iconst (pc := 916) (x := 4) dL_law_916 ci_4 ?_
                                                    refine ev_iadd (pc := 917) dL_law_917 ?_
                                                    obtain ⟨c132, h⟩ := ck_some h
                                                    refine ev_sld (pc := 918) hLs hxs c132.1 c132.2 dL_law_918 ?_
                                                    refine ev_aload_nS (pc := 919) 0 dL_law_919 rfl rfl ?_
                                                    refine ev_iload_n (pc := 920) 3 dL_law_920 rfl rfl ?_
                                                    refine ev_iconst (pc := 921) (x := 5) dL_law_921 ci_5 ?_
                                                    refine ev_iadd (pc := 922) dL_law_922 ?_
                                                    obtain ⟨c133, h⟩ := ck_some h
                                                    refine ev_sld (pc := 923) hLs hxs c133.1 c133.2 dL_law_923 ?_
                                                    obtain ⟨q134, hq134, h⟩ := bd h
                                                    refine ev_cV (pc := 924) [vI (xs (wI (x3 + 1))), vI (xs (wI (x3 + 2))), vI (xs (wI (x3 + 3))), vI (xs (wI (x3 + 4))), vI (xs (wI (x3 + 5)))] [] rfl mkX11_voyage mlL_109 mnX11_voyage dL_law_924 kd_1 (by omega) rfl (Nat.le_of_ble_eq_true rfl) (by omega) rfl (e_X11_voyage (d := d - 1) (v := q134.1) (M' := q134.2) (by omega)  hq134) ?_
                                                    refine ev_aload_n (pc := 927) 2 dL_law_927 rfl rfl ?_
                                                    refine ev_aload_nS (pc := 928) 0 dL_law_928 rfl rfl ?_
                                                    refine ev_iload_n (pc := 929) 3 dL_law_929 rfl rfl ?_
                                                    refine ev_iconst (pc := 930) (x := 1) dL_law_930 ci_1 ?_
                                                    refine ev_iadd (pc := 931) dL_law_931 ?_
                                                    refine ev_sld (pc := 932) hLs hxs c129.1 c129.2 dL_law_932 ?_
                                                    refine ev_aload_nS (pc := 933) 0 dL_law_933 rfl rfl ?_
                                                    refine ev_iload_n (pc := 934) 3 dL_law_934 rfl rfl ?_
                                                    refine ev_iconst (pc := 935) (x := 2) dL_law_935 ci_2 ?_
                                                    refine ev_iadd (pc := 936) dL_law_936 ?_
                                                    refine ev_sld (pc := 937) hLs hxs c130.1 c130.2 dL_law_937 ?_
                                                    refine ev_aload_nS (pc := 938) 0 dL_law_938 rfl rfl ?_
                                                    refine ev_iload_n (pc := 939) 3 dL_law_939 rfl rfl ?_
                                                    refine ev_iconst (pc := 940) (x := 3) dL_law_940 ci_3 ?_
                                                    refine ev_iadd (pc := 941) dL_law_941 ?_
                                                    refine ev_sld (pc := 942) hLs hxs c131.1 c131.2 dL_law_942 ?_
                                                    refine ev_aload_nS (pc := 943) 0 dL_law_943 rfl rfl ?_
                                                    refine ev_iload_n (pc := 944) 3 dL_law_944 rfl rfl ?_
                                                    refine ev_iconst (pc := 945) (x := 4) dL_law_945 ci_4 ?_
                                                    refine ev_iadd (pc := 946) dL_law_946 ?_
                                                    refine ev_sld (pc := 947) hLs hxs c132.1 c132.2 dL_law_947 ?_
                                                    refine ev_aload_nS (pc := 948) 0 dL_law_948 rfl rfl ?_
                                                    refine ev_iload_n (pc := 949) 3 dL_law_949 rfl rfl ?_
                                                    refine ev_iconst (pc := 950) (x := 5) dL_law_950 ci_5 ?_
                                                    refine ev_iadd (pc := 951) dL_law_951 ?_
                                                    refine ev_sld (pc := 952) hLs hxs c133.1 c133.2 dL_law_952 ?_
                                                    obtain ⟨q135, hq135, h⟩ := bd h
                                                    refine ev_cV (pc := 953) [vI (xs (wI (x3 + 1))), vI (xs (wI (x3 + 2))), vI (xs (wI (x3 + 3))), vI (xs (wI (x3 + 4))), vI (xs (wI (x3 + 5)))] [vI q134.1] rfl mkX12_voyage mlL_112 mnX12_voyage dL_law_953 kd_801 (by omega) rfl (Nat.le_of_ble_eq_true rfl) (by omega) rfl (e_X12_voyage (d := d - 1) (v := q135.1) (M' := q135.2) (by omega)  hq135) ?_
                                                    refine ev_icmp_eq (pc := 956) (tgt := 1493) dL_law_956 (by decide) (fun b136 => ?_) (fun b136 => ?_)
                                                    · rw [if_pos b136] at h
                                                      refine ev_iinc (pc := 1493) (il' := [(3, vI (wI (x3 + 6))), (0, vS 8), (1, vR 1), (2, vR 801)]) 3 dL_law_1493 rfl (Nat.le_of_ble_eq_true rfl) rfl rfl ?_
                                                      refine ev_goto (pc := 1496) (tgt := 18) dL_law_1496 (by decide) ?_
                                                      refine ev_pick [1, 2, 3, 0] rfl ?_
                                                      exact ih h
                                                    · rw [if_neg b136] at h
                                                      refine ev_iconst (pc := 959) (x := 0) dL_law_959 ci_0 ?_
                                                      cases h
                                                      exact ev_zret (pc := 960) (Or.inl rfl) dL_law_960 rfl
                                                  · rw [if_neg b128] at h
                                                    by_cases b137 : (bAnd (xs x3) 63) = 23
                                                    · rw [if_pos b137] at h
                                                      refine ev_tswIn (pc := 33) (tgt := 961) dL_law_33 (by omega) (by omega) (by rw [b137] <;> rfl) (by decide) ?_
                                                      refine ev_aload_n (pc := 961) 1 dL_law_961 rfl rfl ?_
                                                      refine ev_aload_nS (pc := 962) 0 dL_law_962 rfl rfl ?_
                                                      refine ev_iload_n (pc := 963) 3 dL_law_963 rfl rfl ?_
                                                      refine ev_iconst (pc := 964) (x := 1) dL_law_964 ci_1 ?_
                                                      refine ev_iadd (pc := 965) dL_law_965 ?_
                                                      obtain ⟨c138, h⟩ := ck_some h
                                                      refine ev_sld (pc := 966) hLs hxs c138.1 c138.2 dL_law_966 ?_
                                                      refine ev_aload_nS (pc := 967) 0 dL_law_967 rfl rfl ?_
                                                      refine ev_iload_n (pc := 968) 3 dL_law_968 rfl rfl ?_
                                                      refine ev_iconst (pc := 969) (x := 2) dL_law_969 ci_2 ?_
                                                      refine ev_iadd (pc := 970) dL_law_970 ?_
                                                      obtain ⟨c139, h⟩ := ck_some h
                                                      refine ev_sld (pc := 971) hLs hxs c139.1 c139.2 dL_law_971 ?_
                                                      refine ev_aload_nS (pc := 972) 0 dL_law_972 rfl rfl ?_
                                                      refine ev_iload_n (pc := 973) 3 dL_law_973 rfl rfl ?_
                                                      refine ev_iconst (pc := 974) (x := 3) dL_law_974 ci_3 ?_
                                                      refine ev_iadd (pc := 975) dL_law_975 ?_
                                                      obtain ⟨c140, h⟩ := ck_some h
                                                      refine ev_sld (pc := 976) hLs hxs c140.1 c140.2 dL_law_976 ?_
                                                      refine ev_aload_nS (pc := 977) 0 dL_law_977 rfl rfl ?_
                                                      refine ev_iload_n (pc := 978) 3 dL_law_978 rfl rfl ?_
                                                      refine ev_iconst (pc := 979) (x := 4) dL_law_979 ci_4 ?_
                                                      refine ev_iadd (pc := 980) dL_law_980 ?_
                                                      obtain ⟨c141, h⟩ := ck_some h
                                                      refine ev_sld (pc := 981) hLs hxs c141.1 c141.2 dL_law_981 ?_
                                                      obtain ⟨q142, hq142, h⟩ := bd h
                                                      refine ev_cV (pc := 982) [vI (xs (wI (x3 + 1))), vI (xs (wI (x3 + 2))), vI (xs (wI (x3 + 3))), vI (xs (wI (x3 + 4)))] [] rfl mkX11_hauling mlL_113 mnX11_hauling dL_law_982 kd_1 (by omega) rfl (Nat.le_of_ble_eq_true rfl) (by omega) rfl (e_X11_hauling (d := d - 1) (v := q142.1) (M' := q142.2) (by omega)  hq142) ?_
                                                      refine ev_aload_n (pc := 985) 2 dL_law_985 rfl rfl ?_
                                                      refine ev_aload_nS (pc := 986) 0 dL_law_986 rfl rfl ?_
                                                      refine ev_iload_n (pc := 987) 3 dL_law_987 rfl rfl ?_
                                                      refine ev_iconst (pc := 988) (x := 1) dL_law_988 ci_1 ?_
                                                      refine ev_iadd (pc := 989) dL_law_989 ?_
                                                      refine ev_sld (pc := 990) hLs hxs c138.1 c138.2 dL_law_990 ?_
                                                      refine ev_aload_nS (pc := 991) 0 dL_law_991 rfl rfl ?_
                                                      refine ev_iload_n (pc := 992) 3 dL_law_992 rfl rfl ?_
                                                      refine ev_iconst (pc := 993) (x := 2) dL_law_993 ci_2 ?_
                                                      refine ev_iadd (pc := 994) dL_law_994 ?_
                                                      refine ev_sld (pc := 995) hLs hxs c139.1 c139.2 dL_law_995 ?_
                                                      refine ev_aload_nS (pc := 996) 0 dL_law_996 rfl rfl ?_
                                                      refine ev_iload_n (pc := 997) 3 dL_law_997 rfl rfl ?_
                                                      refine ev_iconst (pc := 998) (x := 3) dL_law_998 ci_3 ?_
                                                      refine ev_iadd (pc := 999) dL_law_999 ?_
                                                      refine ev_sld (pc := 1000) hLs hxs c140.1 c140.2 dL_law_1000 ?_
                                                      refine ev_aload_nS (pc := 1001) 0 dL_law_1001 rfl rfl ?_
                                                      refine ev_iload_n (pc := 1002) 3 dL_law_1002 rfl rfl ?_
                                                      refine ev_iconst (pc := 1003) (x := 4) dL_law_1003 ci_4 ?_
                                                      refine ev_iadd (pc := 1004) dL_law_1004 ?_
                                                      refine ev_sld (pc := 1005) hLs hxs c141.1 c141.2 dL_law_1005 ?_
                                                      obtain ⟨q143, hq143, h⟩ := bd h
                                                      refine ev_cV (pc := 1006) [vI (xs (wI (x3 + 1))), vI (xs (wI (x3 + 2))), vI (xs (wI (x3 + 3))), vI (xs (wI (x3 + 4)))] [vI q142.1] rfl mkX12_hauling mlL_116 mnX12_hauling dL_law_1006 kd_801 (by omega) rfl (Nat.le_of_ble_eq_true rfl) (by omega) rfl (e_X12_hauling (d := d - 1) (v := q143.1) (M' := q143.2) (by omega)  hq143) ?_
                                                      refine ev_icmp_eq (pc := 1009) (tgt := 1493) dL_law_1009 (by decide) (fun b144 => ?_) (fun b144 => ?_)
                                                      · rw [if_pos b144] at h
                                                        refine ev_iinc (pc := 1493) (il' := [(3, vI (wI (x3 + 6))), (0, vS 8), (1, vR 1), (2, vR 801)]) 3 dL_law_1493 rfl (Nat.le_of_ble_eq_true rfl) rfl rfl ?_
                                                        refine ev_goto (pc := 1496) (tgt := 18) dL_law_1496 (by decide) ?_
                                                        refine ev_pick [1, 2, 3, 0] rfl ?_
                                                        exact ih h
                                                      · rw [if_neg b144] at h
                                                        refine ev_iconst (pc := 1012) (x := 0) dL_law_1012 ci_0 ?_
                                                        cases h
                                                        exact ev_zret (pc := 1013) (Or.inl rfl) dL_law_1013 rfl
                                                    · rw [if_neg b137] at h
                                                      by_cases b145 : (bAnd (xs x3) 63) = 24
                                                      · rw [if_pos b145] at h
                                                        refine ev_tswIn (pc := 33) (tgt := 1014) dL_law_33 (by omega) (by omega) (by rw [b145] <;> rfl) (by decide) ?_
                                                        refine ev_aload_n (pc := 1014) 1 dL_law_1014 rfl rfl ?_
                                                        refine ev_aload_nS (pc := 1015) 0 dL_law_1015 rfl rfl ?_
                                                        refine ev_iload_n (pc := 1016) 3 dL_law_1016 rfl rfl ?_
                                                        refine ev_iconst (pc := 1017) (x := 1) dL_law_1017 ci_1 ?_
                                                        refine ev_iadd (pc := 1018) dL_law_1018 ?_
                                                        obtain ⟨c146, h⟩ := ck_some h
                                                        refine ev_sld (pc := 1019) hLs hxs c146.1 c146.2 dL_law_1019 ?_
                                                        refine ev_aload_nS (pc := 1020) 0 dL_law_1020 rfl rfl ?_
                                                        refine ev_iload_n (pc := 1021) 3 dL_law_1021 rfl rfl ?_
                                                        refine ev_iconst (pc := 1022) (x := 2) dL_law_1022 ci_2 ?_
                                                        refine ev_iadd (pc := 1023) dL_law_1023 ?_
                                                        obtain ⟨c147, h⟩ := ck_some h
                                                        refine ev_sld (pc := 1024) hLs hxs c147.1 c147.2 dL_law_1024 ?_
                                                        obtain ⟨q148, hq148, h⟩ := bd h
                                                        refine ev_cV (pc := 1025) [vI (xs (wI (x3 + 1))), vI (xs (wI (x3 + 2)))] [] rfl mkX11_thing mlL_117 mnX11_thing dL_law_1025 kd_1 (by omega) rfl (Nat.le_of_ble_eq_true rfl) (by omega) rfl (e_X11_thing (d := d - 1) (v := q148.1) (M' := q148.2) (by omega)  hq148) ?_
                                                        refine ev_aload_n (pc := 1028) 2 dL_law_1028 rfl rfl ?_
                                                        refine ev_aload_nS (pc := 1029) 0 dL_law_1029 rfl rfl ?_
                                                        refine ev_iload_n (pc := 1030) 3 dL_law_1030 rfl rfl ?_
                                                        refine ev_iconst (pc := 1031) (x := 1) dL_law_1031 ci_1 ?_
                                                        refine ev_iadd (pc := 1032) dL_law_1032 ?_
                                                        refine ev_sld (pc := 1033) hLs hxs c146.1 c146.2 dL_law_1033 ?_
                                                        refine ev_aload_nS (pc := 1034) 0 dL_law_1034 rfl rfl ?_
                                                        refine ev_iload_n (pc := 1035) 3 dL_law_1035 rfl rfl ?_
                                                        refine ev_iconst (pc := 1036) (x := 2) dL_law_1036 ci_2 ?_
                                                        refine ev_iadd (pc := 1037) dL_law_1037 ?_
                                                        refine ev_sld (pc := 1038) hLs hxs c147.1 c147.2 dL_law_1038 ?_
                                                        obtain ⟨q149, hq149, h⟩ := bd h
                                                        refine ev_cV (pc := 1039) [vI (xs (wI (x3 + 1))), vI (xs (wI (x3 + 2)))] [vI q148.1] rfl mkX12_thing mlL_120 mnX12_thing dL_law_1039 kd_801 (by omega) rfl (Nat.le_of_ble_eq_true rfl) (by omega) rfl (e_X12_thing (d := d - 1) (v := q149.1) (M' := q149.2) (by omega)  hq149) ?_
                                                        refine ev_icmp_eq (pc := 1042) (tgt := 1493) dL_law_1042 (by decide) (fun b150 => ?_) (fun b150 => ?_)
                                                        · rw [if_pos b150] at h
                                                          refine ev_iinc (pc := 1493) (il' := [(3, vI (wI (x3 + 6))), (0, vS 8), (1, vR 1), (2, vR 801)]) 3 dL_law_1493 rfl (Nat.le_of_ble_eq_true rfl) rfl rfl ?_
                                                          refine ev_goto (pc := 1496) (tgt := 18) dL_law_1496 (by decide) ?_
                                                          refine ev_pick [1, 2, 3, 0] rfl ?_
                                                          exact ih h
                                                        · rw [if_neg b150] at h
                                                          refine ev_iconst (pc := 1045) (x := 0) dL_law_1045 ci_0 ?_
                                                          cases h
                                                          exact ev_zret (pc := 1046) (Or.inl rfl) dL_law_1046 rfl
                                                      · rw [if_neg b145] at h
                                                        by_cases b151 : (bAnd (xs x3) 63) = 25
                                                        · rw [if_pos b151] at h
                                                          refine ev_tswIn (pc := 33) (tgt := 1047) dL_law_33 (by omega) (by omega) (by rw [b151] <;> rfl) (by decide) ?_
                                                          refine ev_aload_n (pc := 1047) 1 dL_law_1047 rfl rfl ?_
                                                          refine ev_aload_nS (pc := 1048) 0 dL_law_1048 rfl rfl ?_
                                                          refine ev_iload_n (pc := 1049) 3 dL_law_1049 rfl rfl ?_
                                                          refine ev_iconst (pc := 1050) (x := 1) dL_law_1050 ci_1 ?_
                                                          refine ev_iadd (pc := 1051) dL_law_1051 ?_
                                                          obtain ⟨c152, h⟩ := ck_some h
                                                          refine ev_sld (pc := 1052) hLs hxs c152.1 c152.2 dL_law_1052 ?_
                                                          refine ev_aload_nS (pc := 1053) 0 dL_law_1053 rfl rfl ?_
                                                          refine ev_iload_n (pc := 1054) 3 dL_law_1054 rfl rfl ?_
                                                          refine ev_iconst (pc := 1055) (x := 2) dL_law_1055 ci_2 ?_
                                                          refine ev_iadd (pc := 1056) dL_law_1056 ?_
                                                          obtain ⟨c153, h⟩ := ck_some h
                                                          refine ev_sld (pc := 1057) hLs hxs c153.1 c153.2 dL_law_1057 ?_
                                                          obtain ⟨q154, hq154, h⟩ := bd h
                                                          refine ev_cV (pc := 1058) [vI (xs (wI (x3 + 1))), vI (xs (wI (x3 + 2)))] [] rfl mkX11_upThere mlL_121 mnX11_upThere dL_law_1058 kd_1 (by omega) rfl (Nat.le_of_ble_eq_true rfl) (by omega) rfl (e_X11_upThere (d := d - 1) (v := q154.1) (M' := q154.2) (by omega)  hq154) ?_
                                                          refine ev_aload_n (pc := 1061) 2 dL_law_1061 rfl rfl ?_
                                                          refine ev_aload_nS (pc := 1062) 0 dL_law_1062 rfl rfl ?_
                                                          refine ev_iload_n (pc := 1063) 3 dL_law_1063 rfl rfl ?_
                                                          refine ev_iconst (pc := 1064) (x := 1) dL_law_1064 ci_1 ?_
                                                          refine ev_iadd (pc := 1065) dL_law_1065 ?_
                                                          refine ev_sld (pc := 1066) hLs hxs c152.1 c152.2 dL_law_1066 ?_
                                                          refine ev_aload_nS (pc := 1067) 0 dL_law_1067 rfl rfl ?_
                                                          refine ev_iload_n (pc := 1068) 3 dL_law_1068 rfl rfl ?_
                                                          refine ev_iconst (pc := 1069) (x := 2) dL_law_1069 ci_2 ?_
                                                          refine ev_iadd (pc := 1070) dL_law_1070 ?_
                                                          refine ev_sld (pc := 1071) hLs hxs c153.1 c153.2 dL_law_1071 ?_
                                                          obtain ⟨q155, hq155, h⟩ := bd h
                                                          refine ev_cV (pc := 1072) [vI (xs (wI (x3 + 1))), vI (xs (wI (x3 + 2)))] [vI q154.1] rfl mkX12_upThere mlL_124 mnX12_upThere dL_law_1072 kd_801 (by omega) rfl (Nat.le_of_ble_eq_true rfl) (by omega) rfl (e_X12_upThere (d := d - 1) (v := q155.1) (M' := q155.2) (by omega)  hq155) ?_
                                                          refine ev_icmp_eq (pc := 1075) (tgt := 1493) dL_law_1075 (by decide) (fun b156 => ?_) (fun b156 => ?_)
                                                          · rw [if_pos b156] at h
                                                            refine ev_iinc (pc := 1493) (il' := [(3, vI (wI (x3 + 6))), (0, vS 8), (1, vR 1), (2, vR 801)]) 3 dL_law_1493 rfl (Nat.le_of_ble_eq_true rfl) rfl rfl ?_
                                                            refine ev_goto (pc := 1496) (tgt := 18) dL_law_1496 (by decide) ?_
                                                            refine ev_pick [1, 2, 3, 0] rfl ?_
                                                            exact ih h
                                                          · rw [if_neg b156] at h
                                                            refine ev_iconst (pc := 1078) (x := 0) dL_law_1078 ci_0 ?_
                                                            cases h
                                                            exact ev_zret (pc := 1079) (Or.inl rfl) dL_law_1079 rfl
                                                        · rw [if_neg b151] at h
                                                          by_cases b157 : (bAnd (xs x3) 63) = 26
                                                          · rw [if_pos b157] at h
                                                            refine ev_tswIn (pc := 33) (tgt := 1080) dL_law_33 (by omega) (by omega) (by rw [b157] <;> rfl) (by decide) ?_
                                                            refine ev_aload_n (pc := 1080) 1 dL_law_1080 rfl rfl ?_
                                                            refine ev_aload_nS (pc := 1081) 0 dL_law_1081 rfl rfl ?_
                                                            refine ev_iload_n (pc := 1082) 3 dL_law_1082 rfl rfl ?_
                                                            refine ev_iconst (pc := 1083) (x := 1) dL_law_1083 ci_1 ?_
                                                            refine ev_iadd (pc := 1084) dL_law_1084 ?_
                                                            obtain ⟨c158, h⟩ := ck_some h
                                                            refine ev_sld (pc := 1085) hLs hxs c158.1 c158.2 dL_law_1085 ?_
                                                            obtain ⟨q159, hq159, h⟩ := bd h
                                                            refine ev_cV (pc := 1086) [vI (xs (wI (x3 + 1)))] [] rfl mkX11_toRaise mlL_125 mnX11_toRaise dL_law_1086 kd_1 (by omega) rfl (Nat.le_of_ble_eq_true rfl) (by omega) rfl (e_X11_toRaise (d := d - 1) (v := q159.1) (M' := q159.2) (by omega)  hq159) ?_
                                                            refine ev_aload_n (pc := 1089) 2 dL_law_1089 rfl rfl ?_
                                                            refine ev_aload_nS (pc := 1090) 0 dL_law_1090 rfl rfl ?_
                                                            refine ev_iload_n (pc := 1091) 3 dL_law_1091 rfl rfl ?_
                                                            refine ev_iconst (pc := 1092) (x := 1) dL_law_1092 ci_1 ?_
                                                            refine ev_iadd (pc := 1093) dL_law_1093 ?_
                                                            refine ev_sld (pc := 1094) hLs hxs c158.1 c158.2 dL_law_1094 ?_
                                                            obtain ⟨q160, hq160, h⟩ := bd h
                                                            refine ev_cV (pc := 1095) [vI (xs (wI (x3 + 1)))] [vI q159.1] rfl mkX12_toRaise mlL_128 mnX12_toRaise dL_law_1095 kd_801 (by omega) rfl (Nat.le_of_ble_eq_true rfl) (by omega) rfl (e_X12_toRaise (d := d - 1) (v := q160.1) (M' := q160.2) (by omega)  hq160) ?_
                                                            refine ev_icmp_eq (pc := 1098) (tgt := 1493) dL_law_1098 (by decide) (fun b161 => ?_) (fun b161 => ?_)
                                                            · rw [if_pos b161] at h
                                                              refine ev_iinc (pc := 1493) (il' := [(3, vI (wI (x3 + 6))), (0, vS 8), (1, vR 1), (2, vR 801)]) 3 dL_law_1493 rfl (Nat.le_of_ble_eq_true rfl) rfl rfl ?_
                                                              refine ev_goto (pc := 1496) (tgt := 18) dL_law_1496 (by decide) ?_
                                                              refine ev_pick [1, 2, 3, 0] rfl ?_
                                                              exact ih h
                                                            · rw [if_neg b161] at h
                                                              refine ev_iconst (pc := 1101) (x := 0) dL_law_1101 ci_0 ?_
                                                              cases h
                                                              exact ev_zret (pc := 1102) (Or.inl rfl) dL_law_1102 rfl
                                                          · rw [if_neg b157] at h
                                                            by_cases b162 : (bAnd (xs x3) 63) = 27
                                                            · rw [if_pos b162] at h
                                                              refine ev_tswIn (pc := 33) (tgt := 1103) dL_law_33 (by omega) (by omega) (by rw [b162] <;> rfl) (by decide) ?_
                                                              refine ev_aload_n (pc := 1103) 1 dL_law_1103 rfl rfl ?_
                                                              refine ev_aload_nS (pc := 1104) 0 dL_law_1104 rfl rfl ?_
                                                              refine ev_iload_n (pc := 1105) 3 dL_law_1105 rfl rfl ?_
                                                              refine ev_iconst (pc := 1106) (x := 1) dL_law_1106 ci_1 ?_
                                                              refine ev_iadd (pc := 1107) dL_law_1107 ?_
                                                              obtain ⟨c163, h⟩ := ck_some h
                                                              refine ev_sld (pc := 1108) hLs hxs c163.1 c163.2 dL_law_1108 ?_
                                                              refine ev_aload_nS (pc := 1109) 0 dL_law_1109 rfl rfl ?_
                                                              refine ev_iload_n (pc := 1110) 3 dL_law_1110 rfl rfl ?_
                                                              refine ev_iconst (pc := 1111) (x := 2) dL_law_1111 ci_2 ?_
                                                              refine ev_iadd (pc := 1112) dL_law_1112 ?_
                                                              obtain ⟨c164, h⟩ := ck_some h
                                                              refine ev_sld (pc := 1113) hLs hxs c164.1 c164.2 dL_law_1113 ?_
                                                              obtain ⟨q165, hq165, h⟩ := bd h
                                                              refine ev_cV (pc := 1114) [vI (xs (wI (x3 + 1))), vI (xs (wI (x3 + 2)))] [] rfl mkX11_states mlL_129 mnX11_states dL_law_1114 kd_1 (by omega) rfl (Nat.le_of_ble_eq_true rfl) (by omega) rfl (e_X11_states (d := d - 1) (v := q165.1) (M' := q165.2) (by omega)  hq165) ?_
                                                              refine ev_aload_n (pc := 1117) 2 dL_law_1117 rfl rfl ?_
                                                              refine ev_aload_nS (pc := 1118) 0 dL_law_1118 rfl rfl ?_
                                                              refine ev_iload_n (pc := 1119) 3 dL_law_1119 rfl rfl ?_
                                                              refine ev_iconst (pc := 1120) (x := 1) dL_law_1120 ci_1 ?_
                                                              refine ev_iadd (pc := 1121) dL_law_1121 ?_
                                                              refine ev_sld (pc := 1122) hLs hxs c163.1 c163.2 dL_law_1122 ?_
                                                              refine ev_aload_nS (pc := 1123) 0 dL_law_1123 rfl rfl ?_
                                                              refine ev_iload_n (pc := 1124) 3 dL_law_1124 rfl rfl ?_
                                                              refine ev_iconst (pc := 1125) (x := 2) dL_law_1125 ci_2 ?_
                                                              refine ev_iadd (pc := 1126) dL_law_1126 ?_
                                                              refine ev_sld (pc := 1127) hLs hxs c164.1 c164.2 dL_law_1127 ?_
                                                              obtain ⟨q166, hq166, h⟩ := bd h
                                                              refine ev_cV (pc := 1128) [vI (xs (wI (x3 + 1))), vI (xs (wI (x3 + 2)))] [vI q165.1] rfl mkX12_states mlL_132 mnX12_states dL_law_1128 kd_801 (by omega) rfl (Nat.le_of_ble_eq_true rfl) (by omega) rfl (e_X12_states (d := d - 1) (v := q166.1) (M' := q166.2) (by omega)  hq166) ?_
                                                              refine ev_icmp_eq (pc := 1131) (tgt := 1493) dL_law_1131 (by decide) (fun b167 => ?_) (fun b167 => ?_)
                                                              · rw [if_pos b167] at h
                                                                refine ev_iinc (pc := 1493) (il' := [(3, vI (wI (x3 + 6))), (0, vS 8), (1, vR 1), (2, vR 801)]) 3 dL_law_1493 rfl (Nat.le_of_ble_eq_true rfl) rfl rfl ?_
                                                                refine ev_goto (pc := 1496) (tgt := 18) dL_law_1496 (by decide) ?_
                                                                refine ev_pick [1, 2, 3, 0] rfl ?_
                                                                exact ih h
                                                              · rw [if_neg b167] at h
                                                                refine ev_iconst (pc := 1134) (x := 0) dL_law_1134 ci_0 ?_
                                                                cases h
                                                                exact ev_zret (pc := 1135) (Or.inl rfl) dL_law_1135 rfl
                                                            · rw [if_neg b162] at h
                                                              by_cases b168 : (bAnd (xs x3) 63) = 28
                                                              · rw [if_pos b168] at h
                                                                refine ev_tswIn (pc := 33) (tgt := 1136) dL_law_33 (by omega) (by omega) (by rw [b168] <;> rfl) (by decide) ?_
                                                                refine ev_aload_n (pc := 1136) 1 dL_law_1136 rfl rfl ?_
                                                                refine ev_aload_nS (pc := 1137) 0 dL_law_1137 rfl rfl ?_
                                                                refine ev_iload_n (pc := 1138) 3 dL_law_1138 rfl rfl ?_
                                                                refine ev_iconst (pc := 1139) (x := 1) dL_law_1139 ci_1 ?_
                                                                refine ev_iadd (pc := 1140) dL_law_1140 ?_
                                                                obtain ⟨c169, h⟩ := ck_some h
                                                                refine ev_sld (pc := 1141) hLs hxs c169.1 c169.2 dL_law_1141 ?_
                                                                refine ev_aload_nS (pc := 1142) 0 dL_law_1142 rfl rfl ?_
                                                                refine ev_iload_n (pc := 1143) 3 dL_law_1143 rfl rfl ?_
                                                                refine ev_iconst (pc := 1144) (x := 2) dL_law_1144 ci_2 ?_
                                                                refine ev_iadd (pc := 1145) dL_law_1145 ?_
                                                                obtain ⟨c170, h⟩ := ck_some h
                                                                refine ev_sld (pc := 1146) hLs hxs c170.1 c170.2 dL_law_1146 ?_
                                                                obtain ⟨q171, hq171, h⟩ := bd h
                                                                refine ev_cV (pc := 1147) [vI (xs (wI (x3 + 1))), vI (xs (wI (x3 + 2)))] [] rfl mkX11_sound mlL_133 mnX11_sound dL_law_1147 kd_1 (by omega) rfl (Nat.le_of_ble_eq_true rfl) (by omega) rfl (e_X11_sound (d := d - 1) (v := q171.1) (M' := q171.2) (by omega)  hq171) ?_
                                                                refine ev_aload_n (pc := 1150) 2 dL_law_1150 rfl rfl ?_
                                                                refine ev_aload_nS (pc := 1151) 0 dL_law_1151 rfl rfl ?_
                                                                refine ev_iload_n (pc := 1152) 3 dL_law_1152 rfl rfl ?_
                                                                refine ev_iconst (pc := 1153) (x := 1) dL_law_1153 ci_1 ?_
                                                                refine ev_iadd (pc := 1154) dL_law_1154 ?_
                                                                refine ev_sld (pc := 1155) hLs hxs c169.1 c169.2 dL_law_1155 ?_
                                                                refine ev_aload_nS (pc := 1156) 0 dL_law_1156 rfl rfl ?_
                                                                refine ev_iload_n (pc := 1157) 3 dL_law_1157 rfl rfl ?_
                                                                refine ev_iconst (pc := 1158) (x := 2) dL_law_1158 ci_2 ?_
                                                                refine ev_iadd (pc := 1159) dL_law_1159 ?_
                                                                refine ev_sld (pc := 1160) hLs hxs c170.1 c170.2 dL_law_1160 ?_
                                                                obtain ⟨q172, hq172, h⟩ := bd h
                                                                refine ev_cV (pc := 1161) [vI (xs (wI (x3 + 1))), vI (xs (wI (x3 + 2)))] [vI q171.1] rfl mkX12_sound mlL_136 mnX12_sound dL_law_1161 kd_801 (by omega) rfl (Nat.le_of_ble_eq_true rfl) (by omega) rfl (e_X12_sound (d := d - 1) (v := q172.1) (M' := q172.2) (by omega)  hq172) ?_
                                                                refine ev_icmp_eq (pc := 1164) (tgt := 1493) dL_law_1164 (by decide) (fun b173 => ?_) (fun b173 => ?_)
                                                                · rw [if_pos b173] at h
                                                                  refine ev_iinc (pc := 1493) (il' := [(3, vI (wI (x3 + 6))), (0, vS 8), (1, vR 1), (2, vR 801)]) 3 dL_law_1493 rfl (Nat.le_of_ble_eq_true rfl) rfl rfl ?_
                                                                  refine ev_goto (pc := 1496) (tgt := 18) dL_law_1496 (by decide) ?_
                                                                  refine ev_pick [1, 2, 3, 0] rfl ?_
                                                                  exact ih h
                                                                · rw [if_neg b173] at h
                                                                  refine ev_iconst (pc := 1167) (x := 0) dL_law_1167 ci_0 ?_
                                                                  cases h
                                                                  exact ev_zret (pc := 1168) (Or.inl rfl) dL_law_1168 rfl
                                                              · rw [if_neg b168] at h
                                                                by_cases b174 : (bAnd (xs x3) 63) = 29
                                                                · rw [if_pos b174] at h
                                                                  refine ev_tswIn (pc := 33) (tgt := 1169) dL_law_33 (by omega) (by omega) (by rw [b174] <;> rfl) (by decide) ?_
                                                                  refine ev_aload_n (pc := 1169) 1 dL_law_1169 rfl rfl ?_
                                                                  refine ev_aload_nS (pc := 1170) 0 dL_law_1170 rfl rfl ?_
                                                                  refine ev_iload_n (pc := 1171) 3 dL_law_1171 rfl rfl ?_
                                                                  refine ev_iconst (pc := 1172) (x := 1) dL_law_1172 ci_1 ?_
                                                                  refine ev_iadd (pc := 1173) dL_law_1173 ?_
                                                                  obtain ⟨c175, h⟩ := ck_some h
                                                                  refine ev_sld (pc := 1174) hLs hxs c175.1 c175.2 dL_law_1174 ?_
                                                                  refine ev_aload_nS (pc := 1175) 0 dL_law_1175 rfl rfl ?_
                                                                  refine ev_iload_n (pc := 1176) 3 dL_law_1176 rfl rfl ?_
                                                                  refine ev_iconst (pc := 1177) (x := 2) dL_law_1177 ci_2 ?_
                                                                  refine ev_iadd (pc := 1178) dL_law_1178 ?_
                                                                  obtain ⟨c176, h⟩ := ck_some h
                                                                  refine ev_sld (pc := 1179) hLs hxs c176.1 c176.2 dL_law_1179 ?_
                                                                  refine ev_if_eq (pc := 1180) (tgt := 1187) dL_law_1180 (by decide) (fun b177 => ?_) (fun b177 => ?_)
                                                                  · rw [if_pos b177] at h
                                                                    refine ev_iconst (pc := 1187) (x := 0) dL_law_1187 ci_0 ?_
                                                                    refine ev_pick [0, 1, 2, 3] rfl ?_
                                                                    exact e_L_law_L18_J1188 hd hLs hxs (fun h9 => ih h9) h
                                                                  · rw [if_neg b177] at h
                                                                    refine ev_iconst (pc := 1183) (x := 1) dL_law_1183 ci_1 ?_
                                                                    refine ev_goto (pc := 1184) (tgt := 1188) dL_law_1184 (by decide) ?_
                                                                    refine ev_pick [0, 1, 2, 3] rfl ?_
                                                                    exact e_L_law_L18_J1188 hd hLs hxs (fun h9 => ih h9) h
                                                                · rw [if_neg b174] at h
                                                                  by_cases b184 : (bAnd (xs x3) 63) = 30
                                                                  · rw [if_pos b184] at h
                                                                    refine ev_tswIn (pc := 33) (tgt := 1218) dL_law_33 (by omega) (by omega) (by rw [b184] <;> rfl) (by decide) ?_
                                                                    refine ev_aload_n (pc := 1218) 1 dL_law_1218 rfl rfl ?_
                                                                    refine ev_aload_nS (pc := 1219) 0 dL_law_1219 rfl rfl ?_
                                                                    refine ev_iload_n (pc := 1220) 3 dL_law_1220 rfl rfl ?_
                                                                    refine ev_iconst (pc := 1221) (x := 1) dL_law_1221 ci_1 ?_
                                                                    refine ev_iadd (pc := 1222) dL_law_1222 ?_
                                                                    obtain ⟨c185, h⟩ := ck_some h
                                                                    refine ev_sld (pc := 1223) hLs hxs c185.1 c185.2 dL_law_1223 ?_
                                                                    obtain ⟨q186, hq186, h⟩ := bd h
                                                                    refine ev_cV (pc := 1224) [vI (xs (wI (x3 + 1)))] [] rfl mkX11_wreck mlL_142 mnX11_wreck dL_law_1224 kd_1 (by omega) rfl (Nat.le_of_ble_eq_true rfl) (by omega) rfl (e_X11_wreck (d := d - 1) (v := q186.1) (M' := q186.2) (by omega)  hq186) ?_
                                                                    refine ev_aload_n (pc := 1227) 2 dL_law_1227 rfl rfl ?_
                                                                    refine ev_aload_nS (pc := 1228) 0 dL_law_1228 rfl rfl ?_
                                                                    refine ev_iload_n (pc := 1229) 3 dL_law_1229 rfl rfl ?_
                                                                    refine ev_iconst (pc := 1230) (x := 1) dL_law_1230 ci_1 ?_
                                                                    refine ev_iadd (pc := 1231) dL_law_1231 ?_
                                                                    refine ev_sld (pc := 1232) hLs hxs c185.1 c185.2 dL_law_1232 ?_
                                                                    obtain ⟨q187, hq187, h⟩ := bd h
                                                                    refine ev_cV (pc := 1233) [vI (xs (wI (x3 + 1)))] [vI q186.1] rfl mkX12_wreck mlL_145 mnX12_wreck dL_law_1233 kd_801 (by omega) rfl (Nat.le_of_ble_eq_true rfl) (by omega) rfl (e_X12_wreck (d := d - 1) (v := q187.1) (M' := q187.2) (by omega)  hq187) ?_
                                                                    refine ev_icmp_eq (pc := 1236) (tgt := 1493) dL_law_1236 (by decide) (fun b188 => ?_) (fun b188 => ?_)
                                                                    · rw [if_pos b188] at h
                                                                      refine ev_iinc (pc := 1493) (il' := [(3, vI (wI (x3 + 6))), (0, vS 8), (1, vR 1), (2, vR 801)]) 3 dL_law_1493 rfl (Nat.le_of_ble_eq_true rfl) rfl rfl ?_
                                                                      refine ev_goto (pc := 1496) (tgt := 18) dL_law_1496 (by decide) ?_
                                                                      refine ev_pick [1, 2, 3, 0] rfl ?_
                                                                      exact ih h
                                                                    · rw [if_neg b188] at h
                                                                      refine ev_iconst (pc := 1239) (x := 0) dL_law_1239 ci_0 ?_
                                                                      cases h
                                                                      exact ev_zret (pc := 1240) (Or.inl rfl) dL_law_1240 rfl
                                                                  · rw [if_neg b184] at h
                                                                    by_cases b189 : (bAnd (xs x3) 63) = 31
                                                                    · rw [if_pos b189] at h
                                                                      refine ev_tswIn (pc := 33) (tgt := 1241) dL_law_33 (by omega) (by omega) (by rw [b189] <;> rfl) (by decide) ?_
                                                                      refine ev_aload_n (pc := 1241) 1 dL_law_1241 rfl rfl ?_
                                                                      refine ev_aload_nS (pc := 1242) 0 dL_law_1242 rfl rfl ?_
                                                                      refine ev_iload_n (pc := 1243) 3 dL_law_1243 rfl rfl ?_
                                                                      refine ev_iconst (pc := 1244) (x := 1) dL_law_1244 ci_1 ?_
                                                                      refine ev_iadd (pc := 1245) dL_law_1245 ?_
                                                                      obtain ⟨c190, h⟩ := ck_some h
                                                                      refine ev_sld (pc := 1246) hLs hxs c190.1 c190.2 dL_law_1246 ?_
                                                                      obtain ⟨q191, hq191, h⟩ := bd h
                                                                      refine ev_cV (pc := 1247) [vI (xs (wI (x3 + 1)))] [] rfl mkX11_inOrder mlL_146 mnX11_inOrder dL_law_1247 kd_1 (by omega) rfl (Nat.le_of_ble_eq_true rfl) (by omega) rfl (e_X11_inOrder (d := d - 1) (v := q191.1) (M' := q191.2) (by omega)  hq191) ?_
                                                                      refine ev_aload_n (pc := 1250) 2 dL_law_1250 rfl rfl ?_
                                                                      refine ev_aload_nS (pc := 1251) 0 dL_law_1251 rfl rfl ?_
                                                                      refine ev_iload_n (pc := 1252) 3 dL_law_1252 rfl rfl ?_
                                                                      refine ev_iconst (pc := 1253) (x := 1) dL_law_1253 ci_1 ?_
                                                                      refine ev_iadd (pc := 1254) dL_law_1254 ?_
                                                                      refine ev_sld (pc := 1255) hLs hxs c190.1 c190.2 dL_law_1255 ?_
                                                                      obtain ⟨q192, hq192, h⟩ := bd h
                                                                      refine ev_cV (pc := 1256) [vI (xs (wI (x3 + 1)))] [vI q191.1] rfl mkX12_inOrder mlL_149 mnX12_inOrder dL_law_1256 kd_801 (by omega) rfl (Nat.le_of_ble_eq_true rfl) (by omega) rfl (e_X12_inOrder (d := d - 1) (v := q192.1) (M' := q192.2) (by omega)  hq192) ?_
                                                                      refine ev_icmp_eq (pc := 1259) (tgt := 1493) dL_law_1259 (by decide) (fun b193 => ?_) (fun b193 => ?_)
                                                                      · rw [if_pos b193] at h
                                                                        refine ev_iinc (pc := 1493) (il' := [(3, vI (wI (x3 + 6))), (0, vS 8), (1, vR 1), (2, vR 801)]) 3 dL_law_1493 rfl (Nat.le_of_ble_eq_true rfl) rfl rfl ?_
                                                                        refine ev_goto (pc := 1496) (tgt := 18) dL_law_1496 (by decide) ?_
                                                                        refine ev_pick [1, 2, 3, 0] rfl ?_
                                                                        exact ih h
                                                                      · rw [if_neg b193] at h
                                                                        refine ev_iconst (pc := 1262) (x := 0) dL_law_1262 ci_0 ?_
                                                                        cases h
                                                                        exact ev_zret (pc := 1263) (Or.inl rfl) dL_law_1263 rfl
                                                                    · rw [if_neg b189] at h
                                                                      by_cases b194 : (bAnd (xs x3) 63) = 32
                                                                      · rw [if_pos b194] at h
                                                                        refine ev_tswIn (pc := 33) (tgt := 1264) dL_law_33 (by omega) (by omega) (by rw [b194] <;> rfl) (by decide) ?_
                                                                        refine ev_aload_n (pc := 1264) 1 dL_law_1264 rfl rfl ?_
                                                                        obtain ⟨q195, hq195, h⟩ := bd h
                                                                        refine ev_cV (pc := 1265) [] [] rfl mkX11_outOfOrder mlL_150 mnX11_outOfOrder dL_law_1265 kd_1 (by omega) rfl (Nat.le_of_ble_eq_true rfl) (by omega) rfl (e_X11_outOfOrder (d := d - 1) (v := q195) (by omega)  hq195) ?_
                                                                        refine ev_aload_n (pc := 1268) 2 dL_law_1268 rfl rfl ?_
                                                                        obtain ⟨q196, hq196, h⟩ := bd h
                                                                        refine ev_cV (pc := 1269) [] [vI q195] rfl mkX12_outOfOrder mlL_153 mnX12_outOfOrder dL_law_1269 kd_801 (by omega) rfl (Nat.le_of_ble_eq_true rfl) (by omega) rfl (e_X12_outOfOrder (d := d - 1) (v := q196) (by omega)  hq196) ?_
                                                                        refine ev_icmp_eq (pc := 1272) (tgt := 1493) dL_law_1272 (by decide) (fun b197 => ?_) (fun b197 => ?_)
                                                                        · rw [if_pos b197] at h
                                                                          refine ev_iinc (pc := 1493) (il' := [(3, vI (wI (x3 + 6))), (0, vS 8), (1, vR 1), (2, vR 801)]) 3 dL_law_1493 rfl (Nat.le_of_ble_eq_true rfl) rfl rfl ?_
                                                                          refine ev_goto (pc := 1496) (tgt := 18) dL_law_1496 (by decide) ?_
                                                                          refine ev_pick [1, 2, 3, 0] rfl ?_
                                                                          exact ih h
                                                                        · rw [if_neg b197] at h
                                                                          refine ev_iconst (pc := 1275) (x := 0) dL_law_1275 ci_0 ?_
                                                                          cases h
                                                                          exact ev_zret (pc := 1276) (Or.inl rfl) dL_law_1276 rfl
                                                                      · rw [if_neg b194] at h
                                                                        by_cases b198 : (bAnd (xs x3) 63) = 33
                                                                        · rw [if_pos b198] at h
                                                                          refine ev_tswIn (pc := 33) (tgt := 1277) dL_law_33 (by omega) (by omega) (by rw [b198] <;> rfl) (by decide) ?_
                                                                          refine ev_aload_n (pc := 1277) 1 dL_law_1277 rfl rfl ?_
                                                                          refine ev_aload_nS (pc := 1278) 0 dL_law_1278 rfl rfl ?_
                                                                          refine ev_iload_n (pc := 1279) 3 dL_law_1279 rfl rfl ?_
                                                                          refine ev_iconst (pc := 1280) (x := 1) dL_law_1280 ci_1 ?_
                                                                          refine ev_iadd (pc := 1281) dL_law_1281 ?_
                                                                          obtain ⟨c199, h⟩ := ck_some h
                                                                          refine ev_sld (pc := 1282) hLs hxs c199.1 c199.2 dL_law_1282 ?_
                                                                          refine ev_aload_nS (pc := 1283) 0 dL_law_1283 rfl rfl ?_
                                                                          refine ev_iload_n (pc := 1284) 3 dL_law_1284 rfl rfl ?_
                                                                          refine ev_iconst (pc := 1285) (x := 2) dL_law_1285 ci_2 ?_
                                                                          refine ev_iadd (pc := 1286) dL_law_1286 ?_
                                                                          obtain ⟨c200, h⟩ := ck_some h
                                                                          refine ev_sld (pc := 1287) hLs hxs c200.1 c200.2 dL_law_1287 ?_
                                                                          obtain ⟨q201, hq201, h⟩ := bd h
                                                                          refine ev_cV (pc := 1288) [vI (xs (wI (x3 + 1))), vI (xs (wI (x3 + 2)))] [] rfl mkX11_misheard mlL_154 mnX11_misheard dL_law_1288 kd_1 (by omega) rfl (Nat.le_of_ble_eq_true rfl) (by omega) rfl (e_X11_misheard (d := d - 1) (v := q201.1) (M' := q201.2) (by omega)  hq201) ?_
                                                                          refine ev_aload_n (pc := 1291) 2 dL_law_1291 rfl rfl ?_
                                                                          refine ev_aload_nS (pc := 1292) 0 dL_law_1292 rfl rfl ?_
                                                                          refine ev_iload_n (pc := 1293) 3 dL_law_1293 rfl rfl ?_
                                                                          refine ev_iconst (pc := 1294) (x := 1) dL_law_1294 ci_1 ?_
                                                                          refine ev_iadd (pc := 1295) dL_law_1295 ?_
                                                                          refine ev_sld (pc := 1296) hLs hxs c199.1 c199.2 dL_law_1296 ?_
                                                                          refine ev_aload_nS (pc := 1297) 0 dL_law_1297 rfl rfl ?_
                                                                          refine ev_iload_n (pc := 1298) 3 dL_law_1298 rfl rfl ?_
                                                                          refine ev_iconst (pc := 1299) (x := 2) dL_law_1299 ci_2 ?_
                                                                          refine ev_iadd (pc := 1300) dL_law_1300 ?_
                                                                          refine ev_sld (pc := 1301) hLs hxs c200.1 c200.2 dL_law_1301 ?_
                                                                          obtain ⟨q202, hq202, h⟩ := bd h
                                                                          refine ev_cV (pc := 1302) [vI (xs (wI (x3 + 1))), vI (xs (wI (x3 + 2)))] [vI q201.1] rfl mkX12_misheard mlL_157 mnX12_misheard dL_law_1302 kd_801 (by omega) rfl (Nat.le_of_ble_eq_true rfl) (by omega) rfl (e_X12_misheard (d := d - 1) (v := q202.1) (M' := q202.2) (by omega)  hq202) ?_
                                                                          refine ev_icmp_eq (pc := 1305) (tgt := 1493) dL_law_1305 (by decide) (fun b203 => ?_) (fun b203 => ?_)
                                                                          · rw [if_pos b203] at h
                                                                            refine ev_iinc (pc := 1493) (il' := [(3, vI (wI (x3 + 6))), (0, vS 8), (1, vR 1), (2, vR 801)]) 3 dL_law_1493 rfl (Nat.le_of_ble_eq_true rfl) rfl rfl ?_
                                                                            refine ev_goto (pc := 1496) (tgt := 18) dL_law_1496 (by decide) ?_
                                                                            refine ev_pick [1, 2, 3, 0] rfl ?_
                                                                            exact ih h
                                                                          · rw [if_neg b203] at h
                                                                            refine ev_iconst (pc := 1308) (x := 0) dL_law_1308 ci_0 ?_
                                                                            cases h
                                                                            exact ev_zret (pc := 1309) (Or.inl rfl) dL_law_1309 rfl
                                                                        · rw [if_neg b198] at h
                                                                          by_cases b204 : (bAnd (xs x3) 63) = 34
                                                                          · rw [if_pos b204] at h
                                                                            refine ev_tswIn (pc := 33) (tgt := 1310) dL_law_33 (by omega) (by omega) (by rw [b204] <;> rfl) (by decide) ?_
                                                                            refine ev_aload_n (pc := 1310) 1 dL_law_1310 rfl rfl ?_
                                                                            refine ev_aload_nS (pc := 1311) 0 dL_law_1311 rfl rfl ?_
                                                                            refine ev_iload_n (pc := 1312) 3 dL_law_1312 rfl rfl ?_
                                                                            refine ev_iconst (pc := 1313) (x := 1) dL_law_1313 ci_1 ?_
                                                                            refine ev_iadd (pc := 1314) dL_law_1314 ?_
                                                                            obtain ⟨c205, h⟩ := ck_some h
                                                                            refine ev_sld (pc := 1315) hLs hxs c205.1 c205.2 dL_law_1315 ?_
                                                                            obtain ⟨q206, hq206, h⟩ := bd h
                                                                            refine ev_cV (pc := 1316) [vI (xs (wI (x3 + 1)))] [] rfl mkX11_apart mlL_158 mnX11_apart dL_law_1316 kd_1 (by omega) rfl (Nat.le_of_ble_eq_true rfl) (by omega) rfl (e_X11_apart (d := d - 1) (v := q206) (by omega)  hq206) ?_
                                                                            refine ev_aload_n (pc := 1319) 2 dL_law_1319 rfl rfl ?_
                                                                            refine ev_aload_nS (pc := 1320) 0 dL_law_1320 rfl rfl ?_
                                                                            refine ev_iload_n (pc := 1321) 3 dL_law_1321 rfl rfl ?_
                                                                            refine ev_iconst (pc := 1322) (x := 1) dL_law_1322 ci_1 ?_
                                                                            refine ev_iadd (pc := 1323) dL_law_1323 ?_
                                                                            refine ev_sld (pc := 1324) hLs hxs c205.1 c205.2 dL_law_1324 ?_
                                                                            obtain ⟨q207, hq207, h⟩ := bd h
                                                                            refine ev_cV (pc := 1325) [vI (xs (wI (x3 + 1)))] [vI q206] rfl mkX12_apart mlL_161 mnX12_apart dL_law_1325 kd_801 (by omega) rfl (Nat.le_of_ble_eq_true rfl) (by omega) rfl (e_X12_apart (d := d - 1) (v := q207) (by omega)  hq207) ?_
                                                                            refine ev_icmp_eq (pc := 1328) (tgt := 1493) dL_law_1328 (by decide) (fun b208 => ?_) (fun b208 => ?_)
                                                                            · rw [if_pos b208] at h
                                                                              refine ev_iinc (pc := 1493) (il' := [(3, vI (wI (x3 + 6))), (0, vS 8), (1, vR 1), (2, vR 801)]) 3 dL_law_1493 rfl (Nat.le_of_ble_eq_true rfl) rfl rfl ?_
                                                                              refine ev_goto (pc := 1496) (tgt := 18) dL_law_1496 (by decide) ?_
                                                                              refine ev_pick [1, 2, 3, 0] rfl ?_
                                                                              exact ih h
                                                                            · rw [if_neg b208] at h
                                                                              refine ev_iconst (pc := 1331) (x := 0) dL_law_1331 ci_0 ?_
                                                                              cases h
                                                                              exact ev_zret (pc := 1332) (Or.inl rfl) dL_law_1332 rfl
                                                                          · rw [if_neg b204] at h
                                                                            by_cases b209 : (bAnd (xs x3) 63) = 35
                                                                            · rw [if_pos b209] at h
                                                                              refine ev_tswIn (pc := 33) (tgt := 1333) dL_law_33 (by omega) (by omega) (by rw [b209] <;> rfl) (by decide) ?_
                                                                              refine ev_aload_n (pc := 1333) 1 dL_law_1333 rfl rfl ?_
                                                                              refine ev_aload_nS (pc := 1334) 0 dL_law_1334 rfl rfl ?_
                                                                              refine ev_iload_n (pc := 1335) 3 dL_law_1335 rfl rfl ?_
                                                                              refine ev_iconst (pc := 1336) (x := 1) dL_law_1336 ci_1 ?_
                                                                              refine ev_iadd (pc := 1337) dL_law_1337 ?_
                                                                              obtain ⟨c210, h⟩ := ck_some h
                                                                              refine ev_sld (pc := 1338) hLs hxs c210.1 c210.2 dL_law_1338 ?_
                                                                              obtain ⟨q211, hq211, h⟩ := bd h
                                                                              refine ev_cV (pc := 1339) [vI (xs (wI (x3 + 1)))] [] rfl mkX11_chains mlL_162 mnX11_chains dL_law_1339 kd_1 (by omega) rfl (Nat.le_of_ble_eq_true rfl) (by omega) rfl (e_X11_chains (d := d - 1) (v := q211) (by omega)  hq211) ?_
                                                                              refine ev_aload_n (pc := 1342) 2 dL_law_1342 rfl rfl ?_
                                                                              refine ev_aload_nS (pc := 1343) 0 dL_law_1343 rfl rfl ?_
                                                                              refine ev_iload_n (pc := 1344) 3 dL_law_1344 rfl rfl ?_
                                                                              refine ev_iconst (pc := 1345) (x := 1) dL_law_1345 ci_1 ?_
                                                                              refine ev_iadd (pc := 1346) dL_law_1346 ?_
                                                                              refine ev_sld (pc := 1347) hLs hxs c210.1 c210.2 dL_law_1347 ?_
                                                                              obtain ⟨q212, hq212, h⟩ := bd h
                                                                              refine ev_cV (pc := 1348) [vI (xs (wI (x3 + 1)))] [vI q211] rfl mkX12_chains mlL_165 mnX12_chains dL_law_1348 kd_801 (by omega) rfl (Nat.le_of_ble_eq_true rfl) (by omega) rfl (e_X12_chains (d := d - 1) (v := q212) (by omega)  hq212) ?_
                                                                              refine ev_icmp_eq (pc := 1351) (tgt := 1493) dL_law_1351 (by decide) (fun b213 => ?_) (fun b213 => ?_)
                                                                              · rw [if_pos b213] at h
                                                                                refine ev_iinc (pc := 1493) (il' := [(3, vI (wI (x3 + 6))), (0, vS 8), (1, vR 1), (2, vR 801)]) 3 dL_law_1493 rfl (Nat.le_of_ble_eq_true rfl) rfl rfl ?_
                                                                                refine ev_goto (pc := 1496) (tgt := 18) dL_law_1496 (by decide) ?_
                                                                                refine ev_pick [1, 2, 3, 0] rfl ?_
                                                                                exact ih h
                                                                              · rw [if_neg b213] at h
                                                                                refine ev_iconst (pc := 1354) (x := 0) dL_law_1354 ci_0 ?_
                                                                                cases h
                                                                                exact ev_zret (pc := 1355) (Or.inl rfl) dL_law_1355 rfl
                                                                            · rw [if_neg b209] at h
                                                                              by_cases b214 : (bAnd (xs x3) 63) = 36
                                                                              · rw [if_pos b214] at h
                                                                                refine ev_tswIn (pc := 33) (tgt := 1356) dL_law_33 (by omega) (by omega) (by rw [b214] <;> rfl) (by decide) ?_
                                                                                refine ev_aload_n (pc := 1356) 1 dL_law_1356 rfl rfl ?_
                                                                                refine ev_aload_nS (pc := 1357) 0 dL_law_1357 rfl rfl ?_
                                                                                refine ev_iload_n (pc := 1358) 3 dL_law_1358 rfl rfl ?_
                                                                                refine ev_iconst (pc := 1359) (x := 1) dL_law_1359 ci_1 ?_
                                                                                refine ev_iadd (pc := 1360) dL_law_1360 ?_
                                                                                obtain ⟨c215, h⟩ := ck_some h
                                                                                refine ev_sld (pc := 1361) hLs hxs c215.1 c215.2 dL_law_1361 ?_
                                                                                refine ev_aload_nS (pc := 1362) 0 dL_law_1362 rfl rfl ?_
                                                                                refine ev_iload_n (pc := 1363) 3 dL_law_1363 rfl rfl ?_
                                                                                refine ev_iconst (pc := 1364) (x := 2) dL_law_1364 ci_2 ?_
                                                                                refine ev_iadd (pc := 1365) dL_law_1365 ?_
                                                                                obtain ⟨c216, h⟩ := ck_some h
                                                                                refine ev_sld (pc := 1366) hLs hxs c216.1 c216.2 dL_law_1366 ?_
                                                                                refine ev_if_eq (pc := 1367) (tgt := 1374) dL_law_1367 (by decide) (fun b217 => ?_) (fun b217 => ?_)
                                                                                · rw [if_pos b217] at h
                                                                                  refine ev_iconst (pc := 1374) (x := 0) dL_law_1374 ci_0 ?_
                                                                                  refine ev_pick [0, 1, 2, 3] rfl ?_
                                                                                  exact e_L_law_L18_J1375 hd hLs hxs (fun h9 => ih h9) h
                                                                                · rw [if_neg b217] at h
                                                                                  refine ev_iconst (pc := 1370) (x := 1) dL_law_1370 ci_1 ?_
                                                                                  refine ev_goto (pc := 1371) (tgt := 1375) dL_law_1371 (by decide) ?_
                                                                                  refine ev_pick [0, 1, 2, 3] rfl ?_
                                                                                  exact e_L_law_L18_J1375 hd hLs hxs (fun h9 => ih h9) h
                                                                              · rw [if_neg b214] at h
                                                                                by_cases b224 : (bAnd (xs x3) 63) = 37
                                                                                · rw [if_pos b224] at h
                                                                                  refine ev_tswIn (pc := 33) (tgt := 1405) dL_law_33 (by omega) (by omega) (by rw [b224] <;> rfl) (by decide) ?_
                                                                                  refine ev_aload_n (pc := 1405) 1 dL_law_1405 rfl rfl ?_
                                                                                  refine ev_aload_nS (pc := 1406) 0 dL_law_1406 rfl rfl ?_
                                                                                  refine ev_iload_n (pc := 1407) 3 dL_law_1407 rfl rfl ?_
                                                                                  refine ev_iconst (pc := 1408) (x := 1) dL_law_1408 ci_1 ?_
                                                                                  refine ev_iadd (pc := 1409) dL_law_1409 ?_
                                                                                  obtain ⟨c225, h⟩ := ck_some h
                                                                                  refine ev_sld (pc := 1410) hLs hxs c225.1 c225.2 dL_law_1410 ?_
                                                                                  refine ev_if_eq (pc := 1411) (tgt := 1418) dL_law_1411 (by decide) (fun b226 => ?_) (fun b226 => ?_)
                                                                                  · rw [if_pos b226] at h
                                                                                    refine ev_iconst (pc := 1418) (x := 0) dL_law_1418 ci_0 ?_
                                                                                    refine ev_pick [0, 1, 2, 3] rfl ?_
                                                                                    exact e_L_law_L18_J1419 hd hLs hxs (fun h9 => ih h9) h
                                                                                  · rw [if_neg b226] at h
                                                                                    refine ev_iconst (pc := 1414) (x := 1) dL_law_1414 ci_1 ?_
                                                                                    refine ev_goto (pc := 1415) (tgt := 1419) dL_law_1415 (by decide) ?_
                                                                                    refine ev_pick [0, 1, 2, 3] rfl ?_
                                                                                    exact e_L_law_L18_J1419 hd hLs hxs (fun h9 => ih h9) h
                                                                                · rw [if_neg b224] at h
                                                                                  by_cases b232 : (bAnd (xs x3) 63) = 38
                                                                                  · rw [if_pos b232] at h
                                                                                    refine ev_tswIn (pc := 33) (tgt := 1444) dL_law_33 (by omega) (by omega) (by rw [b232] <;> rfl) (by decide) ?_
                                                                                    refine ev_aload_n (pc := 1444) 1 dL_law_1444 rfl rfl ?_
                                                                                    obtain ⟨q233, hq233, h⟩ := bd h
                                                                                    refine ev_cV (pc := 1445) [] [] rfl mkX11_image mlL_175 mnX11_image dL_law_1445 kd_1 (by omega) rfl (Nat.le_of_ble_eq_true rfl) (by omega) rfl (e_X11_image (d := d - 1) (v := q233.1) (M' := q233.2) (by omega)  hq233) ?_
                                                                                    refine ev_aload_n (pc := 1448) 2 dL_law_1448 rfl rfl ?_
                                                                                    obtain ⟨q234, hq234, h⟩ := bd h
                                                                                    refine ev_cV (pc := 1449) [] [vI q233.1] rfl mkX12_image mlL_178 mnX12_image dL_law_1449 kd_801 (by omega) rfl (Nat.le_of_ble_eq_true rfl) (by omega) rfl (e_X12_image (d := d - 1) (v := q234.1) (M' := q234.2) (by omega)  hq234) ?_
                                                                                    refine ev_icmp_eq (pc := 1452) (tgt := 1493) dL_law_1452 (by decide) (fun b235 => ?_) (fun b235 => ?_)
                                                                                    · rw [if_pos b235] at h
                                                                                      refine ev_iinc (pc := 1493) (il' := [(3, vI (wI (x3 + 6))), (0, vS 8), (1, vR 1), (2, vR 801)]) 3 dL_law_1493 rfl (Nat.le_of_ble_eq_true rfl) rfl rfl ?_
                                                                                      refine ev_goto (pc := 1496) (tgt := 18) dL_law_1496 (by decide) ?_
                                                                                      refine ev_pick [1, 2, 3, 0] rfl ?_
                                                                                      exact ih h
                                                                                    · rw [if_neg b235] at h
                                                                                      refine ev_iconst (pc := 1455) (x := 0) dL_law_1455 ci_0 ?_
                                                                                      cases h
                                                                                      exact ev_zret (pc := 1456) (Or.inl rfl) dL_law_1456 rfl
                                                                                  · rw [if_neg b232] at h
                                                                                    by_cases b236 : (bAnd (xs x3) 63) = 39
                                                                                    · rw [if_pos b236] at h
                                                                                      refine ev_tswIn (pc := 33) (tgt := 1457) dL_law_33 (by omega) (by omega) (by rw [b236] <;> rfl) (by decide) ?_
                                                                                      refine ev_aload_n (pc := 1457) 1 dL_law_1457 rfl rfl ?_
                                                                                      obtain ⟨q237, hq237, h⟩ := bd h
                                                                                      refine ev_cV (pc := 1458) [] [] rfl mkX11_back mlL_179 mnX11_back dL_law_1458 kd_1 (by omega) rfl (Nat.le_of_ble_eq_true rfl) (by omega) rfl (e_X11_back (d := d - 1) (v := q237.1) (M' := q237.2) (by omega)  hq237) ?_
                                                                                      refine ev_aload_n (pc := 1461) 2 dL_law_1461 rfl rfl ?_
                                                                                      obtain ⟨q238, hq238, h⟩ := bd h
                                                                                      refine ev_cV (pc := 1462) [] [vI q237.1] rfl mkX12_back mlL_182 mnX12_back dL_law_1462 kd_801 (by omega) rfl (Nat.le_of_ble_eq_true rfl) (by omega) rfl (e_X12_back (d := d - 1) (v := q238.1) (M' := q238.2) (by omega)  hq238) ?_
                                                                                      refine ev_icmp_eq (pc := 1465) (tgt := 1493) dL_law_1465 (by decide) (fun b239 => ?_) (fun b239 => ?_)
                                                                                      · rw [if_pos b239] at h
                                                                                        refine ev_iinc (pc := 1493) (il' := [(3, vI (wI (x3 + 6))), (0, vS 8), (1, vR 1), (2, vR 801)]) 3 dL_law_1493 rfl (Nat.le_of_ble_eq_true rfl) rfl rfl ?_
                                                                                        refine ev_goto (pc := 1496) (tgt := 18) dL_law_1496 (by decide) ?_
                                                                                        refine ev_pick [1, 2, 3, 0] rfl ?_
                                                                                        exact ih h
                                                                                      · rw [if_neg b239] at h
                                                                                        refine ev_iconst (pc := 1468) (x := 0) dL_law_1468 ci_0 ?_
                                                                                        cases h
                                                                                        exact ev_zret (pc := 1469) (Or.inl rfl) dL_law_1469 rfl
                                                                                    · rw [if_neg b236] at h
                                                                                      by_cases b240 : (bAnd (xs x3) 63) = 40
                                                                                      · rw [if_pos b240] at h
                                                                                        refine ev_tswIn (pc := 33) (tgt := 1470) dL_law_33 (by omega) (by omega) (by rw [b240] <;> rfl) (by decide) ?_
                                                                                        refine ev_aload_n (pc := 1470) 1 dL_law_1470 rfl rfl ?_
                                                                                        refine ev_aload_nS (pc := 1471) 0 dL_law_1471 rfl rfl ?_
                                                                                        refine ev_iload_n (pc := 1472) 3 dL_law_1472 rfl rfl ?_
                                                                                        refine ev_iconst (pc := 1473) (x := 1) dL_law_1473 ci_1 ?_
                                                                                        refine ev_iadd (pc := 1474) dL_law_1474 ?_
                                                                                        obtain ⟨c241, h⟩ := ck_some h
                                                                                        refine ev_sld (pc := 1475) hLs hxs c241.1 c241.2 dL_law_1475 ?_
                                                                                        refine ev_cV (pc := 1476) [vI (xs (wI (x3 + 1)))] [] rfl mkX11_about mlL_183 mnX11_about dL_law_1476 kd_1 (by omega) rfl (Nat.le_of_ble_eq_true rfl) (by omega) rfl (e_X11_about (d := d - 1) (v := (f_X11_about (xs (wI (x3 + 1))) M)) (by omega)  rfl) ?_
                                                                                        refine ev_aload_n (pc := 1479) 2 dL_law_1479 rfl rfl ?_
                                                                                        refine ev_aload_nS (pc := 1480) 0 dL_law_1480 rfl rfl ?_
                                                                                        refine ev_iload_n (pc := 1481) 3 dL_law_1481 rfl rfl ?_
                                                                                        refine ev_iconst (pc := 1482) (x := 1) dL_law_1482 ci_1 ?_
                                                                                        refine ev_iadd (pc := 1483) dL_law_1483 ?_
                                                                                        refine ev_sld (pc := 1484) hLs hxs c241.1 c241.2 dL_law_1484 ?_
                                                                                        obtain ⟨q242, hq242, h⟩ := bd h
                                                                                        refine ev_cV (pc := 1485) [vI (xs (wI (x3 + 1)))] [vI (f_X11_about (xs (wI (x3 + 1))) M)] rfl mkX12_about mlL_186 mnX12_about dL_law_1485 kd_801 (by omega) rfl (Nat.le_of_ble_eq_true rfl) (by omega) rfl (e_X12_about (d := d - 1) (v := q242) (by omega)  hq242) ?_
                                                                                        refine ev_icmp_eq (pc := 1488) (tgt := 1493) dL_law_1488 (by decide) (fun b243 => ?_) (fun b243 => ?_)
                                                                                        · rw [if_pos b243] at h
                                                                                          refine ev_iinc (pc := 1493) (il' := [(3, vI (wI (x3 + 6))), (0, vS 8), (1, vR 1), (2, vR 801)]) 3 dL_law_1493 rfl (Nat.le_of_ble_eq_true rfl) rfl rfl ?_
                                                                                          refine ev_goto (pc := 1496) (tgt := 18) dL_law_1496 (by decide) ?_
                                                                                          refine ev_pick [1, 2, 3, 0] rfl ?_
                                                                                          exact ih h
                                                                                        · rw [if_neg b243] at h
                                                                                          refine ev_iconst (pc := 1491) (x := 0) dL_law_1491 ci_0 ?_
                                                                                          cases h
                                                                                          exact ev_zret (pc := 1492) (Or.inl rfl) dL_law_1492 rfl
                                                                                      · rw [if_neg b240] at h
                                                                                        refine ev_tswOut (pc := 33) (tgt := 1493) dL_law_33 (by omega) (by decide) ?_
                                                                                        refine ev_iinc (pc := 1493) (il' := [(3, vI (wI (x3 + 6))), (0, vS 8), (1, vR 1), (2, vR 801)]) 3 dL_law_1493 rfl (Nat.le_of_ble_eq_true rfl) rfl rfl ?_
                                                                                        refine ev_goto (pc := 1496) (tgt := 18) dL_law_1496 (by decide) ?_
                                                                                        refine ev_pick [1, 2, 3, 0] rfl ?_
                                                                                        exact ih h
