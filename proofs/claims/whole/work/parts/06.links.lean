/-! ===== links: fields, methods, by their places in the tables ===== -/
theorem lay0_0 : u_lay RX0 TX0 0 ∈ lw_good := lw_good_t (i := 141) (by decide +kernel) (by decide +kernel)
theorem lay0_1 : u_lay RX0 TX0 1 ∈ lw_good := lw_good_t (i := 143) (by decide +kernel) (by decide +kernel)
theorem lay0_2 : u_lay RX0 TX0 2 ∈ lw_good := lw_good_t (i := 145) (by decide +kernel) (by decide +kernel)
theorem inG0 : ∀ w ∈ u_ws RX0 TX0 3, w ∈ lw_good := by
  intro w hw
  obtain ⟨j, hj, rfl⟩ := List.mem_map.mp hw
  have hj := List.mem_range.mp hj
  match j, hj with
  | 0, _ => exact lay0_0
  | 1, _ => exact lay0_1
  | 2, _ => exact lay0_2
  | n + 3, h => exact absurd h (by omega)
theorem lay1_0 : u_lay RX1 TX1 0 ∈ lw_good := lw_good_t (i := 316) (by decide +kernel) (by decide +kernel)
theorem lay1_1 : u_lay RX1 TX1 1 ∈ lw_good := lw_good_t (i := 318) (by decide +kernel) (by decide +kernel)
theorem lay1_2 : u_lay RX1 TX1 2 ∈ lw_good := lw_good_t (i := 320) (by decide +kernel) (by decide +kernel)
theorem inG1 : ∀ w ∈ u_ws RX1 TX1 3, w ∈ lw_good := by
  intro w hw
  obtain ⟨j, hj, rfl⟩ := List.mem_map.mp hw
  have hj := List.mem_range.mp hj
  match j, hj with
  | 0, _ => exact lay1_0
  | 1, _ => exact lay1_1
  | 2, _ => exact lay1_2
  | n + 3, h => exact absurd h (by omega)
theorem lay2_0 : u_lay RX2 TX2 0 ∈ lw_good := lw_good_t (i := 300) (by decide +kernel) (by decide +kernel)
theorem lay2_1 : u_lay RX2 TX2 1 ∈ lw_good := lw_good_t (i := 302) (by decide +kernel) (by decide +kernel)
theorem lay2_2 : u_lay RX2 TX2 2 ∈ lw_good := lw_good_t (i := 304) (by decide +kernel) (by decide +kernel)
theorem inG2 : ∀ w ∈ u_ws RX2 TX2 3, w ∈ lw_good := by
  intro w hw
  obtain ⟨j, hj, rfl⟩ := List.mem_map.mp hw
  have hj := List.mem_range.mp hj
  match j, hj with
  | 0, _ => exact lay2_0
  | 1, _ => exact lay2_1
  | 2, _ => exact lay2_2
  | n + 3, h => exact absurd h (by omega)
theorem lay3_0 : u_lay RX3 TX3 0 ∈ lw_good := lw_good_t (i := 362) (by decide +kernel) (by decide +kernel)
theorem lay3_1 : u_lay RX3 TX3 1 ∈ lw_good := lw_good_t (i := 364) (by decide +kernel) (by decide +kernel)
theorem lay3_2 : u_lay RX3 TX3 2 ∈ lw_good := lw_good_t (i := 366) (by decide +kernel) (by decide +kernel)
theorem lay3_3 : u_lay RX3 TX3 3 ∈ lw_good := lw_good_t (i := 368) (by decide +kernel) (by decide +kernel)
theorem lay3_4 : u_lay RX3 TX3 4 ∈ lw_good := lw_good_t (i := 370) (by decide +kernel) (by decide +kernel)
theorem lay3_5 : u_lay RX3 TX3 5 ∈ lw_good := lw_good_t (i := 372) (by decide +kernel) (by decide +kernel)
theorem lay3_6 : u_lay RX3 TX3 6 ∈ lw_good := lw_good_t (i := 374) (by decide +kernel) (by decide +kernel)
theorem lay3_7 : u_lay RX3 TX3 7 ∈ lw_good := lw_good_t (i := 376) (by decide +kernel) (by decide +kernel)
theorem inG3 : ∀ w ∈ u_ws RX3 TX3 8, w ∈ lw_good := by
  intro w hw
  obtain ⟨j, hj, rfl⟩ := List.mem_map.mp hw
  have hj := List.mem_range.mp hj
  match j, hj with
  | 0, _ => exact lay3_0
  | 1, _ => exact lay3_1
  | 2, _ => exact lay3_2
  | 3, _ => exact lay3_3
  | 4, _ => exact lay3_4
  | 5, _ => exact lay3_5
  | 6, _ => exact lay3_6
  | 7, _ => exact lay3_7
  | n + 8, h => exact absurd h (by omega)
theorem lay4_0 : u_lay RX4 TX4 0 ∈ lw_good := lw_good_t (i := 225) (by decide +kernel) (by decide +kernel)
theorem lay4_1 : u_lay RX4 TX4 1 ∈ lw_good := lw_good_t (i := 227) (by decide +kernel) (by decide +kernel)
theorem lay4_2 : u_lay RX4 TX4 2 ∈ lw_good := lw_good_t (i := 229) (by decide +kernel) (by decide +kernel)
theorem lay4_3 : u_lay RX4 TX4 3 ∈ lw_good := lw_good_t (i := 231) (by decide +kernel) (by decide +kernel)
theorem lay4_4 : u_lay RX4 TX4 4 ∈ lw_good := lw_good_t (i := 233) (by decide +kernel) (by decide +kernel)
theorem lay4_5 : u_lay RX4 TX4 5 ∈ lw_good := lw_good_t (i := 235) (by decide +kernel) (by decide +kernel)
theorem lay4_6 : u_lay RX4 TX4 6 ∈ lw_good := lw_good_t (i := 237) (by decide +kernel) (by decide +kernel)
theorem lay4_7 : u_lay RX4 TX4 7 ∈ lw_good := lw_good_t (i := 239) (by decide +kernel) (by decide +kernel)
theorem lay4_8 : u_lay RX4 TX4 8 ∈ lw_good := lw_good_t (i := 241) (by decide +kernel) (by decide +kernel)
theorem lay4_9 : u_lay RX4 TX4 9 ∈ lw_good := lw_good_t (i := 243) (by decide +kernel) (by decide +kernel)
theorem inG4 : ∀ w ∈ u_ws RX4 TX4 10, w ∈ lw_good := by
  intro w hw
  obtain ⟨j, hj, rfl⟩ := List.mem_map.mp hw
  have hj := List.mem_range.mp hj
  match j, hj with
  | 0, _ => exact lay4_0
  | 1, _ => exact lay4_1
  | 2, _ => exact lay4_2
  | 3, _ => exact lay4_3
  | 4, _ => exact lay4_4
  | 5, _ => exact lay4_5
  | 6, _ => exact lay4_6
  | 7, _ => exact lay4_7
  | 8, _ => exact lay4_8
  | 9, _ => exact lay4_9
  | n + 10, h => exact absurd h (by omega)
theorem lay5_0 : u_lay RX5 TX5 0 ∈ lw_good := lw_good_t (i := 92) (by decide +kernel) (by decide +kernel)
theorem lay5_1 : u_lay RX5 TX5 1 ∈ lw_good := lw_good_t (i := 94) (by decide +kernel) (by decide +kernel)
theorem lay5_2 : u_lay RX5 TX5 2 ∈ lw_good := lw_good_t (i := 96) (by decide +kernel) (by decide +kernel)
theorem lay5_3 : u_lay RX5 TX5 3 ∈ lw_good := lw_good_t (i := 98) (by decide +kernel) (by decide +kernel)
theorem lay5_4 : u_lay RX5 TX5 4 ∈ lw_good := lw_good_t (i := 100) (by decide +kernel) (by decide +kernel)
theorem lay5_5 : u_lay RX5 TX5 5 ∈ lw_good := lw_good_t (i := 102) (by decide +kernel) (by decide +kernel)
theorem lay5_6 : u_lay RX5 TX5 6 ∈ lw_good := lw_good_t (i := 104) (by decide +kernel) (by decide +kernel)
theorem lay5_7 : u_lay RX5 TX5 7 ∈ lw_good := lw_good_t (i := 106) (by decide +kernel) (by decide +kernel)
theorem lay5_8 : u_lay RX5 TX5 8 ∈ lw_good := lw_good_t (i := 108) (by decide +kernel) (by decide +kernel)
theorem lay5_9 : u_lay RX5 TX5 9 ∈ lw_good := lw_good_t (i := 110) (by decide +kernel) (by decide +kernel)
theorem lay5_10 : u_lay RX5 TX5 10 ∈ lw_good := lw_good_t (i := 112) (by decide +kernel) (by decide +kernel)
theorem lay5_11 : u_lay RX5 TX5 11 ∈ lw_good := lw_good_t (i := 114) (by decide +kernel) (by decide +kernel)
theorem lay5_12 : u_lay RX5 TX5 12 ∈ lw_good := lw_good_t (i := 116) (by decide +kernel) (by decide +kernel)
theorem lay5_13 : u_lay RX5 TX5 13 ∈ lw_good := lw_good_t (i := 118) (by decide +kernel) (by decide +kernel)
theorem lay5_14 : u_lay RX5 TX5 14 ∈ lw_good := lw_good_t (i := 120) (by decide +kernel) (by decide +kernel)
theorem lay5_15 : u_lay RX5 TX5 15 ∈ lw_good := lw_good_t (i := 122) (by decide +kernel) (by decide +kernel)
theorem lay5_16 : u_lay RX5 TX5 16 ∈ lw_good := lw_good_t (i := 124) (by decide +kernel) (by decide +kernel)
theorem inG5 : ∀ w ∈ u_ws RX5 TX5 17, w ∈ lw_good := by
  intro w hw
  obtain ⟨j, hj, rfl⟩ := List.mem_map.mp hw
  have hj := List.mem_range.mp hj
  match j, hj with
  | 0, _ => exact lay5_0
  | 1, _ => exact lay5_1
  | 2, _ => exact lay5_2
  | 3, _ => exact lay5_3
  | 4, _ => exact lay5_4
  | 5, _ => exact lay5_5
  | 6, _ => exact lay5_6
  | 7, _ => exact lay5_7
  | 8, _ => exact lay5_8
  | 9, _ => exact lay5_9
  | 10, _ => exact lay5_10
  | 11, _ => exact lay5_11
  | 12, _ => exact lay5_12
  | 13, _ => exact lay5_13
  | 14, _ => exact lay5_14
  | 15, _ => exact lay5_15
  | 16, _ => exact lay5_16
  | n + 17, h => exact absurd h (by omega)
theorem lay6_0 : u_lay RX6 TX6 0 ∈ lw_good := lw_good_t (i := 278) (by decide +kernel) (by decide +kernel)
theorem lay6_1 : u_lay RX6 TX6 1 ∈ lw_good := lw_good_t (i := 280) (by decide +kernel) (by decide +kernel)
theorem lay6_2 : u_lay RX6 TX6 2 ∈ lw_good := lw_good_t (i := 282) (by decide +kernel) (by decide +kernel)
theorem lay6_3 : u_lay RX6 TX6 3 ∈ lw_good := lw_good_t (i := 284) (by decide +kernel) (by decide +kernel)
theorem lay6_4 : u_lay RX6 TX6 4 ∈ lw_good := lw_good_t (i := 286) (by decide +kernel) (by decide +kernel)
theorem lay6_5 : u_lay RX6 TX6 5 ∈ lw_good := lw_good_t (i := 288) (by decide +kernel) (by decide +kernel)
theorem lay6_6 : u_lay RX6 TX6 6 ∈ lw_good := lw_good_t (i := 290) (by decide +kernel) (by decide +kernel)
theorem lay6_7 : u_lay RX6 TX6 7 ∈ lw_good := lw_good_t (i := 292) (by decide +kernel) (by decide +kernel)
theorem inG6 : ∀ w ∈ u_ws RX6 TX6 8, w ∈ lw_good := by
  intro w hw
  obtain ⟨j, hj, rfl⟩ := List.mem_map.mp hw
  have hj := List.mem_range.mp hj
  match j, hj with
  | 0, _ => exact lay6_0
  | 1, _ => exact lay6_1
  | 2, _ => exact lay6_2
  | 3, _ => exact lay6_3
  | 4, _ => exact lay6_4
  | 5, _ => exact lay6_5
  | 6, _ => exact lay6_6
  | 7, _ => exact lay6_7
  | n + 8, h => exact absurd h (by omega)
theorem lay7_0 : u_lay RX7 TX7 0 ∈ lw_good := lw_good_t (i := 166) (by decide +kernel) (by decide +kernel)
theorem lay7_1 : u_lay RX7 TX7 1 ∈ lw_good := lw_good_t (i := 168) (by decide +kernel) (by decide +kernel)
theorem lay7_2 : u_lay RX7 TX7 2 ∈ lw_good := lw_good_t (i := 170) (by decide +kernel) (by decide +kernel)
theorem lay7_3 : u_lay RX7 TX7 3 ∈ lw_good := lw_good_t (i := 172) (by decide +kernel) (by decide +kernel)
theorem lay7_4 : u_lay RX7 TX7 4 ∈ lw_good := lw_good_t (i := 174) (by decide +kernel) (by decide +kernel)
theorem lay7_5 : u_lay RX7 TX7 5 ∈ lw_good := lw_good_t (i := 176) (by decide +kernel) (by decide +kernel)
theorem lay7_6 : u_lay RX7 TX7 6 ∈ lw_good := lw_good_t (i := 178) (by decide +kernel) (by decide +kernel)
theorem lay7_7 : u_lay RX7 TX7 7 ∈ lw_good := lw_good_t (i := 180) (by decide +kernel) (by decide +kernel)
theorem inG7 : ∀ w ∈ u_ws RX7 TX7 8, w ∈ lw_good := by
  intro w hw
  obtain ⟨j, hj, rfl⟩ := List.mem_map.mp hw
  have hj := List.mem_range.mp hj
  match j, hj with
  | 0, _ => exact lay7_0
  | 1, _ => exact lay7_1
  | 2, _ => exact lay7_2
  | 3, _ => exact lay7_3
  | 4, _ => exact lay7_4
  | 5, _ => exact lay7_5
  | 6, _ => exact lay7_6
  | 7, _ => exact lay7_7
  | n + 8, h => exact absurd h (by omega)
theorem lay8_0 : u_lay RX8 TX8 0 ∈ lw_good := lw_good_t (i := 391) (by decide +kernel) (by decide +kernel)
theorem lay8_1 : u_lay RX8 TX8 1 ∈ lw_good := lw_good_t (i := 393) (by decide +kernel) (by decide +kernel)
theorem lay8_2 : u_lay RX8 TX8 2 ∈ lw_good := lw_good_t (i := 395) (by decide +kernel) (by decide +kernel)
theorem lay8_3 : u_lay RX8 TX8 3 ∈ lw_good := lw_good_t (i := 397) (by decide +kernel) (by decide +kernel)
theorem inG8 : ∀ w ∈ u_ws RX8 TX8 4, w ∈ lw_good := by
  intro w hw
  obtain ⟨j, hj, rfl⟩ := List.mem_map.mp hw
  have hj := List.mem_range.mp hj
  match j, hj with
  | 0, _ => exact lay8_0
  | 1, _ => exact lay8_1
  | 2, _ => exact lay8_2
  | 3, _ => exact lay8_3
  | n + 4, h => exact absurd h (by omega)
theorem lay9_0 : u_lay RX9 TX9 0 ∈ lw_good := lw_good_t (i := 337) (by decide +kernel) (by decide +kernel)
theorem lay9_1 : u_lay RX9 TX9 1 ∈ lw_good := lw_good_t (i := 339) (by decide +kernel) (by decide +kernel)
theorem lay9_2 : u_lay RX9 TX9 2 ∈ lw_good := lw_good_t (i := 341) (by decide +kernel) (by decide +kernel)
theorem lay9_3 : u_lay RX9 TX9 3 ∈ lw_good := lw_good_t (i := 343) (by decide +kernel) (by decide +kernel)
theorem inG9 : ∀ w ∈ u_ws RX9 TX9 4, w ∈ lw_good := by
  intro w hw
  obtain ⟨j, hj, rfl⟩ := List.mem_map.mp hw
  have hj := List.mem_range.mp hj
  match j, hj with
  | 0, _ => exact lay9_0
  | 1, _ => exact lay9_1
  | 2, _ => exact lay9_2
  | 3, _ => exact lay9_3
  | n + 4, h => exact absurd h (by omega)
theorem lay10_0 : u_lay RX10 TX10 0 ∈ lw_good := lw_good_t (i := 193) (by decide +kernel) (by decide +kernel)
theorem lay10_1 : u_lay RX10 TX10 1 ∈ lw_good := lw_good_t (i := 195) (by decide +kernel) (by decide +kernel)
theorem lay10_2 : u_lay RX10 TX10 2 ∈ lw_good := lw_good_t (i := 197) (by decide +kernel) (by decide +kernel)
theorem lay10_3 : u_lay RX10 TX10 3 ∈ lw_good := lw_good_t (i := 199) (by decide +kernel) (by decide +kernel)
theorem lay10_4 : u_lay RX10 TX10 4 ∈ lw_good := lw_good_t (i := 201) (by decide +kernel) (by decide +kernel)
theorem inG10 : ∀ w ∈ u_ws RX10 TX10 5, w ∈ lw_good := by
  intro w hw
  obtain ⟨j, hj, rfl⟩ := List.mem_map.mp hw
  have hj := List.mem_range.mp hj
  match j, hj with
  | 0, _ => exact lay10_0
  | 1, _ => exact lay10_1
  | 2, _ => exact lay10_2
  | 3, _ => exact lay10_3
  | 4, _ => exact lay10_4
  | n + 5, h => exact absurd h (by omega)
theorem lay11_0 : u_lay RX11 TX11 0 ∈ lw_good := lw_good_t (i := 415) (by decide +kernel) (by decide +kernel)
theorem lay11_1 : u_lay RX11 TX11 1 ∈ lw_good := lw_good_t (i := 417) (by decide +kernel) (by decide +kernel)
theorem lay11_2 : u_lay RX11 TX11 2 ∈ lw_good := lw_good_t (i := 419) (by decide +kernel) (by decide +kernel)
theorem lay11_3 : u_lay RX11 TX11 3 ∈ lw_good := lw_good_t (i := 421) (by decide +kernel) (by decide +kernel)
theorem lay11_4 : u_lay RX11 TX11 4 ∈ lw_good := lw_good_t (i := 423) (by decide +kernel) (by decide +kernel)
theorem lay11_5 : u_lay RX11 TX11 5 ∈ lw_good := lw_good_t (i := 425) (by decide +kernel) (by decide +kernel)
theorem lay11_6 : u_lay RX11 TX11 6 ∈ lw_good := lw_good_t (i := 427) (by decide +kernel) (by decide +kernel)
theorem lay11_7 : u_lay RX11 TX11 7 ∈ lw_good := lw_good_t (i := 429) (by decide +kernel) (by decide +kernel)
theorem lay11_8 : u_lay RX11 TX11 8 ∈ lw_good := lw_good_t (i := 431) (by decide +kernel) (by decide +kernel)
theorem lay11_9 : u_lay RX11 TX11 9 ∈ lw_good := lw_good_t (i := 433) (by decide +kernel) (by decide +kernel)
theorem lay11_10 : u_lay RX11 TX11 10 ∈ lw_good := lw_good_t (i := 435) (by decide +kernel) (by decide +kernel)
theorem lay11_11 : u_lay RX11 TX11 11 ∈ lw_good := lw_good_t (i := 437) (by decide +kernel) (by decide +kernel)
theorem inG11 : ∀ w ∈ u_ws RX11 TX11 12, w ∈ lw_good := by
  intro w hw
  obtain ⟨j, hj, rfl⟩ := List.mem_map.mp hw
  have hj := List.mem_range.mp hj
  match j, hj with
  | 0, _ => exact lay11_0
  | 1, _ => exact lay11_1
  | 2, _ => exact lay11_2
  | 3, _ => exact lay11_3
  | 4, _ => exact lay11_4
  | 5, _ => exact lay11_5
  | 6, _ => exact lay11_6
  | 7, _ => exact lay11_7
  | 8, _ => exact lay11_8
  | 9, _ => exact lay11_9
  | 10, _ => exact lay11_10
  | 11, _ => exact lay11_11
  | n + 12, h => exact absurd h (by omega)
theorem lay12_0 : u_lay RX12 TX12 0 ∈ lw_good := lw_good_t (i := 1089) (by decide +kernel) (by decide +kernel)
theorem lay12_1 : u_lay RX12 TX12 1 ∈ lw_good := lw_good_t (i := 1091) (by decide +kernel) (by decide +kernel)
theorem lay12_2 : u_lay RX12 TX12 2 ∈ lw_good := lw_good_t (i := 1093) (by decide +kernel) (by decide +kernel)
theorem lay12_3 : u_lay RX12 TX12 3 ∈ lw_good := lw_good_t (i := 1095) (by decide +kernel) (by decide +kernel)
theorem lay12_4 : u_lay RX12 TX12 4 ∈ lw_good := lw_good_t (i := 1097) (by decide +kernel) (by decide +kernel)
theorem lay12_5 : u_lay RX12 TX12 5 ∈ lw_good := lw_good_t (i := 1099) (by decide +kernel) (by decide +kernel)
theorem lay12_6 : u_lay RX12 TX12 6 ∈ lw_good := lw_good_t (i := 1101) (by decide +kernel) (by decide +kernel)
theorem lay12_7 : u_lay RX12 TX12 7 ∈ lw_good := lw_good_t (i := 1103) (by decide +kernel) (by decide +kernel)
theorem lay12_8 : u_lay RX12 TX12 8 ∈ lw_good := lw_good_t (i := 1105) (by decide +kernel) (by decide +kernel)
theorem lay12_9 : u_lay RX12 TX12 9 ∈ lw_good := lw_good_t (i := 1107) (by decide +kernel) (by decide +kernel)
theorem lay12_10 : u_lay RX12 TX12 10 ∈ lw_good := lw_good_t (i := 1109) (by decide +kernel) (by decide +kernel)
theorem lay12_11 : u_lay RX12 TX12 11 ∈ lw_good := lw_good_t (i := 1111) (by decide +kernel) (by decide +kernel)
theorem lay12_12 : u_lay RX12 TX12 12 ∈ lw_good := lw_good_t (i := 1113) (by decide +kernel) (by decide +kernel)
theorem lay12_13 : u_lay RX12 TX12 13 ∈ lw_good := lw_good_t (i := 1115) (by decide +kernel) (by decide +kernel)
theorem lay12_14 : u_lay RX12 TX12 14 ∈ lw_good := lw_good_t (i := 1117) (by decide +kernel) (by decide +kernel)
theorem lay12_15 : u_lay RX12 TX12 15 ∈ lw_good := lw_good_t (i := 1119) (by decide +kernel) (by decide +kernel)
theorem lay12_16 : u_lay RX12 TX12 16 ∈ lw_good := lw_good_t (i := 1121) (by decide +kernel) (by decide +kernel)
theorem lay12_17 : u_lay RX12 TX12 17 ∈ lw_good := lw_good_t (i := 1123) (by decide +kernel) (by decide +kernel)
theorem lay12_18 : u_lay RX12 TX12 18 ∈ lw_good := lw_good_t (i := 1125) (by decide +kernel) (by decide +kernel)
theorem lay12_19 : u_lay RX12 TX12 19 ∈ lw_good := lw_good_t (i := 1127) (by decide +kernel) (by decide +kernel)
theorem lay12_20 : u_lay RX12 TX12 20 ∈ lw_good := lw_good_t (i := 1129) (by decide +kernel) (by decide +kernel)
theorem lay12_21 : u_lay RX12 TX12 21 ∈ lw_good := lw_good_t (i := 1131) (by decide +kernel) (by decide +kernel)
theorem lay12_22 : u_lay RX12 TX12 22 ∈ lw_good := lw_good_t (i := 1133) (by decide +kernel) (by decide +kernel)
theorem lay12_23 : u_lay RX12 TX12 23 ∈ lw_good := lw_good_t (i := 1135) (by decide +kernel) (by decide +kernel)
theorem lay12_24 : u_lay RX12 TX12 24 ∈ lw_good := lw_good_t (i := 1137) (by decide +kernel) (by decide +kernel)
theorem lay12_25 : u_lay RX12 TX12 25 ∈ lw_good := lw_good_t (i := 1139) (by decide +kernel) (by decide +kernel)
theorem lay12_26 : u_lay RX12 TX12 26 ∈ lw_good := lw_good_t (i := 1141) (by decide +kernel) (by decide +kernel)
theorem lay12_27 : u_lay RX12 TX12 27 ∈ lw_good := lw_good_t (i := 1143) (by decide +kernel) (by decide +kernel)
theorem lay12_28 : u_lay RX12 TX12 28 ∈ lw_good := lw_good_t (i := 1145) (by decide +kernel) (by decide +kernel)
theorem lay12_29 : u_lay RX12 TX12 29 ∈ lw_good := lw_good_t (i := 1147) (by decide +kernel) (by decide +kernel)
theorem lay12_30 : u_lay RX12 TX12 30 ∈ lw_good := lw_good_t (i := 1149) (by decide +kernel) (by decide +kernel)
theorem lay12_31 : u_lay RX12 TX12 31 ∈ lw_good := lw_good_t (i := 1151) (by decide +kernel) (by decide +kernel)
theorem lay12_32 : u_lay RX12 TX12 32 ∈ lw_good := lw_good_t (i := 1153) (by decide +kernel) (by decide +kernel)
theorem lay12_33 : u_lay RX12 TX12 33 ∈ lw_good := lw_good_t (i := 1155) (by decide +kernel) (by decide +kernel)
theorem lay12_34 : u_lay RX12 TX12 34 ∈ lw_good := lw_good_t (i := 1157) (by decide +kernel) (by decide +kernel)
theorem lay12_35 : u_lay RX12 TX12 35 ∈ lw_good := lw_good_t (i := 1159) (by decide +kernel) (by decide +kernel)
theorem lay12_36 : u_lay RX12 TX12 36 ∈ lw_good := lw_good_t (i := 1161) (by decide +kernel) (by decide +kernel)
theorem lay12_37 : u_lay RX12 TX12 37 ∈ lw_good := lw_good_t (i := 1163) (by decide +kernel) (by decide +kernel)
theorem lay12_38 : u_lay RX12 TX12 38 ∈ lw_good := lw_good_t (i := 1165) (by decide +kernel) (by decide +kernel)
theorem lay12_39 : u_lay RX12 TX12 39 ∈ lw_good := lw_good_t (i := 1167) (by decide +kernel) (by decide +kernel)
theorem lay12_40 : u_lay RX12 TX12 40 ∈ lw_good := lw_good_t (i := 1169) (by decide +kernel) (by decide +kernel)
theorem lay12_41 : u_lay RX12 TX12 41 ∈ lw_good := lw_good_t (i := 1171) (by decide +kernel) (by decide +kernel)
theorem lay12_42 : u_lay RX12 TX12 42 ∈ lw_good := lw_good_t (i := 1173) (by decide +kernel) (by decide +kernel)
theorem inG12 : ∀ w ∈ u_ws RX12 TX12 43, w ∈ lw_good := by
  intro w hw
  obtain ⟨j, hj, rfl⟩ := List.mem_map.mp hw
  have hj := List.mem_range.mp hj
  match j, hj with
  | 0, _ => exact lay12_0
  | 1, _ => exact lay12_1
  | 2, _ => exact lay12_2
  | 3, _ => exact lay12_3
  | 4, _ => exact lay12_4
  | 5, _ => exact lay12_5
  | 6, _ => exact lay12_6
  | 7, _ => exact lay12_7
  | 8, _ => exact lay12_8
  | 9, _ => exact lay12_9
  | 10, _ => exact lay12_10
  | 11, _ => exact lay12_11
  | 12, _ => exact lay12_12
  | 13, _ => exact lay12_13
  | 14, _ => exact lay12_14
  | 15, _ => exact lay12_15
  | 16, _ => exact lay12_16
  | 17, _ => exact lay12_17
  | 18, _ => exact lay12_18
  | 19, _ => exact lay12_19
  | 20, _ => exact lay12_20
  | 21, _ => exact lay12_21
  | 22, _ => exact lay12_22
  | 23, _ => exact lay12_23
  | 24, _ => exact lay12_24
  | 25, _ => exact lay12_25
  | 26, _ => exact lay12_26
  | 27, _ => exact lay12_27
  | 28, _ => exact lay12_28
  | 29, _ => exact lay12_29
  | 30, _ => exact lay12_30
  | 31, _ => exact lay12_31
  | 32, _ => exact lay12_32
  | 33, _ => exact lay12_33
  | 34, _ => exact lay12_34
  | 35, _ => exact lay12_35
  | 36, _ => exact lay12_36
  | 37, _ => exact lay12_37
  | 38, _ => exact lay12_38
  | 39, _ => exact lay12_39
  | 40, _ => exact lay12_40
  | 41, _ => exact lay12_41
  | 42, _ => exact lay12_42
  | n + 43, h => exact absurd h (by omega)
theorem fl5_46 : FLk RX5 46 5 17 0 .int false := ⟨RX5, TX5, rfl, inG5, tyX5_ok, nmX5, by decide, by decide, rfl, rfl, Or.inl (lw_good_t (i := 41) (by decide +kernel) rfl)⟩
theorem fl1_22 : FLk RX1 22 5 17 0 .int false := ⟨RX5, TX5, rfl, inG5, tyX5_ok, nmX5, by decide, by decide, rfl, rfl, Or.inr ⟨"SeaWithStairs", lw_nest_t (i := 42) (by decide +kernel) rfl⟩⟩
theorem fl11_90 : FLk RX11 90 5 17 0 .int false := ⟨RX5, TX5, rfl, inG5, tyX5_ok, nmX5, by decide, by decide, rfl, rfl, Or.inr ⟨"SeaWithStairs", lw_nest_t (i := 43) (by decide +kernel) rfl⟩⟩
theorem fl2_85 : FLk RX2 85 5 17 0 .int false := ⟨RX5, TX5, rfl, inG5, tyX5_ok, nmX5, by decide, by decide, rfl, rfl, Or.inr ⟨"SeaWithStairs", lw_nest_t (i := 44) (by decide +kernel) rfl⟩⟩
theorem fl5_9 : FLk RX5 9 5 17 1 (tyX5 1) true := ⟨RX5, TX5, rfl, inG5, tyX5_ok, nmX5, by decide, by decide, rfl, rfl, Or.inl (lw_good_t (i := 45) (by decide +kernel) rfl)⟩
theorem flF5_9 : FLkF RX5 9 5 17 1 (tyX5 1) := ⟨fl5_9, RX5, TX5, rfl, lw_good_t (i := 45) (by decide +kernel) rfl, rfl⟩
theorem fl2_48 : FLk RX2 48 5 17 1 (tyX5 1) true := ⟨RX5, TX5, rfl, inG5, tyX5_ok, nmX5, by decide, by decide, rfl, rfl, Or.inr ⟨"SeaWithStairs", lw_nest_t (i := 46) (by decide +kernel) rfl⟩⟩
theorem fl11_197 : FLk RX11 197 5 17 1 (tyX5 1) true := ⟨RX5, TX5, rfl, inG5, tyX5_ok, nmX5, by decide, by decide, rfl, rfl, Or.inr ⟨"SeaWithStairs", lw_nest_t (i := 47) (by decide +kernel) rfl⟩⟩
theorem fl5_15 : FLk RX5 15 5 17 2 (tyX5 2) true := ⟨RX5, TX5, rfl, inG5, tyX5_ok, nmX5, by decide, by decide, rfl, rfl, Or.inl (lw_good_t (i := 48) (by decide +kernel) rfl)⟩
theorem flF5_15 : FLkF RX5 15 5 17 2 (tyX5 2) := ⟨fl5_15, RX5, TX5, rfl, lw_good_t (i := 48) (by decide +kernel) rfl, rfl⟩
theorem fl2_37 : FLk RX2 37 5 17 2 (tyX5 2) true := ⟨RX5, TX5, rfl, inG5, tyX5_ok, nmX5, by decide, by decide, rfl, rfl, Or.inr ⟨"SeaWithStairs", lw_nest_t (i := 49) (by decide +kernel) rfl⟩⟩
theorem fl11_165 : FLk RX11 165 5 17 2 (tyX5 2) true := ⟨RX5, TX5, rfl, inG5, tyX5_ok, nmX5, by decide, by decide, rfl, rfl, Or.inr ⟨"SeaWithStairs", lw_nest_t (i := 50) (by decide +kernel) rfl⟩⟩
theorem fl5_18 : FLk RX5 18 5 17 3 (tyX5 3) true := ⟨RX5, TX5, rfl, inG5, tyX5_ok, nmX5, by decide, by decide, rfl, rfl, Or.inl (lw_good_t (i := 51) (by decide +kernel) rfl)⟩
theorem flF5_18 : FLkF RX5 18 5 17 3 (tyX5 3) := ⟨fl5_18, RX5, TX5, rfl, lw_good_t (i := 51) (by decide +kernel) rfl, rfl⟩
theorem fl1_83 : FLk RX1 83 5 17 3 (tyX5 3) true := ⟨RX5, TX5, rfl, inG5, tyX5_ok, nmX5, by decide, by decide, rfl, rfl, Or.inr ⟨"SeaWithStairs", lw_nest_t (i := 52) (by decide +kernel) rfl⟩⟩
theorem fl2_51 : FLk RX2 51 5 17 3 (tyX5 3) true := ⟨RX5, TX5, rfl, inG5, tyX5_ok, nmX5, by decide, by decide, rfl, rfl, Or.inr ⟨"SeaWithStairs", lw_nest_t (i := 53) (by decide +kernel) rfl⟩⟩
theorem fl11_161 : FLk RX11 161 5 17 3 (tyX5 3) true := ⟨RX5, TX5, rfl, inG5, tyX5_ok, nmX5, by decide, by decide, rfl, rfl, Or.inr ⟨"SeaWithStairs", lw_nest_t (i := 54) (by decide +kernel) rfl⟩⟩
theorem fl5_21 : FLk RX5 21 5 17 4 (tyX5 4) true := ⟨RX5, TX5, rfl, inG5, tyX5_ok, nmX5, by decide, by decide, rfl, rfl, Or.inl (lw_good_t (i := 55) (by decide +kernel) rfl)⟩
theorem flF5_21 : FLkF RX5 21 5 17 4 (tyX5 4) := ⟨fl5_21, RX5, TX5, rfl, lw_good_t (i := 55) (by decide +kernel) rfl, rfl⟩
theorem fl1_90 : FLk RX1 90 5 17 4 (tyX5 4) true := ⟨RX5, TX5, rfl, inG5, tyX5_ok, nmX5, by decide, by decide, rfl, rfl, Or.inr ⟨"SeaWithStairs", lw_nest_t (i := 56) (by decide +kernel) rfl⟩⟩
theorem fl2_92 : FLk RX2 92 5 17 4 (tyX5 4) true := ⟨RX5, TX5, rfl, inG5, tyX5_ok, nmX5, by decide, by decide, rfl, rfl, Or.inr ⟨"SeaWithStairs", lw_nest_t (i := 57) (by decide +kernel) rfl⟩⟩
theorem fl11_200 : FLk RX11 200 5 17 4 (tyX5 4) true := ⟨RX5, TX5, rfl, inG5, tyX5_ok, nmX5, by decide, by decide, rfl, rfl, Or.inr ⟨"SeaWithStairs", lw_nest_t (i := 58) (by decide +kernel) rfl⟩⟩
theorem fl5_24 : FLk RX5 24 5 17 5 (tyX5 5) true := ⟨RX5, TX5, rfl, inG5, tyX5_ok, nmX5, by decide, by decide, rfl, rfl, Or.inl (lw_good_t (i := 59) (by decide +kernel) rfl)⟩
theorem flF5_24 : FLkF RX5 24 5 17 5 (tyX5 5) := ⟨fl5_24, RX5, TX5, rfl, lw_good_t (i := 59) (by decide +kernel) rfl, rfl⟩
theorem fl1_28 : FLk RX1 28 5 17 5 (tyX5 5) true := ⟨RX5, TX5, rfl, inG5, tyX5_ok, nmX5, by decide, by decide, rfl, rfl, Or.inr ⟨"SeaWithStairs", lw_nest_t (i := 60) (by decide +kernel) rfl⟩⟩
theorem fl2_95 : FLk RX2 95 5 17 5 (tyX5 5) true := ⟨RX5, TX5, rfl, inG5, tyX5_ok, nmX5, by decide, by decide, rfl, rfl, Or.inr ⟨"SeaWithStairs", lw_nest_t (i := 61) (by decide +kernel) rfl⟩⟩
theorem fl11_171 : FLk RX11 171 5 17 5 (tyX5 5) true := ⟨RX5, TX5, rfl, inG5, tyX5_ok, nmX5, by decide, by decide, rfl, rfl, Or.inr ⟨"SeaWithStairs", lw_nest_t (i := 62) (by decide +kernel) rfl⟩⟩
theorem fl5_49 : FLk RX5 49 5 17 6 .int false := ⟨RX5, TX5, rfl, inG5, tyX5_ok, nmX5, by decide, by decide, rfl, rfl, Or.inl (lw_good_t (i := 63) (by decide +kernel) rfl)⟩
theorem fl11_105 : FLk RX11 105 5 17 6 .int false := ⟨RX5, TX5, rfl, inG5, tyX5_ok, nmX5, by decide, by decide, rfl, rfl, Or.inr ⟨"SeaWithStairs", lw_nest_t (i := 64) (by decide +kernel) rfl⟩⟩
theorem fl5_27 : FLk RX5 27 5 17 7 (tyX5 7) true := ⟨RX5, TX5, rfl, inG5, tyX5_ok, nmX5, by decide, by decide, rfl, rfl, Or.inl (lw_good_t (i := 65) (by decide +kernel) rfl)⟩
theorem flF5_27 : FLkF RX5 27 5 17 7 (tyX5 7) := ⟨fl5_27, RX5, TX5, rfl, lw_good_t (i := 65) (by decide +kernel) rfl, rfl⟩
theorem fl3_41 : FLk RX3 41 5 17 7 (tyX5 7) true := ⟨RX5, TX5, rfl, inG5, tyX5_ok, nmX5, by decide, by decide, rfl, rfl, Or.inr ⟨"SeaWithStairs", lw_nest_t (i := 66) (by decide +kernel) rfl⟩⟩
theorem fl1_55 : FLk RX1 55 5 17 7 (tyX5 7) true := ⟨RX5, TX5, rfl, inG5, tyX5_ok, nmX5, by decide, by decide, rfl, rfl, Or.inr ⟨"SeaWithStairs", lw_nest_t (i := 67) (by decide +kernel) rfl⟩⟩
theorem fl11_210 : FLk RX11 210 5 17 7 (tyX5 7) true := ⟨RX5, TX5, rfl, inG5, tyX5_ok, nmX5, by decide, by decide, rfl, rfl, Or.inr ⟨"SeaWithStairs", lw_nest_t (i := 68) (by decide +kernel) rfl⟩⟩
theorem fl5_30 : FLk RX5 30 5 17 8 (tyX5 8) true := ⟨RX5, TX5, rfl, inG5, tyX5_ok, nmX5, by decide, by decide, rfl, rfl, Or.inl (lw_good_t (i := 69) (by decide +kernel) rfl)⟩
theorem flF5_30 : FLkF RX5 30 5 17 8 (tyX5 8) := ⟨fl5_30, RX5, TX5, rfl, lw_good_t (i := 69) (by decide +kernel) rfl, rfl⟩
theorem fl11_213 : FLk RX11 213 5 17 8 (tyX5 8) true := ⟨RX5, TX5, rfl, inG5, tyX5_ok, nmX5, by decide, by decide, rfl, rfl, Or.inr ⟨"SeaWithStairs", lw_nest_t (i := 70) (by decide +kernel) rfl⟩⟩
theorem fl5_33 : FLk RX5 33 5 17 9 (tyX5 9) true := ⟨RX5, TX5, rfl, inG5, tyX5_ok, nmX5, by decide, by decide, rfl, rfl, Or.inl (lw_good_t (i := 71) (by decide +kernel) rfl)⟩
theorem flF5_33 : FLkF RX5 33 5 17 9 (tyX5 9) := ⟨fl5_33, RX5, TX5, rfl, lw_good_t (i := 71) (by decide +kernel) rfl, rfl⟩
theorem fl11_177 : FLk RX11 177 5 17 9 (tyX5 9) true := ⟨RX5, TX5, rfl, inG5, tyX5_ok, nmX5, by decide, by decide, rfl, rfl, Or.inr ⟨"SeaWithStairs", lw_nest_t (i := 72) (by decide +kernel) rfl⟩⟩
theorem fl5_36 : FLk RX5 36 5 17 10 (tyX5 10) true := ⟨RX5, TX5, rfl, inG5, tyX5_ok, nmX5, by decide, by decide, rfl, rfl, Or.inl (lw_good_t (i := 73) (by decide +kernel) rfl)⟩
theorem flF5_36 : FLkF RX5 36 5 17 10 (tyX5 10) := ⟨fl5_36, RX5, TX5, rfl, lw_good_t (i := 73) (by decide +kernel) rfl, rfl⟩
theorem fl11_216 : FLk RX11 216 5 17 10 (tyX5 10) true := ⟨RX5, TX5, rfl, inG5, tyX5_ok, nmX5, by decide, by decide, rfl, rfl, Or.inr ⟨"SeaWithStairs", lw_nest_t (i := 74) (by decide +kernel) rfl⟩⟩
theorem fl9_26 : FLk RX9 26 5 17 11 .int false := ⟨RX5, TX5, rfl, inG5, tyX5_ok, nmX5, by decide, by decide, rfl, rfl, Or.inr ⟨"SeaWithStairs", lw_nest_t (i := 75) (by decide +kernel) rfl⟩⟩
theorem fl1_39 : FLk RX1 39 5 17 11 .int false := ⟨RX5, TX5, rfl, inG5, tyX5_ok, nmX5, by decide, by decide, rfl, rfl, Or.inr ⟨"SeaWithStairs", lw_nest_t (i := 76) (by decide +kernel) rfl⟩⟩
theorem fl5_62 : FLk RX5 62 5 17 11 .int false := ⟨RX5, TX5, rfl, inG5, tyX5_ok, nmX5, by decide, by decide, rfl, rfl, Or.inl (lw_good_t (i := 77) (by decide +kernel) rfl)⟩
theorem fl11_140 : FLk RX11 140 5 17 11 .int false := ⟨RX5, TX5, rfl, inG5, tyX5_ok, nmX5, by decide, by decide, rfl, rfl, Or.inr ⟨"SeaWithStairs", lw_nest_t (i := 78) (by decide +kernel) rfl⟩⟩
theorem fl2_89 : FLk RX2 89 5 17 11 .int false := ⟨RX5, TX5, rfl, inG5, tyX5_ok, nmX5, by decide, by decide, rfl, rfl, Or.inr ⟨"SeaWithStairs", lw_nest_t (i := 79) (by decide +kernel) rfl⟩⟩
theorem fl1_94 : FLk RX1 94 5 17 12 .int false := ⟨RX5, TX5, rfl, inG5, tyX5_ok, nmX5, by decide, by decide, rfl, rfl, Or.inr ⟨"SeaWithStairs", lw_nest_t (i := 80) (by decide +kernel) rfl⟩⟩
theorem fl5_65 : FLk RX5 65 5 17 12 .int false := ⟨RX5, TX5, rfl, inG5, tyX5_ok, nmX5, by decide, by decide, rfl, rfl, Or.inl (lw_good_t (i := 81) (by decide +kernel) rfl)⟩
theorem fl11_219 : FLk RX11 219 5 17 12 .int false := ⟨RX5, TX5, rfl, inG5, tyX5_ok, nmX5, by decide, by decide, rfl, rfl, Or.inr ⟨"SeaWithStairs", lw_nest_t (i := 82) (by decide +kernel) rfl⟩⟩
theorem fl1_97 : FLk RX1 97 5 17 13 .int false := ⟨RX5, TX5, rfl, inG5, tyX5_ok, nmX5, by decide, by decide, rfl, rfl, Or.inr ⟨"SeaWithStairs", lw_nest_t (i := 83) (by decide +kernel) rfl⟩⟩
theorem fl5_68 : FLk RX5 68 5 17 13 .int false := ⟨RX5, TX5, rfl, inG5, tyX5_ok, nmX5, by decide, by decide, rfl, rfl, Or.inl (lw_good_t (i := 84) (by decide +kernel) rfl)⟩
theorem fl11_222 : FLk RX11 222 5 17 13 .int false := ⟨RX5, TX5, rfl, inG5, tyX5_ok, nmX5, by decide, by decide, rfl, rfl, Or.inr ⟨"SeaWithStairs", lw_nest_t (i := 85) (by decide +kernel) rfl⟩⟩
theorem fl5_39 : FLk RX5 39 5 17 14 .int false := ⟨RX5, TX5, rfl, inG5, tyX5_ok, nmX5, by decide, by decide, rfl, rfl, Or.inl (lw_good_t (i := 86) (by decide +kernel) rfl)⟩
theorem fl11_187 : FLk RX11 187 5 17 14 .int false := ⟨RX5, TX5, rfl, inG5, tyX5_ok, nmX5, by decide, by decide, rfl, rfl, Or.inr ⟨"SeaWithStairs", lw_nest_t (i := 87) (by decide +kernel) rfl⟩⟩
theorem fl5_71 : FLk RX5 71 5 17 15 .int false := ⟨RX5, TX5, rfl, inG5, tyX5_ok, nmX5, by decide, by decide, rfl, rfl, Or.inl (lw_good_t (i := 88) (by decide +kernel) rfl)⟩
theorem fl11_225 : FLk RX11 225 5 17 15 .int false := ⟨RX5, TX5, rfl, inG5, tyX5_ok, nmX5, by decide, by decide, rfl, rfl, Or.inr ⟨"SeaWithStairs", lw_nest_t (i := 89) (by decide +kernel) rfl⟩⟩
theorem fl5_43 : FLk RX5 43 5 17 16 (tyX5 16) true := ⟨RX5, TX5, rfl, inG5, tyX5_ok, nmX5, by decide, by decide, rfl, rfl, Or.inl (lw_good_t (i := 90) (by decide +kernel) rfl)⟩
theorem flF5_43 : FLkF RX5 43 5 17 16 (tyX5 16) := ⟨fl5_43, RX5, TX5, rfl, lw_good_t (i := 90) (by decide +kernel) rfl, rfl⟩
theorem fl11_228 : FLk RX11 228 5 17 16 (tyX5 16) true := ⟨RX5, TX5, rfl, inG5, tyX5_ok, nmX5, by decide, by decide, rfl, rfl, Or.inr ⟨"SeaWithStairs", lw_nest_t (i := 91) (by decide +kernel) rfl⟩⟩
theorem fl0_11 : FLk RX0 11 0 3 0 (tyX0 0) true := ⟨RX0, TX0, rfl, inG0, tyX0_ok, nmX0, by decide, by decide, rfl, rfl, Or.inl (lw_good_t (i := 137) (by decide +kernel) rfl)⟩
theorem flF0_11 : FLkF RX0 11 0 3 0 (tyX0 0) := ⟨fl0_11, RX0, TX0, rfl, lw_good_t (i := 137) (by decide +kernel) rfl, rfl⟩
theorem fl0_18 : FLk RX0 18 0 3 1 .int false := ⟨RX0, TX0, rfl, inG0, tyX0_ok, nmX0, by decide, by decide, rfl, rfl, Or.inl (lw_good_t (i := 138) (by decide +kernel) rfl)⟩
theorem fl0_26 : FLk RX0 26 0 3 2 .int false := ⟨RX0, TX0, rfl, inG0, tyX0_ok, nmX0, by decide, by decide, rfl, rfl, Or.inl (lw_good_t (i := 139) (by decide +kernel) rfl)⟩
theorem fl11_344 : FLk RX11 344 0 3 2 .int false := ⟨RX0, TX0, rfl, inG0, tyX0_ok, nmX0, by decide, by decide, rfl, rfl, Or.inr ⟨"SeaWithStairs", lw_nest_t (i := 140) (by decide +kernel) rfl⟩⟩
theorem fl7_27 : FLk RX7 27 7 8 0 .int false := ⟨RX7, TX7, rfl, inG7, tyX7_ok, nmX7, by decide, by decide, rfl, rfl, Or.inl (lw_good_t (i := 154) (by decide +kernel) rfl)⟩
theorem fl11_290 : FLk RX11 290 7 8 0 .int false := ⟨RX7, TX7, rfl, inG7, tyX7_ok, nmX7, by decide, by decide, rfl, rfl, Or.inr ⟨"SeaWithStairs", lw_nest_t (i := 155) (by decide +kernel) rfl⟩⟩
theorem fl7_9 : FLk RX7 9 7 8 1 (tyX7 1) true := ⟨RX7, TX7, rfl, inG7, tyX7_ok, nmX7, by decide, by decide, rfl, rfl, Or.inl (lw_good_t (i := 156) (by decide +kernel) rfl)⟩
theorem flF7_9 : FLkF RX7 9 7 8 1 (tyX7 1) := ⟨fl7_9, RX7, TX7, rfl, lw_good_t (i := 156) (by decide +kernel) rfl, rfl⟩
theorem fl7_15 : FLk RX7 15 7 8 2 (tyX7 2) true := ⟨RX7, TX7, rfl, inG7, tyX7_ok, nmX7, by decide, by decide, rfl, rfl, Or.inl (lw_good_t (i := 157) (by decide +kernel) rfl)⟩
theorem flF7_15 : FLkF RX7 15 7 8 2 (tyX7 2) := ⟨fl7_15, RX7, TX7, rfl, lw_good_t (i := 157) (by decide +kernel) rfl, rfl⟩
theorem fl7_37 : FLk RX7 37 7 8 3 .int false := ⟨RX7, TX7, rfl, inG7, tyX7_ok, nmX7, by decide, by decide, rfl, rfl, Or.inl (lw_good_t (i := 158) (by decide +kernel) rfl)⟩
theorem fl11_302 : FLk RX11 302 7 8 3 .int false := ⟨RX7, TX7, rfl, inG7, tyX7_ok, nmX7, by decide, by decide, rfl, rfl, Or.inr ⟨"SeaWithStairs", lw_nest_t (i := 159) (by decide +kernel) rfl⟩⟩
theorem fl7_18 : FLk RX7 18 7 8 4 (tyX7 4) true := ⟨RX7, TX7, rfl, inG7, tyX7_ok, nmX7, by decide, by decide, rfl, rfl, Or.inl (lw_good_t (i := 160) (by decide +kernel) rfl)⟩
theorem flF7_18 : FLkF RX7 18 7 8 4 (tyX7 4) := ⟨fl7_18, RX7, TX7, rfl, lw_good_t (i := 160) (by decide +kernel) rfl, rfl⟩
theorem fl11_315 : FLk RX11 315 7 8 4 (tyX7 4) true := ⟨RX7, TX7, rfl, inG7, tyX7_ok, nmX7, by decide, by decide, rfl, rfl, Or.inr ⟨"SeaWithStairs", lw_nest_t (i := 161) (by decide +kernel) rfl⟩⟩
theorem fl7_21 : FLk RX7 21 7 8 5 (tyX7 5) true := ⟨RX7, TX7, rfl, inG7, tyX7_ok, nmX7, by decide, by decide, rfl, rfl, Or.inl (lw_good_t (i := 162) (by decide +kernel) rfl)⟩
theorem flF7_21 : FLkF RX7 21 7 8 5 (tyX7 5) := ⟨fl7_21, RX7, TX7, rfl, lw_good_t (i := 162) (by decide +kernel) rfl, rfl⟩
theorem fl7_40 : FLk RX7 40 7 8 6 .int false := ⟨RX7, TX7, rfl, inG7, tyX7_ok, nmX7, by decide, by decide, rfl, rfl, Or.inl (lw_good_t (i := 163) (by decide +kernel) rfl)⟩
theorem fl11_318 : FLk RX11 318 7 8 6 .int false := ⟨RX7, TX7, rfl, inG7, tyX7_ok, nmX7, by decide, by decide, rfl, rfl, Or.inr ⟨"SeaWithStairs", lw_nest_t (i := 164) (by decide +kernel) rfl⟩⟩
theorem fl7_24 : FLk RX7 24 7 8 7 (tyX7 7) true := ⟨RX7, TX7, rfl, inG7, tyX7_ok, nmX7, by decide, by decide, rfl, rfl, Or.inl (lw_good_t (i := 165) (by decide +kernel) rfl)⟩
theorem flF7_24 : FLkF RX7 24 7 8 7 (tyX7 7) := ⟨fl7_24, RX7, TX7, rfl, lw_good_t (i := 165) (by decide +kernel) rfl, rfl⟩
theorem fl10_12 : FLk RX10 12 10 5 0 (tyX10 0) true := ⟨RX10, TX10, rfl, inG10, tyX10_ok, nmX10, by decide, by decide, rfl, rfl, Or.inl (lw_good_t (i := 183) (by decide +kernel) rfl)⟩
theorem flF10_12 : FLkF RX10 12 10 5 0 (tyX10 0) := ⟨fl10_12, RX10, TX10, rfl, lw_good_t (i := 183) (by decide +kernel) rfl, rfl⟩
theorem fl11_19 : FLk RX11 19 10 5 0 (tyX10 0) true := ⟨RX10, TX10, rfl, inG10, tyX10_ok, nmX10, by decide, by decide, rfl, rfl, Or.inr ⟨"SeaWithStairs", lw_nest_t (i := 184) (by decide +kernel) rfl⟩⟩
theorem fl10_21 : FLk RX10 21 10 5 1 (tyX10 1) true := ⟨RX10, TX10, rfl, inG10, tyX10_ok, nmX10, by decide, by decide, rfl, rfl, Or.inl (lw_good_t (i := 185) (by decide +kernel) rfl)⟩
theorem flF10_21 : FLkF RX10 21 10 5 1 (tyX10 1) := ⟨fl10_21, RX10, TX10, rfl, lw_good_t (i := 185) (by decide +kernel) rfl, rfl⟩
theorem fl11_147 : FLk RX11 147 10 5 1 (tyX10 1) true := ⟨RX10, TX10, rfl, inG10, tyX10_ok, nmX10, by decide, by decide, rfl, rfl, Or.inr ⟨"SeaWithStairs", lw_nest_t (i := 186) (by decide +kernel) rfl⟩⟩
theorem fl10_28 : FLk RX10 28 10 5 2 (tyX10 2) true := ⟨RX10, TX10, rfl, inG10, tyX10_ok, nmX10, by decide, by decide, rfl, rfl, Or.inl (lw_good_t (i := 187) (by decide +kernel) rfl)⟩
theorem flF10_28 : FLkF RX10 28 10 5 2 (tyX10 2) := ⟨fl10_28, RX10, TX10, rfl, lw_good_t (i := 187) (by decide +kernel) rfl, rfl⟩
theorem fl11_24 : FLk RX11 24 10 5 2 (tyX10 2) true := ⟨RX10, TX10, rfl, inG10, tyX10_ok, nmX10, by decide, by decide, rfl, rfl, Or.inr ⟨"SeaWithStairs", lw_nest_t (i := 188) (by decide +kernel) rfl⟩⟩
theorem fl10_46 : FLk RX10 46 10 5 3 .int false := ⟨RX10, TX10, rfl, inG10, tyX10_ok, nmX10, by decide, by decide, rfl, rfl, Or.inl (lw_good_t (i := 189) (by decide +kernel) rfl)⟩
theorem fl11_119 : FLk RX11 119 10 5 3 .int false := ⟨RX10, TX10, rfl, inG10, tyX10_ok, nmX10, by decide, by decide, rfl, rfl, Or.inr ⟨"SeaWithStairs", lw_nest_t (i := 190) (by decide +kernel) rfl⟩⟩
theorem fl10_32 : FLk RX10 32 10 5 4 .int false := ⟨RX10, TX10, rfl, inG10, tyX10_ok, nmX10, by decide, by decide, rfl, rfl, Or.inl (lw_good_t (i := 191) (by decide +kernel) rfl)⟩
theorem fl11_134 : FLk RX11 134 10 5 4 .int false := ⟨RX10, TX10, rfl, inG10, tyX10_ok, nmX10, by decide, by decide, rfl, rfl, Or.inr ⟨"SeaWithStairs", lw_nest_t (i := 192) (by decide +kernel) rfl⟩⟩
theorem fl4_9 : FLk RX4 9 4 10 0 (tyX4 0) true := ⟨RX4, TX4, rfl, inG4, tyX4_ok, nmX4, by decide, by decide, rfl, rfl, Or.inl (lw_good_t (i := 212) (by decide +kernel) rfl)⟩
theorem flF4_9 : FLkF RX4 9 4 10 0 (tyX4 0) := ⟨fl4_9, RX4, TX4, rfl, lw_good_t (i := 212) (by decide +kernel) rfl, rfl⟩
theorem fl4_22 : FLk RX4 22 4 10 1 .int false := ⟨RX4, TX4, rfl, inG4, tyX4_ok, nmX4, by decide, by decide, rfl, rfl, Or.inl (lw_good_t (i := 213) (by decide +kernel) rfl)⟩
theorem fl11_112 : FLk RX11 112 4 10 1 .int false := ⟨RX4, TX4, rfl, inG4, tyX4_ok, nmX4, by decide, by decide, rfl, rfl, Or.inr ⟨"SeaWithStairs", lw_nest_t (i := 214) (by decide +kernel) rfl⟩⟩
theorem fl4_15 : FLk RX4 15 4 10 2 .int false := ⟨RX4, TX4, rfl, inG4, tyX4_ok, nmX4, by decide, by decide, rfl, rfl, Or.inl (lw_good_t (i := 215) (by decide +kernel) rfl)⟩
theorem fl11_125 : FLk RX11 125 4 10 2 .int false := ⟨RX4, TX4, rfl, inG4, tyX4_ok, nmX4, by decide, by decide, rfl, rfl, Or.inr ⟨"SeaWithStairs", lw_nest_t (i := 216) (by decide +kernel) rfl⟩⟩
theorem fl4_19 : FLk RX4 19 4 10 3 .int false := ⟨RX4, TX4, rfl, inG4, tyX4_ok, nmX4, by decide, by decide, rfl, rfl, Or.inl (lw_good_t (i := 217) (by decide +kernel) rfl)⟩
theorem fl11_128 : FLk RX11 128 4 10 3 .int false := ⟨RX4, TX4, rfl, inG4, tyX4_ok, nmX4, by decide, by decide, rfl, rfl, Or.inr ⟨"SeaWithStairs", lw_nest_t (i := 218) (by decide +kernel) rfl⟩⟩
theorem fl4_25 : FLk RX4 25 4 10 4 (tyX4 4) false := ⟨RX4, TX4, rfl, inG4, tyX4_ok, nmX4, by decide, by decide, rfl, rfl, Or.inl (lw_good_t (i := 219) (by decide +kernel) rfl)⟩
theorem fl4_34 : FLk RX4 34 4 10 5 .int false := ⟨RX4, TX4, rfl, inG4, tyX4_ok, nmX4, by decide, by decide, rfl, rfl, Or.inl (lw_good_t (i := 220) (by decide +kernel) rfl)⟩
theorem fl4_40 : FLk RX4 40 4 10 6 .int false := ⟨RX4, TX4, rfl, inG4, tyX4_ok, nmX4, by decide, by decide, rfl, rfl, Or.inl (lw_good_t (i := 221) (by decide +kernel) rfl)⟩
theorem fl4_47 : FLk RX4 47 4 10 7 .int false := ⟨RX4, TX4, rfl, inG4, tyX4_ok, nmX4, by decide, by decide, rfl, rfl, Or.inl (lw_good_t (i := 222) (by decide +kernel) rfl)⟩
theorem fl4_95 : FLk RX4 95 4 10 8 .int false := ⟨RX4, TX4, rfl, inG4, tyX4_ok, nmX4, by decide, by decide, rfl, rfl, Or.inl (lw_good_t (i := 223) (by decide +kernel) rfl)⟩
theorem fl4_50 : FLk RX4 50 4 10 9 .int false := ⟨RX4, TX4, rfl, inG4, tyX4_ok, nmX4, by decide, by decide, rfl, rfl, Or.inl (lw_good_t (i := 224) (by decide +kernel) rfl)⟩
theorem fl6_30 : FLk RX6 30 6 8 0 .int false := ⟨RX6, TX6, rfl, inG6, tyX6_ok, nmX6, by decide, by decide, rfl, rfl, Or.inl (lw_good_t (i := 258) (by decide +kernel) rfl)⟩
theorem fl4_64 : FLk RX4 64 6 8 0 .int false := ⟨RX6, TX6, rfl, inG6, tyX6_ok, nmX6, by decide, by decide, rfl, rfl, Or.inr ⟨"SeaWithStairs", lw_nest_t (i := 259) (by decide +kernel) rfl⟩⟩
theorem fl11_180 : FLk RX11 180 6 8 0 .int false := ⟨RX6, TX6, rfl, inG6, tyX6_ok, nmX6, by decide, by decide, rfl, rfl, Or.inr ⟨"SeaWithStairs", lw_nest_t (i := 260) (by decide +kernel) rfl⟩⟩
theorem fl6_9 : FLk RX6 9 6 8 1 (tyX6 1) true := ⟨RX6, TX6, rfl, inG6, tyX6_ok, nmX6, by decide, by decide, rfl, rfl, Or.inl (lw_good_t (i := 261) (by decide +kernel) rfl)⟩
theorem flF6_9 : FLkF RX6 9 6 8 1 (tyX6 1) := ⟨fl6_9, RX6, TX6, rfl, lw_good_t (i := 261) (by decide +kernel) rfl, rfl⟩
theorem fl4_67 : FLk RX4 67 6 8 1 (tyX6 1) true := ⟨RX6, TX6, rfl, inG6, tyX6_ok, nmX6, by decide, by decide, rfl, rfl, Or.inr ⟨"SeaWithStairs", lw_nest_t (i := 262) (by decide +kernel) rfl⟩⟩
theorem fl11_357 : FLk RX11 357 6 8 1 (tyX6 1) true := ⟨RX6, TX6, rfl, inG6, tyX6_ok, nmX6, by decide, by decide, rfl, rfl, Or.inr ⟨"SeaWithStairs", lw_nest_t (i := 263) (by decide +kernel) rfl⟩⟩
theorem fl6_15 : FLk RX6 15 6 8 2 (tyX6 2) true := ⟨RX6, TX6, rfl, inG6, tyX6_ok, nmX6, by decide, by decide, rfl, rfl, Or.inl (lw_good_t (i := 264) (by decide +kernel) rfl)⟩
theorem flF6_15 : FLkF RX6 15 6 8 2 (tyX6 2) := ⟨fl6_15, RX6, TX6, rfl, lw_good_t (i := 264) (by decide +kernel) rfl, rfl⟩
theorem fl4_101 : FLk RX4 101 6 8 2 (tyX6 2) true := ⟨RX6, TX6, rfl, inG6, tyX6_ok, nmX6, by decide, by decide, rfl, rfl, Or.inr ⟨"SeaWithStairs", lw_nest_t (i := 265) (by decide +kernel) rfl⟩⟩
theorem fl6_34 : FLk RX6 34 6 8 3 .int false := ⟨RX6, TX6, rfl, inG6, tyX6_ok, nmX6, by decide, by decide, rfl, rfl, Or.inl (lw_good_t (i := 266) (by decide +kernel) rfl)⟩
theorem fl4_76 : FLk RX4 76 6 8 3 .int false := ⟨RX6, TX6, rfl, inG6, tyX6_ok, nmX6, by decide, by decide, rfl, rfl, Or.inr ⟨"SeaWithStairs", lw_nest_t (i := 267) (by decide +kernel) rfl⟩⟩
theorem fl6_18 : FLk RX6 18 6 8 4 (tyX6 4) true := ⟨RX6, TX6, rfl, inG6, tyX6_ok, nmX6, by decide, by decide, rfl, rfl, Or.inl (lw_good_t (i := 268) (by decide +kernel) rfl)⟩
theorem flF6_18 : FLkF RX6 18 6 8 4 (tyX6 4) := ⟨fl6_18, RX6, TX6, rfl, lw_good_t (i := 268) (by decide +kernel) rfl, rfl⟩
theorem fl2_64 : FLk RX2 64 6 8 4 (tyX6 4) true := ⟨RX6, TX6, rfl, inG6, tyX6_ok, nmX6, by decide, by decide, rfl, rfl, Or.inr ⟨"SeaWithStairs", lw_nest_t (i := 269) (by decide +kernel) rfl⟩⟩
theorem fl6_21 : FLk RX6 21 6 8 5 (tyX6 5) true := ⟨RX6, TX6, rfl, inG6, tyX6_ok, nmX6, by decide, by decide, rfl, rfl, Or.inl (lw_good_t (i := 270) (by decide +kernel) rfl)⟩
theorem flF6_21 : FLkF RX6 21 6 8 5 (tyX6 5) := ⟨fl6_21, RX6, TX6, rfl, lw_good_t (i := 270) (by decide +kernel) rfl, rfl⟩
theorem fl2_82 : FLk RX2 82 6 8 5 (tyX6 5) true := ⟨RX6, TX6, rfl, inG6, tyX6_ok, nmX6, by decide, by decide, rfl, rfl, Or.inr ⟨"SeaWithStairs", lw_nest_t (i := 271) (by decide +kernel) rfl⟩⟩
theorem fl6_24 : FLk RX6 24 6 8 6 (tyX6 6) true := ⟨RX6, TX6, rfl, inG6, tyX6_ok, nmX6, by decide, by decide, rfl, rfl, Or.inl (lw_good_t (i := 272) (by decide +kernel) rfl)⟩
theorem flF6_24 : FLkF RX6 24 6 8 6 (tyX6 6) := ⟨fl6_24, RX6, TX6, rfl, lw_good_t (i := 272) (by decide +kernel) rfl, rfl⟩
theorem fl4_73 : FLk RX4 73 6 8 6 (tyX6 6) true := ⟨RX6, TX6, rfl, inG6, tyX6_ok, nmX6, by decide, by decide, rfl, rfl, Or.inr ⟨"SeaWithStairs", lw_nest_t (i := 273) (by decide +kernel) rfl⟩⟩
theorem fl2_58 : FLk RX2 58 6 8 6 (tyX6 6) true := ⟨RX6, TX6, rfl, inG6, tyX6_ok, nmX6, by decide, by decide, rfl, rfl, Or.inr ⟨"SeaWithStairs", lw_nest_t (i := 274) (by decide +kernel) rfl⟩⟩
theorem fl6_27 : FLk RX6 27 6 8 7 (tyX6 7) true := ⟨RX6, TX6, rfl, inG6, tyX6_ok, nmX6, by decide, by decide, rfl, rfl, Or.inl (lw_good_t (i := 275) (by decide +kernel) rfl)⟩
theorem flF6_27 : FLkF RX6 27 6 8 7 (tyX6 7) := ⟨fl6_27, RX6, TX6, rfl, lw_good_t (i := 275) (by decide +kernel) rfl, rfl⟩
theorem fl4_83 : FLk RX4 83 6 8 7 (tyX6 7) true := ⟨RX6, TX6, rfl, inG6, tyX6_ok, nmX6, by decide, by decide, rfl, rfl, Or.inr ⟨"SeaWithStairs", lw_nest_t (i := 276) (by decide +kernel) rfl⟩⟩
theorem fl2_61 : FLk RX2 61 6 8 7 (tyX6 7) true := ⟨RX6, TX6, rfl, inG6, tyX6_ok, nmX6, by decide, by decide, rfl, rfl, Or.inr ⟨"SeaWithStairs", lw_nest_t (i := 277) (by decide +kernel) rfl⟩⟩
theorem fl2_12 : FLk RX2 12 2 3 0 (tyX2 0) true := ⟨RX2, TX2, rfl, inG2, tyX2_ok, nmX2, by decide, by decide, rfl, rfl, Or.inl (lw_good_t (i := 295) (by decide +kernel) rfl)⟩
theorem flF2_12 : FLkF RX2 12 2 3 0 (tyX2 0) := ⟨fl2_12, RX2, TX2, rfl, lw_good_t (i := 295) (by decide +kernel) rfl, rfl⟩
theorem fl11_347 : FLk RX11 347 2 3 0 (tyX2 0) true := ⟨RX2, TX2, rfl, inG2, tyX2_ok, nmX2, by decide, by decide, rfl, rfl, Or.inr ⟨"SeaWithStairs", lw_nest_t (i := 296) (by decide +kernel) rfl⟩⟩
theorem fl2_18 : FLk RX2 18 2 3 1 (tyX2 1) false := ⟨RX2, TX2, rfl, inG2, tyX2_ok, nmX2, by decide, by decide, rfl, rfl, Or.inl (lw_good_t (i := 297) (by decide +kernel) rfl)⟩
theorem fl11_351 : FLk RX11 351 2 3 1 (tyX2 1) false := ⟨RX2, TX2, rfl, inG2, tyX2_ok, nmX2, by decide, by decide, rfl, rfl, Or.inr ⟨"SeaWithStairs", lw_nest_t (i := 298) (by decide +kernel) rfl⟩⟩
theorem fl2_21 : FLk RX2 21 2 3 2 (tyX2 2) true := ⟨RX2, TX2, rfl, inG2, tyX2_ok, nmX2, by decide, by decide, rfl, rfl, Or.inl (lw_good_t (i := 299) (by decide +kernel) rfl)⟩
theorem flF2_21 : FLkF RX2 21 2 3 2 (tyX2 2) := ⟨fl2_21, RX2, TX2, rfl, lw_good_t (i := 299) (by decide +kernel) rfl, rfl⟩
theorem fl1_18 : FLk RX1 18 1 3 0 (tyX1 0) true := ⟨RX1, TX1, rfl, inG1, tyX1_ok, nmX1, by decide, by decide, rfl, rfl, Or.inl (lw_good_t (i := 313) (by decide +kernel) rfl)⟩
theorem flF1_18 : FLkF RX1 18 1 3 0 (tyX1 0) := ⟨fl1_18, RX1, TX1, rfl, lw_good_t (i := 313) (by decide +kernel) rfl, rfl⟩
theorem fl1_9 : FLk RX1 9 1 3 1 (tyX1 1) true := ⟨RX1, TX1, rfl, inG1, tyX1_ok, nmX1, by decide, by decide, rfl, rfl, Or.inl (lw_good_t (i := 314) (by decide +kernel) rfl)⟩
theorem flF1_9 : FLkF RX1 9 1 3 1 (tyX1 1) := ⟨fl1_9, RX1, TX1, rfl, lw_good_t (i := 314) (by decide +kernel) rfl, rfl⟩
theorem fl1_15 : FLk RX1 15 1 3 2 (tyX1 2) true := ⟨RX1, TX1, rfl, inG1, tyX1_ok, nmX1, by decide, by decide, rfl, rfl, Or.inl (lw_good_t (i := 315) (by decide +kernel) rfl)⟩
theorem flF1_15 : FLkF RX1 15 1 3 2 (tyX1 2) := ⟨fl1_15, RX1, TX1, rfl, lw_good_t (i := 315) (by decide +kernel) rfl, rfl⟩
theorem fl9_22 : FLk RX9 22 9 4 0 (tyX9 0) true := ⟨RX9, TX9, rfl, inG9, tyX9_ok, nmX9, by decide, by decide, rfl, rfl, Or.inl (lw_good_t (i := 331) (by decide +kernel) rfl)⟩
theorem flF9_22 : FLkF RX9 22 9 4 0 (tyX9 0) := ⟨fl9_22, RX9, TX9, rfl, lw_good_t (i := 331) (by decide +kernel) rfl, rfl⟩
theorem fl9_11 : FLk RX9 11 9 4 1 (tyX9 1) true := ⟨RX9, TX9, rfl, inG9, tyX9_ok, nmX9, by decide, by decide, rfl, rfl, Or.inl (lw_good_t (i := 332) (by decide +kernel) rfl)⟩
theorem flF9_11 : FLkF RX9 11 9 4 1 (tyX9 1) := ⟨fl9_11, RX9, TX9, rfl, lw_good_t (i := 332) (by decide +kernel) rfl, rfl⟩
theorem fl11_241 : FLk RX11 241 9 4 1 (tyX9 1) true := ⟨RX9, TX9, rfl, inG9, tyX9_ok, nmX9, by decide, by decide, rfl, rfl, Or.inr ⟨"SeaWithStairs", lw_nest_t (i := 333) (by decide +kernel) rfl⟩⟩
theorem fl9_16 : FLk RX9 16 9 4 2 (tyX9 2) true := ⟨RX9, TX9, rfl, inG9, tyX9_ok, nmX9, by decide, by decide, rfl, rfl, Or.inl (lw_good_t (i := 334) (by decide +kernel) rfl)⟩
theorem flF9_16 : FLkF RX9 16 9 4 2 (tyX9 2) := ⟨fl9_16, RX9, TX9, rfl, lw_good_t (i := 334) (by decide +kernel) rfl, rfl⟩
theorem fl11_245 : FLk RX11 245 9 4 2 (tyX9 2) true := ⟨RX9, TX9, rfl, inG9, tyX9_ok, nmX9, by decide, by decide, rfl, rfl, Or.inr ⟨"SeaWithStairs", lw_nest_t (i := 335) (by decide +kernel) rfl⟩⟩
theorem fl9_19 : FLk RX9 19 9 4 3 (tyX9 3) true := ⟨RX9, TX9, rfl, inG9, tyX9_ok, nmX9, by decide, by decide, rfl, rfl, Or.inl (lw_good_t (i := 336) (by decide +kernel) rfl)⟩
theorem flF9_19 : FLkF RX9 19 9 4 3 (tyX9 3) := ⟨fl9_19, RX9, TX9, rfl, lw_good_t (i := 336) (by decide +kernel) rfl, rfl⟩
theorem fl3_26 : FLk RX3 26 3 8 0 (tyX3 0) true := ⟨RX3, TX3, rfl, inG3, tyX3_ok, nmX3, by decide, by decide, rfl, rfl, Or.inl (lw_good_t (i := 353) (by decide +kernel) rfl)⟩
theorem flF3_26 : FLkF RX3 26 3 8 0 (tyX3 0) := ⟨fl3_26, RX3, TX3, rfl, lw_good_t (i := 353) (by decide +kernel) rfl, rfl⟩
theorem fl3_9 : FLk RX3 9 3 8 1 (tyX3 1) true := ⟨RX3, TX3, rfl, inG3, tyX3_ok, nmX3, by decide, by decide, rfl, rfl, Or.inl (lw_good_t (i := 354) (by decide +kernel) rfl)⟩
theorem flF3_9 : FLkF RX3 9 3 8 1 (tyX3 1) := ⟨fl3_9, RX3, TX3, rfl, lw_good_t (i := 354) (by decide +kernel) rfl, rfl⟩
theorem fl3_15 : FLk RX3 15 3 8 2 (tyX3 2) true := ⟨RX3, TX3, rfl, inG3, tyX3_ok, nmX3, by decide, by decide, rfl, rfl, Or.inl (lw_good_t (i := 355) (by decide +kernel) rfl)⟩
theorem flF3_15 : FLkF RX3 15 3 8 2 (tyX3 2) := ⟨fl3_15, RX3, TX3, rfl, lw_good_t (i := 355) (by decide +kernel) rfl, rfl⟩
theorem fl3_34 : FLk RX3 34 3 8 3 .int false := ⟨RX3, TX3, rfl, inG3, tyX3_ok, nmX3, by decide, by decide, rfl, rfl, Or.inl (lw_good_t (i := 356) (by decide +kernel) rfl)⟩
theorem fl3_38 : FLk RX3 38 3 8 4 .int false := ⟨RX3, TX3, rfl, inG3, tyX3_ok, nmX3, by decide, by decide, rfl, rfl, Or.inl (lw_good_t (i := 357) (by decide +kernel) rfl)⟩
theorem fl3_20 : FLk RX3 20 3 8 5 (tyX3 5) true := ⟨RX3, TX3, rfl, inG3, tyX3_ok, nmX3, by decide, by decide, rfl, rfl, Or.inl (lw_good_t (i := 358) (by decide +kernel) rfl)⟩
theorem flF3_20 : FLkF RX3 20 3 8 5 (tyX3 5) := ⟨fl3_20, RX3, TX3, rfl, lw_good_t (i := 358) (by decide +kernel) rfl, rfl⟩
theorem fl3_52 : FLk RX3 52 3 8 6 .int false := ⟨RX3, TX3, rfl, inG3, tyX3_ok, nmX3, by decide, by decide, rfl, rfl, Or.inl (lw_good_t (i := 359) (by decide +kernel) rfl)⟩
theorem fl11_263 : FLk RX11 263 3 8 6 .int false := ⟨RX3, TX3, rfl, inG3, tyX3_ok, nmX3, by decide, by decide, rfl, rfl, Or.inr ⟨"SeaWithStairs", lw_nest_t (i := 360) (by decide +kernel) rfl⟩⟩
theorem fl3_23 : FLk RX3 23 3 8 7 (tyX3 7) true := ⟨RX3, TX3, rfl, inG3, tyX3_ok, nmX3, by decide, by decide, rfl, rfl, Or.inl (lw_good_t (i := 361) (by decide +kernel) rfl)⟩
theorem flF3_23 : FLkF RX3 23 3 8 7 (tyX3 7) := ⟨fl3_23, RX3, TX3, rfl, lw_good_t (i := 361) (by decide +kernel) rfl, rfl⟩
theorem fl8_9 : FLk RX8 9 8 4 0 (tyX8 0) true := ⟨RX8, TX8, rfl, inG8, tyX8_ok, nmX8, by decide, by decide, rfl, rfl, Or.inl (lw_good_t (i := 385) (by decide +kernel) rfl)⟩
theorem flF8_9 : FLkF RX8 9 8 4 0 (tyX8 0) := ⟨fl8_9, RX8, TX8, rfl, lw_good_t (i := 385) (by decide +kernel) rfl, rfl⟩
theorem fl11_274 : FLk RX11 274 8 4 0 (tyX8 0) true := ⟨RX8, TX8, rfl, inG8, tyX8_ok, nmX8, by decide, by decide, rfl, rfl, Or.inr ⟨"SeaWithStairs", lw_nest_t (i := 386) (by decide +kernel) rfl⟩⟩
theorem fl8_15 : FLk RX8 15 8 4 1 (tyX8 1) true := ⟨RX8, TX8, rfl, inG8, tyX8_ok, nmX8, by decide, by decide, rfl, rfl, Or.inl (lw_good_t (i := 387) (by decide +kernel) rfl)⟩
theorem flF8_15 : FLkF RX8 15 8 4 1 (tyX8 1) := ⟨fl8_15, RX8, TX8, rfl, lw_good_t (i := 387) (by decide +kernel) rfl, rfl⟩
theorem fl11_284 : FLk RX11 284 8 4 1 (tyX8 1) true := ⟨RX8, TX8, rfl, inG8, tyX8_ok, nmX8, by decide, by decide, rfl, rfl, Or.inr ⟨"SeaWithStairs", lw_nest_t (i := 388) (by decide +kernel) rfl⟩⟩
theorem fl8_18 : FLk RX8 18 8 4 2 (tyX8 2) true := ⟨RX8, TX8, rfl, inG8, tyX8_ok, nmX8, by decide, by decide, rfl, rfl, Or.inl (lw_good_t (i := 389) (by decide +kernel) rfl)⟩
theorem flF8_18 : FLkF RX8 18 8 4 2 (tyX8 2) := ⟨fl8_18, RX8, TX8, rfl, lw_good_t (i := 389) (by decide +kernel) rfl, rfl⟩
theorem fl8_21 : FLk RX8 21 8 4 3 (tyX8 3) true := ⟨RX8, TX8, rfl, inG8, tyX8_ok, nmX8, by decide, by decide, rfl, rfl, Or.inl (lw_good_t (i := 390) (by decide +kernel) rfl)⟩
theorem flF8_21 : FLkF RX8 21 8 4 3 (tyX8 3) := ⟨fl8_21, RX8, TX8, rfl, lw_good_t (i := 390) (by decide +kernel) rfl, rfl⟩
theorem fl11_12 : FLk RX11 12 11 12 0 (tyX11 0) true := ⟨RX11, TX11, rfl, inG11, tyX11_ok, nmX11, by decide, by decide, rfl, rfl, Or.inl (lw_good_t (i := 403) (by decide +kernel) rfl)⟩
theorem flF11_12 : FLkF RX11 12 11 12 0 (tyX11 0) := ⟨fl11_12, RX11, TX11, rfl, lw_good_t (i := 403) (by decide +kernel) rfl, rfl⟩
theorem fl11_16 : FLk RX11 16 11 12 1 (tyX11 1) true := ⟨RX11, TX11, rfl, inG11, tyX11_ok, nmX11, by decide, by decide, rfl, rfl, Or.inl (lw_good_t (i := 404) (by decide +kernel) rfl)⟩
theorem flF11_16 : FLkF RX11 16 11 12 1 (tyX11 1) := ⟨fl11_16, RX11, TX11, rfl, lw_good_t (i := 404) (by decide +kernel) rfl, rfl⟩
theorem fl11_23 : FLk RX11 23 11 12 2 (tyX11 2) true := ⟨RX11, TX11, rfl, inG11, tyX11_ok, nmX11, by decide, by decide, rfl, rfl, Or.inl (lw_good_t (i := 405) (by decide +kernel) rfl)⟩
theorem flF11_23 : FLkF RX11 23 11 12 2 (tyX11 2) := ⟨fl11_23, RX11, TX11, rfl, lw_good_t (i := 405) (by decide +kernel) rfl, rfl⟩
theorem fl11_28 : FLk RX11 28 11 12 3 (tyX11 3) true := ⟨RX11, TX11, rfl, inG11, tyX11_ok, nmX11, by decide, by decide, rfl, rfl, Or.inl (lw_good_t (i := 406) (by decide +kernel) rfl)⟩
theorem flF11_28 : FLkF RX11 28 11 12 3 (tyX11 3) := ⟨fl11_28, RX11, TX11, rfl, lw_good_t (i := 406) (by decide +kernel) rfl, rfl⟩
theorem fl11_31 : FLk RX11 31 11 12 4 (tyX11 4) true := ⟨RX11, TX11, rfl, inG11, tyX11_ok, nmX11, by decide, by decide, rfl, rfl, Or.inl (lw_good_t (i := 407) (by decide +kernel) rfl)⟩
theorem flF11_31 : FLkF RX11 31 11 12 4 (tyX11 4) := ⟨fl11_31, RX11, TX11, rfl, lw_good_t (i := 407) (by decide +kernel) rfl, rfl⟩
theorem fl11_38 : FLk RX11 38 11 12 5 (tyX11 5) true := ⟨RX11, TX11, rfl, inG11, tyX11_ok, nmX11, by decide, by decide, rfl, rfl, Or.inl (lw_good_t (i := 408) (by decide +kernel) rfl)⟩
theorem flF11_38 : FLkF RX11 38 11 12 5 (tyX11 5) := ⟨fl11_38, RX11, TX11, rfl, lw_good_t (i := 408) (by decide +kernel) rfl, rfl⟩
theorem fl11_45 : FLk RX11 45 11 12 6 (tyX11 6) true := ⟨RX11, TX11, rfl, inG11, tyX11_ok, nmX11, by decide, by decide, rfl, rfl, Or.inl (lw_good_t (i := 409) (by decide +kernel) rfl)⟩
theorem flF11_45 : FLkF RX11 45 11 12 6 (tyX11 6) := ⟨fl11_45, RX11, TX11, rfl, lw_good_t (i := 409) (by decide +kernel) rfl, rfl⟩
theorem fl11_54 : FLk RX11 54 11 12 7 (tyX11 7) true := ⟨RX11, TX11, rfl, inG11, tyX11_ok, nmX11, by decide, by decide, rfl, rfl, Or.inl (lw_good_t (i := 410) (by decide +kernel) rfl)⟩
theorem flF11_54 : FLkF RX11 54 11 12 7 (tyX11 7) := ⟨fl11_54, RX11, TX11, rfl, lw_good_t (i := 410) (by decide +kernel) rfl, rfl⟩
theorem fl11_61 : FLk RX11 61 11 12 8 (tyX11 8) true := ⟨RX11, TX11, rfl, inG11, tyX11_ok, nmX11, by decide, by decide, rfl, rfl, Or.inl (lw_good_t (i := 411) (by decide +kernel) rfl)⟩
theorem flF11_61 : FLkF RX11 61 11 12 8 (tyX11 8) := ⟨fl11_61, RX11, TX11, rfl, lw_good_t (i := 411) (by decide +kernel) rfl, rfl⟩
theorem fl11_68 : FLk RX11 68 11 12 9 (tyX11 9) true := ⟨RX11, TX11, rfl, inG11, tyX11_ok, nmX11, by decide, by decide, rfl, rfl, Or.inl (lw_good_t (i := 412) (by decide +kernel) rfl)⟩
theorem flF11_68 : FLkF RX11 68 11 12 9 (tyX11 9) := ⟨fl11_68, RX11, TX11, rfl, lw_good_t (i := 412) (by decide +kernel) rfl, rfl⟩
theorem fl11_75 : FLk RX11 75 11 12 10 (tyX11 10) true := ⟨RX11, TX11, rfl, inG11, tyX11_ok, nmX11, by decide, by decide, rfl, rfl, Or.inl (lw_good_t (i := 413) (by decide +kernel) rfl)⟩
theorem flF11_75 : FLkF RX11 75 11 12 10 (tyX11 10) := ⟨fl11_75, RX11, TX11, rfl, lw_good_t (i := 413) (by decide +kernel) rfl, rfl⟩
theorem fl11_82 : FLk RX11 82 11 12 11 (tyX11 11) true := ⟨RX11, TX11, rfl, inG11, tyX11_ok, nmX11, by decide, by decide, rfl, rfl, Or.inl (lw_good_t (i := 414) (by decide +kernel) rfl)⟩
theorem flF11_82 : FLkF RX11 82 11 12 11 (tyX11 11) := ⟨fl11_82, RX11, TX11, rfl, lw_good_t (i := 414) (by decide +kernel) rfl, rfl⟩
theorem sl4_86 : SLk RX4 86 0 8 [0, 4, 7, 8, 10, 12, 13, 15] := ⟨"FORM_FROM", rfl, Or.inr ⟨"SeaWithStairs", lw_nest_t (i := 578) (by decide +kernel) rfl⟩⟩
theorem sl4_89 : SLk RX4 89 1 15 [0, 140, 141, 142, 0, 143, 144, 0, 0, 145, 0, 144, 0, 0, 144] := ⟨"FORM_WORD", rfl, Or.inr ⟨"SeaWithStairs", lw_nest_t (i := 580) (by decide +kernel) rfl⟩⟩
theorem sl4_92 : SLk RX4 92 2 15 [1, 0, 0, 0, 1, 0, 0, 1, 0, 1, 0, 0, 0, 0, 0] := ⟨"FORM_LEAST", rfl, Or.inr ⟨"SeaWithStairs", lw_nest_t (i := 582) (by decide +kernel) rfl⟩⟩
theorem sl4_98 : SLk RX4 98 3 15 [99, 99, 999, 999, 99, 8, 8, 60, 8, 999, 8, 99, 8, 6, 8] := ⟨"FORM_MOST", rfl, Or.inr ⟨"SeaWithStairs", lw_nest_t (i := 584) (by decide +kernel) rfl⟩⟩
theorem fl12_7 : FLk RX12 7 12 43 0 (tyX12 0) true := ⟨RX12, TX12, rfl, inG12, tyX12_ok, nmX12, by decide, by decide, rfl, rfl, Or.inl (lw_good_t (i := 1046) (by decide +kernel) rfl)⟩
theorem flF12_7 : FLkF RX12 7 12 43 0 (tyX12 0) := ⟨fl12_7, RX12, TX12, rfl, lw_good_t (i := 1046) (by decide +kernel) rfl, rfl⟩
theorem fl12_13 : FLk RX12 13 12 43 1 (tyX12 1) true := ⟨RX12, TX12, rfl, inG12, tyX12_ok, nmX12, by decide, by decide, rfl, rfl, Or.inl (lw_good_t (i := 1047) (by decide +kernel) rfl)⟩
theorem flF12_13 : FLkF RX12 13 12 43 1 (tyX12 1) := ⟨fl12_13, RX12, TX12, rfl, lw_good_t (i := 1047) (by decide +kernel) rfl, rfl⟩
theorem fl12_16 : FLk RX12 16 12 43 2 (tyX12 2) true := ⟨RX12, TX12, rfl, inG12, tyX12_ok, nmX12, by decide, by decide, rfl, rfl, Or.inl (lw_good_t (i := 1048) (by decide +kernel) rfl)⟩
theorem flF12_16 : FLkF RX12 16 12 43 2 (tyX12 2) := ⟨fl12_16, RX12, TX12, rfl, lw_good_t (i := 1048) (by decide +kernel) rfl, rfl⟩
theorem fl12_19 : FLk RX12 19 12 43 3 (tyX12 3) true := ⟨RX12, TX12, rfl, inG12, tyX12_ok, nmX12, by decide, by decide, rfl, rfl, Or.inl (lw_good_t (i := 1049) (by decide +kernel) rfl)⟩
theorem flF12_19 : FLkF RX12 19 12 43 3 (tyX12 3) := ⟨fl12_19, RX12, TX12, rfl, lw_good_t (i := 1049) (by decide +kernel) rfl, rfl⟩
theorem fl12_109 : FLk RX12 109 12 43 4 .int false := ⟨RX12, TX12, rfl, inG12, tyX12_ok, nmX12, by decide, by decide, rfl, rfl, Or.inl (lw_good_t (i := 1050) (by decide +kernel) rfl)⟩
theorem fl12_22 : FLk RX12 22 12 43 5 .int false := ⟨RX12, TX12, rfl, inG12, tyX12_ok, nmX12, by decide, by decide, rfl, rfl, Or.inl (lw_good_t (i := 1051) (by decide +kernel) rfl)⟩
theorem fl12_26 : FLk RX12 26 12 43 6 .int false := ⟨RX12, TX12, rfl, inG12, tyX12_ok, nmX12, by decide, by decide, rfl, rfl, Or.inl (lw_good_t (i := 1052) (by decide +kernel) rfl)⟩
theorem fl12_116 : FLk RX12 116 12 43 7 .int false := ⟨RX12, TX12, rfl, inG12, tyX12_ok, nmX12, by decide, by decide, rfl, rfl, Or.inl (lw_good_t (i := 1053) (by decide +kernel) rfl)⟩
theorem fl12_123 : FLk RX12 123 12 43 8 .int false := ⟨RX12, TX12, rfl, inG12, tyX12_ok, nmX12, by decide, by decide, rfl, rfl, Or.inl (lw_good_t (i := 1054) (by decide +kernel) rfl)⟩
theorem fl12_126 : FLk RX12 126 12 43 9 .int false := ⟨RX12, TX12, rfl, inG12, tyX12_ok, nmX12, by decide, by decide, rfl, rfl, Or.inl (lw_good_t (i := 1055) (by decide +kernel) rfl)⟩
theorem fl12_132 : FLk RX12 132 12 43 10 .int false := ⟨RX12, TX12, rfl, inG12, tyX12_ok, nmX12, by decide, by decide, rfl, rfl, Or.inl (lw_good_t (i := 1056) (by decide +kernel) rfl)⟩
theorem fl12_139 : FLk RX12 139 12 43 11 .long false := ⟨RX12, TX12, rfl, inG12, tyX12_ok, nmX12, by decide, by decide, rfl, rfl, Or.inl (lw_good_t (i := 1057) (by decide +kernel) rfl)⟩
theorem fl12_164 : FLk RX12 164 12 43 12 .int false := ⟨RX12, TX12, rfl, inG12, tyX12_ok, nmX12, by decide, by decide, rfl, rfl, Or.inl (lw_good_t (i := 1058) (by decide +kernel) rfl)⟩
theorem fl12_167 : FLk RX12 167 12 43 13 .int false := ⟨RX12, TX12, rfl, inG12, tyX12_ok, nmX12, by decide, by decide, rfl, rfl, Or.inl (lw_good_t (i := 1059) (by decide +kernel) rfl)⟩
theorem fl12_174 : FLk RX12 174 12 43 14 .int false := ⟨RX12, TX12, rfl, inG12, tyX12_ok, nmX12, by decide, by decide, rfl, rfl, Or.inl (lw_good_t (i := 1060) (by decide +kernel) rfl)⟩
theorem fl12_29 : FLk RX12 29 12 43 15 (tyX12 15) true := ⟨RX12, TX12, rfl, inG12, tyX12_ok, nmX12, by decide, by decide, rfl, rfl, Or.inl (lw_good_t (i := 1061) (by decide +kernel) rfl)⟩
theorem flF12_29 : FLkF RX12 29 12 43 15 (tyX12 15) := ⟨fl12_29, RX12, TX12, rfl, lw_good_t (i := 1061) (by decide +kernel) rfl, rfl⟩
theorem fl12_177 : FLk RX12 177 12 43 16 .int false := ⟨RX12, TX12, rfl, inG12, tyX12_ok, nmX12, by decide, by decide, rfl, rfl, Or.inl (lw_good_t (i := 1062) (by decide +kernel) rfl)⟩
theorem fl12_187 : FLk RX12 187 12 43 17 .int false := ⟨RX12, TX12, rfl, inG12, tyX12_ok, nmX12, by decide, by decide, rfl, rfl, Or.inl (lw_good_t (i := 1063) (by decide +kernel) rfl)⟩
theorem fl12_203 : FLk RX12 203 12 43 18 .boolean false := ⟨RX12, TX12, rfl, inG12, tyX12_ok, nmX12, by decide, by decide, rfl, rfl, Or.inl (lw_good_t (i := 1064) (by decide +kernel) rfl)⟩
theorem fl12_190 : FLk RX12 190 12 43 19 .boolean false := ⟨RX12, TX12, rfl, inG12, tyX12_ok, nmX12, by decide, by decide, rfl, rfl, Or.inl (lw_good_t (i := 1065) (by decide +kernel) rfl)⟩
theorem fl12_276 : FLk RX12 276 12 43 20 .int false := ⟨RX12, TX12, rfl, inG12, tyX12_ok, nmX12, by decide, by decide, rfl, rfl, Or.inl (lw_good_t (i := 1066) (by decide +kernel) rfl)⟩
theorem fl12_300 : FLk RX12 300 12 43 21 .int false := ⟨RX12, TX12, rfl, inG12, tyX12_ok, nmX12, by decide, by decide, rfl, rfl, Or.inl (lw_good_t (i := 1067) (by decide +kernel) rfl)⟩
theorem fl12_303 : FLk RX12 303 12 43 22 .int false := ⟨RX12, TX12, rfl, inG12, tyX12_ok, nmX12, by decide, by decide, rfl, rfl, Or.inl (lw_good_t (i := 1068) (by decide +kernel) rfl)⟩
theorem fl12_306 : FLk RX12 306 12 43 23 .int false := ⟨RX12, TX12, rfl, inG12, tyX12_ok, nmX12, by decide, by decide, rfl, rfl, Or.inl (lw_good_t (i := 1069) (by decide +kernel) rfl)⟩
theorem fl12_309 : FLk RX12 309 12 43 24 .int false := ⟨RX12, TX12, rfl, inG12, tyX12_ok, nmX12, by decide, by decide, rfl, rfl, Or.inl (lw_good_t (i := 1070) (by decide +kernel) rfl)⟩
theorem fl12_32 : FLk RX12 32 12 43 25 (tyX12 25) true := ⟨RX12, TX12, rfl, inG12, tyX12_ok, nmX12, by decide, by decide, rfl, rfl, Or.inl (lw_good_t (i := 1071) (by decide +kernel) rfl)⟩
theorem flF12_32 : FLkF RX12 32 12 43 25 (tyX12 25) := ⟨fl12_32, RX12, TX12, rfl, lw_good_t (i := 1071) (by decide +kernel) rfl, rfl⟩
theorem fl12_36 : FLk RX12 36 12 43 26 (tyX12 26) true := ⟨RX12, TX12, rfl, inG12, tyX12_ok, nmX12, by decide, by decide, rfl, rfl, Or.inl (lw_good_t (i := 1072) (by decide +kernel) rfl)⟩
theorem flF12_36 : FLkF RX12 36 12 43 26 (tyX12 26) := ⟨fl12_36, RX12, TX12, rfl, lw_good_t (i := 1072) (by decide +kernel) rfl, rfl⟩
theorem fl12_40 : FLk RX12 40 12 43 27 (tyX12 27) true := ⟨RX12, TX12, rfl, inG12, tyX12_ok, nmX12, by decide, by decide, rfl, rfl, Or.inl (lw_good_t (i := 1073) (by decide +kernel) rfl)⟩
theorem flF12_40 : FLkF RX12 40 12 43 27 (tyX12 27) := ⟨fl12_40, RX12, TX12, rfl, lw_good_t (i := 1073) (by decide +kernel) rfl, rfl⟩
theorem fl12_43 : FLk RX12 43 12 43 28 .boolean false := ⟨RX12, TX12, rfl, inG12, tyX12_ok, nmX12, by decide, by decide, rfl, rfl, Or.inl (lw_good_t (i := 1074) (by decide +kernel) rfl)⟩
theorem fl12_343 : FLk RX12 343 12 43 29 .int false := ⟨RX12, TX12, rfl, inG12, tyX12_ok, nmX12, by decide, by decide, rfl, rfl, Or.inl (lw_good_t (i := 1075) (by decide +kernel) rfl)⟩
theorem fl12_47 : FLk RX12 47 12 43 30 (tyX12 30) true := ⟨RX12, TX12, rfl, inG12, tyX12_ok, nmX12, by decide, by decide, rfl, rfl, Or.inl (lw_good_t (i := 1076) (by decide +kernel) rfl)⟩
theorem flF12_47 : FLkF RX12 47 12 43 30 (tyX12 30) := ⟨fl12_47, RX12, TX12, rfl, lw_good_t (i := 1076) (by decide +kernel) rfl, rfl⟩
theorem fl12_50 : FLk RX12 50 12 43 31 (tyX12 31) true := ⟨RX12, TX12, rfl, inG12, tyX12_ok, nmX12, by decide, by decide, rfl, rfl, Or.inl (lw_good_t (i := 1077) (by decide +kernel) rfl)⟩
theorem flF12_50 : FLkF RX12 50 12 43 31 (tyX12 31) := ⟨fl12_50, RX12, TX12, rfl, lw_good_t (i := 1077) (by decide +kernel) rfl, rfl⟩
theorem fl12_53 : FLk RX12 53 12 43 32 (tyX12 32) true := ⟨RX12, TX12, rfl, inG12, tyX12_ok, nmX12, by decide, by decide, rfl, rfl, Or.inl (lw_good_t (i := 1078) (by decide +kernel) rfl)⟩
theorem flF12_53 : FLkF RX12 53 12 43 32 (tyX12 32) := ⟨fl12_53, RX12, TX12, rfl, lw_good_t (i := 1078) (by decide +kernel) rfl, rfl⟩
theorem fl12_56 : FLk RX12 56 12 43 33 (tyX12 33) true := ⟨RX12, TX12, rfl, inG12, tyX12_ok, nmX12, by decide, by decide, rfl, rfl, Or.inl (lw_good_t (i := 1079) (by decide +kernel) rfl)⟩
theorem flF12_56 : FLkF RX12 56 12 43 33 (tyX12 33) := ⟨fl12_56, RX12, TX12, rfl, lw_good_t (i := 1079) (by decide +kernel) rfl, rfl⟩
theorem fl12_59 : FLk RX12 59 12 43 34 (tyX12 34) true := ⟨RX12, TX12, rfl, inG12, tyX12_ok, nmX12, by decide, by decide, rfl, rfl, Or.inl (lw_good_t (i := 1080) (by decide +kernel) rfl)⟩
theorem flF12_59 : FLkF RX12 59 12 43 34 (tyX12 34) := ⟨fl12_59, RX12, TX12, rfl, lw_good_t (i := 1080) (by decide +kernel) rfl, rfl⟩
theorem fl12_62 : FLk RX12 62 12 43 35 (tyX12 35) true := ⟨RX12, TX12, rfl, inG12, tyX12_ok, nmX12, by decide, by decide, rfl, rfl, Or.inl (lw_good_t (i := 1081) (by decide +kernel) rfl)⟩
theorem flF12_62 : FLkF RX12 62 12 43 35 (tyX12 35) := ⟨fl12_62, RX12, TX12, rfl, lw_good_t (i := 1081) (by decide +kernel) rfl, rfl⟩
theorem fl12_65 : FLk RX12 65 12 43 36 (tyX12 36) true := ⟨RX12, TX12, rfl, inG12, tyX12_ok, nmX12, by decide, by decide, rfl, rfl, Or.inl (lw_good_t (i := 1082) (by decide +kernel) rfl)⟩
theorem flF12_65 : FLkF RX12 65 12 43 36 (tyX12 36) := ⟨fl12_65, RX12, TX12, rfl, lw_good_t (i := 1082) (by decide +kernel) rfl, rfl⟩
theorem fl12_68 : FLk RX12 68 12 43 37 (tyX12 37) true := ⟨RX12, TX12, rfl, inG12, tyX12_ok, nmX12, by decide, by decide, rfl, rfl, Or.inl (lw_good_t (i := 1083) (by decide +kernel) rfl)⟩
theorem flF12_68 : FLkF RX12 68 12 43 37 (tyX12 37) := ⟨fl12_68, RX12, TX12, rfl, lw_good_t (i := 1083) (by decide +kernel) rfl, rfl⟩
theorem fl12_71 : FLk RX12 71 12 43 38 (tyX12 38) true := ⟨RX12, TX12, rfl, inG12, tyX12_ok, nmX12, by decide, by decide, rfl, rfl, Or.inl (lw_good_t (i := 1084) (by decide +kernel) rfl)⟩
theorem flF12_71 : FLkF RX12 71 12 43 38 (tyX12 38) := ⟨fl12_71, RX12, TX12, rfl, lw_good_t (i := 1084) (by decide +kernel) rfl, rfl⟩
theorem fl12_74 : FLk RX12 74 12 43 39 (tyX12 39) true := ⟨RX12, TX12, rfl, inG12, tyX12_ok, nmX12, by decide, by decide, rfl, rfl, Or.inl (lw_good_t (i := 1085) (by decide +kernel) rfl)⟩
theorem flF12_74 : FLkF RX12 74 12 43 39 (tyX12 39) := ⟨fl12_74, RX12, TX12, rfl, lw_good_t (i := 1085) (by decide +kernel) rfl, rfl⟩
theorem fl12_77 : FLk RX12 77 12 43 40 (tyX12 40) true := ⟨RX12, TX12, rfl, inG12, tyX12_ok, nmX12, by decide, by decide, rfl, rfl, Or.inl (lw_good_t (i := 1086) (by decide +kernel) rfl)⟩
theorem flF12_77 : FLkF RX12 77 12 43 40 (tyX12 40) := ⟨fl12_77, RX12, TX12, rfl, lw_good_t (i := 1086) (by decide +kernel) rfl, rfl⟩
theorem fl12_80 : FLk RX12 80 12 43 41 (tyX12 41) true := ⟨RX12, TX12, rfl, inG12, tyX12_ok, nmX12, by decide, by decide, rfl, rfl, Or.inl (lw_good_t (i := 1087) (by decide +kernel) rfl)⟩
theorem flF12_80 : FLkF RX12 80 12 43 41 (tyX12 41) := ⟨fl12_80, RX12, TX12, rfl, lw_good_t (i := 1087) (by decide +kernel) rfl, rfl⟩
theorem fl12_83 : FLk RX12 83 12 43 42 (tyX12 42) true := ⟨RX12, TX12, rfl, inG12, tyX12_ok, nmX12, by decide, by decide, rfl, rfl, Or.inl (lw_good_t (i := 1088) (by decide +kernel) rfl)⟩
theorem flF12_83 : FLkF RX12 83 12 43 42 (tyX12 42) := ⟨fl12_83, RX12, TX12, rfl, lw_good_t (i := 1088) (by decide +kernel) rfl, rfl⟩
abbrev mtX0_init : Mt := (yX0_init, cX0_init, 2, (Option.none : Option Jvm.ClassFile.FieldType))
theorem mkX0_init : MtOK mtX0_init 0 := ⟨lw_good_t (i := 132) (by decide +kernel) rfl, lw_good_t (i := 4) (by decide +kernel) rfl, ⟨by decide, by decide, by decide +kernel⟩, by decide, by decide⟩
theorem miX0_init : Cond.instanceMethod mtX0_init.1 ∈ lw_good := lw_good_t (i := 131) (by decide +kernel) rfl
abbrev mtX0_keep : Mt := (yX0_keep, cX0_keep, 2, (Option.none : Option Jvm.ClassFile.FieldType))
theorem mkX0_keep : MtOK mtX0_keep 1 := ⟨lw_good_t (i := 653) (by decide +kernel) rfl, lw_good_t (i := 4) (by decide +kernel) rfl, ⟨by decide, by decide, by decide +kernel⟩, by decide, by decide⟩
theorem miX0_keep : Cond.instanceMethod mtX0_keep.1 ∈ lw_good := lw_good_t (i := 652) (by decide +kernel) rfl
theorem mnX0_keep : MIn mtX0_keep 0 3 := ⟨⟨miX0_keep, lw_good_p (q := (yX0_keep, 3)) (i := 25) (by decide +kernel)⟩, ⟨TX0, rfl⟩, by decide⟩
abbrev mtX0_takeBack : Mt := (yX0_takeBack, cX0_takeBack, 2, (Option.some Jvm.ClassFile.FieldType.int))
theorem mkX0_takeBack : MtOK mtX0_takeBack 1 := ⟨lw_good_t (i := 812) (by decide +kernel) rfl, lw_good_t (i := 4) (by decide +kernel) rfl, ⟨by decide, by decide, by decide +kernel⟩, by decide, by decide⟩
theorem miX0_takeBack : Cond.instanceMethod mtX0_takeBack.1 ∈ lw_good := lw_good_t (i := 811) (by decide +kernel) rfl
theorem mnX0_takeBack : MIn mtX0_takeBack 0 3 := ⟨⟨miX0_takeBack, lw_good_p (q := (yX0_takeBack, 3)) (i := 47) (by decide +kernel)⟩, ⟨TX0, rfl⟩, by decide⟩
abbrev mtX0_copyFrom : Mt := (yX0_copyFrom, cX0_copyFrom, 3, (Option.none : Option Jvm.ClassFile.FieldType))
theorem mkX0_copyFrom : MtOK mtX0_copyFrom 1 := ⟨lw_good_t (i := 1023) (by decide +kernel) rfl, lw_good_t (i := 4) (by decide +kernel) rfl, ⟨by decide, by decide, by decide +kernel⟩, by decide, by decide⟩
theorem miX0_copyFrom : Cond.instanceMethod mtX0_copyFrom.1 ∈ lw_good := lw_good_t (i := 1022) (by decide +kernel) rfl
theorem mnX0_copyFrom : MIn mtX0_copyFrom 0 3 := ⟨⟨miX0_copyFrom, lw_good_p (q := (yX0_copyFrom, 3)) (i := 72) (by decide +kernel)⟩, ⟨TX0, rfl⟩, by decide⟩
abbrev mtX1_init : Mt := (yX1_init, cX1_init, 2, (Option.none : Option Jvm.ClassFile.FieldType))
theorem mkX1_init : MtOK mtX1_init 1 := ⟨lw_good_t (i := 311) (by decide +kernel) rfl, lw_good_t (i := 9) (by decide +kernel) rfl, ⟨by decide, by decide, by decide +kernel⟩, by decide, by decide⟩
theorem miX1_init : Cond.instanceMethod mtX1_init.1 ∈ lw_good := lw_good_t (i := 310) (by decide +kernel) rfl
abbrev mtX1_passOne : Mt := (yX1_passOne, cX1_passOne, 4, (Option.some Jvm.ClassFile.FieldType.int))
theorem mkX1_passOne : MtOK mtX1_passOne 1 := ⟨lw_good_t (i := 669) (by decide +kernel) rfl, lw_good_t (i := 9) (by decide +kernel) rfl, ⟨by decide, by decide, by decide +kernel⟩, by decide, by decide⟩
theorem miX1_passOne : Cond.instanceMethod mtX1_passOne.1 ∈ lw_good := lw_good_t (i := 668) (by decide +kernel) rfl
theorem mnX1_passOne : MIn mtX1_passOne 1 3 := ⟨⟨miX1_passOne, lw_good_p (q := (yX1_passOne, 3)) (i := 28) (by decide +kernel)⟩, ⟨TX1, rfl⟩, by decide⟩
abbrev mtX1_useRope : Mt := (yX1_useRope, cX1_useRope, 10, (Option.some Jvm.ClassFile.FieldType.int))
theorem mkX1_useRope : MtOK mtX1_useRope 3 := ⟨lw_good_t (i := 673) (by decide +kernel) rfl, lw_good_t (i := 9) (by decide +kernel) rfl, ⟨by decide, by decide, by decide +kernel⟩, by decide, by decide⟩
theorem miX1_useRope : Cond.instanceMethod mtX1_useRope.1 ∈ lw_good := lw_good_t (i := 672) (by decide +kernel) rfl
theorem mnX1_useRope : MIn mtX1_useRope 1 3 := ⟨⟨miX1_useRope, lw_good_p (q := (yX1_useRope, 3)) (i := 29) (by decide +kernel)⟩, ⟨TX1, rfl⟩, by decide⟩
abbrev mtX1_letWaterOver : Mt := (yX1_letWaterOver, cX1_letWaterOver, 5, (Option.none : Option Jvm.ClassFile.FieldType))
theorem mkX1_letWaterOver : MtOK mtX1_letWaterOver 1 := ⟨lw_good_t (i := 738) (by decide +kernel) rfl, lw_good_t (i := 9) (by decide +kernel) rfl, ⟨by decide, by decide, by decide +kernel⟩, by decide, by decide⟩
theorem miX1_letWaterOver : Cond.instanceMethod mtX1_letWaterOver.1 ∈ lw_good := lw_good_t (i := 737) (by decide +kernel) rfl
theorem mnX1_letWaterOver : MIn mtX1_letWaterOver 1 3 := ⟨⟨miX1_letWaterOver, lw_good_p (q := (yX1_letWaterOver, 3)) (i := 39) (by decide +kernel)⟩, ⟨TX1, rfl⟩, by decide⟩
abbrev mtX2_init : Mt := (yX2_init, cX2_init, 1, (Option.none : Option Jvm.ClassFile.FieldType))
theorem mkX2_init : MtOK mtX2_init 0 := ⟨lw_good_t (i := 250) (by decide +kernel) rfl, lw_good_t (i := 7) (by decide +kernel) rfl, ⟨by decide, by decide, by decide +kernel⟩, by decide, by decide⟩
theorem miX2_init : Cond.instanceMethod mtX2_init.1 ∈ lw_good := lw_good_t (i := 249) (by decide +kernel) rfl
abbrev mtX2_takes : Mt := (yX2_takes, cX2_takes, 4, (Option.some Jvm.ClassFile.FieldType.int))
theorem mkX2_takes : MtOK mtX2_takes 3 := ⟨lw_good_t (i := 684) (by decide +kernel) rfl, lw_good_t (i := 7) (by decide +kernel) rfl, ⟨by decide, by decide, by decide +kernel⟩, by decide, by decide⟩
theorem miX2_takes : Cond.instanceMethod mtX2_takes.1 ∈ lw_good := lw_good_t (i := 683) (by decide +kernel) rfl
theorem mnX2_takes : MIn mtX2_takes 2 3 := ⟨⟨miX2_takes, lw_good_p (q := (yX2_takes, 3)) (i := 31) (by decide +kernel)⟩, ⟨TX2, rfl⟩, by decide⟩
abbrev mtX2_hauls : Mt := (yX2_hauls, cX2_hauls, 5, (Option.some Jvm.ClassFile.FieldType.int))
theorem mkX2_hauls : MtOK mtX2_hauls 4 := ⟨lw_good_t (i := 729) (by decide +kernel) rfl, lw_good_t (i := 7) (by decide +kernel) rfl, ⟨by decide, by decide, by decide +kernel⟩, by decide, by decide⟩
theorem miX2_hauls : Cond.instanceMethod mtX2_hauls.1 ∈ lw_good := lw_good_t (i := 728) (by decide +kernel) rfl
theorem mnX2_hauls : MIn mtX2_hauls 2 3 := ⟨⟨miX2_hauls, lw_good_p (q := (yX2_hauls, 3)) (i := 37) (by decide +kernel)⟩, ⟨TX2, rfl⟩, by decide⟩
abbrev mtX2_wears : Mt := (yX2_wears, cX2_wears, 4, (Option.some Jvm.ClassFile.FieldType.int))
theorem mkX2_wears : MtOK mtX2_wears 3 := ⟨lw_good_t (i := 733) (by decide +kernel) rfl, lw_good_t (i := 7) (by decide +kernel) rfl, ⟨by decide, by decide, by decide +kernel⟩, by decide, by decide⟩
theorem miX2_wears : Cond.instanceMethod mtX2_wears.1 ∈ lw_good := lw_good_t (i := 732) (by decide +kernel) rfl
theorem mnX2_wears : MIn mtX2_wears 2 3 := ⟨⟨miX2_wears, lw_good_p (q := (yX2_wears, 3)) (i := 38) (by decide +kernel)⟩, ⟨TX2, rfl⟩, by decide⟩
abbrev mtX2_flows : Mt := (yX2_flows, cX2_flows, 3, (Option.some Jvm.ClassFile.FieldType.int))
theorem mkX2_flows : MtOK mtX2_flows 2 := ⟨lw_good_t (i := 742) (by decide +kernel) rfl, lw_good_t (i := 7) (by decide +kernel) rfl, ⟨by decide, by decide, by decide +kernel⟩, by decide, by decide⟩
theorem miX2_flows : Cond.instanceMethod mtX2_flows.1 ∈ lw_good := lw_good_t (i := 741) (by decide +kernel) rfl
theorem mnX2_flows : MIn mtX2_flows 2 3 := ⟨⟨miX2_flows, lw_good_p (q := (yX2_flows, 3)) (i := 40) (by decide +kernel)⟩, ⟨TX2, rfl⟩, by decide⟩
abbrev mtX2_falls : Mt := (yX2_falls, cX2_falls, 4, (Option.some Jvm.ClassFile.FieldType.boolean))
theorem mkX2_falls : MtOK mtX2_falls 3 := ⟨lw_good_t (i := 905) (by decide +kernel) rfl, lw_good_t (i := 7) (by decide +kernel) rfl, ⟨by decide, by decide, by decide +kernel⟩, by decide, by decide⟩
theorem miX2_falls : Cond.instanceMethod mtX2_falls.1 ∈ lw_good := lw_good_t (i := 904) (by decide +kernel) rfl
theorem mnX2_falls : MIn mtX2_falls 2 3 := ⟨⟨miX2_falls, lw_good_p (q := (yX2_falls, 3)) (i := 58) (by decide +kernel)⟩, ⟨TX2, rfl⟩, by decide⟩
abbrev mtX2_hasLaw : Mt := (yX2_hasLaw, cX2_hasLaw, 2, (Option.some Jvm.ClassFile.FieldType.boolean))
theorem mkX2_hasLaw : MtOK mtX2_hasLaw 1 := ⟨lw_good_t (i := 688) (by decide +kernel) rfl, lw_good_t (i := 7) (by decide +kernel) rfl, ⟨by decide, by decide, by decide +kernel⟩, by decide, by decide⟩
theorem miX2_hasLaw : Cond.instanceMethod mtX2_hasLaw.1 ∈ lw_good := lw_good_t (i := 687) (by decide +kernel) rfl
theorem mnX2_hasLaw : MIn mtX2_hasLaw 2 3 := ⟨⟨miX2_hasLaw, lw_good_p (q := (yX2_hasLaw, 3)) (i := 32) (by decide +kernel)⟩, ⟨TX2, rfl⟩, by decide⟩
abbrev mtX2_within : Mt := (yX2_within, cX2_within, 3, (Option.some Jvm.ClassFile.FieldType.int))
theorem mkX2_within : MtOK mtX2_within 3 := ⟨lw_good_t (i := 711) (by decide +kernel) rfl, lw_good_t (i := 7) (by decide +kernel) rfl, ⟨by decide, by decide, by decide +kernel⟩, by decide, by decide⟩
theorem msX2_within : Cond.static mtX2_within.1 ∈ lw_good := lw_good_t (i := 710) (by decide +kernel) rfl
abbrev mtX2_valueOf : Mt := (yX2_valueOf, cX2_valueOf, 9, (Option.some Jvm.ClassFile.FieldType.int))
theorem mkX2_valueOf : MtOK mtX2_valueOf 5 := ⟨lw_good_t (i := 693) (by decide +kernel) rfl, lw_good_t (i := 7) (by decide +kernel) rfl, ⟨by decide, by decide, by decide +kernel⟩, by decide, by decide⟩
theorem miX2_valueOf : Cond.instanceMethod mtX2_valueOf.1 ∈ lw_good := lw_good_t (i := 692) (by decide +kernel) rfl
theorem mnX2_valueOf : MIn mtX2_valueOf 2 3 := ⟨⟨miX2_valueOf, lw_good_p (q := (yX2_valueOf, 3)) (i := 33) (by decide +kernel)⟩, ⟨TX2, rfl⟩, by decide⟩
abbrev mtX2_named : Mt := (yX2_named, cX2_named, 8, (Option.some Jvm.ClassFile.FieldType.int))
theorem mkX2_named : MtOK mtX2_named 5 := ⟨lw_good_t (i := 698) (by decide +kernel) rfl, lw_good_t (i := 7) (by decide +kernel) rfl, ⟨by decide, by decide, by decide +kernel⟩, by decide, by decide⟩
theorem miX2_named : Cond.instanceMethod mtX2_named.1 ∈ lw_good := lw_good_t (i := 697) (by decide +kernel) rfl
theorem mnX2_named : MIn mtX2_named 2 3 := ⟨⟨miX2_named, lw_good_p (q := (yX2_named, 3)) (i := 34) (by decide +kernel)⟩, ⟨TX2, rfl⟩, by decide⟩
abbrev mtX2_cut : Mt := (yX2_cut, cX2_cut, 2, (Option.some Jvm.ClassFile.FieldType.int))
theorem mkX2_cut : MtOK mtX2_cut 1 := ⟨lw_good_t (i := 704) (by decide +kernel) rfl, lw_good_t (i := 7) (by decide +kernel) rfl, ⟨by decide, by decide, by decide +kernel⟩, by decide, by decide⟩
theorem msX2_cut : Cond.static mtX2_cut.1 ∈ lw_good := lw_good_t (i := 703) (by decide +kernel) rfl
abbrev mtX2_joined : Mt := (yX2_joined, cX2_joined, 5, (Option.some Jvm.ClassFile.FieldType.long))
theorem mkX2_joined : MtOK mtX2_joined 3 := ⟨lw_good_t (i := 701) (by decide +kernel) rfl, lw_good_t (i := 7) (by decide +kernel) rfl, ⟨by decide, by decide, by decide +kernel⟩, by decide, by decide⟩
theorem msX2_joined : Cond.static mtX2_joined.1 ∈ lw_good := lw_good_t (i := 700) (by decide +kernel) rfl
abbrev mtX3_init : Mt := (yX3_init, cX3_init, 2, (Option.none : Option Jvm.ClassFile.FieldType))
theorem mkX3_init : MtOK mtX3_init 1 := ⟨lw_good_t (i := 350) (by decide +kernel) rfl, lw_good_t (i := 11) (by decide +kernel) rfl, ⟨by decide, by decide, by decide +kernel⟩, by decide, by decide⟩
theorem miX3_init : Cond.instanceMethod mtX3_init.1 ∈ lw_good := lw_good_t (i := 349) (by decide +kernel) rfl
abbrev mtX3_choose : Mt := (yX3_choose, cX3_choose, 9, (Option.none : Option Jvm.ClassFile.FieldType))
theorem mkX3_choose : MtOK mtX3_choose 4 := ⟨lw_good_t (i := 881) (by decide +kernel) rfl, lw_good_t (i := 11) (by decide +kernel) rfl, ⟨by decide, by decide, by decide +kernel⟩, by decide, by decide⟩
theorem miX3_choose : Cond.instanceMethod mtX3_choose.1 ∈ lw_good := lw_good_t (i := 880) (by decide +kernel) rfl
theorem mnX3_choose : MIn mtX3_choose 3 8 := ⟨⟨miX3_choose, lw_good_p (q := (yX3_choose, 8)) (i := 54) (by decide +kernel)⟩, ⟨TX3, rfl⟩, by decide⟩
abbrev mtX3_listShips : Mt := (yX3_listShips, cX3_listShips, 4, (Option.some Jvm.ClassFile.FieldType.int))
theorem mkX3_listShips : MtOK mtX3_listShips 2 := ⟨lw_good_t (i := 884) (by decide +kernel) rfl, lw_good_t (i := 11) (by decide +kernel) rfl, ⟨by decide, by decide, by decide +kernel⟩, by decide, by decide⟩
theorem msX3_listShips : Cond.static mtX3_listShips.1 ∈ lw_good := lw_good_t (i := 883) (by decide +kernel) rfl
abbrev mtX3_penceOf : Mt := (yX3_penceOf, cX3_penceOf, 7, (Option.some Jvm.ClassFile.FieldType.int))
theorem mkX3_penceOf : MtOK mtX3_penceOf 1 := ⟨lw_good_t (i := 889) (by decide +kernel) rfl, lw_good_t (i := 11) (by decide +kernel) rfl, ⟨by decide, by decide, by decide +kernel⟩, by decide, by decide⟩
theorem miX3_penceOf : Cond.instanceMethod mtX3_penceOf.1 ∈ lw_good := lw_good_t (i := 888) (by decide +kernel) rfl
theorem mnX3_penceOf : MIn mtX3_penceOf 3 8 := ⟨⟨miX3_penceOf, lw_good_p (q := (yX3_penceOf, 8)) (i := 55) (by decide +kernel)⟩, ⟨TX3, rfl⟩, by decide⟩
abbrev mtX3_partnerOf : Mt := (yX3_partnerOf, cX3_partnerOf, 4, (Option.some Jvm.ClassFile.FieldType.int))
theorem mkX3_partnerOf : MtOK mtX3_partnerOf 1 := ⟨lw_good_t (i := 893) (by decide +kernel) rfl, lw_good_t (i := 11) (by decide +kernel) rfl, ⟨by decide, by decide, by decide +kernel⟩, by decide, by decide⟩
theorem miX3_partnerOf : Cond.instanceMethod mtX3_partnerOf.1 ∈ lw_good := lw_good_t (i := 892) (by decide +kernel) rfl
theorem mnX3_partnerOf : MIn mtX3_partnerOf 3 8 := ⟨⟨miX3_partnerOf, lw_good_p (q := (yX3_partnerOf, 8)) (i := 56) (by decide +kernel)⟩, ⟨TX3, rfl⟩, by decide⟩
abbrev mtX4_init : Mt := (yX4_init, cX4_init, 1, (Option.none : Option Jvm.ClassFile.FieldType))
theorem mkX4_init : MtOK mtX4_init 0 := ⟨lw_good_t (i := 210) (by decide +kernel) rfl, lw_good_t (i := 6) (by decide +kernel) rfl, ⟨by decide, by decide, by decide +kernel⟩, by decide, by decide⟩
theorem miX4_init : Cond.instanceMethod mtX4_init.1 ∈ lw_good := lw_good_t (i := 209) (by decide +kernel) rfl
abbrev mtX4_addFour : Mt := (yX4_addFour, cX4_addFour, 3, (Option.none : Option Jvm.ClassFile.FieldType))
theorem mkX4_addFour : MtOK mtX4_addFour 1 := ⟨lw_good_t (i := 473) (by decide +kernel) rfl, lw_good_t (i := 6) (by decide +kernel) rfl, ⟨by decide, by decide, by decide +kernel⟩, by decide, by decide⟩
theorem miX4_addFour : Cond.instanceMethod mtX4_addFour.1 ∈ lw_good := lw_good_t (i := 472) (by decide +kernel) rfl
theorem mnX4_addFour : MIn mtX4_addFour 4 10 := ⟨⟨miX4_addFour, lw_good_p (q := (yX4_addFour, 10)) (i := 3) (by decide +kernel)⟩, ⟨TX4, rfl⟩, by decide⟩
abbrev mtX4_readInto : Mt := (yX4_readInto, cX4_readInto, 4, (Option.some Jvm.ClassFile.FieldType.boolean))
theorem mkX4_readInto : MtOK mtX4_readInto 1 := ⟨lw_good_t (i := 485) (by decide +kernel) rfl, lw_good_t (i := 6) (by decide +kernel) rfl, ⟨by decide, by decide, by decide +kernel⟩, by decide, by decide⟩
theorem miX4_readInto : Cond.instanceMethod mtX4_readInto.1 ∈ lw_good := lw_good_t (i := 484) (by decide +kernel) rfl
theorem mnX4_readInto : MIn mtX4_readInto 4 10 := ⟨⟨miX4_readInto, lw_good_p (q := (yX4_readInto, 10)) (i := 4) (by decide +kernel)⟩, ⟨TX4, rfl⟩, by decide⟩
abbrev mtX4_failBy : Mt := (yX4_failBy, cX4_failBy, 2, (Option.some Jvm.ClassFile.FieldType.boolean))
theorem mkX4_failBy : MtOK mtX4_failBy 1 := ⟨lw_good_t (i := 569) (by decide +kernel) rfl, lw_good_t (i := 6) (by decide +kernel) rfl, ⟨by decide, by decide, by decide +kernel⟩, by decide, by decide⟩
theorem miX4_failBy : Cond.instanceMethod mtX4_failBy.1 ∈ lw_good := lw_good_t (i := 568) (by decide +kernel) rfl
theorem mnX4_failBy : MIn mtX4_failBy 4 10 := ⟨⟨miX4_failBy, lw_good_p (q := (yX4_failBy, 10)) (i := 10) (by decide +kernel)⟩, ⟨TX4, rfl⟩, by decide⟩
abbrev mtX4_readClause : Mt := (yX4_readClause, cX4_readClause, 2, (Option.some Jvm.ClassFile.FieldType.boolean))
theorem mkX4_readClause : MtOK mtX4_readClause 0 := ⟨lw_good_t (i := 564) (by decide +kernel) rfl, lw_good_t (i := 6) (by decide +kernel) rfl, ⟨by decide, by decide, by decide +kernel⟩, by decide, by decide⟩
theorem miX4_readClause : Cond.instanceMethod mtX4_readClause.1 ∈ lw_good := lw_good_t (i := 563) (by decide +kernel) rfl
theorem mnX4_readClause : MIn mtX4_readClause 4 10 := ⟨⟨miX4_readClause, lw_good_p (q := (yX4_readClause, 10)) (i := 9) (by decide +kernel)⟩, ⟨TX4, rfl⟩, by decide⟩
abbrev mtX4_readNumbers : Mt := (yX4_readNumbers, cX4_readNumbers, 4, (Option.some Jvm.ClassFile.FieldType.boolean))
theorem mkX4_readNumbers : MtOK mtX4_readNumbers 1 := ⟨lw_good_t (i := 577) (by decide +kernel) rfl, lw_good_t (i := 6) (by decide +kernel) rfl, ⟨by decide, by decide, by decide +kernel⟩, by decide, by decide⟩
theorem miX4_readNumbers : Cond.instanceMethod mtX4_readNumbers.1 ∈ lw_good := lw_good_t (i := 576) (by decide +kernel) rfl
theorem mnX4_readNumbers : MIn mtX4_readNumbers 4 10 := ⟨⟨miX4_readNumbers, lw_good_p (q := (yX4_readNumbers, 10)) (i := 12) (by decide +kernel)⟩, ⟨TX4, rfl⟩, by decide⟩
abbrev mtX4_readPart : Mt := (yX4_readPart, cX4_readPart, 5, (Option.some Jvm.ClassFile.FieldType.boolean))
theorem mkX4_readPart : MtOK mtX4_readPart 2 := ⟨lw_good_t (i := 589) (by decide +kernel) rfl, lw_good_t (i := 6) (by decide +kernel) rfl, ⟨by decide, by decide, by decide +kernel⟩, by decide, by decide⟩
theorem miX4_readPart : Cond.instanceMethod mtX4_readPart.1 ∈ lw_good := lw_good_t (i := 588) (by decide +kernel) rfl
theorem mnX4_readPart : MIn mtX4_readPart 4 10 := ⟨⟨miX4_readPart, lw_good_p (q := (yX4_readPart, 10)) (i := 13) (by decide +kernel)⟩, ⟨TX4, rfl⟩, by decide⟩
abbrev mtX4_joinsAt : Mt := (yX4_joinsAt, cX4_joinsAt, 2, (Option.some Jvm.ClassFile.FieldType.boolean))
theorem mkX4_joinsAt : MtOK mtX4_joinsAt 1 := ⟨lw_good_t (i := 624) (by decide +kernel) rfl, lw_good_t (i := 6) (by decide +kernel) rfl, ⟨by decide, by decide, by decide +kernel⟩, by decide, by decide⟩
theorem miX4_joinsAt : Cond.instanceMethod mtX4_joinsAt.1 ∈ lw_good := lw_good_t (i := 623) (by decide +kernel) rfl
theorem mnX4_joinsAt : MIn mtX4_joinsAt 4 10 := ⟨⟨miX4_joinsAt, lw_good_p (q := (yX4_joinsAt, 10)) (i := 21) (by decide +kernel)⟩, ⟨TX4, rfl⟩, by decide⟩
abbrev mtX4_readAsk : Mt := (yX4_readAsk, cX4_readAsk, 3, (Option.some Jvm.ClassFile.FieldType.boolean))
theorem mkX4_readAsk : MtOK mtX4_readAsk 1 := ⟨lw_good_t (i := 593) (by decide +kernel) rfl, lw_good_t (i := 6) (by decide +kernel) rfl, ⟨by decide, by decide, by decide +kernel⟩, by decide, by decide⟩
theorem miX4_readAsk : Cond.instanceMethod mtX4_readAsk.1 ∈ lw_good := lw_good_t (i := 592) (by decide +kernel) rfl
theorem mnX4_readAsk : MIn mtX4_readAsk 4 10 := ⟨⟨miX4_readAsk, lw_good_p (q := (yX4_readAsk, 10)) (i := 14) (by decide +kernel)⟩, ⟨TX4, rfl⟩, by decide⟩
abbrev mtX4_readOne : Mt := (yX4_readOne, cX4_readOne, 3, (Option.some Jvm.ClassFile.FieldType.boolean))
theorem mkX4_readOne : MtOK mtX4_readOne 1 := ⟨lw_good_t (i := 601) (by decide +kernel) rfl, lw_good_t (i := 6) (by decide +kernel) rfl, ⟨by decide, by decide, by decide +kernel⟩, by decide, by decide⟩
theorem miX4_readOne : Cond.instanceMethod mtX4_readOne.1 ∈ lw_good := lw_good_t (i := 600) (by decide +kernel) rfl
theorem mnX4_readOne : MIn mtX4_readOne 4 10 := ⟨⟨miX4_readOne, lw_good_p (q := (yX4_readOne, 10)) (i := 16) (by decide +kernel)⟩, ⟨TX4, rfl⟩, by decide⟩
abbrev mtX4_readMinus : Mt := (yX4_readMinus, cX4_readMinus, 2, (Option.some Jvm.ClassFile.FieldType.boolean))
theorem mkX4_readMinus : MtOK mtX4_readMinus 1 := ⟨lw_good_t (i := 616) (by decide +kernel) rfl, lw_good_t (i := 6) (by decide +kernel) rfl, ⟨by decide, by decide, by decide +kernel⟩, by decide, by decide⟩
theorem miX4_readMinus : Cond.instanceMethod mtX4_readMinus.1 ∈ lw_good := lw_good_t (i := 615) (by decide +kernel) rfl
theorem mnX4_readMinus : MIn mtX4_readMinus 4 10 := ⟨⟨miX4_readMinus, lw_good_p (q := (yX4_readMinus, 10)) (i := 19) (by decide +kernel)⟩, ⟨TX4, rfl⟩, by decide⟩
abbrev mtX4_readParted : Mt := (yX4_readParted, cX4_readParted, 2, (Option.some Jvm.ClassFile.FieldType.boolean))
theorem mkX4_readParted : MtOK mtX4_readParted 1 := ⟨lw_good_t (i := 620) (by decide +kernel) rfl, lw_good_t (i := 6) (by decide +kernel) rfl, ⟨by decide, by decide, by decide +kernel⟩, by decide, by decide⟩
theorem miX4_readParted : Cond.instanceMethod mtX4_readParted.1 ∈ lw_good := lw_good_t (i := 619) (by decide +kernel) rfl
theorem mnX4_readParted : MIn mtX4_readParted 4 10 := ⟨⟨miX4_readParted, lw_good_p (q := (yX4_readParted, 10)) (i := 20) (by decide +kernel)⟩, ⟨TX4, rfl⟩, by decide⟩
abbrev mtX4_isName : Mt := (yX4_isName, cX4_isName, 1, (Option.some Jvm.ClassFile.FieldType.boolean))
theorem mkX4_isName : MtOK mtX4_isName 1 := ⟨lw_good_t (i := 604) (by decide +kernel) rfl, lw_good_t (i := 6) (by decide +kernel) rfl, ⟨by decide, by decide, by decide +kernel⟩, by decide, by decide⟩
theorem msX4_isName : Cond.static mtX4_isName.1 ∈ lw_good := lw_good_t (i := 603) (by decide +kernel) rfl
abbrev mtX4_isNameOfLaw : Mt := (yX4_isNameOfLaw, cX4_isNameOfLaw, 1, (Option.some Jvm.ClassFile.FieldType.boolean))
theorem mkX4_isNameOfLaw : MtOK mtX4_isNameOfLaw 0 := ⟨lw_good_t (i := 608) (by decide +kernel) rfl, lw_good_t (i := 6) (by decide +kernel) rfl, ⟨by decide, by decide, by decide +kernel⟩, by decide, by decide⟩
theorem miX4_isNameOfLaw : Cond.instanceMethod mtX4_isNameOfLaw.1 ∈ lw_good := lw_good_t (i := 607) (by decide +kernel) rfl
theorem mnX4_isNameOfLaw : MIn mtX4_isNameOfLaw 4 10 := ⟨⟨miX4_isNameOfLaw, lw_good_p (q := (yX4_isNameOfLaw, 10)) (i := 17) (by decide +kernel)⟩, ⟨TX4, rfl⟩, by decide⟩
abbrev mtX4_isAskedBeside : Mt := (yX4_isAskedBeside, cX4_isAskedBeside, 1, (Option.some Jvm.ClassFile.FieldType.boolean))
theorem mkX4_isAskedBeside : MtOK mtX4_isAskedBeside 0 := ⟨lw_good_t (i := 612) (by decide +kernel) rfl, lw_good_t (i := 6) (by decide +kernel) rfl, ⟨by decide, by decide, by decide +kernel⟩, by decide, by decide⟩
theorem miX4_isAskedBeside : Cond.instanceMethod mtX4_isAskedBeside.1 ∈ lw_good := lw_good_t (i := 611) (by decide +kernel) rfl
theorem mnX4_isAskedBeside : MIn mtX4_isAskedBeside 4 10 := ⟨⟨miX4_isAskedBeside, lw_good_p (q := (yX4_isAskedBeside, 10)) (i := 18) (by decide +kernel)⟩, ⟨TX4, rfl⟩, by decide⟩
abbrev mtX4_advance : Mt := (yX4_advance, cX4_advance, 1, (Option.none : Option Jvm.ClassFile.FieldType))
theorem mkX4_advance : MtOK mtX4_advance 0 := ⟨lw_good_t (i := 493) (by decide +kernel) rfl, lw_good_t (i := 6) (by decide +kernel) rfl, ⟨by decide, by decide, by decide +kernel⟩, by decide, by decide⟩
theorem miX4_advance : Cond.instanceMethod mtX4_advance.1 ∈ lw_good := lw_good_t (i := 492) (by decide +kernel) rfl
theorem mnX4_advance : MIn mtX4_advance 4 10 := ⟨⟨miX4_advance, lw_good_p (q := (yX4_advance, 10)) (i := 6) (by decide +kernel)⟩, ⟨TX4, rfl⟩, by decide⟩
abbrev mtX4_isLetter : Mt := (yX4_isLetter, cX4_isLetter, 1, (Option.some Jvm.ClassFile.FieldType.boolean))
theorem mkX4_isLetter : MtOK mtX4_isLetter 1 := ⟨lw_good_t (i := 496) (by decide +kernel) rfl, lw_good_t (i := 6) (by decide +kernel) rfl, ⟨by decide, by decide, by decide +kernel⟩, by decide, by decide⟩
theorem msX4_isLetter : Cond.static mtX4_isLetter.1 ∈ lw_good := lw_good_t (i := 495) (by decide +kernel) rfl
abbrev mtX4_isDigit : Mt := (yX4_isDigit, cX4_isDigit, 1, (Option.some Jvm.ClassFile.FieldType.boolean))
theorem mkX4_isDigit : MtOK mtX4_isDigit 1 := ⟨lw_good_t (i := 552) (by decide +kernel) rfl, lw_good_t (i := 6) (by decide +kernel) rfl, ⟨by decide, by decide, by decide +kernel⟩, by decide, by decide⟩
theorem msX4_isDigit : Cond.static mtX4_isDigit.1 ∈ lw_good := lw_good_t (i := 551) (by decide +kernel) rfl
abbrev mtX4_signAt : Mt := (yX4_signAt, cX4_signAt, 4, (Option.some Jvm.ClassFile.FieldType.int))
theorem mkX4_signAt : MtOK mtX4_signAt 1 := ⟨lw_good_t (i := 559) (by decide +kernel) rfl, lw_good_t (i := 6) (by decide +kernel) rfl, ⟨by decide, by decide, by decide +kernel⟩, by decide, by decide⟩
theorem miX4_signAt : Cond.instanceMethod mtX4_signAt.1 ∈ lw_good := lw_good_t (i := 558) (by decide +kernel) rfl
theorem mnX4_signAt : MIn mtX4_signAt 4 10 := ⟨⟨miX4_signAt, lw_good_p (q := (yX4_signAt, 10)) (i := 8) (by decide +kernel)⟩, ⟨TX4, rfl⟩, by decide⟩
abbrev mtX4_wordBetween : Mt := (yX4_wordBetween, cX4_wordBetween, 8, (Option.some Jvm.ClassFile.FieldType.int))
theorem mkX4_wordBetween : MtOK mtX4_wordBetween 2 := ⟨lw_good_t (i := 500) (by decide +kernel) rfl, lw_good_t (i := 6) (by decide +kernel) rfl, ⟨by decide, by decide, by decide +kernel⟩, by decide, by decide⟩
theorem miX4_wordBetween : Cond.instanceMethod mtX4_wordBetween.1 ∈ lw_good := lw_good_t (i := 499) (by decide +kernel) rfl
theorem mnX4_wordBetween : MIn mtX4_wordBetween 4 10 := ⟨⟨miX4_wordBetween, lw_good_p (q := (yX4_wordBetween, 10)) (i := 7) (by decide +kernel)⟩, ⟨TX4, rfl⟩, by decide⟩
abbrev mtX5_init : Mt := (yX5_init, cX5_init, 1, (Option.none : Option Jvm.ClassFile.FieldType))
theorem mkX5_init : MtOK mtX5_init 0 := ⟨lw_good_t (i := 39) (by decide +kernel) rfl, lw_good_t (i := 3) (by decide +kernel) rfl, ⟨by decide, by decide, by decide +kernel⟩, by decide, by decide⟩
theorem miX5_init : Cond.instanceMethod mtX5_init.1 ∈ lw_good := lw_good_t (i := 38) (by decide +kernel) rfl
abbrev mtX5_addStep : Mt := (yX5_addStep, cX5_addStep, 5, (Option.some Jvm.ClassFile.FieldType.int))
theorem mkX5_addStep : MtOK mtX5_addStep 4 := ⟨lw_good_t (i := 450) (by decide +kernel) rfl, lw_good_t (i := 3) (by decide +kernel) rfl, ⟨by decide, by decide, by decide +kernel⟩, by decide, by decide⟩
theorem miX5_addStep : Cond.instanceMethod mtX5_addStep.1 ∈ lw_good := lw_good_t (i := 449) (by decide +kernel) rfl
theorem mnX5_addStep : MIn mtX5_addStep 5 17 := ⟨⟨miX5_addStep, lw_good_p (q := (yX5_addStep, 17)) (i := 0) (by decide +kernel)⟩, ⟨TX5, rfl⟩, by decide⟩
abbrev mtX5_addShip : Mt := (yX5_addShip, cX5_addShip, 4, (Option.some Jvm.ClassFile.FieldType.int))
theorem mkX5_addShip : MtOK mtX5_addShip 3 := ⟨lw_good_t (i := 465) (by decide +kernel) rfl, lw_good_t (i := 3) (by decide +kernel) rfl, ⟨by decide, by decide, by decide +kernel⟩, by decide, by decide⟩
theorem miX5_addShip : Cond.instanceMethod mtX5_addShip.1 ∈ lw_good := lw_good_t (i := 464) (by decide +kernel) rfl
theorem mnX5_addShip : MIn mtX5_addShip 5 17 := ⟨⟨miX5_addShip, lw_good_p (q := (yX5_addShip, 17)) (i := 2) (by decide +kernel)⟩, ⟨TX5, rfl⟩, by decide⟩
abbrev mtX5_copyFrom : Mt := (yX5_copyFrom, cX5_copyFrom, 2, (Option.none : Option Jvm.ClassFile.FieldType))
theorem mkX5_copyFrom : MtOK mtX5_copyFrom 1 := ⟨lw_good_t (i := 657) (by decide +kernel) rfl, lw_good_t (i := 3) (by decide +kernel) rfl, ⟨by decide, by decide, by decide +kernel⟩, by decide, by decide⟩
theorem miX5_copyFrom : Cond.instanceMethod mtX5_copyFrom.1 ∈ lw_good := lw_good_t (i := 656) (by decide +kernel) rfl
theorem mnX5_copyFrom : MIn mtX5_copyFrom 5 17 := ⟨⟨miX5_copyFrom, lw_good_p (q := (yX5_copyFrom, 17)) (i := 26) (by decide +kernel)⟩, ⟨TX5, rfl⟩, by decide⟩
abbrev mtX5_goBackTo : Mt := (yX5_goBackTo, cX5_goBackTo, 2, (Option.none : Option Jvm.ClassFile.FieldType))
theorem mkX5_goBackTo : MtOK mtX5_goBackTo 1 := ⟨lw_good_t (i := 664) (by decide +kernel) rfl, lw_good_t (i := 3) (by decide +kernel) rfl, ⟨by decide, by decide, by decide +kernel⟩, by decide, by decide⟩
theorem miX5_goBackTo : Cond.instanceMethod mtX5_goBackTo.1 ∈ lw_good := lw_good_t (i := 663) (by decide +kernel) rfl
theorem mnX5_goBackTo : MIn mtX5_goBackTo 5 17 := ⟨⟨miX5_goBackTo, lw_good_p (q := (yX5_goBackTo, 17)) (i := 27) (by decide +kernel)⟩, ⟨TX5, rfl⟩, by decide⟩
abbrev mtX5_addWater : Mt := (yX5_addWater, cX5_addWater, 3, (Option.none : Option Jvm.ClassFile.FieldType))
theorem mkX5_addWater : MtOK mtX5_addWater 2 := ⟨lw_good_t (i := 757) (by decide +kernel) rfl, lw_good_t (i := 3) (by decide +kernel) rfl, ⟨by decide, by decide, by decide +kernel⟩, by decide, by decide⟩
theorem miX5_addWater : Cond.instanceMethod mtX5_addWater.1 ∈ lw_good := lw_good_t (i := 756) (by decide +kernel) rfl
theorem mnX5_addWater : MIn mtX5_addWater 5 17 := ⟨⟨miX5_addWater, lw_good_p (q := (yX5_addWater, 17)) (i := 41) (by decide +kernel)⟩, ⟨TX5, rfl⟩, by decide⟩
abbrev mtX5_pay : Mt := (yX5_pay, cX5_pay, 3, (Option.none : Option Jvm.ClassFile.FieldType))
theorem mkX5_pay : MtOK mtX5_pay 2 := ⟨lw_good_t (i := 719) (by decide +kernel) rfl, lw_good_t (i := 3) (by decide +kernel) rfl, ⟨by decide, by decide, by decide +kernel⟩, by decide, by decide⟩
theorem miX5_pay : Cond.instanceMethod mtX5_pay.1 ∈ lw_good := lw_good_t (i := 718) (by decide +kernel) rfl
theorem mnX5_pay : MIn mtX5_pay 5 17 := ⟨⟨miX5_pay, lw_good_p (q := (yX5_pay, 17)) (i := 35) (by decide +kernel)⟩, ⟨TX5, rfl⟩, by decide⟩
abbrev mtX5_moveTo : Mt := (yX5_moveTo, cX5_moveTo, 3, (Option.none : Option Jvm.ClassFile.FieldType))
theorem mkX5_moveTo : MtOK mtX5_moveTo 2 := ⟨lw_good_t (i := 725) (by decide +kernel) rfl, lw_good_t (i := 3) (by decide +kernel) rfl, ⟨by decide, by decide, by decide +kernel⟩, by decide, by decide⟩
theorem miX5_moveTo : Cond.instanceMethod mtX5_moveTo.1 ∈ lw_good := lw_good_t (i := 724) (by decide +kernel) rfl
theorem mnX5_moveTo : MIn mtX5_moveTo 5 17 := ⟨⟨miX5_moveTo, lw_good_p (q := (yX5_moveTo, 17)) (i := 36) (by decide +kernel)⟩, ⟨TX5, rfl⟩, by decide⟩
abbrev mtX5_shipsOn : Mt := (yX5_shipsOn, cX5_shipsOn, 4, (Option.some Jvm.ClassFile.FieldType.int))
theorem mkX5_shipsOn : MtOK mtX5_shipsOn 1 := ⟨lw_good_t (i := 821) (by decide +kernel) rfl, lw_good_t (i := 3) (by decide +kernel) rfl, ⟨by decide, by decide, by decide +kernel⟩, by decide, by decide⟩
theorem miX5_shipsOn : Cond.instanceMethod mtX5_shipsOn.1 ∈ lw_good := lw_good_t (i := 820) (by decide +kernel) rfl
theorem mnX5_shipsOn : MIn mtX5_shipsOn 5 17 := ⟨⟨miX5_shipsOn, lw_good_p (q := (yX5_shipsOn, 17)) (i := 48) (by decide +kernel)⟩, ⟨TX5, rfl⟩, by decide⟩
abbrev mtX5_bound : Mt := (yX5_bound, cX5_bound, 5, (Option.some Jvm.ClassFile.FieldType.int))
theorem mkX5_bound : MtOK mtX5_bound 2 := ⟨lw_good_t (i := 677) (by decide +kernel) rfl, lw_good_t (i := 3) (by decide +kernel) rfl, ⟨by decide, by decide, by decide +kernel⟩, by decide, by decide⟩
theorem miX5_bound : Cond.instanceMethod mtX5_bound.1 ∈ lw_good := lw_good_t (i := 676) (by decide +kernel) rfl
theorem mnX5_bound : MIn mtX5_bound 5 17 := ⟨⟨miX5_bound, lw_good_p (q := (yX5_bound, 17)) (i := 30) (by decide +kernel)⟩, ⟨TX5, rfl⟩, by decide⟩
abbrev mtX5_onGoals : Mt := (yX5_onGoals, cX5_onGoals, 3, (Option.some Jvm.ClassFile.FieldType.int))
theorem mkX5_onGoals : MtOK mtX5_onGoals 0 := ⟨lw_good_t (i := 1009) (by decide +kernel) rfl, lw_good_t (i := 3) (by decide +kernel) rfl, ⟨by decide, by decide, by decide +kernel⟩, by decide, by decide⟩
theorem miX5_onGoals : Cond.instanceMethod mtX5_onGoals.1 ∈ lw_good := lw_good_t (i := 1008) (by decide +kernel) rfl
theorem mnX5_onGoals : MIn mtX5_onGoals 5 17 := ⟨⟨miX5_onGoals, lw_good_p (q := (yX5_onGoals, 17)) (i := 70) (by decide +kernel)⟩, ⟨TX5, rfl⟩, by decide⟩
abbrev mtX6_init : Mt := (yX6_init, cX6_init, 1, (Option.none : Option Jvm.ClassFile.FieldType))
theorem mkX6_init : MtOK mtX6_init 0 := ⟨lw_good_t (i := 256) (by decide +kernel) rfl, lw_good_t (i := 8) (by decide +kernel) rfl, ⟨by decide, by decide, by decide +kernel⟩, by decide, by decide⟩
theorem miX6_init : Cond.instanceMethod mtX6_init.1 ∈ lw_good := lw_good_t (i := 255) (by decide +kernel) rfl
abbrev mtX6_empty : Mt := (yX6_empty, cX6_empty, 2, (Option.none : Option Jvm.ClassFile.FieldType))
theorem mkX6_empty : MtOK mtX6_empty 0 := ⟨lw_good_t (i := 489) (by decide +kernel) rfl, lw_good_t (i := 8) (by decide +kernel) rfl, ⟨by decide, by decide, by decide +kernel⟩, by decide, by decide⟩
theorem miX6_empty : Cond.instanceMethod mtX6_empty.1 ∈ lw_good := lw_good_t (i := 488) (by decide +kernel) rfl
theorem mnX6_empty : MIn mtX6_empty 6 8 := ⟨⟨miX6_empty, lw_good_p (q := (yX6_empty, 8)) (i := 5) (by decide +kernel)⟩, ⟨TX6, rfl⟩, by decide⟩
abbrev mtX6_hasLaw : Mt := (yX6_hasLaw, cX6_hasLaw, 2, (Option.some Jvm.ClassFile.FieldType.boolean))
theorem mkX6_hasLaw : MtOK mtX6_hasLaw 1 := ⟨lw_good_t (i := 573) (by decide +kernel) rfl, lw_good_t (i := 8) (by decide +kernel) rfl, ⟨by decide, by decide, by decide +kernel⟩, by decide, by decide⟩
theorem miX6_hasLaw : Cond.instanceMethod mtX6_hasLaw.1 ∈ lw_good := lw_good_t (i := 572) (by decide +kernel) rfl
theorem mnX6_hasLaw : MIn mtX6_hasLaw 6 8 := ⟨⟨miX6_hasLaw, lw_good_p (q := (yX6_hasLaw, 8)) (i := 11) (by decide +kernel)⟩, ⟨TX6, rfl⟩, by decide⟩
abbrev mtX6_numberOf : Mt := (yX6_numberOf, cX6_numberOf, 3, (Option.some Jvm.ClassFile.FieldType.int))
theorem mkX6_numberOf : MtOK mtX6_numberOf 2 := ⟨lw_good_t (i := 789) (by decide +kernel) rfl, lw_good_t (i := 8) (by decide +kernel) rfl, ⟨by decide, by decide, by decide +kernel⟩, by decide, by decide⟩
theorem miX6_numberOf : Cond.instanceMethod mtX6_numberOf.1 ∈ lw_good := lw_good_t (i := 788) (by decide +kernel) rfl
theorem mnX6_numberOf : MIn mtX6_numberOf 6 8 := ⟨⟨miX6_numberOf, lw_good_p (q := (yX6_numberOf, 8)) (i := 45) (by decide +kernel)⟩, ⟨TX6, rfl⟩, by decide⟩
abbrev mtX6_addCode : Mt := (yX6_addCode, cX6_addCode, 3, (Option.none : Option Jvm.ClassFile.FieldType))
theorem mkX6_addCode : MtOK mtX6_addCode 2 := ⟨lw_good_t (i := 597) (by decide +kernel) rfl, lw_good_t (i := 8) (by decide +kernel) rfl, ⟨by decide, by decide, by decide +kernel⟩, by decide, by decide⟩
theorem miX6_addCode : Cond.instanceMethod mtX6_addCode.1 ∈ lw_good := lw_good_t (i := 596) (by decide +kernel) rfl
theorem mnX6_addCode : MIn mtX6_addCode 6 8 := ⟨⟨miX6_addCode, lw_good_p (q := (yX6_addCode, 8)) (i := 15) (by decide +kernel)⟩, ⟨TX6, rfl⟩, by decide⟩
abbrev mtX7_init : Mt := (yX7_init, cX7_init, 1, (Option.none : Option Jvm.ClassFile.FieldType))
theorem mkX7_init : MtOK mtX7_init 0 := ⟨lw_good_t (i := 152) (by decide +kernel) rfl, lw_good_t (i := 5) (by decide +kernel) rfl, ⟨by decide, by decide, by decide +kernel⟩, by decide, by decide⟩
theorem miX7_init : Cond.instanceMethod mtX7_init.1 ∈ lw_good := lw_good_t (i := 151) (by decide +kernel) rfl
abbrev mtX7_copyFrom : Mt := (yX7_copyFrom, cX7_copyFrom, 2, (Option.none : Option Jvm.ClassFile.FieldType))
theorem mkX7_copyFrom : MtOK mtX7_copyFrom 1 := ⟨lw_good_t (i := 1027) (by decide +kernel) rfl, lw_good_t (i := 5) (by decide +kernel) rfl, ⟨by decide, by decide, by decide +kernel⟩, by decide, by decide⟩
theorem miX7_copyFrom : Cond.instanceMethod mtX7_copyFrom.1 ∈ lw_good := lw_good_t (i := 1026) (by decide +kernel) rfl
theorem mnX7_copyFrom : MIn mtX7_copyFrom 7 8 := ⟨⟨miX7_copyFrom, lw_good_p (q := (yX7_copyFrom, 8)) (i := 73) (by decide +kernel)⟩, ⟨TX7, rfl⟩, by decide⟩
abbrev mtX7_addSound : Mt := (yX7_addSound, cX7_addSound, 3, (Option.none : Option Jvm.ClassFile.FieldType))
theorem mkX7_addSound : MtOK mtX7_addSound 2 := ⟨lw_good_t (i := 939) (by decide +kernel) rfl, lw_good_t (i := 5) (by decide +kernel) rfl, ⟨by decide, by decide, by decide +kernel⟩, by decide, by decide⟩
theorem miX7_addSound : Cond.instanceMethod mtX7_addSound.1 ∈ lw_good := lw_good_t (i := 938) (by decide +kernel) rfl
theorem mnX7_addSound : MIn mtX7_addSound 7 8 := ⟨⟨miX7_addSound, lw_good_p (q := (yX7_addSound, 8)) (i := 62) (by decide +kernel)⟩, ⟨TX7, rfl⟩, by decide⟩
abbrev mtX7_addWreck : Mt := (yX7_addWreck, cX7_addWreck, 2, (Option.none : Option Jvm.ClassFile.FieldType))
theorem mkX7_addWreck : MtOK mtX7_addWreck 1 := ⟨lw_good_t (i := 955) (by decide +kernel) rfl, lw_good_t (i := 5) (by decide +kernel) rfl, ⟨by decide, by decide, by decide +kernel⟩, by decide, by decide⟩
theorem miX7_addWreck : Cond.instanceMethod mtX7_addWreck.1 ∈ lw_good := lw_good_t (i := 954) (by decide +kernel) rfl
theorem mnX7_addWreck : MIn mtX7_addWreck 7 8 := ⟨⟨miX7_addWreck, lw_good_p (q := (yX7_addWreck, 8)) (i := 64) (by decide +kernel)⟩, ⟨TX7, rfl⟩, by decide⟩
abbrev mtX7_addMisheard : Mt := (yX7_addMisheard, cX7_addMisheard, 3, (Option.none : Option Jvm.ClassFile.FieldType))
theorem mkX7_addMisheard : MtOK mtX7_addMisheard 2 := ⟨lw_good_t (i := 980) (by decide +kernel) rfl, lw_good_t (i := 5) (by decide +kernel) rfl, ⟨by decide, by decide, by decide +kernel⟩, by decide, by decide⟩
theorem miX7_addMisheard : Cond.instanceMethod mtX7_addMisheard.1 ∈ lw_good := lw_good_t (i := 979) (by decide +kernel) rfl
theorem mnX7_addMisheard : MIn mtX7_addMisheard 7 8 := ⟨⟨miX7_addMisheard, lw_good_p (q := (yX7_addMisheard, 8)) (i := 67) (by decide +kernel)⟩, ⟨TX7, rfl⟩, by decide⟩
abbrev mtX7_mayBeHigh : Mt := (yX7_mayBeHigh, cX7_mayBeHigh, 6, (Option.some Jvm.ClassFile.FieldType.boolean))
theorem mkX7_mayBeHigh : MtOK mtX7_mayBeHigh 2 := ⟨lw_good_t (i := 947) (by decide +kernel) rfl, lw_good_t (i := 5) (by decide +kernel) rfl, ⟨by decide, by decide, by decide +kernel⟩, by decide, by decide⟩
theorem miX7_mayBeHigh : Cond.instanceMethod mtX7_mayBeHigh.1 ∈ lw_good := lw_good_t (i := 946) (by decide +kernel) rfl
theorem mnX7_mayBeHigh : MIn mtX7_mayBeHigh 7 8 := ⟨⟨miX7_mayBeHigh, lw_good_p (q := (yX7_mayBeHigh, 8)) (i := 63) (by decide +kernel)⟩, ⟨TX7, rfl⟩, by decide⟩
abbrev mtX7_measureRows : Mt := (yX7_measureRows, cX7_measureRows, 4, (Option.some Jvm.ClassFile.FieldType.int))
theorem mkX7_measureRows : MtOK mtX7_measureRows 0 := ⟨lw_good_t (i := 963) (by decide +kernel) rfl, lw_good_t (i := 5) (by decide +kernel) rfl, ⟨by decide, by decide, by decide +kernel⟩, by decide, by decide⟩
theorem miX7_measureRows : Cond.instanceMethod mtX7_measureRows.1 ∈ lw_good := lw_good_t (i := 962) (by decide +kernel) rfl
theorem mnX7_measureRows : MIn mtX7_measureRows 7 8 := ⟨⟨miX7_measureRows, lw_good_p (q := (yX7_measureRows, 8)) (i := 65) (by decide +kernel)⟩, ⟨TX7, rfl⟩, by decide⟩
abbrev mtX7_reignInOrder : Mt := (yX7_reignInOrder, cX7_reignInOrder, 8, (Option.some Jvm.ClassFile.FieldType.int))
theorem mkX7_reignInOrder : MtOK mtX7_reignInOrder 2 := ⟨lw_good_t (i := 968) (by decide +kernel) rfl, lw_good_t (i := 5) (by decide +kernel) rfl, ⟨by decide, by decide, by decide +kernel⟩, by decide, by decide⟩
theorem miX7_reignInOrder : Cond.instanceMethod mtX7_reignInOrder.1 ∈ lw_good := lw_good_t (i := 967) (by decide +kernel) rfl
theorem mnX7_reignInOrder : MIn mtX7_reignInOrder 7 8 := ⟨⟨miX7_reignInOrder, lw_good_p (q := (yX7_reignInOrder, 8)) (i := 66) (by decide +kernel)⟩, ⟨TX7, rfl⟩, by decide⟩
abbrev mtX7_areApart : Mt := (yX7_areApart, cX7_areApart, 3, (Option.some Jvm.ClassFile.FieldType.boolean))
theorem mkX7_areApart : MtOK mtX7_areApart 1 := ⟨lw_good_t (i := 988) (by decide +kernel) rfl, lw_good_t (i := 5) (by decide +kernel) rfl, ⟨by decide, by decide, by decide +kernel⟩, by decide, by decide⟩
theorem miX7_areApart : Cond.instanceMethod mtX7_areApart.1 ∈ lw_good := lw_good_t (i := 987) (by decide +kernel) rfl
theorem mnX7_areApart : MIn mtX7_areApart 7 8 := ⟨⟨miX7_areApart, lw_good_p (q := (yX7_areApart, 8)) (i := 68) (by decide +kernel)⟩, ⟨TX7, rfl⟩, by decide⟩
abbrev mtX7_chainOf : Mt := (yX7_chainOf, cX7_chainOf, 7, (Option.some Jvm.ClassFile.FieldType.int))
theorem mkX7_chainOf : MtOK mtX7_chainOf 2 := ⟨lw_good_t (i := 996) (by decide +kernel) rfl, lw_good_t (i := 5) (by decide +kernel) rfl, ⟨by decide, by decide, by decide +kernel⟩, by decide, by decide⟩
theorem miX7_chainOf : Cond.instanceMethod mtX7_chainOf.1 ∈ lw_good := lw_good_t (i := 995) (by decide +kernel) rfl
theorem mnX7_chainOf : MIn mtX7_chainOf 7 8 := ⟨⟨miX7_chainOf, lw_good_p (q := (yX7_chainOf, 8)) (i := 69) (by decide +kernel)⟩, ⟨TX7, rfl⟩, by decide⟩
abbrev mtX8_init : Mt := (yX8_init, cX8_init, 1, (Option.none : Option Jvm.ClassFile.FieldType))
theorem mkX8_init : MtOK mtX8_init 0 := ⟨lw_good_t (i := 383) (by decide +kernel) rfl, lw_good_t (i := 12) (by decide +kernel) rfl, ⟨by decide, by decide, by decide +kernel⟩, by decide, by decide⟩
theorem miX8_init : Cond.instanceMethod mtX8_init.1 ∈ lw_good := lw_good_t (i := 382) (by decide +kernel) rfl
abbrev mtX8_unite : Mt := (yX8_unite, cX8_unite, 8, (Option.none : Option Jvm.ClassFile.FieldType))
theorem mkX8_unite : MtOK mtX8_unite 2 := ⟨lw_good_t (i := 923) (by decide +kernel) rfl, lw_good_t (i := 12) (by decide +kernel) rfl, ⟨by decide, by decide, by decide +kernel⟩, by decide, by decide⟩
theorem miX8_unite : Cond.instanceMethod mtX8_unite.1 ∈ lw_good := lw_good_t (i := 922) (by decide +kernel) rfl
theorem mnX8_unite : MIn mtX8_unite 8 4 := ⟨⟨miX8_unite, lw_good_p (q := (yX8_unite, 4)) (i := 59) (by decide +kernel)⟩, ⟨TX8, rfl⟩, by decide⟩
abbrev mtX8_worthOf : Mt := (yX8_worthOf, cX8_worthOf, 6, (Option.some Jvm.ClassFile.FieldType.int))
theorem mkX8_worthOf : MtOK mtX8_worthOf 3 := ⟨lw_good_t (i := 927) (by decide +kernel) rfl, lw_good_t (i := 12) (by decide +kernel) rfl, ⟨by decide, by decide, by decide +kernel⟩, by decide, by decide⟩
theorem miX8_worthOf : Cond.instanceMethod mtX8_worthOf.1 ∈ lw_good := lw_good_t (i := 926) (by decide +kernel) rfl
theorem mnX8_worthOf : MIn mtX8_worthOf 8 4 := ⟨⟨miX8_worthOf, lw_good_p (q := (yX8_worthOf, 4)) (i := 60) (by decide +kernel)⟩, ⟨TX8, rfl⟩, by decide⟩
abbrev mtX8_unionOf : Mt := (yX8_unionOf, cX8_unionOf, 5, (Option.some Jvm.ClassFile.FieldType.int))
theorem mkX8_unionOf : MtOK mtX8_unionOf 1 := ⟨lw_good_t (i := 931) (by decide +kernel) rfl, lw_good_t (i := 12) (by decide +kernel) rfl, ⟨by decide, by decide, by decide +kernel⟩, by decide, by decide⟩
theorem miX8_unionOf : Cond.instanceMethod mtX8_unionOf.1 ∈ lw_good := lw_good_t (i := 930) (by decide +kernel) rfl
theorem mnX8_unionOf : MIn mtX8_unionOf 8 4 := ⟨⟨miX8_unionOf, lw_good_p (q := (yX8_unionOf, 4)) (i := 61) (by decide +kernel)⟩, ⟨TX8, rfl⟩, by decide⟩
abbrev mtX9_init : Mt := (yX9_init, cX9_init, 2, (Option.none : Option Jvm.ClassFile.FieldType))
theorem mkX9_init : MtOK mtX9_init 1 := ⟨lw_good_t (i := 327) (by decide +kernel) rfl, lw_good_t (i := 10) (by decide +kernel) rfl, ⟨by decide, by decide, by decide +kernel⟩, by decide, by decide⟩
theorem miX9_init : Cond.instanceMethod mtX9_init.1 ∈ lw_good := lw_good_t (i := 326) (by decide +kernel) rfl
abbrev mtX9_plan : Mt := (yX9_plan, cX9_plan, 10, (Option.none : Option Jvm.ClassFile.FieldType))
theorem mkX9_plan : MtOK mtX9_plan 5 := ⟨lw_good_t (i := 859) (by decide +kernel) rfl, lw_good_t (i := 10) (by decide +kernel) rfl, ⟨by decide, by decide, by decide +kernel⟩, by decide, by decide⟩
theorem miX9_plan : Cond.instanceMethod mtX9_plan.1 ∈ lw_good := lw_good_t (i := 858) (by decide +kernel) rfl
theorem mnX9_plan : MIn mtX9_plan 9 4 := ⟨⟨miX9_plan, lw_good_p (q := (yX9_plan, 4)) (i := 50) (by decide +kernel)⟩, ⟨TX9, rfl⟩, by decide⟩
abbrev mtX9_isWaitBetter : Mt := (yX9_isWaitBetter, cX9_isWaitBetter, 3, (Option.some Jvm.ClassFile.FieldType.boolean))
theorem mkX9_isWaitBetter : MtOK mtX9_isWaitBetter 2 := ⟨lw_good_t (i := 864) (by decide +kernel) rfl, lw_good_t (i := 10) (by decide +kernel) rfl, ⟨by decide, by decide, by decide +kernel⟩, by decide, by decide⟩
theorem miX9_isWaitBetter : Cond.instanceMethod mtX9_isWaitBetter.1 ∈ lw_good := lw_good_t (i := 863) (by decide +kernel) rfl
theorem mnX9_isWaitBetter : MIn mtX9_isWaitBetter 9 4 := ⟨⟨miX9_isWaitBetter, lw_good_p (q := (yX9_isWaitBetter, 4)) (i := 51) (by decide +kernel)⟩, ⟨TX9, rfl⟩, by decide⟩
abbrev mtX9_hoursAheadOf : Mt := (yX9_hoursAheadOf, cX9_hoursAheadOf, 4, (Option.some Jvm.ClassFile.FieldType.int))
theorem mkX9_hoursAheadOf : MtOK mtX9_hoursAheadOf 1 := ⟨lw_good_t (i := 868) (by decide +kernel) rfl, lw_good_t (i := 10) (by decide +kernel) rfl, ⟨by decide, by decide, by decide +kernel⟩, by decide, by decide⟩
theorem miX9_hoursAheadOf : Cond.instanceMethod mtX9_hoursAheadOf.1 ∈ lw_good := lw_good_t (i := 867) (by decide +kernel) rfl
theorem mnX9_hoursAheadOf : MIn mtX9_hoursAheadOf 9 4 := ⟨⟨miX9_hoursAheadOf, lw_good_p (q := (yX9_hoursAheadOf, 4)) (i := 52) (by decide +kernel)⟩, ⟨TX9, rfl⟩, by decide⟩
abbrev mtX10_init : Mt := (yX10_init, cX10_init, 1, (Option.none : Option Jvm.ClassFile.FieldType))
theorem mkX10_init : MtOK mtX10_init 0 := ⟨lw_good_t (i := 33) (by decide +kernel) rfl, lw_good_t (i := 2) (by decide +kernel) rfl, ⟨by decide, by decide, by decide +kernel⟩, by decide, by decide⟩
theorem miX10_init : Cond.instanceMethod mtX10_init.1 ∈ lw_good := lw_good_t (i := 32) (by decide +kernel) rfl
abbrev mtX10_copyFrom : Mt := (yX10_copyFrom, cX10_copyFrom, 2, (Option.none : Option Jvm.ClassFile.FieldType))
theorem mkX10_copyFrom : MtOK mtX10_copyFrom 1 := ⟨lw_good_t (i := 1018) (by decide +kernel) rfl, lw_good_t (i := 2) (by decide +kernel) rfl, ⟨by decide, by decide, by decide +kernel⟩, by decide, by decide⟩
theorem miX10_copyFrom : Cond.instanceMethod mtX10_copyFrom.1 ∈ lw_good := lw_good_t (i := 1017) (by decide +kernel) rfl
theorem mnX10_copyFrom : MIn mtX10_copyFrom 10 5 := ⟨⟨miX10_copyFrom, lw_good_p (q := (yX10_copyFrom, 5)) (i := 71) (by decide +kernel)⟩, ⟨TX10, rfl⟩, by decide⟩
abbrev mtX11_init : Mt := (yX11_init, cX11_init, 2, (Option.none : Option Jvm.ClassFile.FieldType))
theorem mkX11_init : MtOK mtX11_init 0 := ⟨lw_good_t (i := 25) (by decide +kernel) rfl, lw_good_t (i := 1) (by decide +kernel) rfl, ⟨by decide, by decide, by decide +kernel⟩, by decide, by decide⟩
theorem miX11_init : Cond.instanceMethod mtX11_init.1 ∈ lw_good := lw_good_t (i := 24) (by decide +kernel) rfl
abbrev mtX11_step : Mt := (yX11_step, cX11_step, 5, (Option.some Jvm.ClassFile.FieldType.int))
theorem mkX11_step : MtOK mtX11_step 4 := ⟨lw_good_t (i := 443) (by decide +kernel) rfl, lw_good_t (i := 1) (by decide +kernel) rfl, ⟨by decide, by decide, by decide +kernel⟩, by decide, by decide⟩
theorem miX11_step : Cond.instanceMethod mtX11_step.1 ∈ lw_good := lw_good_t (i := 441) (by decide +kernel) rfl
theorem mnX11_step : MIn mtX11_step 11 12 := ⟨⟨miX11_step, lw_good_t (i := 442) (by decide +kernel) rfl⟩, ⟨TX11, rfl⟩, by decide⟩
abbrev mtX11_ship : Mt := (yX11_ship, cX11_ship, 4, (Option.some Jvm.ClassFile.FieldType.int))
theorem mkX11_ship : MtOK mtX11_ship 3 := ⟨lw_good_t (i := 454) (by decide +kernel) rfl, lw_good_t (i := 1) (by decide +kernel) rfl, ⟨by decide, by decide, by decide +kernel⟩, by decide, by decide⟩
theorem miX11_ship : Cond.instanceMethod mtX11_ship.1 ∈ lw_good := lw_good_t (i := 452) (by decide +kernel) rfl
theorem mnX11_ship : MIn mtX11_ship 11 12 := ⟨⟨miX11_ship, lw_good_t (i := 453) (by decide +kernel) rfl⟩, ⟨TX11, rfl⟩, by decide⟩
abbrev mtX11_feed : Mt := (yX11_feed, cX11_feed, 6, (Option.some Jvm.ClassFile.FieldType.int))
theorem mkX11_feed : MtOK mtX11_feed 5 := ⟨lw_good_t (i := 469) (by decide +kernel) rfl, lw_good_t (i := 1) (by decide +kernel) rfl, ⟨by decide, by decide, by decide +kernel⟩, by decide, by decide⟩
theorem miX11_feed : Cond.instanceMethod mtX11_feed.1 ∈ lw_good := lw_good_t (i := 467) (by decide +kernel) rfl
theorem mnX11_feed : MIn mtX11_feed 11 12 := ⟨⟨miX11_feed, lw_good_t (i := 468) (by decide +kernel) rfl⟩, ⟨TX11, rfl⟩, by decide⟩
abbrev mtX11_end : Mt := (yX11_end, cX11_end, 2, (Option.some Jvm.ClassFile.FieldType.int))
theorem mkX11_end : MtOK mtX11_end 1 := ⟨lw_good_t (i := 477) (by decide +kernel) rfl, lw_good_t (i := 1) (by decide +kernel) rfl, ⟨by decide, by decide, by decide +kernel⟩, by decide, by decide⟩
theorem miX11_end : Cond.instanceMethod mtX11_end.1 ∈ lw_good := lw_good_t (i := 475) (by decide +kernel) rfl
theorem mnX11_end : MIn mtX11_end 11 12 := ⟨⟨miX11_end, lw_good_t (i := 476) (by decide +kernel) rfl⟩, ⟨TX11, rfl⟩, by decide⟩
abbrev mtX11_text : Mt := (yX11_text, cX11_text, 2, (Option.some Jvm.ClassFile.FieldType.int))
theorem mkX11_text : MtOK mtX11_text 0 := ⟨lw_good_t (i := 481) (by decide +kernel) rfl, lw_good_t (i := 1) (by decide +kernel) rfl, ⟨by decide, by decide, by decide +kernel⟩, by decide, by decide⟩
theorem miX11_text : Cond.instanceMethod mtX11_text.1 ∈ lw_good := lw_good_t (i := 479) (by decide +kernel) rfl
theorem mnX11_text : MIn mtX11_text 11 12 := ⟨⟨miX11_text, lw_good_t (i := 480) (by decide +kernel) rfl⟩, ⟨TX11, rfl⟩, by decide⟩
abbrev mtX11_fault : Mt := (yX11_fault, cX11_fault, 2, (Option.some Jvm.ClassFile.FieldType.int))
theorem mkX11_fault : MtOK mtX11_fault 1 := ⟨lw_good_t (i := 629) (by decide +kernel) rfl, lw_good_t (i := 1) (by decide +kernel) rfl, ⟨by decide, by decide, by decide +kernel⟩, by decide, by decide⟩
theorem miX11_fault : Cond.instanceMethod mtX11_fault.1 ∈ lw_good := lw_good_t (i := 627) (by decide +kernel) rfl
theorem mnX11_fault : MIn mtX11_fault 11 12 := ⟨⟨miX11_fault, lw_good_t (i := 628) (by decide +kernel) rfl⟩, ⟨TX11, rfl⟩, by decide⟩
abbrev mtX11_by : Mt := (yX11_by, cX11_by, 2, (Option.some Jvm.ClassFile.FieldType.boolean))
theorem mkX11_by : MtOK mtX11_by 1 := ⟨lw_good_t (i := 633) (by decide +kernel) rfl, lw_good_t (i := 1) (by decide +kernel) rfl, ⟨by decide, by decide, by decide +kernel⟩, by decide, by decide⟩
theorem miX11_by : Cond.instanceMethod mtX11_by.1 ∈ lw_good := lw_good_t (i := 631) (by decide +kernel) rfl
theorem mnX11_by : MIn mtX11_by 11 12 := ⟨⟨miX11_by, lw_good_t (i := 632) (by decide +kernel) rfl⟩, ⟨TX11, rfl⟩, by decide⟩
abbrev mtX11_hour : Mt := (yX11_hour, cX11_hour, 2, (Option.some Jvm.ClassFile.FieldType.int))
theorem mkX11_hour : MtOK mtX11_hour 1 := ⟨lw_good_t (i := 645) (by decide +kernel) rfl, lw_good_t (i := 1) (by decide +kernel) rfl, ⟨by decide, by decide, by decide +kernel⟩, by decide, by decide⟩
theorem miX11_hour : Cond.instanceMethod mtX11_hour.1 ∈ lw_good := lw_good_t (i := 643) (by decide +kernel) rfl
theorem mnX11_hour : MIn mtX11_hour 11 12 := ⟨⟨miX11_hour, lw_good_t (i := 644) (by decide +kernel) rfl⟩, ⟨TX11, rfl⟩, by decide⟩
abbrev mtX11_flood : Mt := (yX11_flood, cX11_flood, 3, (Option.some Jvm.ClassFile.FieldType.int))
theorem mkX11_flood : MtOK mtX11_flood 2 := ⟨lw_good_t (i := 753) (by decide +kernel) rfl, lw_good_t (i := 1) (by decide +kernel) rfl, ⟨by decide, by decide, by decide +kernel⟩, by decide, by decide⟩
theorem miX11_flood : Cond.instanceMethod mtX11_flood.1 ∈ lw_good := lw_good_t (i := 751) (by decide +kernel) rfl
theorem mnX11_flood : MIn mtX11_flood 11 12 := ⟨⟨miX11_flood, lw_good_t (i := 752) (by decide +kernel) rfl⟩, ⟨TX11, rfl⟩, by decide⟩
abbrev mtX11_raise : Mt := (yX11_raise, cX11_raise, 3, (Option.some Jvm.ClassFile.FieldType.boolean))
theorem mkX11_raise : MtOK mtX11_raise 2 := ⟨lw_good_t (i := 761) (by decide +kernel) rfl, lw_good_t (i := 1) (by decide +kernel) rfl, ⟨by decide, by decide, by decide +kernel⟩, by decide, by decide⟩
theorem miX11_raise : Cond.instanceMethod mtX11_raise.1 ∈ lw_good := lw_good_t (i := 759) (by decide +kernel) rfl
theorem mnX11_raise : MIn mtX11_raise 11 12 := ⟨⟨miX11_raise, lw_good_t (i := 760) (by decide +kernel) rfl⟩, ⟨TX11, rfl⟩, by decide⟩
abbrev mtX11_mend : Mt := (yX11_mend, cX11_mend, 3, (Option.some Jvm.ClassFile.FieldType.int))
theorem mkX11_mend : MtOK mtX11_mend 1 := ⟨lw_good_t (i := 765) (by decide +kernel) rfl, lw_good_t (i := 1) (by decide +kernel) rfl, ⟨by decide, by decide, by decide +kernel⟩, by decide, by decide⟩
theorem miX11_mend : Cond.instanceMethod mtX11_mend.1 ∈ lw_good := lw_good_t (i := 763) (by decide +kernel) rfl
theorem mnX11_mend : MIn mtX11_mend 11 12 := ⟨⟨miX11_mend, lw_good_t (i := 764) (by decide +kernel) rfl⟩, ⟨TX11, rfl⟩, by decide⟩
abbrev mtX11_bind : Mt := (yX11_bind, cX11_bind, 3, (Option.some Jvm.ClassFile.FieldType.boolean))
theorem mkX11_bind : MtOK mtX11_bind 2 := ⟨lw_good_t (i := 773) (by decide +kernel) rfl, lw_good_t (i := 1) (by decide +kernel) rfl, ⟨by decide, by decide, by decide +kernel⟩, by decide, by decide⟩
theorem miX11_bind : Cond.instanceMethod mtX11_bind.1 ∈ lw_good := lw_good_t (i := 771) (by decide +kernel) rfl
theorem mnX11_bind : MIn mtX11_bind 11 12 := ⟨⟨miX11_bind, lw_good_t (i := 772) (by decide +kernel) rfl⟩, ⟨TX11, rfl⟩, by decide⟩
abbrev mtX11_played : Mt := (yX11_played, cX11_played, 4, (Option.some Jvm.ClassFile.FieldType.int))
theorem mkX11_played : MtOK mtX11_played 1 := ⟨lw_good_t (i := 781) (by decide +kernel) rfl, lw_good_t (i := 1) (by decide +kernel) rfl, ⟨by decide, by decide, by decide +kernel⟩, by decide, by decide⟩
theorem miX11_played : Cond.instanceMethod mtX11_played.1 ∈ lw_good := lw_good_t (i := 779) (by decide +kernel) rfl
theorem mnX11_played : MIn mtX11_played 11 12 := ⟨⟨miX11_played, lw_good_t (i := 780) (by decide +kernel) rfl⟩, ⟨TX11, rfl⟩, by decide⟩
abbrev mtX11_centuries : Mt := (yX11_centuries, cX11_centuries, 5, (Option.some Jvm.ClassFile.FieldType.int))
theorem mkX11_centuries : MtOK mtX11_centuries 2 := ⟨lw_good_t (i := 800) (by decide +kernel) rfl, lw_good_t (i := 1) (by decide +kernel) rfl, ⟨by decide, by decide, by decide +kernel⟩, by decide, by decide⟩
theorem miX11_centuries : Cond.instanceMethod mtX11_centuries.1 ∈ lw_good := lw_good_t (i := 798) (by decide +kernel) rfl
theorem mnX11_centuries : MIn mtX11_centuries 11 12 := ⟨⟨miX11_centuries, lw_good_t (i := 799) (by decide +kernel) rfl⟩, ⟨TX11, rfl⟩, by decide⟩
abbrev mtX11_undo : Mt := (yX11_undo, cX11_undo, 1, (Option.some Jvm.ClassFile.FieldType.int))
theorem mkX11_undo : MtOK mtX11_undo 0 := ⟨lw_good_t (i := 808) (by decide +kernel) rfl, lw_good_t (i := 1) (by decide +kernel) rfl, ⟨by decide, by decide, by decide +kernel⟩, by decide, by decide⟩
theorem miX11_undo : Cond.instanceMethod mtX11_undo.1 ∈ lw_good := lw_good_t (i := 806) (by decide +kernel) rfl
theorem mnX11_undo : MIn mtX11_undo 11 12 := ⟨⟨miX11_undo, lw_good_t (i := 807) (by decide +kernel) rfl⟩, ⟨TX11, rfl⟩, by decide⟩
abbrev mtX11_ofStep : Mt := (yX11_ofStep, cX11_ofStep, 3, (Option.some Jvm.ClassFile.FieldType.int))
theorem mkX11_ofStep : MtOK mtX11_ofStep 2 := ⟨lw_good_t (i := 817) (by decide +kernel) rfl, lw_good_t (i := 1) (by decide +kernel) rfl, ⟨by decide, by decide, by decide +kernel⟩, by decide, by decide⟩
theorem miX11_ofStep : Cond.instanceMethod mtX11_ofStep.1 ∈ lw_good := lw_good_t (i := 815) (by decide +kernel) rfl
theorem mnX11_ofStep : MIn mtX11_ofStep 11 12 := ⟨⟨miX11_ofStep, lw_good_t (i := 816) (by decide +kernel) rfl⟩, ⟨TX11, rfl⟩, by decide⟩
abbrev mtX11_ofShip : Mt := (yX11_ofShip, cX11_ofShip, 3, (Option.some Jvm.ClassFile.FieldType.int))
theorem mkX11_ofShip : MtOK mtX11_ofShip 2 := ⟨lw_good_t (i := 826) (by decide +kernel) rfl, lw_good_t (i := 1) (by decide +kernel) rfl, ⟨by decide, by decide, by decide +kernel⟩, by decide, by decide⟩
theorem miX11_ofShip : Cond.instanceMethod mtX11_ofShip.1 ∈ lw_good := lw_good_t (i := 824) (by decide +kernel) rfl
theorem mnX11_ofShip : MIn mtX11_ofShip 11 12 := ⟨⟨miX11_ofShip, lw_good_t (i := 825) (by decide +kernel) rfl⟩, ⟨TX11, rfl⟩, by decide⟩
abbrev mtX11_is : Mt := (yX11_is, cX11_is, 2, (Option.some Jvm.ClassFile.FieldType.int))
theorem mkX11_is : MtOK mtX11_is 1 := ⟨lw_good_t (i := 830) (by decide +kernel) rfl, lw_good_t (i := 1) (by decide +kernel) rfl, ⟨by decide, by decide, by decide +kernel⟩, by decide, by decide⟩
theorem miX11_is : Cond.instanceMethod mtX11_is.1 ∈ lw_good := lw_good_t (i := 828) (by decide +kernel) rfl
theorem mnX11_is : MIn mtX11_is 11 12 := ⟨⟨miX11_is, lw_good_t (i := 829) (by decide +kernel) rfl⟩, ⟨TX11, rfl⟩, by decide⟩
abbrev mtX11_book : Mt := (yX11_book, cX11_book, 3, (Option.some Jvm.ClassFile.FieldType.int))
theorem mkX11_book : MtOK mtX11_book 2 := ⟨lw_good_t (i := 834) (by decide +kernel) rfl, lw_good_t (i := 1) (by decide +kernel) rfl, ⟨by decide, by decide, by decide +kernel⟩, by decide, by decide⟩
theorem miX11_book : Cond.instanceMethod mtX11_book.1 ∈ lw_good := lw_good_t (i := 832) (by decide +kernel) rfl
theorem mnX11_book : MIn mtX11_book 11 12 := ⟨⟨miX11_book, lw_good_t (i := 833) (by decide +kernel) rfl⟩, ⟨TX11, rfl⟩, by decide⟩
abbrev mtX11_foretoldShip : Mt := (yX11_foretoldShip, cX11_foretoldShip, 4, (Option.some Jvm.ClassFile.FieldType.int))
theorem mkX11_foretoldShip : MtOK mtX11_foretoldShip 3 := ⟨lw_good_t (i := 838) (by decide +kernel) rfl, lw_good_t (i := 1) (by decide +kernel) rfl, ⟨by decide, by decide, by decide +kernel⟩, by decide, by decide⟩
theorem miX11_foretoldShip : Cond.instanceMethod mtX11_foretoldShip.1 ∈ lw_good := lw_good_t (i := 836) (by decide +kernel) rfl
theorem mnX11_foretoldShip : MIn mtX11_foretoldShip 11 12 := ⟨⟨miX11_foretoldShip, lw_good_t (i := 837) (by decide +kernel) rfl⟩, ⟨TX11, rfl⟩, by decide⟩
abbrev mtX11_foretoldStep : Mt := (yX11_foretoldStep, cX11_foretoldStep, 4, (Option.some Jvm.ClassFile.FieldType.int))
theorem mkX11_foretoldStep : MtOK mtX11_foretoldStep 3 := ⟨lw_good_t (i := 847) (by decide +kernel) rfl, lw_good_t (i := 1) (by decide +kernel) rfl, ⟨by decide, by decide, by decide +kernel⟩, by decide, by decide⟩
theorem miX11_foretoldStep : Cond.instanceMethod mtX11_foretoldStep.1 ∈ lw_good := lw_good_t (i := 845) (by decide +kernel) rfl
theorem mnX11_foretoldStep : MIn mtX11_foretoldStep 11 12 := ⟨⟨miX11_foretoldStep, lw_good_t (i := 846) (by decide +kernel) rfl⟩, ⟨TX11, rfl⟩, by decide⟩
abbrev mtX11_comes : Mt := (yX11_comes, cX11_comes, 3, (Option.some Jvm.ClassFile.FieldType.int))
theorem mkX11_comes : MtOK mtX11_comes 1 := ⟨lw_good_t (i := 851) (by decide +kernel) rfl, lw_good_t (i := 1) (by decide +kernel) rfl, ⟨by decide, by decide, by decide +kernel⟩, by decide, by decide⟩
theorem miX11_comes : Cond.instanceMethod mtX11_comes.1 ∈ lw_good := lw_good_t (i := 849) (by decide +kernel) rfl
theorem mnX11_comes : MIn mtX11_comes 11 12 := ⟨⟨miX11_comes, lw_good_t (i := 850) (by decide +kernel) rfl⟩, ⟨TX11, rfl⟩, by decide⟩
abbrev mtX11_voyage : Mt := (yX11_voyage, cX11_voyage, 7, (Option.some Jvm.ClassFile.FieldType.int))
theorem mkX11_voyage : MtOK mtX11_voyage 5 := ⟨lw_good_t (i := 855) (by decide +kernel) rfl, lw_good_t (i := 1) (by decide +kernel) rfl, ⟨by decide, by decide, by decide +kernel⟩, by decide, by decide⟩
theorem miX11_voyage : Cond.instanceMethod mtX11_voyage.1 ∈ lw_good := lw_good_t (i := 853) (by decide +kernel) rfl
theorem mnX11_voyage : MIn mtX11_voyage 11 12 := ⟨⟨miX11_voyage, lw_good_t (i := 854) (by decide +kernel) rfl⟩, ⟨TX11, rfl⟩, by decide⟩
abbrev mtX11_hauling : Mt := (yX11_hauling, cX11_hauling, 5, (Option.some Jvm.ClassFile.FieldType.int))
theorem mkX11_hauling : MtOK mtX11_hauling 4 := ⟨lw_good_t (i := 872) (by decide +kernel) rfl, lw_good_t (i := 1) (by decide +kernel) rfl, ⟨by decide, by decide, by decide +kernel⟩, by decide, by decide⟩
theorem miX11_hauling : Cond.instanceMethod mtX11_hauling.1 ∈ lw_good := lw_good_t (i := 870) (by decide +kernel) rfl
theorem mnX11_hauling : MIn mtX11_hauling 11 12 := ⟨⟨miX11_hauling, lw_good_t (i := 871) (by decide +kernel) rfl⟩, ⟨TX11, rfl⟩, by decide⟩
abbrev mtX11_thing : Mt := (yX11_thing, cX11_thing, 3, (Option.some Jvm.ClassFile.FieldType.int))
theorem mkX11_thing : MtOK mtX11_thing 2 := ⟨lw_good_t (i := 897) (by decide +kernel) rfl, lw_good_t (i := 1) (by decide +kernel) rfl, ⟨by decide, by decide, by decide +kernel⟩, by decide, by decide⟩
theorem miX11_thing : Cond.instanceMethod mtX11_thing.1 ∈ lw_good := lw_good_t (i := 895) (by decide +kernel) rfl
theorem mnX11_thing : MIn mtX11_thing 11 12 := ⟨⟨miX11_thing, lw_good_t (i := 896) (by decide +kernel) rfl⟩, ⟨TX11, rfl⟩, by decide⟩
abbrev mtX11_upThere : Mt := (yX11_upThere, cX11_upThere, 5, (Option.some Jvm.ClassFile.FieldType.int))
theorem mkX11_upThere : MtOK mtX11_upThere 2 := ⟨lw_good_t (i := 909) (by decide +kernel) rfl, lw_good_t (i := 1) (by decide +kernel) rfl, ⟨by decide, by decide, by decide +kernel⟩, by decide, by decide⟩
theorem miX11_upThere : Cond.instanceMethod mtX11_upThere.1 ∈ lw_good := lw_good_t (i := 907) (by decide +kernel) rfl
theorem mnX11_upThere : MIn mtX11_upThere 11 12 := ⟨⟨miX11_upThere, lw_good_t (i := 908) (by decide +kernel) rfl⟩, ⟨TX11, rfl⟩, by decide⟩
abbrev mtX11_toRaise : Mt := (yX11_toRaise, cX11_toRaise, 3, (Option.some Jvm.ClassFile.FieldType.int))
theorem mkX11_toRaise : MtOK mtX11_toRaise 1 := ⟨lw_good_t (i := 913) (by decide +kernel) rfl, lw_good_t (i := 1) (by decide +kernel) rfl, ⟨by decide, by decide, by decide +kernel⟩, by decide, by decide⟩
theorem miX11_toRaise : Cond.instanceMethod mtX11_toRaise.1 ∈ lw_good := lw_good_t (i := 911) (by decide +kernel) rfl
theorem mnX11_toRaise : MIn mtX11_toRaise 11 12 := ⟨⟨miX11_toRaise, lw_good_t (i := 912) (by decide +kernel) rfl⟩, ⟨TX11, rfl⟩, by decide⟩
abbrev mtX11_states : Mt := (yX11_states, cX11_states, 4, (Option.some Jvm.ClassFile.FieldType.int))
theorem mkX11_states : MtOK mtX11_states 2 := ⟨lw_good_t (i := 917) (by decide +kernel) rfl, lw_good_t (i := 1) (by decide +kernel) rfl, ⟨by decide, by decide, by decide +kernel⟩, by decide, by decide⟩
theorem miX11_states : Cond.instanceMethod mtX11_states.1 ∈ lw_good := lw_good_t (i := 915) (by decide +kernel) rfl
theorem mnX11_states : MIn mtX11_states 11 12 := ⟨⟨miX11_states, lw_good_t (i := 916) (by decide +kernel) rfl⟩, ⟨TX11, rfl⟩, by decide⟩
abbrev mtX11_sound : Mt := (yX11_sound, cX11_sound, 3, (Option.some Jvm.ClassFile.FieldType.int))
theorem mkX11_sound : MtOK mtX11_sound 2 := ⟨lw_good_t (i := 935) (by decide +kernel) rfl, lw_good_t (i := 1) (by decide +kernel) rfl, ⟨by decide, by decide, by decide +kernel⟩, by decide, by decide⟩
theorem miX11_sound : Cond.instanceMethod mtX11_sound.1 ∈ lw_good := lw_good_t (i := 933) (by decide +kernel) rfl
theorem mnX11_sound : MIn mtX11_sound 11 12 := ⟨⟨miX11_sound, lw_good_t (i := 934) (by decide +kernel) rfl⟩, ⟨TX11, rfl⟩, by decide⟩
abbrev mtX11_high : Mt := (yX11_high, cX11_high, 5, (Option.some Jvm.ClassFile.FieldType.int))
theorem mkX11_high : MtOK mtX11_high 2 := ⟨lw_good_t (i := 943) (by decide +kernel) rfl, lw_good_t (i := 1) (by decide +kernel) rfl, ⟨by decide, by decide, by decide +kernel⟩, by decide, by decide⟩
theorem miX11_high : Cond.instanceMethod mtX11_high.1 ∈ lw_good := lw_good_t (i := 941) (by decide +kernel) rfl
theorem mnX11_high : MIn mtX11_high 11 12 := ⟨⟨miX11_high, lw_good_t (i := 942) (by decide +kernel) rfl⟩, ⟨TX11, rfl⟩, by decide⟩
abbrev mtX11_wreck : Mt := (yX11_wreck, cX11_wreck, 2, (Option.some Jvm.ClassFile.FieldType.int))
theorem mkX11_wreck : MtOK mtX11_wreck 1 := ⟨lw_good_t (i := 951) (by decide +kernel) rfl, lw_good_t (i := 1) (by decide +kernel) rfl, ⟨by decide, by decide, by decide +kernel⟩, by decide, by decide⟩
theorem miX11_wreck : Cond.instanceMethod mtX11_wreck.1 ∈ lw_good := lw_good_t (i := 949) (by decide +kernel) rfl
theorem mnX11_wreck : MIn mtX11_wreck 11 12 := ⟨⟨miX11_wreck, lw_good_t (i := 950) (by decide +kernel) rfl⟩, ⟨TX11, rfl⟩, by decide⟩
abbrev mtX11_inOrder : Mt := (yX11_inOrder, cX11_inOrder, 3, (Option.some Jvm.ClassFile.FieldType.int))
theorem mkX11_inOrder : MtOK mtX11_inOrder 1 := ⟨lw_good_t (i := 959) (by decide +kernel) rfl, lw_good_t (i := 1) (by decide +kernel) rfl, ⟨by decide, by decide, by decide +kernel⟩, by decide, by decide⟩
theorem miX11_inOrder : Cond.instanceMethod mtX11_inOrder.1 ∈ lw_good := lw_good_t (i := 957) (by decide +kernel) rfl
theorem mnX11_inOrder : MIn mtX11_inOrder 11 12 := ⟨⟨miX11_inOrder, lw_good_t (i := 958) (by decide +kernel) rfl⟩, ⟨TX11, rfl⟩, by decide⟩
abbrev mtX11_outOfOrder : Mt := (yX11_outOfOrder, cX11_outOfOrder, 4, (Option.some Jvm.ClassFile.FieldType.int))
theorem mkX11_outOfOrder : MtOK mtX11_outOfOrder 0 := ⟨lw_good_t (i := 972) (by decide +kernel) rfl, lw_good_t (i := 1) (by decide +kernel) rfl, ⟨by decide, by decide, by decide +kernel⟩, by decide, by decide⟩
theorem miX11_outOfOrder : Cond.instanceMethod mtX11_outOfOrder.1 ∈ lw_good := lw_good_t (i := 970) (by decide +kernel) rfl
theorem mnX11_outOfOrder : MIn mtX11_outOfOrder 11 12 := ⟨⟨miX11_outOfOrder, lw_good_t (i := 971) (by decide +kernel) rfl⟩, ⟨TX11, rfl⟩, by decide⟩
abbrev mtX11_misheard : Mt := (yX11_misheard, cX11_misheard, 3, (Option.some Jvm.ClassFile.FieldType.int))
theorem mkX11_misheard : MtOK mtX11_misheard 2 := ⟨lw_good_t (i := 976) (by decide +kernel) rfl, lw_good_t (i := 1) (by decide +kernel) rfl, ⟨by decide, by decide, by decide +kernel⟩, by decide, by decide⟩
theorem miX11_misheard : Cond.instanceMethod mtX11_misheard.1 ∈ lw_good := lw_good_t (i := 974) (by decide +kernel) rfl
theorem mnX11_misheard : MIn mtX11_misheard 11 12 := ⟨⟨miX11_misheard, lw_good_t (i := 975) (by decide +kernel) rfl⟩, ⟨TX11, rfl⟩, by decide⟩
abbrev mtX11_apart : Mt := (yX11_apart, cX11_apart, 4, (Option.some Jvm.ClassFile.FieldType.int))
theorem mkX11_apart : MtOK mtX11_apart 1 := ⟨lw_good_t (i := 984) (by decide +kernel) rfl, lw_good_t (i := 1) (by decide +kernel) rfl, ⟨by decide, by decide, by decide +kernel⟩, by decide, by decide⟩
theorem miX11_apart : Cond.instanceMethod mtX11_apart.1 ∈ lw_good := lw_good_t (i := 982) (by decide +kernel) rfl
theorem mnX11_apart : MIn mtX11_apart 11 12 := ⟨⟨miX11_apart, lw_good_t (i := 983) (by decide +kernel) rfl⟩, ⟨TX11, rfl⟩, by decide⟩
abbrev mtX11_chains : Mt := (yX11_chains, cX11_chains, 5, (Option.some Jvm.ClassFile.FieldType.int))
theorem mkX11_chains : MtOK mtX11_chains 1 := ⟨lw_good_t (i := 992) (by decide +kernel) rfl, lw_good_t (i := 1) (by decide +kernel) rfl, ⟨by decide, by decide, by decide +kernel⟩, by decide, by decide⟩
theorem miX11_chains : Cond.instanceMethod mtX11_chains.1 ∈ lw_good := lw_good_t (i := 990) (by decide +kernel) rfl
theorem mnX11_chains : MIn mtX11_chains 11 12 := ⟨⟨miX11_chains, lw_good_t (i := 991) (by decide +kernel) rfl⟩, ⟨TX11, rfl⟩, by decide⟩
abbrev mtX11_waiting : Mt := (yX11_waiting, cX11_waiting, 3, (Option.some Jvm.ClassFile.FieldType.int))
theorem mkX11_waiting : MtOK mtX11_waiting 2 := ⟨lw_good_t (i := 1000) (by decide +kernel) rfl, lw_good_t (i := 1) (by decide +kernel) rfl, ⟨by decide, by decide, by decide +kernel⟩, by decide, by decide⟩
theorem miX11_waiting : Cond.instanceMethod mtX11_waiting.1 ∈ lw_good := lw_good_t (i := 998) (by decide +kernel) rfl
theorem mnX11_waiting : MIn mtX11_waiting 11 12 := ⟨⟨miX11_waiting, lw_good_t (i := 999) (by decide +kernel) rfl⟩, ⟨TX11, rfl⟩, by decide⟩
abbrev mtX11_run : Mt := (yX11_run, cX11_run, 6, (Option.some Jvm.ClassFile.FieldType.int))
theorem mkX11_run : MtOK mtX11_run 1 := ⟨lw_good_t (i := 1005) (by decide +kernel) rfl, lw_good_t (i := 1) (by decide +kernel) rfl, ⟨by decide, by decide, by decide +kernel⟩, by decide, by decide⟩
theorem miX11_run : Cond.instanceMethod mtX11_run.1 ∈ lw_good := lw_good_t (i := 1003) (by decide +kernel) rfl
theorem mnX11_run : MIn mtX11_run 11 12 := ⟨⟨miX11_run, lw_good_t (i := 1004) (by decide +kernel) rfl⟩, ⟨TX11, rfl⟩, by decide⟩
abbrev mtX11_image : Mt := (yX11_image, cX11_image, 1, (Option.some Jvm.ClassFile.FieldType.int))
theorem mkX11_image : MtOK mtX11_image 0 := ⟨lw_good_t (i := 1014) (by decide +kernel) rfl, lw_good_t (i := 1) (by decide +kernel) rfl, ⟨by decide, by decide, by decide +kernel⟩, by decide, by decide⟩
theorem miX11_image : Cond.instanceMethod mtX11_image.1 ∈ lw_good := lw_good_t (i := 1012) (by decide +kernel) rfl
theorem mnX11_image : MIn mtX11_image 11 12 := ⟨⟨miX11_image, lw_good_t (i := 1013) (by decide +kernel) rfl⟩, ⟨TX11, rfl⟩, by decide⟩
abbrev mtX11_back : Mt := (yX11_back, cX11_back, 1, (Option.some Jvm.ClassFile.FieldType.int))
theorem mkX11_back : MtOK mtX11_back 0 := ⟨lw_good_t (i := 1032) (by decide +kernel) rfl, lw_good_t (i := 1) (by decide +kernel) rfl, ⟨by decide, by decide, by decide +kernel⟩, by decide, by decide⟩
theorem miX11_back : Cond.instanceMethod mtX11_back.1 ∈ lw_good := lw_good_t (i := 1030) (by decide +kernel) rfl
theorem mnX11_back : MIn mtX11_back 11 12 := ⟨⟨miX11_back, lw_good_t (i := 1031) (by decide +kernel) rfl⟩, ⟨TX11, rfl⟩, by decide⟩
abbrev mtX11_about : Mt := (yX11_about, cX11_about, 2, (Option.some Jvm.ClassFile.FieldType.int))
theorem mkX11_about : MtOK mtX11_about 1 := ⟨lw_good_t (i := 1036) (by decide +kernel) rfl, lw_good_t (i := 1) (by decide +kernel) rfl, ⟨by decide, by decide, by decide +kernel⟩, by decide, by decide⟩
theorem miX11_about : Cond.instanceMethod mtX11_about.1 ∈ lw_good := lw_good_t (i := 1034) (by decide +kernel) rfl
theorem mnX11_about : MIn mtX11_about 11 12 := ⟨⟨miX11_about, lw_good_t (i := 1035) (by decide +kernel) rfl⟩, ⟨TX11, rfl⟩, by decide⟩
abbrev mtX11_isBetween : Mt := (yX11_isBetween, cX11_isBetween, 3, (Option.some Jvm.ClassFile.FieldType.boolean))
theorem mkX11_isBetween : MtOK mtX11_isBetween 3 := ⟨lw_good_t (i := 446) (by decide +kernel) rfl, lw_good_t (i := 1) (by decide +kernel) rfl, ⟨by decide, by decide, by decide +kernel⟩, by decide, by decide⟩
theorem msX11_isBetween : Cond.static mtX11_isBetween.1 ∈ lw_good := lw_good_t (i := 445) (by decide +kernel) rfl
abbrev mtX11_isWeight : Mt := (yX11_isWeight, cX11_isWeight, 1, (Option.some Jvm.ClassFile.FieldType.boolean))
theorem mkX11_isWeight : MtOK mtX11_isWeight 1 := ⟨lw_good_t (i := 457) (by decide +kernel) rfl, lw_good_t (i := 1) (by decide +kernel) rfl, ⟨by decide, by decide, by decide +kernel⟩, by decide, by decide⟩
theorem msX11_isWeight : Cond.static mtX11_isWeight.1 ∈ lw_good := lw_good_t (i := 456) (by decide +kernel) rfl
abbrev mtX11_isStep : Mt := (yX11_isStep, cX11_isStep, 2, (Option.some Jvm.ClassFile.FieldType.boolean))
theorem mkX11_isStep : MtOK mtX11_isStep 1 := ⟨lw_good_t (i := 461) (by decide +kernel) rfl, lw_good_t (i := 1) (by decide +kernel) rfl, ⟨by decide, by decide, by decide +kernel⟩, by decide, by decide⟩
theorem miX11_isStep : Cond.instanceMethod mtX11_isStep.1 ∈ lw_good := lw_good_t (i := 460) (by decide +kernel) rfl
theorem mnX11_isStep : MIn mtX11_isStep 11 12 := ⟨⟨miX11_isStep, lw_good_p (q := (yX11_isStep, 12)) (i := 1) (by decide +kernel)⟩, ⟨TX11, rfl⟩, by decide⟩
abbrev mtX11_hasRiser : Mt := (yX11_hasRiser, cX11_hasRiser, 2, (Option.some Jvm.ClassFile.FieldType.boolean))
theorem mkX11_hasRiser : MtOK mtX11_hasRiser 1 := ⟨lw_good_t (i := 769) (by decide +kernel) rfl, lw_good_t (i := 1) (by decide +kernel) rfl, ⟨by decide, by decide, by decide +kernel⟩, by decide, by decide⟩
theorem miX11_hasRiser : Cond.instanceMethod mtX11_hasRiser.1 ∈ lw_good := lw_good_t (i := 768) (by decide +kernel) rfl
theorem mnX11_hasRiser : MIn mtX11_hasRiser 11 12 := ⟨⟨miX11_hasRiser, lw_good_p (q := (yX11_hasRiser, 12)) (i := 42) (by decide +kernel)⟩, ⟨TX11, rfl⟩, by decide⟩
abbrev mtX11_isShip : Mt := (yX11_isShip, cX11_isShip, 2, (Option.some Jvm.ClassFile.FieldType.boolean))
theorem mkX11_isShip : MtOK mtX11_isShip 1 := ⟨lw_good_t (i := 777) (by decide +kernel) rfl, lw_good_t (i := 1) (by decide +kernel) rfl, ⟨by decide, by decide, by decide +kernel⟩, by decide, by decide⟩
theorem miX11_isShip : Cond.instanceMethod mtX11_isShip.1 ∈ lw_good := lw_good_t (i := 776) (by decide +kernel) rfl
theorem mnX11_isShip : MIn mtX11_isShip 11 12 := ⟨⟨miX11_isShip, lw_good_p (q := (yX11_isShip, 12)) (i := 43) (by decide +kernel)⟩, ⟨TX11, rfl⟩, by decide⟩
abbrev mtX11_areShips : Mt := (yX11_areShips, cX11_areShips, 2, (Option.some Jvm.ClassFile.FieldType.boolean))
theorem mkX11_areShips : MtOK mtX11_areShips 1 := ⟨lw_good_t (i := 876) (by decide +kernel) rfl, lw_good_t (i := 1) (by decide +kernel) rfl, ⟨by decide, by decide, by decide +kernel⟩, by decide, by decide⟩
theorem miX11_areShips : Cond.instanceMethod mtX11_areShips.1 ∈ lw_good := lw_good_t (i := 875) (by decide +kernel) rfl
theorem mnX11_areShips : MIn mtX11_areShips 11 12 := ⟨⟨miX11_areShips, lw_good_p (q := (yX11_areShips, 12)) (i := 53) (by decide +kernel)⟩, ⟨TX11, rfl⟩, by decide⟩
abbrev mtX11_isText : Mt := (yX11_isText, cX11_isText, 2, (Option.some Jvm.ClassFile.FieldType.boolean))
theorem mkX11_isText : MtOK mtX11_isText 1 := ⟨lw_good_t (i := 637) (by decide +kernel) rfl, lw_good_t (i := 1) (by decide +kernel) rfl, ⟨by decide, by decide, by decide +kernel⟩, by decide, by decide⟩
theorem miX11_isText : Cond.instanceMethod mtX11_isText.1 ∈ lw_good := lw_good_t (i := 636) (by decide +kernel) rfl
theorem mnX11_isText : MIn mtX11_isText 11 12 := ⟨⟨miX11_isText, lw_good_p (q := (yX11_isText, 12)) (i := 22) (by decide +kernel)⟩, ⟨TX11, rfl⟩, by decide⟩
abbrev mtX11_lowest : Mt := (yX11_lowest, cX11_lowest, 2, (Option.some Jvm.ClassFile.FieldType.int))
theorem mkX11_lowest : MtOK mtX11_lowest 1 := ⟨lw_good_t (i := 680) (by decide +kernel) rfl, lw_good_t (i := 1) (by decide +kernel) rfl, ⟨by decide, by decide, by decide +kernel⟩, by decide, by decide⟩
theorem msX11_lowest : Cond.static mtX11_lowest.1 ∈ lw_good := lw_good_t (i := 679) (by decide +kernel) rfl
abbrev mtX11_chooseRuler : Mt := (yX11_chooseRuler, cX11_chooseRuler, 1, (Option.none : Option Jvm.ClassFile.FieldType))
theorem mkX11_chooseRuler : MtOK mtX11_chooseRuler 0 := ⟨lw_good_t (i := 641) (by decide +kernel) rfl, lw_good_t (i := 1) (by decide +kernel) rfl, ⟨by decide, by decide, by decide +kernel⟩, by decide, by decide⟩
theorem miX11_chooseRuler : Cond.instanceMethod mtX11_chooseRuler.1 ∈ lw_good := lw_good_t (i := 640) (by decide +kernel) rfl
theorem mnX11_chooseRuler : MIn mtX11_chooseRuler 11 12 := ⟨⟨miX11_chooseRuler, lw_good_p (q := (yX11_chooseRuler, 12)) (i := 23) (by decide +kernel)⟩, ⟨TX11, rfl⟩, by decide⟩
abbrev mtX11_passHours : Mt := (yX11_passHours, cX11_passHours, 4, (Option.some Jvm.ClassFile.FieldType.int))
theorem mkX11_passHours : MtOK mtX11_passHours 1 := ⟨lw_good_t (i := 649) (by decide +kernel) rfl, lw_good_t (i := 1) (by decide +kernel) rfl, ⟨by decide, by decide, by decide +kernel⟩, by decide, by decide⟩
theorem miX11_passHours : Cond.instanceMethod mtX11_passHours.1 ∈ lw_good := lw_good_t (i := 648) (by decide +kernel) rfl
theorem mnX11_passHours : MIn mtX11_passHours 11 12 := ⟨⟨miX11_passHours, lw_good_p (q := (yX11_passHours, 12)) (i := 24) (by decide +kernel)⟩, ⟨TX11, rfl⟩, by decide⟩
abbrev mtX11_playClause : Mt := (yX11_playClause, cX11_playClause, 8, (Option.some Jvm.ClassFile.FieldType.boolean))
theorem mkX11_playClause : MtOK mtX11_playClause 2 := ⟨lw_good_t (i := 785) (by decide +kernel) rfl, lw_good_t (i := 1) (by decide +kernel) rfl, ⟨by decide, by decide, by decide +kernel⟩, by decide, by decide⟩
theorem miX11_playClause : Cond.instanceMethod mtX11_playClause.1 ∈ lw_good := lw_good_t (i := 784) (by decide +kernel) rfl
theorem mnX11_playClause : MIn mtX11_playClause 11 12 := ⟨⟨miX11_playClause, lw_good_p (q := (yX11_playClause, 12)) (i := 44) (by decide +kernel)⟩, ⟨TX11, rfl⟩, by decide⟩
abbrev mtX11_doDrawn : Mt := (yX11_doDrawn, cX11_doDrawn, 3, (Option.none : Option Jvm.ClassFile.FieldType))
theorem mkX11_doDrawn : MtOK mtX11_doDrawn 1 := ⟨lw_good_t (i := 804) (by decide +kernel) rfl, lw_good_t (i := 1) (by decide +kernel) rfl, ⟨by decide, by decide, by decide +kernel⟩, by decide, by decide⟩
theorem miX11_doDrawn : Cond.instanceMethod mtX11_doDrawn.1 ∈ lw_good := lw_good_t (i := 803) (by decide +kernel) rfl
theorem mnX11_doDrawn : MIn mtX11_doDrawn 11 12 := ⟨⟨miX11_doDrawn, lw_good_p (q := (yX11_doDrawn, 12)) (i := 46) (by decide +kernel)⟩, ⟨TX11, rfl⟩, by decide⟩
abbrev mtX11_lookAhead : Mt := (yX11_lookAhead, cX11_lookAhead, 3, (Option.none : Option Jvm.ClassFile.FieldType))
theorem mkX11_lookAhead : MtOK mtX11_lookAhead 1 := ⟨lw_good_t (i := 842) (by decide +kernel) rfl, lw_good_t (i := 1) (by decide +kernel) rfl, ⟨by decide, by decide, by decide +kernel⟩, by decide, by decide⟩
theorem miX11_lookAhead : Cond.instanceMethod mtX11_lookAhead.1 ∈ lw_good := lw_good_t (i := 841) (by decide +kernel) rfl
theorem mnX11_lookAhead : MIn mtX11_lookAhead 11 12 := ⟨⟨miX11_lookAhead, lw_good_p (q := (yX11_lookAhead, 12)) (i := 49) (by decide +kernel)⟩, ⟨TX11, rfl⟩, by decide⟩
abbrev mtX11_endOfFall : Mt := (yX11_endOfFall, cX11_endOfFall, 4, (Option.some Jvm.ClassFile.FieldType.int))
theorem mkX11_endOfFall : MtOK mtX11_endOfFall 2 := ⟨lw_good_t (i := 901) (by decide +kernel) rfl, lw_good_t (i := 1) (by decide +kernel) rfl, ⟨by decide, by decide, by decide +kernel⟩, by decide, by decide⟩
theorem miX11_endOfFall : Cond.instanceMethod mtX11_endOfFall.1 ∈ lw_good := lw_good_t (i := 900) (by decide +kernel) rfl
theorem mnX11_endOfFall : MIn mtX11_endOfFall 11 12 := ⟨⟨miX11_endOfFall, lw_good_p (q := (yX11_endOfFall, 12)) (i := 57) (by decide +kernel)⟩, ⟨TX11, rfl⟩, by decide⟩
abbrev mtX12_init : Mt := (yX12_init, cX12_init, 1, (Option.none : Option Jvm.ClassFile.FieldType))
theorem mkX12_init : MtOK mtX12_init 0 := ⟨lw_good_t (i := 1041) (by decide +kernel) rfl, lw_good_t (i := 13) (by decide +kernel) rfl, ⟨by decide, by decide, by decide +kernel⟩, by decide, by decide⟩
theorem miX12_init : Cond.instanceMethod mtX12_init.1 ∈ lw_good := lw_good_t (i := 1040) (by decide +kernel) rfl
abbrev mtX12_copy : Mt := (yX12_copy, cX12_copy, 3, (Option.none : Option Jvm.ClassFile.FieldType))
theorem mkX12_copy : MtOK mtX12_copy 2 := ⟨lw_good_t (i := 1045) (by decide +kernel) rfl, lw_good_t (i := 13) (by decide +kernel) rfl, ⟨by decide, by decide, by decide +kernel⟩, by decide, by decide⟩
theorem msX12_copy : Cond.static mtX12_copy.1 ∈ lw_good := lw_good_t (i := 1044) (by decide +kernel) rfl
abbrev mtX12_isIn : Mt := (yX12_isIn, cX12_isIn, 3, (Option.some Jvm.ClassFile.FieldType.boolean))
theorem mkX12_isIn : MtOK mtX12_isIn 3 := ⟨lw_good_t (i := 1184) (by decide +kernel) rfl, lw_good_t (i := 13) (by decide +kernel) rfl, ⟨by decide, by decide, by decide +kernel⟩, by decide, by decide⟩
theorem msX12_isIn : Cond.static mtX12_isIn.1 ∈ lw_good := lw_good_t (i := 1183) (by decide +kernel) rfl
abbrev mtX12_cut : Mt := (yX12_cut, cX12_cut, 4, (Option.some Jvm.ClassFile.FieldType.int))
theorem mkX12_cut : MtOK mtX12_cut 3 := ⟨lw_good_t (i := 1435) (by decide +kernel) rfl, lw_good_t (i := 13) (by decide +kernel) rfl, ⟨by decide, by decide, by decide +kernel⟩, by decide, by decide⟩
theorem msX12_cut : Cond.static mtX12_cut.1 ∈ lw_good := lw_good_t (i := 1434) (by decide +kernel) rfl
abbrev mtX12_has : Mt := (yX12_has, cX12_has, 2, (Option.some Jvm.ClassFile.FieldType.boolean))
theorem mkX12_has : MtOK mtX12_has 2 := ⟨lw_good_t (i := 1270) (by decide +kernel) rfl, lw_good_t (i := 13) (by decide +kernel) rfl, ⟨by decide, by decide, by decide +kernel⟩, by decide, by decide⟩
theorem msX12_has : Cond.static mtX12_has.1 ∈ lw_good := lw_good_t (i := 1269) (by decide +kernel) rfl
abbrev mtX12_bits : Mt := (yX12_bits, cX12_bits, 3, (Option.some Jvm.ClassFile.FieldType.int))
theorem mkX12_bits : MtOK mtX12_bits 1 := ⟨lw_good_t (i := 1597) (by decide +kernel) rfl, lw_good_t (i := 13) (by decide +kernel) rfl, ⟨by decide, by decide, by decide +kernel⟩, by decide, by decide⟩
theorem msX12_bits : Cond.static mtX12_bits.1 ∈ lw_good := lw_good_t (i := 1596) (by decide +kernel) rfl
abbrev mtX12_isStep : Mt := (yX12_isStep, cX12_isStep, 2, (Option.some Jvm.ClassFile.FieldType.boolean))
theorem mkX12_isStep : MtOK mtX12_isStep 1 := ⟨lw_good_t (i := 1200) (by decide +kernel) rfl, lw_good_t (i := 13) (by decide +kernel) rfl, ⟨by decide, by decide, by decide +kernel⟩, by decide, by decide⟩
theorem miX12_isStep : Cond.instanceMethod mtX12_isStep.1 ∈ lw_good := lw_good_t (i := 1199) (by decide +kernel) rfl
theorem mnX12_isStep : MIn mtX12_isStep 12 43 := ⟨⟨miX12_isStep, lw_good_p (q := (yX12_isStep, 43)) (i := 76) (by decide +kernel)⟩, ⟨TX12, rfl⟩, by decide⟩
abbrev mtX12_isShip : Mt := (yX12_isShip, cX12_isShip, 2, (Option.some Jvm.ClassFile.FieldType.boolean))
theorem mkX12_isShip : MtOK mtX12_isShip 1 := ⟨lw_good_t (i := 1503) (by decide +kernel) rfl, lw_good_t (i := 13) (by decide +kernel) rfl, ⟨by decide, by decide, by decide +kernel⟩, by decide, by decide⟩
theorem miX12_isShip : Cond.instanceMethod mtX12_isShip.1 ∈ lw_good := lw_good_t (i := 1502) (by decide +kernel) rfl
theorem mnX12_isShip : MIn mtX12_isShip 12 43 := ⟨⟨miX12_isShip, lw_good_p (q := (yX12_isShip, 43)) (i := 129) (by decide +kernel)⟩, ⟨TX12, rfl⟩, by decide⟩
abbrev mtX12_isRiser : Mt := (yX12_isRiser, cX12_isRiser, 2, (Option.some Jvm.ClassFile.FieldType.boolean))
theorem mkX12_isRiser : MtOK mtX12_isRiser 1 := ⟨lw_good_t (i := 1495) (by decide +kernel) rfl, lw_good_t (i := 13) (by decide +kernel) rfl, ⟨by decide, by decide, by decide +kernel⟩, by decide, by decide⟩
theorem miX12_isRiser : Cond.instanceMethod mtX12_isRiser.1 ∈ lw_good := lw_good_t (i := 1494) (by decide +kernel) rfl
theorem mnX12_isRiser : MIn mtX12_isRiser 12 43 := ⟨⟨miX12_isRiser, lw_good_p (q := (yX12_isRiser, 43)) (i := 128) (by decide +kernel)⟩, ⟨TX12, rfl⟩, by decide⟩
abbrev mtX12_at : Mt := (yX12_at, cX12_at, 3, (Option.some Jvm.ClassFile.FieldType.int))
theorem mkX12_at : MtOK mtX12_at 2 := ⟨lw_good_t (i := 1192) (by decide +kernel) rfl, lw_good_t (i := 13) (by decide +kernel) rfl, ⟨by decide, by decide, by decide +kernel⟩, by decide, by decide⟩
theorem miX12_at : Cond.instanceMethod mtX12_at.1 ∈ lw_good := lw_good_t (i := 1191) (by decide +kernel) rfl
theorem mnX12_at : MIn mtX12_at 12 43 := ⟨⟨miX12_at, lw_good_p (q := (yX12_at, 43)) (i := 75) (by decide +kernel)⟩, ⟨TX12, rfl⟩, by decide⟩
abbrev mtX12_put : Mt := (yX12_put, cX12_put, 4, (Option.none : Option Jvm.ClassFile.FieldType))
theorem mkX12_put : MtOK mtX12_put 3 := ⟨lw_good_t (i := 1188) (by decide +kernel) rfl, lw_good_t (i := 13) (by decide +kernel) rfl, ⟨by decide, by decide, by decide +kernel⟩, by decide, by decide⟩
theorem miX12_put : Cond.instanceMethod mtX12_put.1 ∈ lw_good := lw_good_t (i := 1187) (by decide +kernel) rfl
theorem mnX12_put : MIn mtX12_put 12 43 := ⟨⟨miX12_put, lw_good_p (q := (yX12_put, 43)) (i := 74) (by decide +kernel)⟩, ⟨TX12, rfl⟩, by decide⟩
abbrev mtX12_get : Mt := (yX12_get, cX12_get, 3, (Option.some Jvm.ClassFile.FieldType.int))
theorem mkX12_get : MtOK mtX12_get 2 := ⟨lw_good_t (i := 1392) (by decide +kernel) rfl, lw_good_t (i := 13) (by decide +kernel) rfl, ⟨by decide, by decide, by decide +kernel⟩, by decide, by decide⟩
theorem miX12_get : Cond.instanceMethod mtX12_get.1 ∈ lw_good := lw_good_t (i := 1391) (by decide +kernel) rfl
theorem mnX12_get : MIn mtX12_get 12 43 := ⟨⟨miX12_get, lw_good_p (q := (yX12_get, 43)) (i := 110) (by decide +kernel)⟩, ⟨TX12, rfl⟩, by decide⟩
abbrev mtX12_set : Mt := (yX12_set, cX12_set, 4, (Option.none : Option Jvm.ClassFile.FieldType))
theorem mkX12_set : MtOK mtX12_set 3 := ⟨lw_good_t (i := 1204) (by decide +kernel) rfl, lw_good_t (i := 13) (by decide +kernel) rfl, ⟨by decide, by decide, by decide +kernel⟩, by decide, by decide⟩
theorem miX12_set : Cond.instanceMethod mtX12_set.1 ∈ lw_good := lw_good_t (i := 1203) (by decide +kernel) rfl
theorem mnX12_set : MIn mtX12_set 12 43 := ⟨⟨miX12_set, lw_good_p (q := (yX12_set, 43)) (i := 77) (by decide +kernel)⟩, ⟨TX12, rfl⟩, by decide⟩
abbrev mtX12_step : Mt := (yX12_step, cX12_step, 7, (Option.some Jvm.ClassFile.FieldType.int))
theorem mkX12_step : MtOK mtX12_step 4 := ⟨lw_good_t (i := 1181) (by decide +kernel) rfl, lw_good_t (i := 13) (by decide +kernel) rfl, ⟨by decide, by decide, by decide +kernel⟩, by decide, by decide⟩
theorem miX12_step : Cond.instanceMethod mtX12_step.1 ∈ lw_good := lw_good_t (i := 1179) (by decide +kernel) rfl
theorem mnX12_step : MIn mtX12_step 12 43 := ⟨⟨miX12_step, lw_good_t (i := 1180) (by decide +kernel) rfl⟩, ⟨TX12, rfl⟩, by decide⟩
abbrev mtX12_ship : Mt := (yX12_ship, cX12_ship, 5, (Option.some Jvm.ClassFile.FieldType.int))
theorem mkX12_ship : MtOK mtX12_ship 3 := ⟨lw_good_t (i := 1196) (by decide +kernel) rfl, lw_good_t (i := 13) (by decide +kernel) rfl, ⟨by decide, by decide, by decide +kernel⟩, by decide, by decide⟩
theorem miX12_ship : Cond.instanceMethod mtX12_ship.1 ∈ lw_good := lw_good_t (i := 1194) (by decide +kernel) rfl
theorem mnX12_ship : MIn mtX12_ship 12 43 := ⟨⟨miX12_ship, lw_good_t (i := 1195) (by decide +kernel) rfl⟩, ⟨TX12, rfl⟩, by decide⟩
abbrev mtX12_four : Mt := (yX12_four, cX12_four, 3, (Option.none : Option Jvm.ClassFile.FieldType))
theorem mkX12_four : MtOK mtX12_four 1 := ⟨lw_good_t (i := 1212) (by decide +kernel) rfl, lw_good_t (i := 13) (by decide +kernel) rfl, ⟨by decide, by decide, by decide +kernel⟩, by decide, by decide⟩
theorem miX12_four : Cond.instanceMethod mtX12_four.1 ∈ lw_good := lw_good_t (i := 1211) (by decide +kernel) rfl
theorem mnX12_four : MIn mtX12_four 12 43 := ⟨⟨miX12_four, lw_good_p (q := (yX12_four, 43)) (i := 78) (by decide +kernel)⟩, ⟨TX12, rfl⟩, by decide⟩
abbrev mtX12_feed : Mt := (yX12_feed, cX12_feed, 6, (Option.some Jvm.ClassFile.FieldType.int))
theorem mkX12_feed : MtOK mtX12_feed 5 := ⟨lw_good_t (i := 1208) (by decide +kernel) rfl, lw_good_t (i := 13) (by decide +kernel) rfl, ⟨by decide, by decide, by decide +kernel⟩, by decide, by decide⟩
theorem miX12_feed : Cond.instanceMethod mtX12_feed.1 ∈ lw_good := lw_good_t (i := 1206) (by decide +kernel) rfl
theorem mnX12_feed : MIn mtX12_feed 12 43 := ⟨⟨miX12_feed, lw_good_t (i := 1207) (by decide +kernel) rfl⟩, ⟨TX12, rfl⟩, by decide⟩
abbrev mtX12_end : Mt := (yX12_end, cX12_end, 2, (Option.some Jvm.ClassFile.FieldType.int))
theorem mkX12_end : MtOK mtX12_end 1 := ⟨lw_good_t (i := 1216) (by decide +kernel) rfl, lw_good_t (i := 13) (by decide +kernel) rfl, ⟨by decide, by decide, by decide +kernel⟩, by decide, by decide⟩
theorem miX12_end : Cond.instanceMethod mtX12_end.1 ∈ lw_good := lw_good_t (i := 1214) (by decide +kernel) rfl
theorem mnX12_end : MIn mtX12_end 12 43 := ⟨⟨miX12_end, lw_good_t (i := 1215) (by decide +kernel) rfl⟩, ⟨TX12, rfl⟩, by decide⟩
abbrev mtX12_byteAt : Mt := (yX12_byteAt, cX12_byteAt, 2, (Option.some Jvm.ClassFile.FieldType.int))
theorem mkX12_byteAt : MtOK mtX12_byteAt 1 := ⟨lw_good_t (i := 1232) (by decide +kernel) rfl, lw_good_t (i := 13) (by decide +kernel) rfl, ⟨by decide, by decide, by decide +kernel⟩, by decide, by decide⟩
theorem miX12_byteAt : Cond.instanceMethod mtX12_byteAt.1 ∈ lw_good := lw_good_t (i := 1231) (by decide +kernel) rfl
theorem mnX12_byteAt : MIn mtX12_byteAt 12 43 := ⟨⟨miX12_byteAt, lw_good_p (q := (yX12_byteAt, 43)) (i := 81) (by decide +kernel)⟩, ⟨TX12, rfl⟩, by decide⟩
abbrev mtX12_isLetterByte : Mt := (yX12_isLetterByte, cX12_isLetterByte, 1, (Option.some Jvm.ClassFile.FieldType.boolean))
theorem mkX12_isLetterByte : MtOK mtX12_isLetterByte 1 := ⟨lw_good_t (i := 1239) (by decide +kernel) rfl, lw_good_t (i := 13) (by decide +kernel) rfl, ⟨by decide, by decide, by decide +kernel⟩, by decide, by decide⟩
theorem msX12_isLetterByte : Cond.static mtX12_isLetterByte.1 ∈ lw_good := lw_good_t (i := 1238) (by decide +kernel) rfl
abbrev mtX12_isFigure : Mt := (yX12_isFigure, cX12_isFigure, 1, (Option.some Jvm.ClassFile.FieldType.boolean))
theorem mkX12_isFigure : MtOK mtX12_isFigure 1 := ⟨lw_good_t (i := 1235) (by decide +kernel) rfl, lw_good_t (i := 13) (by decide +kernel) rfl, ⟨by decide, by decide, by decide +kernel⟩, by decide, by decide⟩
theorem msX12_isFigure : Cond.static mtX12_isFigure.1 ∈ lw_good := lw_good_t (i := 1234) (by decide +kernel) rfl
abbrev mtX12_isSign : Mt := (yX12_isSign, cX12_isSign, 1, (Option.some Jvm.ClassFile.FieldType.boolean))
theorem mkX12_isSign : MtOK mtX12_isSign 1 := ⟨lw_good_t (i := 1243) (by decide +kernel) rfl, lw_good_t (i := 13) (by decide +kernel) rfl, ⟨by decide, by decide, by decide +kernel⟩, by decide, by decide⟩
theorem msX12_isSign : Cond.static mtX12_isSign.1 ∈ lw_good := lw_good_t (i := 1242) (by decide +kernel) rfl
abbrev mtX12_nextToken : Mt := (yX12_nextToken, cX12_nextToken, 2, (Option.none : Option Jvm.ClassFile.FieldType))
theorem mkX12_nextToken : MtOK mtX12_nextToken 0 := ⟨lw_good_t (i := 1228) (by decide +kernel) rfl, lw_good_t (i := 13) (by decide +kernel) rfl, ⟨by decide, by decide, by decide +kernel⟩, by decide, by decide⟩
theorem miX12_nextToken : Cond.instanceMethod mtX12_nextToken.1 ∈ lw_good := lw_good_t (i := 1227) (by decide +kernel) rfl
theorem mnX12_nextToken : MIn mtX12_nextToken 12 43 := ⟨⟨miX12_nextToken, lw_good_p (q := (yX12_nextToken, 43)) (i := 80) (by decide +kernel)⟩, ⟨TX12, rfl⟩, by decide⟩
abbrev mtX12_w2 : Mt := (yX12_w2, cX12_w2, 2, (Option.some Jvm.ClassFile.FieldType.long))
theorem mkX12_w2 : MtOK mtX12_w2 2 := ⟨lw_good_t (i := 1263) (by decide +kernel) rfl, lw_good_t (i := 13) (by decide +kernel) rfl, ⟨by decide, by decide, by decide +kernel⟩, by decide, by decide⟩
theorem msX12_w2 : Cond.static mtX12_w2.1 ∈ lw_good := lw_good_t (i := 1262) (by decide +kernel) rfl
abbrev mtX12_w3 : Mt := (yX12_w3, cX12_w3, 3, (Option.some Jvm.ClassFile.FieldType.long))
theorem mkX12_w3 : MtOK mtX12_w3 3 := ⟨lw_good_t (i := 1260) (by decide +kernel) rfl, lw_good_t (i := 13) (by decide +kernel) rfl, ⟨by decide, by decide, by decide +kernel⟩, by decide, by decide⟩
theorem msX12_w3 : Cond.static mtX12_w3.1 ∈ lw_good := lw_good_t (i := 1259) (by decide +kernel) rfl
abbrev mtX12_w4 : Mt := (yX12_w4, cX12_w4, 4, (Option.some Jvm.ClassFile.FieldType.long))
theorem mkX12_w4 : MtOK mtX12_w4 4 := ⟨lw_good_t (i := 1257) (by decide +kernel) rfl, lw_good_t (i := 13) (by decide +kernel) rfl, ⟨by decide, by decide, by decide +kernel⟩, by decide, by decide⟩
theorem msX12_w4 : Cond.static mtX12_w4.1 ∈ lw_good := lw_good_t (i := 1256) (by decide +kernel) rfl
abbrev mtX12_w5 : Mt := (yX12_w5, cX12_w5, 5, (Option.some Jvm.ClassFile.FieldType.long))
theorem mkX12_w5 : MtOK mtX12_w5 5 := ⟨lw_good_t (i := 1254) (by decide +kernel) rfl, lw_good_t (i := 13) (by decide +kernel) rfl, ⟨by decide, by decide, by decide +kernel⟩, by decide, by decide⟩
theorem msX12_w5 : Cond.static mtX12_w5.1 ∈ lw_good := lw_good_t (i := 1253) (by decide +kernel) rfl
abbrev mtX12_w6 : Mt := (yX12_w6, cX12_w6, 6, (Option.some Jvm.ClassFile.FieldType.long))
theorem mkX12_w6 : MtOK mtX12_w6 6 := ⟨lw_good_t (i := 1332) (by decide +kernel) rfl, lw_good_t (i := 13) (by decide +kernel) rfl, ⟨by decide, by decide, by decide +kernel⟩, by decide, by decide⟩
theorem msX12_w6 : Cond.static mtX12_w6.1 ∈ lw_good := lw_good_t (i := 1331) (by decide +kernel) rfl
abbrev mtX12_isWord : Mt := (yX12_isWord, cX12_isWord, 3, (Option.some Jvm.ClassFile.FieldType.boolean))
theorem mkX12_isWord : MtOK mtX12_isWord 1 := ⟨lw_good_t (i := 1267) (by decide +kernel) rfl, lw_good_t (i := 13) (by decide +kernel) rfl, ⟨by decide, by decide, by decide +kernel⟩, by decide, by decide⟩
theorem miX12_isWord : Cond.instanceMethod mtX12_isWord.1 ∈ lw_good := lw_good_t (i := 1266) (by decide +kernel) rfl
theorem mnX12_isWord : MIn mtX12_isWord 12 43 := ⟨⟨miX12_isWord, lw_good_p (q := (yX12_isWord, 43)) (i := 84) (by decide +kernel)⟩, ⟨TX12, rfl⟩, by decide⟩
abbrev mtX12_emit : Mt := (yX12_emit, cX12_emit, 3, (Option.none : Option Jvm.ClassFile.FieldType))
theorem mkX12_emit : MtOK mtX12_emit 2 := ⟨lw_good_t (i := 1317) (by decide +kernel) rfl, lw_good_t (i := 13) (by decide +kernel) rfl, ⟨by decide, by decide, by decide +kernel⟩, by decide, by decide⟩
theorem miX12_emit : Cond.instanceMethod mtX12_emit.1 ∈ lw_good := lw_good_t (i := 1316) (by decide +kernel) rfl
theorem mnX12_emit : MIn mtX12_emit 12 43 := ⟨⟨miX12_emit, lw_good_p (q := (yX12_emit, 43)) (i := 95) (by decide +kernel)⟩, ⟨TX12, rfl⟩, by decide⟩
abbrev mtX12_nameOf : Mt := (yX12_nameOf, cX12_nameOf, 1, (Option.some Jvm.ClassFile.FieldType.int))
theorem mkX12_nameOf : MtOK mtX12_nameOf 0 := ⟨lw_good_t (i := 1329) (by decide +kernel) rfl, lw_good_t (i := 13) (by decide +kernel) rfl, ⟨by decide, by decide, by decide +kernel⟩, by decide, by decide⟩
theorem miX12_nameOf : Cond.instanceMethod mtX12_nameOf.1 ∈ lw_good := lw_good_t (i := 1328) (by decide +kernel) rfl
theorem mnX12_nameOf : MIn mtX12_nameOf 12 43 := ⟨⟨miX12_nameOf, lw_good_p (q := (yX12_nameOf, 43)) (i := 98) (by decide +kernel)⟩, ⟨TX12, rfl⟩, by decide⟩
abbrev mtX12_isOf : Mt := (yX12_isOf, cX12_isOf, 2, (Option.some Jvm.ClassFile.FieldType.boolean))
theorem mkX12_isOf : MtOK mtX12_isOf 1 := ⟨lw_good_t (i := 1336) (by decide +kernel) rfl, lw_good_t (i := 13) (by decide +kernel) rfl, ⟨by decide, by decide, by decide +kernel⟩, by decide, by decide⟩
theorem miX12_isOf : Cond.instanceMethod mtX12_isOf.1 ∈ lw_good := lw_good_t (i := 1335) (by decide +kernel) rfl
theorem mnX12_isOf : MIn mtX12_isOf 12 43 := ⟨⟨miX12_isOf, lw_good_p (q := (yX12_isOf, 43)) (i := 99) (by decide +kernel)⟩, ⟨TX12, rfl⟩, by decide⟩
abbrev mtX12_rank : Mt := (yX12_rank, cX12_rank, 1, (Option.some Jvm.ClassFile.FieldType.int))
theorem mkX12_rank : MtOK mtX12_rank 1 := ⟨lw_good_t (i := 1305) (by decide +kernel) rfl, lw_good_t (i := 13) (by decide +kernel) rfl, ⟨by decide, by decide, by decide +kernel⟩, by decide, by decide⟩
theorem msX12_rank : Cond.static mtX12_rank.1 ∈ lw_good := lw_good_t (i := 1304) (by decide +kernel) rfl
abbrev mtX12_settle : Mt := (yX12_settle, cX12_settle, 2, (Option.none : Option Jvm.ClassFile.FieldType))
theorem mkX12_settle : MtOK mtX12_settle 1 := ⟨lw_good_t (i := 1313) (by decide +kernel) rfl, lw_good_t (i := 13) (by decide +kernel) rfl, ⟨by decide, by decide, by decide +kernel⟩, by decide, by decide⟩
theorem miX12_settle : Cond.instanceMethod mtX12_settle.1 ∈ lw_good := lw_good_t (i := 1312) (by decide +kernel) rfl
theorem mnX12_settle : MIn mtX12_settle 12 43 := ⟨⟨miX12_settle, lw_good_p (q := (yX12_settle, 43)) (i := 94) (by decide +kernel)⟩, ⟨TX12, rfl⟩, by decide⟩
abbrev mtX12_isOpen : Mt := (yX12_isOpen, cX12_isOpen, 2, (Option.some Jvm.ClassFile.FieldType.boolean))
theorem mkX12_isOpen : MtOK mtX12_isOpen 0 := ⟨lw_good_t (i := 1298) (by decide +kernel) rfl, lw_good_t (i := 13) (by decide +kernel) rfl, ⟨by decide, by decide, by decide +kernel⟩, by decide, by decide⟩
theorem miX12_isOpen : Cond.instanceMethod mtX12_isOpen.1 ∈ lw_good := lw_good_t (i := 1297) (by decide +kernel) rfl
theorem mnX12_isOpen : MIn mtX12_isOpen 12 43 := ⟨⟨miX12_isOpen, lw_good_p (q := (yX12_isOpen, 43)) (i := 91) (by decide +kernel)⟩, ⟨TX12, rfl⟩, by decide⟩
abbrev mtX12_isCompared : Mt := (yX12_isCompared, cX12_isCompared, 2, (Option.some Jvm.ClassFile.FieldType.boolean))
theorem mkX12_isCompared : MtOK mtX12_isCompared 0 := ⟨lw_good_t (i := 1302) (by decide +kernel) rfl, lw_good_t (i := 13) (by decide +kernel) rfl, ⟨by decide, by decide, by decide +kernel⟩, by decide, by decide⟩
theorem miX12_isCompared : Cond.instanceMethod mtX12_isCompared.1 ∈ lw_good := lw_good_t (i := 1301) (by decide +kernel) rfl
theorem mnX12_isCompared : MIn mtX12_isCompared 12 43 := ⟨⟨miX12_isCompared, lw_good_p (q := (yX12_isCompared, 43)) (i := 92) (by decide +kernel)⟩, ⟨TX12, rfl⟩, by decide⟩
abbrev mtX12_isAskHere : Mt := (yX12_isAskHere, cX12_isAskHere, 1, (Option.some Jvm.ClassFile.FieldType.boolean))
theorem mkX12_isAskHere : MtOK mtX12_isAskHere 0 := ⟨lw_good_t (i := 1294) (by decide +kernel) rfl, lw_good_t (i := 13) (by decide +kernel) rfl, ⟨by decide, by decide, by decide +kernel⟩, by decide, by decide⟩
theorem miX12_isAskHere : Cond.instanceMethod mtX12_isAskHere.1 ∈ lw_good := lw_good_t (i := 1293) (by decide +kernel) rfl
theorem mnX12_isAskHere : MIn mtX12_isAskHere 12 43 := ⟨⟨miX12_isAskHere, lw_good_p (q := (yX12_isAskHere, 43)) (i := 90) (by decide +kernel)⟩, ⟨TX12, rfl⟩, by decide⟩
abbrev mtX12_isAskAhead : Mt := (yX12_isAskAhead, cX12_isAskAhead, 1, (Option.some Jvm.ClassFile.FieldType.boolean))
theorem mkX12_isAskAhead : MtOK mtX12_isAskAhead 0 := ⟨lw_good_t (i := 1348) (by decide +kernel) rfl, lw_good_t (i := 13) (by decide +kernel) rfl, ⟨by decide, by decide, by decide +kernel⟩, by decide, by decide⟩
theorem miX12_isAskAhead : Cond.instanceMethod mtX12_isAskAhead.1 ∈ lw_good := lw_good_t (i := 1347) (by decide +kernel) rfl
theorem mnX12_isAskAhead : MIn mtX12_isAskAhead 12 43 := ⟨⟨miX12_isAskAhead, lw_good_p (q := (yX12_isAskAhead, 43)) (i := 102) (by decide +kernel)⟩, ⟨TX12, rfl⟩, by decide⟩
abbrev mtX12_opened : Mt := (yX12_opened, cX12_opened, 2, (Option.some Jvm.ClassFile.FieldType.int))
theorem mkX12_opened : MtOK mtX12_opened 1 := ⟨lw_good_t (i := 1344) (by decide +kernel) rfl, lw_good_t (i := 13) (by decide +kernel) rfl, ⟨by decide, by decide, by decide +kernel⟩, by decide, by decide⟩
theorem miX12_opened : Cond.instanceMethod mtX12_opened.1 ∈ lw_good := lw_good_t (i := 1343) (by decide +kernel) rfl
theorem mnX12_opened : MIn mtX12_opened 12 43 := ⟨⟨miX12_opened, lw_good_p (q := (yX12_opened, 43)) (i := 101) (by decide +kernel)⟩, ⟨TX12, rfl⟩, by decide⟩
abbrev mtX12_one : Mt := (yX12_one, cX12_one, 3, (Option.some Jvm.ClassFile.FieldType.int))
theorem mkX12_one : MtOK mtX12_one 2 := ⟨lw_good_t (i := 1325) (by decide +kernel) rfl, lw_good_t (i := 13) (by decide +kernel) rfl, ⟨by decide, by decide, by decide +kernel⟩, by decide, by decide⟩
theorem miX12_one : Cond.instanceMethod mtX12_one.1 ∈ lw_good := lw_good_t (i := 1324) (by decide +kernel) rfl
theorem mnX12_one : MIn mtX12_one 12 43 := ⟨⟨miX12_one, lw_good_p (q := (yX12_one, 43)) (i := 97) (by decide +kernel)⟩, ⟨TX12, rfl⟩, by decide⟩
abbrev mtX12_beside : Mt := (yX12_beside, cX12_beside, 3, (Option.some Jvm.ClassFile.FieldType.int))
theorem mkX12_beside : MtOK mtX12_beside 1 := ⟨lw_good_t (i := 1340) (by decide +kernel) rfl, lw_good_t (i := 13) (by decide +kernel) rfl, ⟨by decide, by decide, by decide +kernel⟩, by decide, by decide⟩
theorem miX12_beside : Cond.instanceMethod mtX12_beside.1 ∈ lw_good := lw_good_t (i := 1339) (by decide +kernel) rfl
theorem mnX12_beside : MIn mtX12_beside 12 43 := ⟨⟨miX12_beside, lw_good_p (q := (yX12_beside, 43)) (i := 100) (by decide +kernel)⟩, ⟨TX12, rfl⟩, by decide⟩
abbrev mtX12_beginOne : Mt := (yX12_beginOne, cX12_beginOne, 2, (Option.some Jvm.ClassFile.FieldType.int))
theorem mkX12_beginOne : MtOK mtX12_beginOne 0 := ⟨lw_good_t (i := 1321) (by decide +kernel) rfl, lw_good_t (i := 13) (by decide +kernel) rfl, ⟨by decide, by decide, by decide +kernel⟩, by decide, by decide⟩
theorem miX12_beginOne : Cond.instanceMethod mtX12_beginOne.1 ∈ lw_good := lw_good_t (i := 1320) (by decide +kernel) rfl
theorem mnX12_beginOne : MIn mtX12_beginOne 12 43 := ⟨⟨miX12_beginOne, lw_good_p (q := (yX12_beginOne, 43)) (i := 96) (by decide +kernel)⟩, ⟨TX12, rfl⟩, by decide⟩
abbrev mtX12_compareOf : Mt := (yX12_compareOf, cX12_compareOf, 1, (Option.some Jvm.ClassFile.FieldType.int))
theorem mkX12_compareOf : MtOK mtX12_compareOf 0 := ⟨lw_good_t (i := 1309) (by decide +kernel) rfl, lw_good_t (i := 13) (by decide +kernel) rfl, ⟨by decide, by decide, by decide +kernel⟩, by decide, by decide⟩
theorem miX12_compareOf : Cond.instanceMethod mtX12_compareOf.1 ∈ lw_good := lw_good_t (i := 1308) (by decide +kernel) rfl
theorem mnX12_compareOf : MIn mtX12_compareOf 12 43 := ⟨⟨miX12_compareOf, lw_good_p (q := (yX12_compareOf, 43)) (i := 93) (by decide +kernel)⟩, ⟨TX12, rfl⟩, by decide⟩
abbrev mtX12_betweenOf : Mt := (yX12_betweenOf, cX12_betweenOf, 1, (Option.some Jvm.ClassFile.FieldType.int))
theorem mkX12_betweenOf : MtOK mtX12_betweenOf 0 := ⟨lw_good_t (i := 1290) (by decide +kernel) rfl, lw_good_t (i := 13) (by decide +kernel) rfl, ⟨by decide, by decide, by decide +kernel⟩, by decide, by decide⟩
theorem miX12_betweenOf : Cond.instanceMethod mtX12_betweenOf.1 ∈ lw_good := lw_good_t (i := 1289) (by decide +kernel) rfl
theorem mnX12_betweenOf : MIn mtX12_betweenOf 12 43 := ⟨⟨miX12_betweenOf, lw_good_p (q := (yX12_betweenOf, 43)) (i := 89) (by decide +kernel)⟩, ⟨TX12, rfl⟩, by decide⟩
abbrev mtX12_behindOne : Mt := (yX12_behindOne, cX12_behindOne, 2, (Option.some Jvm.ClassFile.FieldType.boolean))
theorem mkX12_behindOne : MtOK mtX12_behindOne 0 := ⟨lw_good_t (i := 1286) (by decide +kernel) rfl, lw_good_t (i := 13) (by decide +kernel) rfl, ⟨by decide, by decide, by decide +kernel⟩, by decide, by decide⟩
theorem miX12_behindOne : Cond.instanceMethod mtX12_behindOne.1 ∈ lw_good := lw_good_t (i := 1285) (by decide +kernel) rfl
theorem mnX12_behindOne : MIn mtX12_behindOne 12 43 := ⟨⟨miX12_behindOne, lw_good_p (q := (yX12_behindOne, 43)) (i := 88) (by decide +kernel)⟩, ⟨TX12, rfl⟩, by decide⟩
abbrev mtX12_parsed : Mt := (yX12_parsed, cX12_parsed, 3, (Option.some Jvm.ClassFile.FieldType.int))
theorem mkX12_parsed : MtOK mtX12_parsed 1 := ⟨lw_good_t (i := 1282) (by decide +kernel) rfl, lw_good_t (i := 13) (by decide +kernel) rfl, ⟨by decide, by decide, by decide +kernel⟩, by decide, by decide⟩
theorem miX12_parsed : Cond.instanceMethod mtX12_parsed.1 ∈ lw_good := lw_good_t (i := 1281) (by decide +kernel) rfl
theorem mnX12_parsed : MIn mtX12_parsed 12 43 := ⟨⟨miX12_parsed, lw_good_p (q := (yX12_parsed, 43)) (i := 87) (by decide +kernel)⟩, ⟨TX12, rfl⟩, by decide⟩
abbrev mtX12_figure : Mt := (yX12_figure, cX12_figure, 4, (Option.some Jvm.ClassFile.FieldType.int))
theorem mkX12_figure : MtOK mtX12_figure 3 := ⟨lw_good_t (i := 1356) (by decide +kernel) rfl, lw_good_t (i := 13) (by decide +kernel) rfl, ⟨by decide, by decide, by decide +kernel⟩, by decide, by decide⟩
theorem miX12_figure : Cond.instanceMethod mtX12_figure.1 ∈ lw_good := lw_good_t (i := 1355) (by decide +kernel) rfl
theorem mnX12_figure : MIn mtX12_figure 12 43 := ⟨⟨miX12_figure, lw_good_p (q := (yX12_figure, 43)) (i := 104) (by decide +kernel)⟩, ⟨TX12, rfl⟩, by decide⟩
abbrev mtX12_worded : Mt := (yX12_worded, cX12_worded, 6, (Option.some Jvm.ClassFile.FieldType.int))
theorem mkX12_worded : MtOK mtX12_worded 4 := ⟨lw_good_t (i := 1360) (by decide +kernel) rfl, lw_good_t (i := 13) (by decide +kernel) rfl, ⟨by decide, by decide, by decide +kernel⟩, by decide, by decide⟩
theorem miX12_worded : Cond.instanceMethod mtX12_worded.1 ∈ lw_good := lw_good_t (i := 1359) (by decide +kernel) rfl
theorem mnX12_worded : MIn mtX12_worded 12 43 := ⟨⟨miX12_worded, lw_good_p (q := (yX12_worded, 43)) (i := 105) (by decide +kernel)⟩, ⟨TX12, rfl⟩, by decide⟩
abbrev mtX12_lawClause : Mt := (yX12_lawClause, cX12_lawClause, 4, (Option.some Jvm.ClassFile.FieldType.int))
theorem mkX12_lawClause : MtOK mtX12_lawClause 2 := ⟨lw_good_t (i := 1278) (by decide +kernel) rfl, lw_good_t (i := 13) (by decide +kernel) rfl, ⟨by decide, by decide, by decide +kernel⟩, by decide, by decide⟩
theorem miX12_lawClause : Cond.instanceMethod mtX12_lawClause.1 ∈ lw_good := lw_good_t (i := 1277) (by decide +kernel) rfl
theorem mnX12_lawClause : MIn mtX12_lawClause 12 43 := ⟨⟨miX12_lawClause, lw_good_p (q := (yX12_lawClause, 43)) (i := 86) (by decide +kernel)⟩, ⟨TX12, rfl⟩, by decide⟩
abbrev mtX12_stepClause : Mt := (yX12_stepClause, cX12_stepClause, 3, (Option.some Jvm.ClassFile.FieldType.int))
theorem mkX12_stepClause : MtOK mtX12_stepClause 1 := ⟨lw_good_t (i := 1352) (by decide +kernel) rfl, lw_good_t (i := 13) (by decide +kernel) rfl, ⟨by decide, by decide, by decide +kernel⟩, by decide, by decide⟩
theorem miX12_stepClause : Cond.instanceMethod mtX12_stepClause.1 ∈ lw_good := lw_good_t (i := 1351) (by decide +kernel) rfl
theorem mnX12_stepClause : MIn mtX12_stepClause 12 43 := ⟨⟨miX12_stepClause, lw_good_p (q := (yX12_stepClause, 43)) (i := 103) (by decide +kernel)⟩, ⟨TX12, rfl⟩, by decide⟩
abbrev mtX12_shipClause : Mt := (yX12_shipClause, cX12_shipClause, 3, (Option.some Jvm.ClassFile.FieldType.int))
theorem mkX12_shipClause : MtOK mtX12_shipClause 1 := ⟨lw_good_t (i := 1364) (by decide +kernel) rfl, lw_good_t (i := 13) (by decide +kernel) rfl, ⟨by decide, by decide, by decide +kernel⟩, by decide, by decide⟩
theorem miX12_shipClause : Cond.instanceMethod mtX12_shipClause.1 ∈ lw_good := lw_good_t (i := 1363) (by decide +kernel) rfl
theorem mnX12_shipClause : MIn mtX12_shipClause 12 43 := ⟨⟨miX12_shipClause, lw_good_p (q := (yX12_shipClause, 43)) (i := 106) (by decide +kernel)⟩, ⟨TX12, rfl⟩, by decide⟩
abbrev mtX12_pair : Mt := (yX12_pair, cX12_pair, 8, (Option.some Jvm.ClassFile.FieldType.int))
theorem mkX12_pair : MtOK mtX12_pair 5 := ⟨lw_good_t (i := 1368) (by decide +kernel) rfl, lw_good_t (i := 13) (by decide +kernel) rfl, ⟨by decide, by decide, by decide +kernel⟩, by decide, by decide⟩
theorem miX12_pair : Cond.instanceMethod mtX12_pair.1 ∈ lw_good := lw_good_t (i := 1367) (by decide +kernel) rfl
theorem mnX12_pair : MIn mtX12_pair 12 43 := ⟨⟨miX12_pair, lw_good_p (q := (yX12_pair, 43)) (i := 107) (by decide +kernel)⟩, ⟨TX12, rfl⟩, by decide⟩
abbrev mtX12_body : Mt := (yX12_body, cX12_body, 3, (Option.some Jvm.ClassFile.FieldType.int))
theorem mkX12_body : MtOK mtX12_body 2 := ⟨lw_good_t (i := 1274) (by decide +kernel) rfl, lw_good_t (i := 13) (by decide +kernel) rfl, ⟨by decide, by decide, by decide +kernel⟩, by decide, by decide⟩
theorem miX12_body : Cond.instanceMethod mtX12_body.1 ∈ lw_good := lw_good_t (i := 1273) (by decide +kernel) rfl
theorem mnX12_body : MIn mtX12_body 12 43 := ⟨⟨miX12_body, lw_good_p (q := (yX12_body, 43)) (i := 85) (by decide +kernel)⟩, ⟨TX12, rfl⟩, by decide⟩
abbrev mtX12_sortOf : Mt := (yX12_sortOf, cX12_sortOf, 1, (Option.some Jvm.ClassFile.FieldType.int))
theorem mkX12_sortOf : MtOK mtX12_sortOf 0 := ⟨lw_good_t (i := 1251) (by decide +kernel) rfl, lw_good_t (i := 13) (by decide +kernel) rfl, ⟨by decide, by decide, by decide +kernel⟩, by decide, by decide⟩
theorem miX12_sortOf : Cond.instanceMethod mtX12_sortOf.1 ∈ lw_good := lw_good_t (i := 1250) (by decide +kernel) rfl
theorem mnX12_sortOf : MIn mtX12_sortOf 12 43 := ⟨⟨miX12_sortOf, lw_good_p (q := (yX12_sortOf, 43)) (i := 83) (by decide +kernel)⟩, ⟨TX12, rfl⟩, by decide⟩
abbrev mtX12_clause : Mt := (yX12_clause, cX12_clause, 5, (Option.some Jvm.ClassFile.FieldType.int))
theorem mkX12_clause : MtOK mtX12_clause 0 := ⟨lw_good_t (i := 1247) (by decide +kernel) rfl, lw_good_t (i := 13) (by decide +kernel) rfl, ⟨by decide, by decide, by decide +kernel⟩, by decide, by decide⟩
theorem miX12_clause : Cond.instanceMethod mtX12_clause.1 ∈ lw_good := lw_good_t (i := 1246) (by decide +kernel) rfl
theorem mnX12_clause : MIn mtX12_clause 12 43 := ⟨⟨miX12_clause, lw_good_p (q := (yX12_clause, 43)) (i := 82) (by decide +kernel)⟩, ⟨TX12, rfl⟩, by decide⟩
abbrev mtX12_readText : Mt := (yX12_readText, cX12_readText, 2, (Option.some Jvm.ClassFile.FieldType.int))
theorem mkX12_readText : MtOK mtX12_readText 0 := ⟨lw_good_t (i := 1224) (by decide +kernel) rfl, lw_good_t (i := 13) (by decide +kernel) rfl, ⟨by decide, by decide, by decide +kernel⟩, by decide, by decide⟩
theorem miX12_readText : Cond.instanceMethod mtX12_readText.1 ∈ lw_good := lw_good_t (i := 1223) (by decide +kernel) rfl
theorem mnX12_readText : MIn mtX12_readText 12 43 := ⟨⟨miX12_readText, lw_good_p (q := (yX12_readText, 43)) (i := 79) (by decide +kernel)⟩, ⟨TX12, rfl⟩, by decide⟩
abbrev mtX12_text : Mt := (yX12_text, cX12_text, 1, (Option.some Jvm.ClassFile.FieldType.int))
theorem mkX12_text : MtOK mtX12_text 0 := ⟨lw_good_t (i := 1220) (by decide +kernel) rfl, lw_good_t (i := 13) (by decide +kernel) rfl, ⟨by decide, by decide, by decide +kernel⟩, by decide, by decide⟩
theorem miX12_text : Cond.instanceMethod mtX12_text.1 ∈ lw_good := lw_good_t (i := 1218) (by decide +kernel) rfl
theorem mnX12_text : MIn mtX12_text 12 43 := ⟨⟨miX12_text, lw_good_t (i := 1219) (by decide +kernel) rfl⟩, ⟨TX12, rfl⟩, by decide⟩
abbrev mtX12_fault : Mt := (yX12_fault, cX12_fault, 2, (Option.some Jvm.ClassFile.FieldType.int))
theorem mkX12_fault : MtOK mtX12_fault 1 := ⟨lw_good_t (i := 1372) (by decide +kernel) rfl, lw_good_t (i := 13) (by decide +kernel) rfl, ⟨by decide, by decide, by decide +kernel⟩, by decide, by decide⟩
theorem miX12_fault : Cond.instanceMethod mtX12_fault.1 ∈ lw_good := lw_good_t (i := 1370) (by decide +kernel) rfl
theorem mnX12_fault : MIn mtX12_fault 12 43 := ⟨⟨miX12_fault, lw_good_t (i := 1371) (by decide +kernel) rfl⟩, ⟨TX12, rfl⟩, by decide⟩
abbrev mtX12_by : Mt := (yX12_by, cX12_by, 2, (Option.some Jvm.ClassFile.FieldType.boolean))
theorem mkX12_by : MtOK mtX12_by 1 := ⟨lw_good_t (i := 1376) (by decide +kernel) rfl, lw_good_t (i := 13) (by decide +kernel) rfl, ⟨by decide, by decide, by decide +kernel⟩, by decide, by decide⟩
theorem miX12_by : Cond.instanceMethod mtX12_by.1 ∈ lw_good := lw_good_t (i := 1374) (by decide +kernel) rfl
theorem mnX12_by : MIn mtX12_by 12 43 := ⟨⟨miX12_by, lw_good_t (i := 1375) (by decide +kernel) rfl⟩, ⟨TX12, rfl⟩, by decide⟩
abbrev mtX12_clip : Mt := (yX12_clip, cX12_clip, 2, (Option.some Jvm.ClassFile.FieldType.long))
theorem mkX12_clip : MtOK mtX12_clip 1 := ⟨lw_good_t (i := 1449) (by decide +kernel) rfl, lw_good_t (i := 13) (by decide +kernel) rfl, ⟨by decide, by decide, by decide +kernel⟩, by decide, by decide⟩
theorem msX12_clip : Cond.static mtX12_clip.1 ∈ lw_good := lw_good_t (i := 1448) (by decide +kernel) rfl
abbrev mtX12_two : Mt := (yX12_two, cX12_two, 5, (Option.some Jvm.ClassFile.FieldType.long))
theorem mkX12_two : MtOK mtX12_two 3 := ⟨lw_good_t (i := 1446) (by decide +kernel) rfl, lw_good_t (i := 13) (by decide +kernel) rfl, ⟨by decide, by decide, by decide +kernel⟩, by decide, by decide⟩
theorem msX12_two : Cond.static mtX12_two.1 ∈ lw_good := lw_good_t (i := 1445) (by decide +kernel) rfl
abbrev mtX12_isAsked : Mt := (yX12_isAsked, cX12_isAsked, 5, (Option.some Jvm.ClassFile.FieldType.boolean))
theorem mkX12_isAsked : MtOK mtX12_isAsked 3 := ⟨lw_good_t (i := 1454) (by decide +kernel) rfl, lw_good_t (i := 13) (by decide +kernel) rfl, ⟨by decide, by decide, by decide +kernel⟩, by decide, by decide⟩
theorem msX12_isAsked : Cond.static mtX12_isAsked.1 ∈ lw_good := lw_good_t (i := 1453) (by decide +kernel) rfl
abbrev mtX12_ask : Mt := (yX12_ask, cX12_ask, 5, (Option.none : Option Jvm.ClassFile.FieldType))
theorem mkX12_ask : MtOK mtX12_ask 4 := ⟨lw_good_t (i := 1424) (by decide +kernel) rfl, lw_good_t (i := 13) (by decide +kernel) rfl, ⟨by decide, by decide, by decide +kernel⟩, by decide, by decide⟩
theorem miX12_ask : Cond.instanceMethod mtX12_ask.1 ∈ lw_good := lw_good_t (i := 1423) (by decide +kernel) rfl
theorem mnX12_ask : MIn mtX12_ask 12 43 := ⟨⟨miX12_ask, lw_good_p (q := (yX12_ask, 43)) (i := 117) (by decide +kernel)⟩, ⟨TX12, rfl⟩, by decide⟩
abbrev mtX12_named : Mt := (yX12_named, cX12_named, 3, (Option.some Jvm.ClassFile.FieldType.int))
theorem mkX12_named : MtOK mtX12_named 2 := ⟨lw_good_t (i := 1443) (by decide +kernel) rfl, lw_good_t (i := 13) (by decide +kernel) rfl, ⟨by decide, by decide, by decide +kernel⟩, by decide, by decide⟩
theorem miX12_named : Cond.instanceMethod mtX12_named.1 ∈ lw_good := lw_good_t (i := 1442) (by decide +kernel) rfl
theorem mnX12_named : MIn mtX12_named 12 43 := ⟨⟨miX12_named, lw_good_p (q := (yX12_named, 43)) (i := 121) (by decide +kernel)⟩, ⟨TX12, rfl⟩, by decide⟩
abbrev mtX12_work : Mt := (yX12_work, cX12_work, 9, (Option.none : Option Jvm.ClassFile.FieldType))
theorem mkX12_work : MtOK mtX12_work 1 := ⟨lw_good_t (i := 1439) (by decide +kernel) rfl, lw_good_t (i := 13) (by decide +kernel) rfl, ⟨by decide, by decide, by decide +kernel⟩, by decide, by decide⟩
theorem miX12_work : Cond.instanceMethod mtX12_work.1 ∈ lw_good := lw_good_t (i := 1438) (by decide +kernel) rfl
theorem mnX12_work : MIn mtX12_work 12 43 := ⟨⟨miX12_work, lw_good_p (q := (yX12_work, 43)) (i := 120) (by decide +kernel)⟩, ⟨TX12, rfl⟩, by decide⟩
abbrev mtX12_clauseOf : Mt := (yX12_clauseOf, cX12_clauseOf, 3, (Option.some Jvm.ClassFile.FieldType.int))
theorem mkX12_clauseOf : MtOK mtX12_clauseOf 1 := ⟨lw_good_t (i := 1432) (by decide +kernel) rfl, lw_good_t (i := 13) (by decide +kernel) rfl, ⟨by decide, by decide, by decide +kernel⟩, by decide, by decide⟩
theorem miX12_clauseOf : Cond.instanceMethod mtX12_clauseOf.1 ∈ lw_good := lw_good_t (i := 1431) (by decide +kernel) rfl
theorem mnX12_clauseOf : MIn mtX12_clauseOf 12 43 := ⟨⟨miX12_clauseOf, lw_good_p (q := (yX12_clauseOf, 43)) (i := 119) (by decide +kernel)⟩, ⟨TX12, rfl⟩, by decide⟩
abbrev mtX12_says : Mt := (yX12_says, cX12_says, 5, (Option.some Jvm.ClassFile.FieldType.int))
theorem mkX12_says : MtOK mtX12_says 3 := ⟨lw_good_t (i := 1428) (by decide +kernel) rfl, lw_good_t (i := 13) (by decide +kernel) rfl, ⟨by decide, by decide, by decide +kernel⟩, by decide, by decide⟩
theorem miX12_says : Cond.instanceMethod mtX12_says.1 ∈ lw_good := lw_good_t (i := 1427) (by decide +kernel) rfl
theorem mnX12_says : MIn mtX12_says 12 43 := ⟨⟨miX12_says, lw_good_p (q := (yX12_says, 43)) (i := 118) (by decide +kernel)⟩, ⟨TX12, rfl⟩, by decide⟩
abbrev mtX12_takesOf : Mt := (yX12_takesOf, cX12_takesOf, 4, (Option.some Jvm.ClassFile.FieldType.int))
theorem mkX12_takesOf : MtOK mtX12_takesOf 3 := ⟨lw_good_t (i := 1420) (by decide +kernel) rfl, lw_good_t (i := 13) (by decide +kernel) rfl, ⟨by decide, by decide, by decide +kernel⟩, by decide, by decide⟩
theorem miX12_takesOf : Cond.instanceMethod mtX12_takesOf.1 ∈ lw_good := lw_good_t (i := 1419) (by decide +kernel) rfl
theorem mnX12_takesOf : MIn mtX12_takesOf 12 43 := ⟨⟨miX12_takesOf, lw_good_p (q := (yX12_takesOf, 43)) (i := 116) (by decide +kernel)⟩, ⟨TX12, rfl⟩, by decide⟩
abbrev mtX12_haulsOf : Mt := (yX12_haulsOf, cX12_haulsOf, 4, (Option.some Jvm.ClassFile.FieldType.int))
theorem mkX12_haulsOf : MtOK mtX12_haulsOf 3 := ⟨lw_good_t (i := 1458) (by decide +kernel) rfl, lw_good_t (i := 13) (by decide +kernel) rfl, ⟨by decide, by decide, by decide +kernel⟩, by decide, by decide⟩
theorem miX12_haulsOf : Cond.instanceMethod mtX12_haulsOf.1 ∈ lw_good := lw_good_t (i := 1457) (by decide +kernel) rfl
theorem mnX12_haulsOf : MIn mtX12_haulsOf 12 43 := ⟨⟨miX12_haulsOf, lw_good_p (q := (yX12_haulsOf, 43)) (i := 122) (by decide +kernel)⟩, ⟨TX12, rfl⟩, by decide⟩
abbrev mtX12_wearsOf : Mt := (yX12_wearsOf, cX12_wearsOf, 3, (Option.some Jvm.ClassFile.FieldType.int))
theorem mkX12_wearsOf : MtOK mtX12_wearsOf 2 := ⟨lw_good_t (i := 1462) (by decide +kernel) rfl, lw_good_t (i := 13) (by decide +kernel) rfl, ⟨by decide, by decide, by decide +kernel⟩, by decide, by decide⟩
theorem miX12_wearsOf : Cond.instanceMethod mtX12_wearsOf.1 ∈ lw_good := lw_good_t (i := 1461) (by decide +kernel) rfl
theorem mnX12_wearsOf : MIn mtX12_wearsOf 12 43 := ⟨⟨miX12_wearsOf, lw_good_p (q := (yX12_wearsOf, 43)) (i := 123) (by decide +kernel)⟩, ⟨TX12, rfl⟩, by decide⟩
abbrev mtX12_flowsOf : Mt := (yX12_flowsOf, cX12_flowsOf, 2, (Option.some Jvm.ClassFile.FieldType.int))
theorem mkX12_flowsOf : MtOK mtX12_flowsOf 1 := ⟨lw_good_t (i := 1474) (by decide +kernel) rfl, lw_good_t (i := 13) (by decide +kernel) rfl, ⟨by decide, by decide, by decide +kernel⟩, by decide, by decide⟩
theorem miX12_flowsOf : Cond.instanceMethod mtX12_flowsOf.1 ∈ lw_good := lw_good_t (i := 1473) (by decide +kernel) rfl
theorem mnX12_flowsOf : MIn mtX12_flowsOf 12 43 := ⟨⟨miX12_flowsOf, lw_good_p (q := (yX12_flowsOf, 43)) (i := 126) (by decide +kernel)⟩, ⟨TX12, rfl⟩, by decide⟩
abbrev mtX12_isFalling : Mt := (yX12_isFalling, cX12_isFalling, 4, (Option.some Jvm.ClassFile.FieldType.boolean))
theorem mkX12_isFalling : MtOK mtX12_isFalling 2 := ⟨lw_good_t (i := 1616) (by decide +kernel) rfl, lw_good_t (i := 13) (by decide +kernel) rfl, ⟨by decide, by decide, by decide +kernel⟩, by decide, by decide⟩
theorem miX12_isFalling : Cond.instanceMethod mtX12_isFalling.1 ∈ lw_good := lw_good_t (i := 1615) (by decide +kernel) rfl
theorem mnX12_isFalling : MIn mtX12_isFalling 12 43 := ⟨⟨miX12_isFalling, lw_good_p (q := (yX12_isFalling, 43)) (i := 141) (by decide +kernel)⟩, ⟨TX12, rfl⟩, by decide⟩
abbrev mtX12_waiterOn : Mt := (yX12_waiterOn, cX12_waiterOn, 4, (Option.some Jvm.ClassFile.FieldType.int))
theorem mkX12_waiterOn : MtOK mtX12_waiterOn 2 := ⟨lw_good_t (i := 1416) (by decide +kernel) rfl, lw_good_t (i := 13) (by decide +kernel) rfl, ⟨by decide, by decide, by decide +kernel⟩, by decide, by decide⟩
theorem miX12_waiterOn : Cond.instanceMethod mtX12_waiterOn.1 ∈ lw_good := lw_good_t (i := 1415) (by decide +kernel) rfl
theorem mnX12_waiterOn : MIn mtX12_waiterOn 12 43 := ⟨⟨miX12_waiterOn, lw_good_p (q := (yX12_waiterOn, 43)) (i := 115) (by decide +kernel)⟩, ⟨TX12, rfl⟩, by decide⟩
abbrev mtX12_go : Mt := (yX12_go, cX12_go, 4, (Option.none : Option Jvm.ClassFile.FieldType))
theorem mkX12_go : MtOK mtX12_go 3 := ⟨lw_good_t (i := 1466) (by decide +kernel) rfl, lw_good_t (i := 13) (by decide +kernel) rfl, ⟨by decide, by decide, by decide +kernel⟩, by decide, by decide⟩
theorem miX12_go : Cond.instanceMethod mtX12_go.1 ∈ lw_good := lw_good_t (i := 1465) (by decide +kernel) rfl
theorem mnX12_go : MIn mtX12_go 12 43 := ⟨⟨miX12_go, lw_good_p (q := (yX12_go, 43)) (i := 124) (by decide +kernel)⟩, ⟨TX12, rfl⟩, by decide⟩
abbrev mtX12_rope : Mt := (yX12_rope, cX12_rope, 9, (Option.none : Option Jvm.ClassFile.FieldType))
theorem mkX12_rope : MtOK mtX12_rope 1 := ⟨lw_good_t (i := 1412) (by decide +kernel) rfl, lw_good_t (i := 13) (by decide +kernel) rfl, ⟨by decide, by decide, by decide +kernel⟩, by decide, by decide⟩
theorem miX12_rope : Cond.instanceMethod mtX12_rope.1 ∈ lw_good := lw_good_t (i := 1411) (by decide +kernel) rfl
theorem mnX12_rope : MIn mtX12_rope 12 43 := ⟨⟨miX12_rope, lw_good_p (q := (yX12_rope, 43)) (i := 114) (by decide +kernel)⟩, ⟨TX12, rfl⟩, by decide⟩
abbrev mtX12_pour : Mt := (yX12_pour, cX12_pour, 3, (Option.none : Option Jvm.ClassFile.FieldType))
theorem mkX12_pour : MtOK mtX12_pour 0 := ⟨lw_good_t (i := 1470) (by decide +kernel) rfl, lw_good_t (i := 13) (by decide +kernel) rfl, ⟨by decide, by decide, by decide +kernel⟩, by decide, by decide⟩
theorem miX12_pour : Cond.instanceMethod mtX12_pour.1 ∈ lw_good := lw_good_t (i := 1469) (by decide +kernel) rfl
theorem mnX12_pour : MIn mtX12_pour 12 43 := ⟨⟨miX12_pour, lw_good_p (q := (yX12_pour, 43)) (i := 125) (by decide +kernel)⟩, ⟨TX12, rfl⟩, by decide⟩
abbrev mtX12_pass : Mt := (yX12_pass, cX12_pass, 2, (Option.none : Option Jvm.ClassFile.FieldType))
theorem mkX12_pass : MtOK mtX12_pass 0 := ⟨lw_good_t (i := 1408) (by decide +kernel) rfl, lw_good_t (i := 13) (by decide +kernel) rfl, ⟨by decide, by decide, by decide +kernel⟩, by decide, by decide⟩
theorem miX12_pass : Cond.instanceMethod mtX12_pass.1 ∈ lw_good := lw_good_t (i := 1407) (by decide +kernel) rfl
theorem mnX12_pass : MIn mtX12_pass 12 43 := ⟨⟨miX12_pass, lw_good_p (q := (yX12_pass, 43)) (i := 113) (by decide +kernel)⟩, ⟨TX12, rfl⟩, by decide⟩
abbrev mtX12_keep : Mt := (yX12_keep, cX12_keep, 4, (Option.none : Option Jvm.ClassFile.FieldType))
theorem mkX12_keep : MtOK mtX12_keep 0 := ⟨lw_good_t (i := 1404) (by decide +kernel) rfl, lw_good_t (i := 13) (by decide +kernel) rfl, ⟨by decide, by decide, by decide +kernel⟩, by decide, by decide⟩
theorem miX12_keep : Cond.instanceMethod mtX12_keep.1 ∈ lw_good := lw_good_t (i := 1403) (by decide +kernel) rfl
theorem mnX12_keep : MIn mtX12_keep 12 43 := ⟨⟨miX12_keep, lw_good_p (q := (yX12_keep, 43)) (i := 112) (by decide +kernel)⟩, ⟨TX12, rfl⟩, by decide⟩
abbrev mtX12_undoStep : Mt := (yX12_undoStep, cX12_undoStep, 5, (Option.none : Option Jvm.ClassFile.FieldType))
theorem mkX12_undoStep : MtOK mtX12_undoStep 3 := ⟨lw_good_t (i := 1384) (by decide +kernel) rfl, lw_good_t (i := 13) (by decide +kernel) rfl, ⟨by decide, by decide, by decide +kernel⟩, by decide, by decide⟩
theorem miX12_undoStep : Cond.instanceMethod mtX12_undoStep.1 ∈ lw_good := lw_good_t (i := 1383) (by decide +kernel) rfl
theorem mnX12_undoStep : MIn mtX12_undoStep 12 43 := ⟨⟨miX12_undoStep, lw_good_p (q := (yX12_undoStep, 43)) (i := 108) (by decide +kernel)⟩, ⟨TX12, rfl⟩, by decide⟩
abbrev mtX12_undoShip : Mt := (yX12_undoShip, cX12_undoShip, 5, (Option.none : Option Jvm.ClassFile.FieldType))
theorem mkX12_undoShip : MtOK mtX12_undoShip 3 := ⟨lw_good_t (i := 1388) (by decide +kernel) rfl, lw_good_t (i := 13) (by decide +kernel) rfl, ⟨by decide, by decide, by decide +kernel⟩, by decide, by decide⟩
theorem miX12_undoShip : Cond.instanceMethod mtX12_undoShip.1 ∈ lw_good := lw_good_t (i := 1387) (by decide +kernel) rfl
theorem mnX12_undoShip : MIn mtX12_undoShip 12 43 := ⟨⟨miX12_undoShip, lw_good_p (q := (yX12_undoShip, 43)) (i := 109) (by decide +kernel)⟩, ⟨TX12, rfl⟩, by decide⟩
abbrev mtX12_undo : Mt := (yX12_undo, cX12_undo, 3, (Option.some Jvm.ClassFile.FieldType.int))
theorem mkX12_undo : MtOK mtX12_undo 0 := ⟨lw_good_t (i := 1380) (by decide +kernel) rfl, lw_good_t (i := 13) (by decide +kernel) rfl, ⟨by decide, by decide, by decide +kernel⟩, by decide, by decide⟩
theorem miX12_undo : Cond.instanceMethod mtX12_undo.1 ∈ lw_good := lw_good_t (i := 1378) (by decide +kernel) rfl
theorem mnX12_undo : MIn mtX12_undo 12 43 := ⟨⟨miX12_undo, lw_good_t (i := 1379) (by decide +kernel) rfl⟩, ⟨TX12, rfl⟩, by decide⟩
abbrev mtX12_arePassed : Mt := (yX12_arePassed, cX12_arePassed, 3, (Option.some Jvm.ClassFile.FieldType.boolean))
theorem mkX12_arePassed : MtOK mtX12_arePassed 1 := ⟨lw_good_t (i := 1400) (by decide +kernel) rfl, lw_good_t (i := 13) (by decide +kernel) rfl, ⟨by decide, by decide, by decide +kernel⟩, by decide, by decide⟩
theorem miX12_arePassed : Cond.instanceMethod mtX12_arePassed.1 ∈ lw_good := lw_good_t (i := 1399) (by decide +kernel) rfl
theorem mnX12_arePassed : MIn mtX12_arePassed 12 43 := ⟨⟨miX12_arePassed, lw_good_p (q := (yX12_arePassed, 43)) (i := 111) (by decide +kernel)⟩, ⟨TX12, rfl⟩, by decide⟩
abbrev mtX12_hour : Mt := (yX12_hour, cX12_hour, 2, (Option.some Jvm.ClassFile.FieldType.int))
theorem mkX12_hour : MtOK mtX12_hour 1 := ⟨lw_good_t (i := 1396) (by decide +kernel) rfl, lw_good_t (i := 13) (by decide +kernel) rfl, ⟨by decide, by decide, by decide +kernel⟩, by decide, by decide⟩
theorem miX12_hour : Cond.instanceMethod mtX12_hour.1 ∈ lw_good := lw_good_t (i := 1394) (by decide +kernel) rfl
theorem mnX12_hour : MIn mtX12_hour 12 43 := ⟨⟨miX12_hour, lw_good_t (i := 1395) (by decide +kernel) rfl⟩, ⟨TX12, rfl⟩, by decide⟩
abbrev mtX12_floodNow : Mt := (yX12_floodNow, cX12_floodNow, 3, (Option.none : Option Jvm.ClassFile.FieldType))
theorem mkX12_floodNow : MtOK mtX12_floodNow 2 := ⟨lw_good_t (i := 1483) (by decide +kernel) rfl, lw_good_t (i := 13) (by decide +kernel) rfl, ⟨by decide, by decide, by decide +kernel⟩, by decide, by decide⟩
theorem miX12_floodNow : Cond.instanceMethod mtX12_floodNow.1 ∈ lw_good := lw_good_t (i := 1482) (by decide +kernel) rfl
theorem mnX12_floodNow : MIn mtX12_floodNow 12 43 := ⟨⟨miX12_floodNow, lw_good_p (q := (yX12_floodNow, 43)) (i := 127) (by decide +kernel)⟩, ⟨TX12, rfl⟩, by decide⟩
abbrev mtX12_flood : Mt := (yX12_flood, cX12_flood, 3, (Option.some Jvm.ClassFile.FieldType.int))
theorem mkX12_flood : MtOK mtX12_flood 2 := ⟨lw_good_t (i := 1479) (by decide +kernel) rfl, lw_good_t (i := 13) (by decide +kernel) rfl, ⟨by decide, by decide, by decide +kernel⟩, by decide, by decide⟩
theorem miX12_flood : Cond.instanceMethod mtX12_flood.1 ∈ lw_good := lw_good_t (i := 1477) (by decide +kernel) rfl
theorem mnX12_flood : MIn mtX12_flood 12 43 := ⟨⟨miX12_flood, lw_good_t (i := 1478) (by decide +kernel) rfl⟩, ⟨TX12, rfl⟩, by decide⟩
abbrev mtX12_raise : Mt := (yX12_raise, cX12_raise, 3, (Option.some Jvm.ClassFile.FieldType.boolean))
theorem mkX12_raise : MtOK mtX12_raise 2 := ⟨lw_good_t (i := 1487) (by decide +kernel) rfl, lw_good_t (i := 13) (by decide +kernel) rfl, ⟨by decide, by decide, by decide +kernel⟩, by decide, by decide⟩
theorem miX12_raise : Cond.instanceMethod mtX12_raise.1 ∈ lw_good := lw_good_t (i := 1485) (by decide +kernel) rfl
theorem mnX12_raise : MIn mtX12_raise 12 43 := ⟨⟨miX12_raise, lw_good_t (i := 1486) (by decide +kernel) rfl⟩, ⟨TX12, rfl⟩, by decide⟩
abbrev mtX12_mend : Mt := (yX12_mend, cX12_mend, 3, (Option.some Jvm.ClassFile.FieldType.int))
theorem mkX12_mend : MtOK mtX12_mend 1 := ⟨lw_good_t (i := 1491) (by decide +kernel) rfl, lw_good_t (i := 13) (by decide +kernel) rfl, ⟨by decide, by decide, by decide +kernel⟩, by decide, by decide⟩
theorem miX12_mend : Cond.instanceMethod mtX12_mend.1 ∈ lw_good := lw_good_t (i := 1489) (by decide +kernel) rfl
theorem mnX12_mend : MIn mtX12_mend 12 43 := ⟨⟨miX12_mend, lw_good_t (i := 1490) (by decide +kernel) rfl⟩, ⟨TX12, rfl⟩, by decide⟩
abbrev mtX12_bind : Mt := (yX12_bind, cX12_bind, 3, (Option.some Jvm.ClassFile.FieldType.boolean))
theorem mkX12_bind : MtOK mtX12_bind 2 := ⟨lw_good_t (i := 1499) (by decide +kernel) rfl, lw_good_t (i := 13) (by decide +kernel) rfl, ⟨by decide, by decide, by decide +kernel⟩, by decide, by decide⟩
theorem miX12_bind : Cond.instanceMethod mtX12_bind.1 ∈ lw_good := lw_good_t (i := 1497) (by decide +kernel) rfl
theorem mnX12_bind : MIn mtX12_bind 12 43 := ⟨⟨miX12_bind, lw_good_t (i := 1498) (by decide +kernel) rfl⟩, ⟨TX12, rfl⟩, by decide⟩
abbrev mtX12_isPlayed : Mt := (yX12_isPlayed, cX12_isPlayed, 4, (Option.some Jvm.ClassFile.FieldType.boolean))
theorem mkX12_isPlayed : MtOK mtX12_isPlayed 1 := ⟨lw_good_t (i := 1511) (by decide +kernel) rfl, lw_good_t (i := 13) (by decide +kernel) rfl, ⟨by decide, by decide, by decide +kernel⟩, by decide, by decide⟩
theorem miX12_isPlayed : Cond.instanceMethod mtX12_isPlayed.1 ∈ lw_good := lw_good_t (i := 1510) (by decide +kernel) rfl
theorem mnX12_isPlayed : MIn mtX12_isPlayed 12 43 := ⟨⟨miX12_isPlayed, lw_good_p (q := (yX12_isPlayed, 43)) (i := 130) (by decide +kernel)⟩, ⟨TX12, rfl⟩, by decide⟩
abbrev mtX12_played : Mt := (yX12_played, cX12_played, 3, (Option.some Jvm.ClassFile.FieldType.int))
theorem mkX12_played : MtOK mtX12_played 1 := ⟨lw_good_t (i := 1507) (by decide +kernel) rfl, lw_good_t (i := 13) (by decide +kernel) rfl, ⟨by decide, by decide, by decide +kernel⟩, by decide, by decide⟩
theorem miX12_played : Cond.instanceMethod mtX12_played.1 ∈ lw_good := lw_good_t (i := 1505) (by decide +kernel) rfl
theorem mnX12_played : MIn mtX12_played 12 43 := ⟨⟨miX12_played, lw_good_t (i := 1506) (by decide +kernel) rfl⟩, ⟨TX12, rfl⟩, by decide⟩
abbrev mtX12_happens : Mt := (yX12_happens, cX12_happens, 3, (Option.none : Option Jvm.ClassFile.FieldType))
theorem mkX12_happens : MtOK mtX12_happens 1 := ⟨lw_good_t (i := 1525) (by decide +kernel) rfl, lw_good_t (i := 13) (by decide +kernel) rfl, ⟨by decide, by decide, by decide +kernel⟩, by decide, by decide⟩
theorem miX12_happens : Cond.instanceMethod mtX12_happens.1 ∈ lw_good := lw_good_t (i := 1524) (by decide +kernel) rfl
theorem mnX12_happens : MIn mtX12_happens 12 43 := ⟨⟨miX12_happens, lw_good_p (q := (yX12_happens, 43)) (i := 131) (by decide +kernel)⟩, ⟨TX12, rfl⟩, by decide⟩
abbrev mtX12_centuries : Mt := (yX12_centuries, cX12_centuries, 5, (Option.some Jvm.ClassFile.FieldType.int))
theorem mkX12_centuries : MtOK mtX12_centuries 2 := ⟨lw_good_t (i := 1521) (by decide +kernel) rfl, lw_good_t (i := 13) (by decide +kernel) rfl, ⟨by decide, by decide, by decide +kernel⟩, by decide, by decide⟩
theorem miX12_centuries : Cond.instanceMethod mtX12_centuries.1 ∈ lw_good := lw_good_t (i := 1519) (by decide +kernel) rfl
theorem mnX12_centuries : MIn mtX12_centuries 12 43 := ⟨⟨miX12_centuries, lw_good_t (i := 1520) (by decide +kernel) rfl⟩, ⟨TX12, rfl⟩, by decide⟩
abbrev mtX12_shipsOn : Mt := (yX12_shipsOn, cX12_shipsOn, 4, (Option.some Jvm.ClassFile.FieldType.int))
theorem mkX12_shipsOn : MtOK mtX12_shipsOn 1 := ⟨lw_good_t (i := 1533) (by decide +kernel) rfl, lw_good_t (i := 13) (by decide +kernel) rfl, ⟨by decide, by decide, by decide +kernel⟩, by decide, by decide⟩
theorem miX12_shipsOn : Cond.instanceMethod mtX12_shipsOn.1 ∈ lw_good := lw_good_t (i := 1532) (by decide +kernel) rfl
theorem mnX12_shipsOn : MIn mtX12_shipsOn 12 43 := ⟨⟨miX12_shipsOn, lw_good_p (q := (yX12_shipsOn, 43)) (i := 132) (by decide +kernel)⟩, ⟨TX12, rfl⟩, by decide⟩
abbrev mtX12_ofStep : Mt := (yX12_ofStep, cX12_ofStep, 3, (Option.some Jvm.ClassFile.FieldType.int))
theorem mkX12_ofStep : MtOK mtX12_ofStep 2 := ⟨lw_good_t (i := 1529) (by decide +kernel) rfl, lw_good_t (i := 13) (by decide +kernel) rfl, ⟨by decide, by decide, by decide +kernel⟩, by decide, by decide⟩
theorem miX12_ofStep : Cond.instanceMethod mtX12_ofStep.1 ∈ lw_good := lw_good_t (i := 1527) (by decide +kernel) rfl
theorem mnX12_ofStep : MIn mtX12_ofStep 12 43 := ⟨⟨miX12_ofStep, lw_good_t (i := 1528) (by decide +kernel) rfl⟩, ⟨TX12, rfl⟩, by decide⟩
abbrev mtX12_ofShip : Mt := (yX12_ofShip, cX12_ofShip, 3, (Option.some Jvm.ClassFile.FieldType.int))
theorem mkX12_ofShip : MtOK mtX12_ofShip 2 := ⟨lw_good_t (i := 1537) (by decide +kernel) rfl, lw_good_t (i := 13) (by decide +kernel) rfl, ⟨by decide, by decide, by decide +kernel⟩, by decide, by decide⟩
theorem miX12_ofShip : Cond.instanceMethod mtX12_ofShip.1 ∈ lw_good := lw_good_t (i := 1535) (by decide +kernel) rfl
theorem mnX12_ofShip : MIn mtX12_ofShip 12 43 := ⟨⟨miX12_ofShip, lw_good_t (i := 1536) (by decide +kernel) rfl⟩, ⟨TX12, rfl⟩, by decide⟩
abbrev mtX12_is : Mt := (yX12_is, cX12_is, 2, (Option.some Jvm.ClassFile.FieldType.int))
theorem mkX12_is : MtOK mtX12_is 1 := ⟨lw_good_t (i := 1541) (by decide +kernel) rfl, lw_good_t (i := 13) (by decide +kernel) rfl, ⟨by decide, by decide, by decide +kernel⟩, by decide, by decide⟩
theorem miX12_is : Cond.instanceMethod mtX12_is.1 ∈ lw_good := lw_good_t (i := 1539) (by decide +kernel) rfl
theorem mnX12_is : MIn mtX12_is 12 43 := ⟨⟨miX12_is, lw_good_t (i := 1540) (by decide +kernel) rfl⟩, ⟨TX12, rfl⟩, by decide⟩
abbrev mtX12_shown : Mt := (yX12_shown, cX12_shown, 1, (Option.some Jvm.ClassFile.FieldType.int))
theorem mkX12_shown : MtOK mtX12_shown 0 := ⟨lw_good_t (i := 1549) (by decide +kernel) rfl, lw_good_t (i := 13) (by decide +kernel) rfl, ⟨by decide, by decide, by decide +kernel⟩, by decide, by decide⟩
theorem miX12_shown : Cond.instanceMethod mtX12_shown.1 ∈ lw_good := lw_good_t (i := 1548) (by decide +kernel) rfl
theorem mnX12_shown : MIn mtX12_shown 12 43 := ⟨⟨miX12_shown, lw_good_p (q := (yX12_shown, 43)) (i := 133) (by decide +kernel)⟩, ⟨TX12, rfl⟩, by decide⟩
abbrev mtX12_book : Mt := (yX12_book, cX12_book, 4, (Option.some Jvm.ClassFile.FieldType.int))
theorem mkX12_book : MtOK mtX12_book 2 := ⟨lw_good_t (i := 1545) (by decide +kernel) rfl, lw_good_t (i := 13) (by decide +kernel) rfl, ⟨by decide, by decide, by decide +kernel⟩, by decide, by decide⟩
theorem miX12_book : Cond.instanceMethod mtX12_book.1 ∈ lw_good := lw_good_t (i := 1543) (by decide +kernel) rfl
theorem mnX12_book : MIn mtX12_book 12 43 := ⟨⟨miX12_book, lw_good_t (i := 1544) (by decide +kernel) rfl⟩, ⟨TX12, rfl⟩, by decide⟩
abbrev mtX12_waiting : Mt := (yX12_waiting, cX12_waiting, 5, (Option.some Jvm.ClassFile.FieldType.int))
theorem mkX12_waiting : MtOK mtX12_waiting 2 := ⟨lw_good_t (i := 1553) (by decide +kernel) rfl, lw_good_t (i := 13) (by decide +kernel) rfl, ⟨by decide, by decide, by decide +kernel⟩, by decide, by decide⟩
theorem miX12_waiting : Cond.instanceMethod mtX12_waiting.1 ∈ lw_good := lw_good_t (i := 1551) (by decide +kernel) rfl
theorem mnX12_waiting : MIn mtX12_waiting 12 43 := ⟨⟨miX12_waiting, lw_good_t (i := 1552) (by decide +kernel) rfl⟩, ⟨TX12, rfl⟩, by decide⟩
abbrev mtX12_begin : Mt := (yX12_begin, cX12_begin, 2, (Option.none : Option Jvm.ClassFile.FieldType))
theorem mkX12_begin : MtOK mtX12_begin 0 := ⟨lw_good_t (i := 1565) (by decide +kernel) rfl, lw_good_t (i := 13) (by decide +kernel) rfl, ⟨by decide, by decide, by decide +kernel⟩, by decide, by decide⟩
theorem miX12_begin : Cond.instanceMethod mtX12_begin.1 ∈ lw_good := lw_good_t (i := 1564) (by decide +kernel) rfl
theorem mnX12_begin : MIn mtX12_begin 12 43 := ⟨⟨miX12_begin, lw_good_p (q := (yX12_begin, 43)) (i := 135) (by decide +kernel)⟩, ⟨TX12, rfl⟩, by decide⟩
abbrev mtX12_putBack : Mt := (yX12_putBack, cX12_putBack, 2, (Option.none : Option Jvm.ClassFile.FieldType))
theorem mkX12_putBack : MtOK mtX12_putBack 0 := ⟨lw_good_t (i := 1569) (by decide +kernel) rfl, lw_good_t (i := 13) (by decide +kernel) rfl, ⟨by decide, by decide, by decide +kernel⟩, by decide, by decide⟩
theorem miX12_putBack : Cond.instanceMethod mtX12_putBack.1 ∈ lw_good := lw_good_t (i := 1568) (by decide +kernel) rfl
theorem mnX12_putBack : MIn mtX12_putBack 12 43 := ⟨⟨miX12_putBack, lw_good_p (q := (yX12_putBack, 43)) (i := 136) (by decide +kernel)⟩, ⟨TX12, rfl⟩, by decide⟩
abbrev mtX12_behindHours : Mt := (yX12_behindHours, cX12_behindHours, 4, (Option.some Jvm.ClassFile.FieldType.int))
theorem mkX12_behindHours : MtOK mtX12_behindHours 2 := ⟨lw_good_t (i := 1561) (by decide +kernel) rfl, lw_good_t (i := 13) (by decide +kernel) rfl, ⟨by decide, by decide, by decide +kernel⟩, by decide, by decide⟩
theorem miX12_behindHours : Cond.instanceMethod mtX12_behindHours.1 ∈ lw_good := lw_good_t (i := 1560) (by decide +kernel) rfl
theorem mnX12_behindHours : MIn mtX12_behindHours 12 43 := ⟨⟨miX12_behindHours, lw_good_p (q := (yX12_behindHours, 43)) (i := 134) (by decide +kernel)⟩, ⟨TX12, rfl⟩, by decide⟩
abbrev mtX12_foretoldShip : Mt := (yX12_foretoldShip, cX12_foretoldShip, 4, (Option.some Jvm.ClassFile.FieldType.int))
theorem mkX12_foretoldShip : MtOK mtX12_foretoldShip 3 := ⟨lw_good_t (i := 1557) (by decide +kernel) rfl, lw_good_t (i := 13) (by decide +kernel) rfl, ⟨by decide, by decide, by decide +kernel⟩, by decide, by decide⟩
theorem miX12_foretoldShip : Cond.instanceMethod mtX12_foretoldShip.1 ∈ lw_good := lw_good_t (i := 1555) (by decide +kernel) rfl
theorem mnX12_foretoldShip : MIn mtX12_foretoldShip 12 43 := ⟨⟨miX12_foretoldShip, lw_good_t (i := 1556) (by decide +kernel) rfl⟩, ⟨TX12, rfl⟩, by decide⟩
abbrev mtX12_foretoldStep : Mt := (yX12_foretoldStep, cX12_foretoldStep, 4, (Option.some Jvm.ClassFile.FieldType.int))
theorem mkX12_foretoldStep : MtOK mtX12_foretoldStep 3 := ⟨lw_good_t (i := 1573) (by decide +kernel) rfl, lw_good_t (i := 13) (by decide +kernel) rfl, ⟨by decide, by decide, by decide +kernel⟩, by decide, by decide⟩
theorem miX12_foretoldStep : Cond.instanceMethod mtX12_foretoldStep.1 ∈ lw_good := lw_good_t (i := 1571) (by decide +kernel) rfl
theorem mnX12_foretoldStep : MIn mtX12_foretoldStep 12 43 := ⟨⟨miX12_foretoldStep, lw_good_t (i := 1572) (by decide +kernel) rfl⟩, ⟨TX12, rfl⟩, by decide⟩
abbrev mtX12_comes : Mt := (yX12_comes, cX12_comes, 4, (Option.some Jvm.ClassFile.FieldType.int))
theorem mkX12_comes : MtOK mtX12_comes 1 := ⟨lw_good_t (i := 1577) (by decide +kernel) rfl, lw_good_t (i := 13) (by decide +kernel) rfl, ⟨by decide, by decide, by decide +kernel⟩, by decide, by decide⟩
theorem miX12_comes : Cond.instanceMethod mtX12_comes.1 ∈ lw_good := lw_good_t (i := 1575) (by decide +kernel) rfl
theorem mnX12_comes : MIn mtX12_comes 12 43 := ⟨⟨miX12_comes, lw_good_t (i := 1576) (by decide +kernel) rfl⟩, ⟨TX12, rfl⟩, by decide⟩
abbrev mtX12_leastBy : Mt := (yX12_leastBy, cX12_leastBy, 6, (Option.some Jvm.ClassFile.FieldType.int))
theorem mkX12_leastBy : MtOK mtX12_leastBy 2 := ⟨lw_good_t (i := 1585) (by decide +kernel) rfl, lw_good_t (i := 13) (by decide +kernel) rfl, ⟨by decide, by decide, by decide +kernel⟩, by decide, by decide⟩
theorem miX12_leastBy : Cond.instanceMethod mtX12_leastBy.1 ∈ lw_good := lw_good_t (i := 1584) (by decide +kernel) rfl
theorem mnX12_leastBy : MIn mtX12_leastBy 12 43 := ⟨⟨miX12_leastBy, lw_good_p (q := (yX12_leastBy, 43)) (i := 137) (by decide +kernel)⟩, ⟨TX12, rfl⟩, by decide⟩
abbrev mtX12_findGoes : Mt := (yX12_findGoes, cX12_findGoes, 6, (Option.none : Option Jvm.ClassFile.FieldType))
theorem mkX12_findGoes : MtOK mtX12_findGoes 2 := ⟨lw_good_t (i := 1590) (by decide +kernel) rfl, lw_good_t (i := 13) (by decide +kernel) rfl, ⟨by decide, by decide, by decide +kernel⟩, by decide, by decide⟩
theorem miX12_findGoes : Cond.instanceMethod mtX12_findGoes.1 ∈ lw_good := lw_good_t (i := 1589) (by decide +kernel) rfl
theorem mnX12_findGoes : MIn mtX12_findGoes 12 43 := ⟨⟨miX12_findGoes, lw_good_p (q := (yX12_findGoes, 43)) (i := 138) (by decide +kernel)⟩, ⟨TX12, rfl⟩, by decide⟩
abbrev mtX12_voyage : Mt := (yX12_voyage, cX12_voyage, 11, (Option.some Jvm.ClassFile.FieldType.int))
theorem mkX12_voyage : MtOK mtX12_voyage 5 := ⟨lw_good_t (i := 1581) (by decide +kernel) rfl, lw_good_t (i := 13) (by decide +kernel) rfl, ⟨by decide, by decide, by decide +kernel⟩, by decide, by decide⟩
theorem miX12_voyage : Cond.instanceMethod mtX12_voyage.1 ∈ lw_good := lw_good_t (i := 1579) (by decide +kernel) rfl
theorem mnX12_voyage : MIn mtX12_voyage 12 43 := ⟨⟨miX12_voyage, lw_good_t (i := 1580) (by decide +kernel) rfl⟩, ⟨TX12, rfl⟩, by decide⟩
abbrev mtX12_layOut : Mt := (yX12_layOut, cX12_layOut, 4, (Option.some Jvm.ClassFile.FieldType.int))
theorem mkX12_layOut : MtOK mtX12_layOut 2 := ⟨lw_good_t (i := 1600) (by decide +kernel) rfl, lw_good_t (i := 13) (by decide +kernel) rfl, ⟨by decide, by decide, by decide +kernel⟩, by decide, by decide⟩
theorem msX12_layOut : Cond.static mtX12_layOut.1 ∈ lw_good := lw_good_t (i := 1599) (by decide +kernel) rfl
abbrev mtX12_hauledBy : Mt := (yX12_hauledBy, cX12_hauledBy, 10, (Option.some Jvm.ClassFile.FieldType.int))
theorem mkX12_hauledBy : MtOK mtX12_hauledBy 4 := ⟨lw_good_t (i := 1608) (by decide +kernel) rfl, lw_good_t (i := 13) (by decide +kernel) rfl, ⟨by decide, by decide, by decide +kernel⟩, by decide, by decide⟩
theorem miX12_hauledBy : Cond.instanceMethod mtX12_hauledBy.1 ∈ lw_good := lw_good_t (i := 1607) (by decide +kernel) rfl
theorem mnX12_hauledBy : MIn mtX12_hauledBy 12 43 := ⟨⟨miX12_hauledBy, lw_good_p (q := (yX12_hauledBy, 43)) (i := 140) (by decide +kernel)⟩, ⟨TX12, rfl⟩, by decide⟩
abbrev mtX12_bestHauling : Mt := (yX12_bestHauling, cX12_bestHauling, 9, (Option.some Jvm.ClassFile.FieldType.int))
theorem mkX12_bestHauling : MtOK mtX12_bestHauling 3 := ⟨lw_good_t (i := 1604) (by decide +kernel) rfl, lw_good_t (i := 13) (by decide +kernel) rfl, ⟨by decide, by decide, by decide +kernel⟩, by decide, by decide⟩
theorem miX12_bestHauling : Cond.instanceMethod mtX12_bestHauling.1 ∈ lw_good := lw_good_t (i := 1603) (by decide +kernel) rfl
theorem mnX12_bestHauling : MIn mtX12_bestHauling 12 43 := ⟨⟨miX12_bestHauling, lw_good_p (q := (yX12_bestHauling, 43)) (i := 139) (by decide +kernel)⟩, ⟨TX12, rfl⟩, by decide⟩
abbrev mtX12_hauling : Mt := (yX12_hauling, cX12_hauling, 11, (Option.some Jvm.ClassFile.FieldType.int))
theorem mkX12_hauling : MtOK mtX12_hauling 4 := ⟨lw_good_t (i := 1594) (by decide +kernel) rfl, lw_good_t (i := 13) (by decide +kernel) rfl, ⟨by decide, by decide, by decide +kernel⟩, by decide, by decide⟩
theorem miX12_hauling : Cond.instanceMethod mtX12_hauling.1 ∈ lw_good := lw_good_t (i := 1592) (by decide +kernel) rfl
theorem mnX12_hauling : MIn mtX12_hauling 12 43 := ⟨⟨miX12_hauling, lw_good_t (i := 1593) (by decide +kernel) rfl⟩, ⟨TX12, rfl⟩, by decide⟩
abbrev mtX12_thing : Mt := (yX12_thing, cX12_thing, 4, (Option.some Jvm.ClassFile.FieldType.int))
theorem mkX12_thing : MtOK mtX12_thing 2 := ⟨lw_good_t (i := 1612) (by decide +kernel) rfl, lw_good_t (i := 13) (by decide +kernel) rfl, ⟨by decide, by decide, by decide +kernel⟩, by decide, by decide⟩
theorem miX12_thing : Cond.instanceMethod mtX12_thing.1 ∈ lw_good := lw_good_t (i := 1610) (by decide +kernel) rfl
theorem mnX12_thing : MIn mtX12_thing 12 43 := ⟨⟨miX12_thing, lw_good_t (i := 1611) (by decide +kernel) rfl⟩, ⟨TX12, rfl⟩, by decide⟩
abbrev mtX12_upThere : Mt := (yX12_upThere, cX12_upThere, 5, (Option.some Jvm.ClassFile.FieldType.int))
theorem mkX12_upThere : MtOK mtX12_upThere 2 := ⟨lw_good_t (i := 1620) (by decide +kernel) rfl, lw_good_t (i := 13) (by decide +kernel) rfl, ⟨by decide, by decide, by decide +kernel⟩, by decide, by decide⟩
theorem miX12_upThere : Cond.instanceMethod mtX12_upThere.1 ∈ lw_good := lw_good_t (i := 1618) (by decide +kernel) rfl
theorem mnX12_upThere : MIn mtX12_upThere 12 43 := ⟨⟨miX12_upThere, lw_good_t (i := 1619) (by decide +kernel) rfl⟩, ⟨TX12, rfl⟩, by decide⟩
abbrev mtX12_toRaise : Mt := (yX12_toRaise, cX12_toRaise, 5, (Option.some Jvm.ClassFile.FieldType.int))
theorem mkX12_toRaise : MtOK mtX12_toRaise 1 := ⟨lw_good_t (i := 1624) (by decide +kernel) rfl, lw_good_t (i := 13) (by decide +kernel) rfl, ⟨by decide, by decide, by decide +kernel⟩, by decide, by decide⟩
theorem miX12_toRaise : Cond.instanceMethod mtX12_toRaise.1 ∈ lw_good := lw_good_t (i := 1622) (by decide +kernel) rfl
theorem mnX12_toRaise : MIn mtX12_toRaise 12 43 := ⟨⟨miX12_toRaise, lw_good_t (i := 1623) (by decide +kernel) rfl⟩, ⟨TX12, rfl⟩, by decide⟩
abbrev mtX12_worthOf : Mt := (yX12_worthOf, cX12_worthOf, 7, (Option.some Jvm.ClassFile.FieldType.int))
theorem mkX12_worthOf : MtOK mtX12_worthOf 2 := ⟨lw_good_t (i := 1633) (by decide +kernel) rfl, lw_good_t (i := 13) (by decide +kernel) rfl, ⟨by decide, by decide, by decide +kernel⟩, by decide, by decide⟩
theorem miX12_worthOf : Cond.instanceMethod mtX12_worthOf.1 ∈ lw_good := lw_good_t (i := 1632) (by decide +kernel) rfl
theorem mnX12_worthOf : MIn mtX12_worthOf 12 43 := ⟨⟨miX12_worthOf, lw_good_p (q := (yX12_worthOf, 43)) (i := 142) (by decide +kernel)⟩, ⟨TX12, rfl⟩, by decide⟩
abbrev mtX12_isAhead : Mt := (yX12_isAhead, cX12_isAhead, 3, (Option.some Jvm.ClassFile.FieldType.boolean))
theorem mkX12_isAhead : MtOK mtX12_isAhead 2 := ⟨lw_good_t (i := 1636) (by decide +kernel) rfl, lw_good_t (i := 13) (by decide +kernel) rfl, ⟨by decide, by decide, by decide +kernel⟩, by decide, by decide⟩
theorem msX12_isAhead : Cond.static mtX12_isAhead.1 ∈ lw_good := lw_good_t (i := 1635) (by decide +kernel) rfl
abbrev mtX12_states : Mt := (yX12_states, cX12_states, 7, (Option.some Jvm.ClassFile.FieldType.int))
theorem mkX12_states : MtOK mtX12_states 2 := ⟨lw_good_t (i := 1628) (by decide +kernel) rfl, lw_good_t (i := 13) (by decide +kernel) rfl, ⟨by decide, by decide, by decide +kernel⟩, by decide, by decide⟩
theorem miX12_states : Cond.instanceMethod mtX12_states.1 ∈ lw_good := lw_good_t (i := 1626) (by decide +kernel) rfl
theorem mnX12_states : MIn mtX12_states 12 43 := ⟨⟨miX12_states, lw_good_t (i := 1627) (by decide +kernel) rfl⟩, ⟨TX12, rfl⟩, by decide⟩
abbrev mtX12_sound : Mt := (yX12_sound, cX12_sound, 3, (Option.some Jvm.ClassFile.FieldType.int))
theorem mkX12_sound : MtOK mtX12_sound 2 := ⟨lw_good_t (i := 1640) (by decide +kernel) rfl, lw_good_t (i := 13) (by decide +kernel) rfl, ⟨by decide, by decide, by decide +kernel⟩, by decide, by decide⟩
theorem miX12_sound : Cond.instanceMethod mtX12_sound.1 ∈ lw_good := lw_good_t (i := 1638) (by decide +kernel) rfl
theorem mnX12_sound : MIn mtX12_sound 12 43 := ⟨⟨miX12_sound, lw_good_t (i := 1639) (by decide +kernel) rfl⟩, ⟨TX12, rfl⟩, by decide⟩
abbrev mtX12_isSounding : Mt := (yX12_isSounding, cX12_isSounding, 5, (Option.some Jvm.ClassFile.FieldType.boolean))
theorem mkX12_isSounding : MtOK mtX12_isSounding 2 := ⟨lw_good_t (i := 1648) (by decide +kernel) rfl, lw_good_t (i := 13) (by decide +kernel) rfl, ⟨by decide, by decide, by decide +kernel⟩, by decide, by decide⟩
theorem miX12_isSounding : Cond.instanceMethod mtX12_isSounding.1 ∈ lw_good := lw_good_t (i := 1647) (by decide +kernel) rfl
theorem mnX12_isSounding : MIn mtX12_isSounding 12 43 := ⟨⟨miX12_isSounding, lw_good_p (q := (yX12_isSounding, 43)) (i := 143) (by decide +kernel)⟩, ⟨TX12, rfl⟩, by decide⟩
abbrev mtX12_high : Mt := (yX12_high, cX12_high, 5, (Option.some Jvm.ClassFile.FieldType.int))
theorem mkX12_high : MtOK mtX12_high 2 := ⟨lw_good_t (i := 1644) (by decide +kernel) rfl, lw_good_t (i := 13) (by decide +kernel) rfl, ⟨by decide, by decide, by decide +kernel⟩, by decide, by decide⟩
theorem miX12_high : Cond.instanceMethod mtX12_high.1 ∈ lw_good := lw_good_t (i := 1642) (by decide +kernel) rfl
theorem mnX12_high : MIn mtX12_high 12 43 := ⟨⟨miX12_high, lw_good_t (i := 1643) (by decide +kernel) rfl⟩, ⟨TX12, rfl⟩, by decide⟩
abbrev mtX12_wreck : Mt := (yX12_wreck, cX12_wreck, 2, (Option.some Jvm.ClassFile.FieldType.int))
theorem mkX12_wreck : MtOK mtX12_wreck 1 := ⟨lw_good_t (i := 1652) (by decide +kernel) rfl, lw_good_t (i := 13) (by decide +kernel) rfl, ⟨by decide, by decide, by decide +kernel⟩, by decide, by decide⟩
theorem miX12_wreck : Cond.instanceMethod mtX12_wreck.1 ∈ lw_good := lw_good_t (i := 1650) (by decide +kernel) rfl
theorem mnX12_wreck : MIn mtX12_wreck 12 43 := ⟨⟨miX12_wreck, lw_good_t (i := 1651) (by decide +kernel) rfl⟩, ⟨TX12, rfl⟩, by decide⟩
abbrev mtX12_isOrder : Mt := (yX12_isOrder, cX12_isOrder, 4, (Option.some Jvm.ClassFile.FieldType.boolean))
theorem mkX12_isOrder : MtOK mtX12_isOrder 1 := ⟨lw_good_t (i := 1660) (by decide +kernel) rfl, lw_good_t (i := 13) (by decide +kernel) rfl, ⟨by decide, by decide, by decide +kernel⟩, by decide, by decide⟩
theorem miX12_isOrder : Cond.instanceMethod mtX12_isOrder.1 ∈ lw_good := lw_good_t (i := 1659) (by decide +kernel) rfl
theorem mnX12_isOrder : MIn mtX12_isOrder 12 43 := ⟨⟨miX12_isOrder, lw_good_p (q := (yX12_isOrder, 43)) (i := 144) (by decide +kernel)⟩, ⟨TX12, rfl⟩, by decide⟩
abbrev mtX12_isLower : Mt := (yX12_isLower, cX12_isLower, 3, (Option.some Jvm.ClassFile.FieldType.boolean))
theorem mkX12_isLower : MtOK mtX12_isLower 1 := ⟨lw_good_t (i := 1664) (by decide +kernel) rfl, lw_good_t (i := 13) (by decide +kernel) rfl, ⟨by decide, by decide, by decide +kernel⟩, by decide, by decide⟩
theorem miX12_isLower : Cond.instanceMethod mtX12_isLower.1 ∈ lw_good := lw_good_t (i := 1663) (by decide +kernel) rfl
theorem mnX12_isLower : MIn mtX12_isLower 12 43 := ⟨⟨miX12_isLower, lw_good_p (q := (yX12_isLower, 43)) (i := 145) (by decide +kernel)⟩, ⟨TX12, rfl⟩, by decide⟩
abbrev mtX12_inOrder : Mt := (yX12_inOrder, cX12_inOrder, 6, (Option.some Jvm.ClassFile.FieldType.int))
theorem mkX12_inOrder : MtOK mtX12_inOrder 1 := ⟨lw_good_t (i := 1656) (by decide +kernel) rfl, lw_good_t (i := 13) (by decide +kernel) rfl, ⟨by decide, by decide, by decide +kernel⟩, by decide, by decide⟩
theorem miX12_inOrder : Cond.instanceMethod mtX12_inOrder.1 ∈ lw_good := lw_good_t (i := 1654) (by decide +kernel) rfl
theorem mnX12_inOrder : MIn mtX12_inOrder 12 43 := ⟨⟨miX12_inOrder, lw_good_t (i := 1655) (by decide +kernel) rfl⟩, ⟨TX12, rfl⟩, by decide⟩
abbrev mtX12_outOfOrder : Mt := (yX12_outOfOrder, cX12_outOfOrder, 4, (Option.some Jvm.ClassFile.FieldType.int))
theorem mkX12_outOfOrder : MtOK mtX12_outOfOrder 0 := ⟨lw_good_t (i := 1668) (by decide +kernel) rfl, lw_good_t (i := 13) (by decide +kernel) rfl, ⟨by decide, by decide, by decide +kernel⟩, by decide, by decide⟩
theorem miX12_outOfOrder : Cond.instanceMethod mtX12_outOfOrder.1 ∈ lw_good := lw_good_t (i := 1666) (by decide +kernel) rfl
theorem mnX12_outOfOrder : MIn mtX12_outOfOrder 12 43 := ⟨⟨miX12_outOfOrder, lw_good_t (i := 1667) (by decide +kernel) rfl⟩, ⟨TX12, rfl⟩, by decide⟩
abbrev mtX12_misheard : Mt := (yX12_misheard, cX12_misheard, 3, (Option.some Jvm.ClassFile.FieldType.int))
theorem mkX12_misheard : MtOK mtX12_misheard 2 := ⟨lw_good_t (i := 1672) (by decide +kernel) rfl, lw_good_t (i := 13) (by decide +kernel) rfl, ⟨by decide, by decide, by decide +kernel⟩, by decide, by decide⟩
theorem miX12_misheard : Cond.instanceMethod mtX12_misheard.1 ∈ lw_good := lw_good_t (i := 1670) (by decide +kernel) rfl
theorem mnX12_misheard : MIn mtX12_misheard 12 43 := ⟨⟨miX12_misheard, lw_good_t (i := 1671) (by decide +kernel) rfl⟩, ⟨TX12, rfl⟩, by decide⟩
abbrev mtX12_apart : Mt := (yX12_apart, cX12_apart, 6, (Option.some Jvm.ClassFile.FieldType.int))
theorem mkX12_apart : MtOK mtX12_apart 1 := ⟨lw_good_t (i := 1676) (by decide +kernel) rfl, lw_good_t (i := 13) (by decide +kernel) rfl, ⟨by decide, by decide, by decide +kernel⟩, by decide, by decide⟩
theorem miX12_apart : Cond.instanceMethod mtX12_apart.1 ∈ lw_good := lw_good_t (i := 1674) (by decide +kernel) rfl
theorem mnX12_apart : MIn mtX12_apart 12 43 := ⟨⟨miX12_apart, lw_good_t (i := 1675) (by decide +kernel) rfl⟩, ⟨TX12, rfl⟩, by decide⟩
abbrev mtX12_grown : Mt := (yX12_grown, cX12_grown, 8, (Option.some Jvm.ClassFile.FieldType.int))
theorem mkX12_grown : MtOK mtX12_grown 2 := ⟨lw_good_t (i := 1684) (by decide +kernel) rfl, lw_good_t (i := 13) (by decide +kernel) rfl, ⟨by decide, by decide, by decide +kernel⟩, by decide, by decide⟩
theorem miX12_grown : Cond.instanceMethod mtX12_grown.1 ∈ lw_good := lw_good_t (i := 1683) (by decide +kernel) rfl
theorem mnX12_grown : MIn mtX12_grown 12 43 := ⟨⟨miX12_grown, lw_good_p (q := (yX12_grown, 43)) (i := 146) (by decide +kernel)⟩, ⟨TX12, rfl⟩, by decide⟩
abbrev mtX12_chains : Mt := (yX12_chains, cX12_chains, 5, (Option.some Jvm.ClassFile.FieldType.int))
theorem mkX12_chains : MtOK mtX12_chains 1 := ⟨lw_good_t (i := 1680) (by decide +kernel) rfl, lw_good_t (i := 13) (by decide +kernel) rfl, ⟨by decide, by decide, by decide +kernel⟩, by decide, by decide⟩
theorem miX12_chains : Cond.instanceMethod mtX12_chains.1 ∈ lw_good := lw_good_t (i := 1678) (by decide +kernel) rfl
theorem mnX12_chains : MIn mtX12_chains 12 43 := ⟨⟨miX12_chains, lw_good_t (i := 1679) (by decide +kernel) rfl⟩, ⟨TX12, rfl⟩, by decide⟩
abbrev mtX12_run : Mt := (yX12_run, cX12_run, 7, (Option.some Jvm.ClassFile.FieldType.int))
theorem mkX12_run : MtOK mtX12_run 1 := ⟨lw_good_t (i := 1688) (by decide +kernel) rfl, lw_good_t (i := 13) (by decide +kernel) rfl, ⟨by decide, by decide, by decide +kernel⟩, by decide, by decide⟩
theorem miX12_run : Cond.instanceMethod mtX12_run.1 ∈ lw_good := lw_good_t (i := 1686) (by decide +kernel) rfl
theorem mnX12_run : MIn mtX12_run 12 43 := ⟨⟨miX12_run, lw_good_t (i := 1687) (by decide +kernel) rfl⟩, ⟨TX12, rfl⟩, by decide⟩
abbrev mtX12_image : Mt := (yX12_image, cX12_image, 1, (Option.some Jvm.ClassFile.FieldType.int))
theorem mkX12_image : MtOK mtX12_image 0 := ⟨lw_good_t (i := 1692) (by decide +kernel) rfl, lw_good_t (i := 13) (by decide +kernel) rfl, ⟨by decide, by decide, by decide +kernel⟩, by decide, by decide⟩
theorem miX12_image : Cond.instanceMethod mtX12_image.1 ∈ lw_good := lw_good_t (i := 1690) (by decide +kernel) rfl
theorem mnX12_image : MIn mtX12_image 12 43 := ⟨⟨miX12_image, lw_good_t (i := 1691) (by decide +kernel) rfl⟩, ⟨TX12, rfl⟩, by decide⟩
abbrev mtX12_back : Mt := (yX12_back, cX12_back, 1, (Option.some Jvm.ClassFile.FieldType.int))
theorem mkX12_back : MtOK mtX12_back 0 := ⟨lw_good_t (i := 1696) (by decide +kernel) rfl, lw_good_t (i := 13) (by decide +kernel) rfl, ⟨by decide, by decide, by decide +kernel⟩, by decide, by decide⟩
theorem miX12_back : Cond.instanceMethod mtX12_back.1 ∈ lw_good := lw_good_t (i := 1694) (by decide +kernel) rfl
theorem mnX12_back : MIn mtX12_back 12 43 := ⟨⟨miX12_back, lw_good_t (i := 1695) (by decide +kernel) rfl⟩, ⟨TX12, rfl⟩, by decide⟩
abbrev mtX12_about : Mt := (yX12_about, cX12_about, 2, (Option.some Jvm.ClassFile.FieldType.int))
theorem mkX12_about : MtOK mtX12_about 1 := ⟨lw_good_t (i := 1700) (by decide +kernel) rfl, lw_good_t (i := 13) (by decide +kernel) rfl, ⟨by decide, by decide, by decide +kernel⟩, by decide, by decide⟩
theorem miX12_about : Cond.instanceMethod mtX12_about.1 ∈ lw_good := lw_good_t (i := 1698) (by decide +kernel) rfl
theorem mnX12_about : MIn mtX12_about 12 43 := ⟨⟨miX12_about, lw_good_t (i := 1699) (by decide +kernel) rfl⟩, ⟨TX12, rfl⟩, by decide⟩
abbrev mtJ6_bitCount_0f7a4 : Mt := (yJ6_bitCount_0f7a4, cJ6_bitCount_0f7a4, 1, (Option.some Jvm.ClassFile.FieldType.int))
theorem mkJ6_bitCount_0f7a4 : MtOK mtJ6_bitCount_0f7a4 1 := ⟨lw_good_t (i := 746) (by decide +kernel) rfl, lw_good_t (i := 20) (by decide +kernel) rfl, ⟨by decide, by decide, by decide +kernel⟩, by decide, by decide⟩
theorem msJ6_bitCount_0f7a4 : Cond.static mtJ6_bitCount_0f7a4.1 ∈ lw_good := lw_good_t (i := 745) (by decide +kernel) rfl
abbrev mtJ9_max_7cf53 : Mt := (yJ9_max_7cf53, cJ9_max_7cf53, 2, (Option.some Jvm.ClassFile.FieldType.int))
theorem msJ9_max_7cf53 : Cond.static mtJ9_max_7cf53.1 ∈ lw_good := lw_good_t (i := 714) (by decide +kernel) rfl
abbrev mtJ9_min_7cf53 : Mt := (yJ9_min_7cf53, cJ9_min_7cf53, 2, (Option.some Jvm.ClassFile.FieldType.int))
theorem msJ9_min_7cf53 : Cond.static mtJ9_min_7cf53.1 ∈ lw_good := lw_good_t (i := 554) (by decide +kernel) rfl
abbrev mtJ0_length_8abf5 : Mt := (yJ0_length_8abf5, cJ0_length_8abf5, 1, (Option.some Jvm.ClassFile.FieldType.int))
theorem mkJ0_length_8abf5 : MtOK mtJ0_length_8abf5 0 := ⟨lw_good_t (i := 505) (by decide +kernel) rfl, lw_good_t (i := 14) (by decide +kernel) rfl, ⟨by decide, by decide, by decide +kernel⟩, by decide, by decide⟩
theorem miJ0_length_8abf5 : Cond.instanceMethod mtJ0_length_8abf5.1 ∈ lw_good := lw_good_t (i := 503) (by decide +kernel) rfl
abbrev mtJ0_charAt_5068e : Mt := (yJ0_charAt_5068e, cJ0_charAt_5068e, 2, (Option.some Jvm.ClassFile.FieldType.char))
theorem mkJ0_charAt_5068e : MtOK mtJ0_charAt_5068e 1 := ⟨lw_good_t (i := 515) (by decide +kernel) rfl, lw_good_t (i := 14) (by decide +kernel) rfl, ⟨by decide, by decide, by decide +kernel⟩, by decide, by decide⟩
theorem miJ0_charAt_5068e : Cond.instanceMethod mtJ0_charAt_5068e.1 ∈ lw_good := lw_good_t (i := 513) (by decide +kernel) rfl
abbrev mtJ0_coder_7d493 : Mt := (yJ0_coder_7d493, cJ0_coder_7d493, 1, (Option.some Jvm.ClassFile.FieldType.byte))
theorem mkJ0_coder_7d493 : MtOK mtJ0_coder_7d493 0 := ⟨lw_good_t (i := 509) (by decide +kernel) rfl, lw_good_t (i := 14) (by decide +kernel) rfl, ⟨by decide, by decide, by decide +kernel⟩, by decide, by decide⟩
theorem miJ0_coder_7d493 : Cond.instanceMethod mtJ0_coder_7d493.1 ∈ lw_good := lw_good_t (i := 507) (by decide +kernel) rfl
abbrev mtJ0_isLatin1_aae02 : Mt := (yJ0_isLatin1_aae02, cJ0_isLatin1_aae02, 1, (Option.some Jvm.ClassFile.FieldType.boolean))
theorem mkJ0_isLatin1_aae02 : MtOK mtJ0_isLatin1_aae02 0 := ⟨lw_good_t (i := 519) (by decide +kernel) rfl, lw_good_t (i := 14) (by decide +kernel) rfl, ⟨by decide, by decide, by decide +kernel⟩, by decide, by decide⟩
theorem miJ0_isLatin1_aae02 : Cond.instanceMethod mtJ0_isLatin1_aae02.1 ∈ lw_good := lw_good_t (i := 517) (by decide +kernel) rfl
abbrev mtJ0_checkIndex_df160 : Mt := (yJ0_checkIndex_df160, cJ0_checkIndex_df160, 2, (Option.none : Option Jvm.ClassFile.FieldType))
theorem mkJ0_checkIndex_df160 : MtOK mtJ0_checkIndex_df160 2 := ⟨lw_good_t (i := 525) (by decide +kernel) rfl, lw_good_t (i := 14) (by decide +kernel) rfl, ⟨by decide, by decide, by decide +kernel⟩, by decide, by decide⟩
theorem msJ0_checkIndex_df160 : Cond.static mtJ0_checkIndex_df160.1 ∈ lw_good := lw_good_t (i := 524) (by decide +kernel) rfl
abbrev mtJ1_charAt_3b067 : Mt := (yJ1_charAt_3b067, cJ1_charAt_3b067, 2, (Option.some Jvm.ClassFile.FieldType.char))
theorem mkJ1_charAt_3b067 : MtOK mtJ1_charAt_3b067 2 := ⟨lw_good_t (i := 522) (by decide +kernel) rfl, lw_good_t (i := 15) (by decide +kernel) rfl, ⟨by decide, by decide, by decide +kernel⟩, by decide, by decide⟩
theorem msJ1_charAt_3b067 : Cond.static mtJ1_charAt_3b067.1 ∈ lw_good := lw_good_t (i := 521) (by decide +kernel) rfl
abbrev mtJ2_getChar_3b067 : Mt := (yJ2_getChar_3b067, cJ2_getChar_3b067, 2, (Option.some Jvm.ClassFile.FieldType.char))
theorem mkJ2_getChar_3b067 : MtOK mtJ2_getChar_3b067 2 := ⟨lw_good_t (i := 543) (by decide +kernel) rfl, lw_good_t (i := 17) (by decide +kernel) rfl, ⟨by decide, by decide, by decide +kernel⟩, by decide, by decide⟩
theorem msJ2_getChar_3b067 : Cond.static mtJ2_getChar_3b067.1 ∈ lw_good := lw_good_t (i := 542) (by decide +kernel) rfl
abbrev mtJ2_length_9d52b : Mt := (yJ2_length_9d52b, cJ2_length_9d52b, 1, (Option.some Jvm.ClassFile.FieldType.int))
theorem mkJ2_length_9d52b : MtOK mtJ2_length_9d52b 1 := ⟨lw_good_t (i := 539) (by decide +kernel) rfl, lw_good_t (i := 17) (by decide +kernel) rfl, ⟨by decide, by decide, by decide +kernel⟩, by decide, by decide⟩
theorem msJ2_length_9d52b : Cond.static mtJ2_length_9d52b.1 ∈ lw_good := lw_good_t (i := 538) (by decide +kernel) rfl
abbrev mtJ2_charAt_3b067 : Mt := (yJ2_charAt_3b067, cJ2_charAt_3b067, 2, (Option.some Jvm.ClassFile.FieldType.char))
theorem mkJ2_charAt_3b067 : MtOK mtJ2_charAt_3b067 2 := ⟨lw_good_t (i := 533) (by decide +kernel) rfl, lw_good_t (i := 17) (by decide +kernel) rfl, ⟨by decide, by decide, by decide +kernel⟩, by decide, by decide⟩
theorem msJ2_charAt_3b067 : Cond.static mtJ2_charAt_3b067.1 ∈ lw_good := lw_good_t (i := 532) (by decide +kernel) rfl
abbrev mtJ2_checkIndex_2214a : Mt := (yJ2_checkIndex_2214a, cJ2_checkIndex_2214a, 2, (Option.none : Option Jvm.ClassFile.FieldType))
theorem mkJ2_checkIndex_2214a : MtOK mtJ2_checkIndex_2214a 2 := ⟨lw_good_t (i := 536) (by decide +kernel) rfl, lw_good_t (i := 17) (by decide +kernel) rfl, ⟨by decide, by decide, by decide +kernel⟩, by decide, by decide⟩
theorem msJ2_checkIndex_2214a : Cond.static mtJ2_checkIndex_2214a.1 ∈ lw_good := lw_good_t (i := 535) (by decide +kernel) rfl
abbrev mtJ3_checkIndex_8e157 : Mt := (yJ3_checkIndex_8e157, cJ3_checkIndex_8e157, 3, (Option.some Jvm.ClassFile.FieldType.int))
theorem mkJ3_checkIndex_8e157 : MtOK mtJ3_checkIndex_8e157 3 := ⟨lw_good_t (i := 530) (by decide +kernel) rfl, lw_good_t (i := 16) (by decide +kernel) rfl, ⟨by decide, by decide, by decide +kernel⟩, by decide, by decide⟩
theorem msJ3_checkIndex_8e157 : Cond.static mtJ3_checkIndex_8e157.1 ∈ lw_good := lw_good_t (i := 529) (by decide +kernel) rfl
theorem mlL_9 : MLk RL 9 mtX11_init := Or.inl (lw_good_t (i := 23) (by decide +kernel) rfl)
theorem ml11_11 : MLk RX11 11 mtX10_init := Or.inr ⟨"SeaWithStairs", lw_nest_t (i := 31) (by decide +kernel) rfl⟩
theorem ml10_11 : MLk RX10 11 mtX5_init := Or.inr ⟨"SeaWithStairs", lw_nest_t (i := 37) (by decide +kernel) rfl⟩
theorem ml10_20 : MLk RX10 20 mtX0_init := Or.inr ⟨"SeaWithStairs", lw_nest_t (i := 130) (by decide +kernel) rfl⟩
theorem ml0_17 : MLk RX0 17 mtX5_init := Or.inr ⟨"SeaWithStairs", lw_nest_t (i := 136) (by decide +kernel) rfl⟩
theorem ml10_27 : MLk RX10 27 mtX7_init := Or.inr ⟨"SeaWithStairs", lw_nest_t (i := 150) (by decide +kernel) rfl⟩
theorem ml11_37 : MLk RX11 37 mtX4_init := Or.inr ⟨"SeaWithStairs", lw_nest_t (i := 208) (by decide +kernel) rfl⟩
theorem ml11_44 : MLk RX11 44 mtX2_init := Or.inr ⟨"SeaWithStairs", lw_nest_t (i := 248) (by decide +kernel) rfl⟩
theorem ml2_11 : MLk RX2 11 mtX6_init := Or.inr ⟨"SeaWithStairs", lw_nest_t (i := 254) (by decide +kernel) rfl⟩
theorem ml11_51 : MLk RX11 51 mtX1_init := Or.inr ⟨"SeaWithStairs", lw_nest_t (i := 309) (by decide +kernel) rfl⟩
theorem ml11_60 : MLk RX11 60 mtX9_init := Or.inr ⟨"SeaWithStairs", lw_nest_t (i := 325) (by decide +kernel) rfl⟩
theorem ml11_67 : MLk RX11 67 mtX3_init := Or.inr ⟨"SeaWithStairs", lw_nest_t (i := 348) (by decide +kernel) rfl⟩
theorem ml11_74 : MLk RX11 74 mtX8_init := Or.inr ⟨"SeaWithStairs", lw_nest_t (i := 381) (by decide +kernel) rfl⟩
theorem ml11_81 : MLk RX11 81 mtX5_init := Or.inr ⟨"SeaWithStairs", lw_nest_t (i := 401) (by decide +kernel) rfl⟩
theorem ml11_85 : MLk RX11 85 mtX6_init := Or.inr ⟨"SeaWithStairs", lw_nest_t (i := 402) (by decide +kernel) rfl⟩
theorem mlL_13 : MLk RL 13 mtX11_step := Or.inl (lw_good_t (i := 440) (by decide +kernel) rfl)
theorem ml11_86 : MLk RX11 86 mtX11_isBetween := Or.inl (lw_good_t (i := 444) (by decide +kernel) rfl)
theorem ml11_94 : MLk RX11 94 mtX5_addStep := Or.inr ⟨"SeaWithStairs", lw_nest_t (i := 447) (by decide +kernel) rfl⟩
theorem mlL_18 : MLk RL 18 mtX11_ship := Or.inl (lw_good_t (i := 451) (by decide +kernel) rfl)
theorem ml11_98 : MLk RX11 98 mtX11_isWeight := Or.inl (lw_good_t (i := 455) (by decide +kernel) rfl)
theorem ml11_102 : MLk RX11 102 mtX11_isStep := Or.inl (lw_good_t (i := 458) (by decide +kernel) rfl)
theorem ml11_108 : MLk RX11 108 mtX5_addShip := Or.inr ⟨"SeaWithStairs", lw_nest_t (i := 462) (by decide +kernel) rfl⟩
theorem mlL_23 : MLk RL 23 mtX11_feed := Or.inl (lw_good_t (i := 466) (by decide +kernel) rfl)
theorem ml11_115 : MLk RX11 115 mtX4_addFour := Or.inr ⟨"SeaWithStairs", lw_nest_t (i := 470) (by decide +kernel) rfl⟩
theorem mlL_28 : MLk RL 28 mtX11_end := Or.inl (lw_good_t (i := 474) (by decide +kernel) rfl)
theorem mlL_33 : MLk RL 33 mtX11_text := Or.inl (lw_good_t (i := 478) (by decide +kernel) rfl)
theorem ml11_121 : MLk RX11 121 mtX4_readInto := Or.inr ⟨"SeaWithStairs", lw_nest_t (i := 482) (by decide +kernel) rfl⟩
theorem ml4_29 : MLk RX4 29 mtX6_empty := Or.inr ⟨"SeaWithStairs", lw_nest_t (i := 486) (by decide +kernel) rfl⟩
theorem ml4_37 : MLk RX4 37 mtX4_advance := Or.inl (lw_good_t (i := 490) (by decide +kernel) rfl)
theorem ml4_132 : MLk RX4 132 mtX4_isLetter := Or.inl (lw_good_t (i := 494) (by decide +kernel) rfl)
theorem ml4_135 : MLk RX4 135 mtX4_wordBetween := Or.inl (lw_good_t (i := 497) (by decide +kernel) rfl)
theorem ml4_153 : MLk RX4 153 mtJ0_length_8abf5 := Or.inl (lw_good_t (i := 502) (by decide +kernel) rfl)
theorem mlJ0_335 : MLk RJ0 335 mtJ0_coder_7d493 := Or.inl (lw_good_t (i := 506) (by decide +kernel) rfl)
theorem ml4_158 : MLk RX4 158 mtJ0_charAt_5068e := Or.inl (lw_good_t (i := 512) (by decide +kernel) rfl)
theorem mlJ0_492 : MLk RJ0 492 mtJ0_isLatin1_aae02 := Or.inl (lw_good_t (i := 516) (by decide +kernel) rfl)
theorem mlJ0_495 : MLk RJ0 495 mtJ1_charAt_3b067 := Or.inl (lw_good_t (i := 520) (by decide +kernel) rfl)
theorem mlJ1_9 : MLk RJ1 9 mtJ0_checkIndex_df160 := Or.inl (lw_good_t (i := 523) (by decide +kernel) rfl)
theorem mlJ0_1059 : MLk RJ0 1059 mtJ3_checkIndex_8e157 := Or.inl (lw_good_t (i := 528) (by decide +kernel) rfl)
theorem mlJ0_498 : MLk RJ0 498 mtJ2_charAt_3b067 := Or.inl (lw_good_t (i := 531) (by decide +kernel) rfl)
theorem mlJ2_67 : MLk RJ2 67 mtJ2_checkIndex_2214a := Or.inl (lw_good_t (i := 534) (by decide +kernel) rfl)
theorem mlJ2_48 : MLk RJ2 48 mtJ2_length_9d52b := Or.inl (lw_good_t (i := 537) (by decide +kernel) rfl)
theorem mlJ2_414 : MLk RJ2 414 mtJ0_checkIndex_df160 := Or.inl (lw_good_t (i := 540) (by decide +kernel) rfl)
theorem mlJ2_71 : MLk RJ2 71 mtJ2_getChar_3b067 := Or.inl (lw_good_t (i := 541) (by decide +kernel) rfl)
theorem ml4_139 : MLk RX4 139 mtX4_isDigit := Or.inl (lw_good_t (i := 550) (by decide +kernel) rfl)
theorem mm4_142 : minOK RX4 142 := ⟨lw_good_t (i := 553) (by decide +kernel) rfl, msJ9_min_7cf53, lw_good_t (i := 18) (by decide +kernel) rfl, lw_good_t (i := 555) (by decide +kernel) rfl⟩
theorem ml4_147 : MLk RX4 147 mtX4_signAt := Or.inl (lw_good_t (i := 556) (by decide +kernel) rfl)
theorem ml4_43 : MLk RX4 43 mtX4_readClause := Or.inl (lw_good_t (i := 561) (by decide +kernel) rfl)
theorem ml4_53 : MLk RX4 53 mtX11_isBetween := Or.inr ⟨"SeaWithStairs", lw_nest_t (i := 565) (by decide +kernel) rfl⟩
theorem ml4_57 : MLk RX4 57 mtX4_failBy := Or.inl (lw_good_t (i := 566) (by decide +kernel) rfl)
theorem ml4_61 : MLk RX4 61 mtX6_hasLaw := Or.inr ⟨"SeaWithStairs", lw_nest_t (i := 570) (by decide +kernel) rfl⟩
theorem ml4_70 : MLk RX4 70 mtX4_readNumbers := Or.inl (lw_good_t (i := 574) (by decide +kernel) rfl)
theorem ml4_79 : MLk RX4 79 mtX4_readPart := Or.inl (lw_good_t (i := 586) (by decide +kernel) rfl)
theorem ml4_104 : MLk RX4 104 mtX4_readAsk := Or.inl (lw_good_t (i := 590) (by decide +kernel) rfl)
theorem ml4_113 : MLk RX4 113 mtX6_addCode := Or.inr ⟨"SeaWithStairs", lw_nest_t (i := 594) (by decide +kernel) rfl⟩
theorem ml4_107 : MLk RX4 107 mtX4_readOne := Or.inl (lw_good_t (i := 598) (by decide +kernel) rfl)
theorem ml4_117 : MLk RX4 117 mtX4_isName := Or.inl (lw_good_t (i := 602) (by decide +kernel) rfl)
theorem ml4_120 : MLk RX4 120 mtX4_isNameOfLaw := Or.inl (lw_good_t (i := 605) (by decide +kernel) rfl)
theorem ml4_123 : MLk RX4 123 mtX4_isAskedBeside := Or.inl (lw_good_t (i := 609) (by decide +kernel) rfl)
theorem ml4_126 : MLk RX4 126 mtX4_readMinus := Or.inl (lw_good_t (i := 613) (by decide +kernel) rfl)
theorem ml4_129 : MLk RX4 129 mtX4_readParted := Or.inl (lw_good_t (i := 617) (by decide +kernel) rfl)
theorem ml4_110 : MLk RX4 110 mtX4_joinsAt := Or.inl (lw_good_t (i := 621) (by decide +kernel) rfl)
theorem mlL_38 : MLk RL 38 mtX11_fault := Or.inl (lw_good_t (i := 626) (by decide +kernel) rfl)
theorem mlL_42 : MLk RL 42 mtX11_by := Or.inl (lw_good_t (i := 630) (by decide +kernel) rfl)
theorem ml11_131 : MLk RX11 131 mtX11_isText := Or.inl (lw_good_t (i := 634) (by decide +kernel) rfl)
theorem ml11_137 : MLk RX11 137 mtX11_chooseRuler := Or.inl (lw_good_t (i := 638) (by decide +kernel) rfl)
theorem mlL_47 : MLk RL 47 mtX11_hour := Or.inl (lw_good_t (i := 642) (by decide +kernel) rfl)
theorem ml11_143 : MLk RX11 143 mtX11_passHours := Or.inl (lw_good_t (i := 646) (by decide +kernel) rfl)
theorem ml11_151 : MLk RX11 151 mtX0_keep := Or.inr ⟨"SeaWithStairs", lw_nest_t (i := 650) (by decide +kernel) rfl⟩
theorem ml0_22 : MLk RX0 22 mtX5_copyFrom := Or.inr ⟨"SeaWithStairs", lw_nest_t (i := 654) (by decide +kernel) rfl⟩
theorem cp5_52 : cpyOK RX5 52 := ⟨lw_good_t (i := 658) (by decide +kernel) rfl, lw_good_t (i := 660) (by decide +kernel) rfl, lw_good_t (i := 659) (by decide +kernel) rfl, lw_good_t (i := 19) (by decide +kernel) rfl⟩
theorem ml5_58 : MLk RX5 58 mtX5_goBackTo := Or.inl (lw_good_t (i := 661) (by decide +kernel) rfl)
theorem mm0_29 : minOK RX0 29 := ⟨lw_good_t (i := 665) (by decide +kernel) rfl, msJ9_min_7cf53, lw_good_t (i := 18) (by decide +kernel) rfl, lw_good_t (i := 555) (by decide +kernel) rfl⟩
theorem ml11_234 : MLk RX11 234 mtX1_passOne := Or.inr ⟨"SeaWithStairs", lw_nest_t (i := 666) (by decide +kernel) rfl⟩
theorem ml1_31 : MLk RX1 31 mtX1_useRope := Or.inl (lw_good_t (i := 670) (by decide +kernel) rfl)
theorem ml1_48 : MLk RX1 48 mtX5_bound := Or.inr ⟨"SeaWithStairs", lw_nest_t (i := 674) (by decide +kernel) rfl⟩
theorem ml1_52 : MLk RX1 52 mtX11_lowest := Or.inr ⟨"SeaWithStairs", lw_nest_t (i := 678) (by decide +kernel) rfl⟩
theorem ml1_58 : MLk RX1 58 mtX2_takes := Or.inr ⟨"SeaWithStairs", lw_nest_t (i := 681) (by decide +kernel) rfl⟩
theorem ml2_25 : MLk RX2 25 mtX2_hasLaw := Or.inl (lw_good_t (i := 685) (by decide +kernel) rfl)
theorem ml2_54 : MLk RX2 54 mtX6_hasLaw := Or.inr ⟨"SeaWithStairs", lw_nest_t (i := 689) (by decide +kernel) rfl⟩
theorem ml2_29 : MLk RX2 29 mtX2_valueOf := Or.inl (lw_good_t (i := 690) (by decide +kernel) rfl)
theorem ml2_67 : MLk RX2 67 mtX11_isBetween := Or.inr ⟨"SeaWithStairs", lw_nest_t (i := 694) (by decide +kernel) rfl⟩
theorem ml2_71 : MLk RX2 71 mtX2_named := Or.inl (lw_good_t (i := 695) (by decide +kernel) rfl)
theorem ml2_74 : MLk RX2 74 mtX2_joined := Or.inl (lw_good_t (i := 699) (by decide +kernel) rfl)
theorem ml2_78 : MLk RX2 78 mtX2_cut := Or.inl (lw_good_t (i := 702) (by decide +kernel) rfl)
theorem ml2_33 : MLk RX2 33 mtX2_within := Or.inl (lw_good_t (i := 709) (by decide +kernel) rfl)
theorem mm2_55 : minOK RX2 55 := ⟨lw_good_t (i := 712) (by decide +kernel) rfl, msJ9_min_7cf53, lw_good_t (i := 18) (by decide +kernel) rfl, lw_good_t (i := 555) (by decide +kernel) rfl⟩
theorem mm2_42 : maxOK RX2 42 := ⟨lw_good_t (i := 713) (by decide +kernel) rfl, msJ9_max_7cf53, lw_good_t (i := 18) (by decide +kernel) rfl, lw_good_t (i := 715) (by decide +kernel) rfl⟩
theorem ml1_63 : MLk RX1 63 mtX5_pay := Or.inr ⟨"SeaWithStairs", lw_nest_t (i := 716) (by decide +kernel) rfl⟩
theorem mm5_74 : minOK RX5 74 := ⟨lw_good_t (i := 721) (by decide +kernel) rfl, msJ9_min_7cf53, lw_good_t (i := 18) (by decide +kernel) rfl, lw_good_t (i := 555) (by decide +kernel) rfl⟩
theorem ml1_67 : MLk RX1 67 mtX5_moveTo := Or.inr ⟨"SeaWithStairs", lw_nest_t (i := 722) (by decide +kernel) rfl⟩
theorem ml1_70 : MLk RX1 70 mtX2_hauls := Or.inr ⟨"SeaWithStairs", lw_nest_t (i := 726) (by decide +kernel) rfl⟩
theorem ml1_74 : MLk RX1 74 mtX2_wears := Or.inr ⟨"SeaWithStairs", lw_nest_t (i := 730) (by decide +kernel) rfl⟩
theorem mm1_77 : minOK RX1 77 := ⟨lw_good_t (i := 734) (by decide +kernel) rfl, msJ9_min_7cf53, lw_good_t (i := 18) (by decide +kernel) rfl, lw_good_t (i := 555) (by decide +kernel) rfl⟩
theorem ml1_35 : MLk RX1 35 mtX1_letWaterOver := Or.inl (lw_good_t (i := 735) (by decide +kernel) rfl)
theorem ml1_86 : MLk RX1 86 mtX2_flows := Or.inr ⟨"SeaWithStairs", lw_nest_t (i := 739) (by decide +kernel) rfl⟩
theorem ml1_42 : MLk RX1 42 mtJ6_bitCount_0f7a4 := Or.inl (lw_good_t (i := 744) (by decide +kernel) rfl)
theorem mlL_51 : MLk RL 51 mtX11_flood := Or.inl (lw_good_t (i := 750) (by decide +kernel) rfl)
theorem ml11_157 : MLk RX11 157 mtX5_addWater := Or.inr ⟨"SeaWithStairs", lw_nest_t (i := 754) (by decide +kernel) rfl⟩
theorem mlL_56 : MLk RL 56 mtX11_raise := Or.inl (lw_good_t (i := 758) (by decide +kernel) rfl)
theorem mlL_61 : MLk RL 61 mtX11_mend := Or.inl (lw_good_t (i := 762) (by decide +kernel) rfl)
theorem ml11_168 : MLk RX11 168 mtX11_hasRiser := Or.inl (lw_good_t (i := 766) (by decide +kernel) rfl)
theorem mlL_65 : MLk RL 65 mtX11_bind := Or.inl (lw_good_t (i := 770) (by decide +kernel) rfl)
theorem ml11_174 : MLk RX11 174 mtX11_isShip := Or.inl (lw_good_t (i := 774) (by decide +kernel) rfl)
theorem mlL_69 : MLk RL 69 mtX11_played := Or.inl (lw_good_t (i := 778) (by decide +kernel) rfl)
theorem ml11_183 : MLk RX11 183 mtX11_playClause := Or.inl (lw_good_t (i := 782) (by decide +kernel) rfl)
theorem ml11_354 : MLk RX11 354 mtX6_numberOf := Or.inr ⟨"SeaWithStairs", lw_nest_t (i := 786) (by decide +kernel) rfl⟩
theorem ml11_360 : MLk RX11 360 mtX11_step := Or.inl (lw_good_t (i := 790) (by decide +kernel) rfl)
theorem ml11_363 : MLk RX11 363 mtX11_ship := Or.inl (lw_good_t (i := 791) (by decide +kernel) rfl)
theorem mm11_366 : minOK RX11 366 := ⟨lw_good_t (i := 792) (by decide +kernel) rfl, msJ9_min_7cf53, lw_good_t (i := 18) (by decide +kernel) rfl, lw_good_t (i := 555) (by decide +kernel) rfl⟩
theorem ml11_371 : MLk RX11 371 mtX11_flood := Or.inl (lw_good_t (i := 793) (by decide +kernel) rfl)
theorem ml11_374 : MLk RX11 374 mtX11_raise := Or.inl (lw_good_t (i := 794) (by decide +kernel) rfl)
theorem ml11_377 : MLk RX11 377 mtX11_mend := Or.inl (lw_good_t (i := 795) (by decide +kernel) rfl)
theorem ml11_380 : MLk RX11 380 mtX11_bind := Or.inl (lw_good_t (i := 796) (by decide +kernel) rfl)
theorem mlL_73 : MLk RL 73 mtX11_centuries := Or.inl (lw_good_t (i := 797) (by decide +kernel) rfl)
theorem ml11_190 : MLk RX11 190 mtX11_doDrawn := Or.inl (lw_good_t (i := 801) (by decide +kernel) rfl)
theorem mlL_77 : MLk RL 77 mtX11_undo := Or.inl (lw_good_t (i := 805) (by decide +kernel) rfl)
theorem ml11_193 : MLk RX11 193 mtX0_takeBack := Or.inr ⟨"SeaWithStairs", lw_nest_t (i := 809) (by decide +kernel) rfl⟩
theorem ml0_35 : MLk RX0 35 mtX5_goBackTo := Or.inr ⟨"SeaWithStairs", lw_nest_t (i := 813) (by decide +kernel) rfl⟩
theorem mlL_81 : MLk RL 81 mtX11_ofStep := Or.inl (lw_good_t (i := 814) (by decide +kernel) rfl)
theorem ml11_203 : MLk RX11 203 mtX5_shipsOn := Or.inr ⟨"SeaWithStairs", lw_nest_t (i := 818) (by decide +kernel) rfl⟩
theorem ml11_206 : MLk RX11 206 mtX2_flows := Or.inr ⟨"SeaWithStairs", lw_nest_t (i := 822) (by decide +kernel) rfl⟩
theorem mlL_85 : MLk RL 85 mtX11_ofShip := Or.inl (lw_good_t (i := 823) (by decide +kernel) rfl)
theorem mlL_89 : MLk RL 89 mtX11_is := Or.inl (lw_good_t (i := 827) (by decide +kernel) rfl)
theorem mlL_93 : MLk RL 93 mtX11_book := Or.inl (lw_good_t (i := 831) (by decide +kernel) rfl)
theorem mlL_97 : MLk RL 97 mtX11_foretoldShip := Or.inl (lw_good_t (i := 835) (by decide +kernel) rfl)
theorem ml11_231 : MLk RX11 231 mtX11_lookAhead := Or.inl (lw_good_t (i := 839) (by decide +kernel) rfl)
theorem ml11_383 : MLk RX11 383 mtX5_copyFrom := Or.inr ⟨"SeaWithStairs", lw_nest_t (i := 843) (by decide +kernel) rfl⟩
theorem mlL_101 : MLk RL 101 mtX11_foretoldStep := Or.inl (lw_good_t (i := 844) (by decide +kernel) rfl)
theorem mlL_105 : MLk RL 105 mtX11_comes := Or.inl (lw_good_t (i := 848) (by decide +kernel) rfl)
theorem mlL_109 : MLk RL 109 mtX11_voyage := Or.inl (lw_good_t (i := 852) (by decide +kernel) rfl)
theorem ml11_237 : MLk RX11 237 mtX9_plan := Or.inr ⟨"SeaWithStairs", lw_nest_t (i := 856) (by decide +kernel) rfl⟩
theorem ml9_32 : MLk RX9 32 mtX2_takes := Or.inr ⟨"SeaWithStairs", lw_nest_t (i := 860) (by decide +kernel) rfl⟩
theorem ml9_38 : MLk RX9 38 mtX9_isWaitBetter := Or.inl (lw_good_t (i := 861) (by decide +kernel) rfl)
theorem ml11_248 : MLk RX11 248 mtX9_hoursAheadOf := Or.inr ⟨"SeaWithStairs", lw_nest_t (i := 865) (by decide +kernel) rfl⟩
theorem mlL_113 : MLk RL 113 mtX11_hauling := Or.inl (lw_good_t (i := 869) (by decide +kernel) rfl)
theorem ml11_251 : MLk RX11 251 mtX11_areShips := Or.inl (lw_good_t (i := 873) (by decide +kernel) rfl)
theorem ml11_254 : MLk RX11 254 mtJ6_bitCount_0f7a4 := Or.inl (lw_good_t (i := 877) (by decide +kernel) rfl)
theorem ml11_259 : MLk RX11 259 mtX3_choose := Or.inr ⟨"SeaWithStairs", lw_nest_t (i := 878) (by decide +kernel) rfl⟩
theorem ml3_30 : MLk RX3 30 mtX3_listShips := Or.inl (lw_good_t (i := 882) (by decide +kernel) rfl)
theorem ml3_46 : MLk RX3 46 mtX2_hauls := Or.inr ⟨"SeaWithStairs", lw_nest_t (i := 885) (by decide +kernel) rfl⟩
theorem ml3_55 : MLk RX3 55 mtX3_penceOf := Or.inl (lw_good_t (i := 886) (by decide +kernel) rfl)
theorem ml11_266 : MLk RX11 266 mtX3_partnerOf := Or.inr ⟨"SeaWithStairs", lw_nest_t (i := 890) (by decide +kernel) rfl⟩
theorem mlL_117 : MLk RL 117 mtX11_thing := Or.inl (lw_good_t (i := 894) (by decide +kernel) rfl)
theorem ml11_269 : MLk RX11 269 mtX11_endOfFall := Or.inl (lw_good_t (i := 898) (by decide +kernel) rfl)
theorem ml11_385 : MLk RX11 385 mtX2_falls := Or.inr ⟨"SeaWithStairs", lw_nest_t (i := 902) (by decide +kernel) rfl⟩
theorem mlL_121 : MLk RL 121 mtX11_upThere := Or.inl (lw_good_t (i := 906) (by decide +kernel) rfl)
theorem mlL_125 : MLk RL 125 mtX11_toRaise := Or.inl (lw_good_t (i := 910) (by decide +kernel) rfl)
theorem mlL_129 : MLk RL 129 mtX11_states := Or.inl (lw_good_t (i := 914) (by decide +kernel) rfl)
theorem ml11_277 : MLk RX11 277 mtX2_takes := Or.inr ⟨"SeaWithStairs", lw_nest_t (i := 919) (by decide +kernel) rfl⟩
theorem ml11_281 : MLk RX11 281 mtX8_unite := Or.inr ⟨"SeaWithStairs", lw_nest_t (i := 920) (by decide +kernel) rfl⟩
theorem ml8_24 : MLk RX8 24 mtX8_worthOf := Or.inl (lw_good_t (i := 924) (by decide +kernel) rfl)
theorem ml11_287 : MLk RX11 287 mtX8_unionOf := Or.inr ⟨"SeaWithStairs", lw_nest_t (i := 928) (by decide +kernel) rfl⟩
theorem mlL_133 : MLk RL 133 mtX11_sound := Or.inl (lw_good_t (i := 932) (by decide +kernel) rfl)
theorem ml11_295 : MLk RX11 295 mtX7_addSound := Or.inr ⟨"SeaWithStairs", lw_nest_t (i := 936) (by decide +kernel) rfl⟩
theorem mlL_137 : MLk RL 137 mtX11_high := Or.inl (lw_good_t (i := 940) (by decide +kernel) rfl)
theorem ml11_298 : MLk RX11 298 mtX7_mayBeHigh := Or.inr ⟨"SeaWithStairs", lw_nest_t (i := 944) (by decide +kernel) rfl⟩
theorem mlL_142 : MLk RL 142 mtX11_wreck := Or.inl (lw_good_t (i := 948) (by decide +kernel) rfl)
theorem ml11_305 : MLk RX11 305 mtX7_addWreck := Or.inr ⟨"SeaWithStairs", lw_nest_t (i := 952) (by decide +kernel) rfl⟩
theorem mlL_146 : MLk RL 146 mtX11_inOrder := Or.inl (lw_good_t (i := 956) (by decide +kernel) rfl)
theorem ml11_308 : MLk RX11 308 mtX7_measureRows := Or.inr ⟨"SeaWithStairs", lw_nest_t (i := 960) (by decide +kernel) rfl⟩
theorem mm7_43 : maxOK RX7 43 := ⟨lw_good_t (i := 964) (by decide +kernel) rfl, msJ9_max_7cf53, lw_good_t (i := 18) (by decide +kernel) rfl, lw_good_t (i := 715) (by decide +kernel) rfl⟩
theorem ml11_312 : MLk RX11 312 mtX7_reignInOrder := Or.inr ⟨"SeaWithStairs", lw_nest_t (i := 965) (by decide +kernel) rfl⟩
theorem mlL_150 : MLk RL 150 mtX11_outOfOrder := Or.inl (lw_good_t (i := 969) (by decide +kernel) rfl)
theorem mlL_154 : MLk RL 154 mtX11_misheard := Or.inl (lw_good_t (i := 973) (by decide +kernel) rfl)
theorem ml11_321 : MLk RX11 321 mtX7_addMisheard := Or.inr ⟨"SeaWithStairs", lw_nest_t (i := 977) (by decide +kernel) rfl⟩
theorem mlL_158 : MLk RL 158 mtX11_apart := Or.inl (lw_good_t (i := 981) (by decide +kernel) rfl)
theorem ml11_324 : MLk RX11 324 mtX7_areApart := Or.inr ⟨"SeaWithStairs", lw_nest_t (i := 985) (by decide +kernel) rfl⟩
theorem mlL_162 : MLk RL 162 mtX11_chains := Or.inl (lw_good_t (i := 989) (by decide +kernel) rfl)
theorem ml11_327 : MLk RX11 327 mtX7_chainOf := Or.inr ⟨"SeaWithStairs", lw_nest_t (i := 993) (by decide +kernel) rfl⟩
theorem mlL_166 : MLk RL 166 mtX11_waiting := Or.inl (lw_good_t (i := 997) (by decide +kernel) rfl)
theorem ml11_330 : MLk RX11 330 mtX5_bound := Or.inr ⟨"SeaWithStairs", lw_nest_t (i := 1001) (by decide +kernel) rfl⟩
theorem mlL_170 : MLk RL 170 mtX11_run := Or.inl (lw_good_t (i := 1002) (by decide +kernel) rfl)
theorem ml11_334 : MLk RX11 334 mtX5_onGoals := Or.inr ⟨"SeaWithStairs", lw_nest_t (i := 1006) (by decide +kernel) rfl⟩
theorem ml11_337 : MLk RX11 337 mtX11_lowest := Or.inl (lw_good_t (i := 1010) (by decide +kernel) rfl)
theorem mlL_175 : MLk RL 175 mtX11_image := Or.inl (lw_good_t (i := 1011) (by decide +kernel) rfl)
theorem ml11_340 : MLk RX11 340 mtX10_copyFrom := Or.inr ⟨"SeaWithStairs", lw_nest_t (i := 1015) (by decide +kernel) rfl⟩
theorem ml10_36 : MLk RX10 36 mtX5_copyFrom := Or.inr ⟨"SeaWithStairs", lw_nest_t (i := 1019) (by decide +kernel) rfl⟩
theorem ml10_40 : MLk RX10 40 mtX0_copyFrom := Or.inr ⟨"SeaWithStairs", lw_nest_t (i := 1020) (by decide +kernel) rfl⟩
theorem ml10_43 : MLk RX10 43 mtX7_copyFrom := Or.inr ⟨"SeaWithStairs", lw_nest_t (i := 1024) (by decide +kernel) rfl⟩
theorem cp7_31 : cpyOK RX7 31 := ⟨lw_good_t (i := 1028) (by decide +kernel) rfl, lw_good_t (i := 660) (by decide +kernel) rfl, lw_good_t (i := 659) (by decide +kernel) rfl, lw_good_t (i := 19) (by decide +kernel) rfl⟩
theorem mlL_179 : MLk RL 179 mtX11_back := Or.inl (lw_good_t (i := 1029) (by decide +kernel) rfl)
theorem mlL_183 : MLk RL 183 mtX11_about := Or.inl (lw_good_t (i := 1033) (by decide +kernel) rfl)
theorem mlL_12 : MLk RL 12 mtX12_init := Or.inl (lw_good_t (i := 1039) (by decide +kernel) rfl)
theorem ml12_86 : MLk RX12 86 mtX12_copy := Or.inl (lw_good_t (i := 1043) (by decide +kernel) rfl)
theorem mlL_17 : MLk RL 17 mtX12_step := Or.inl (lw_good_t (i := 1178) (by decide +kernel) rfl)
theorem ml12_90 : MLk RX12 90 mtX12_isIn := Or.inl (lw_good_t (i := 1182) (by decide +kernel) rfl)
theorem ml12_94 : MLk RX12 94 mtX12_put := Or.inl (lw_good_t (i := 1185) (by decide +kernel) rfl)
theorem ml12_98 : MLk RX12 98 mtX12_at := Or.inl (lw_good_t (i := 1189) (by decide +kernel) rfl)
theorem mlL_22 : MLk RL 22 mtX12_ship := Or.inl (lw_good_t (i := 1193) (by decide +kernel) rfl)
theorem ml12_102 : MLk RX12 102 mtX12_isStep := Or.inl (lw_good_t (i := 1197) (by decide +kernel) rfl)
theorem ml12_106 : MLk RX12 106 mtX12_set := Or.inl (lw_good_t (i := 1201) (by decide +kernel) rfl)
theorem mlL_27 : MLk RL 27 mtX12_feed := Or.inl (lw_good_t (i := 1205) (by decide +kernel) rfl)
theorem ml12_112 : MLk RX12 112 mtX12_four := Or.inl (lw_good_t (i := 1209) (by decide +kernel) rfl)
theorem mlL_32 : MLk RL 32 mtX12_end := Or.inl (lw_good_t (i := 1213) (by decide +kernel) rfl)
theorem mlL_37 : MLk RL 37 mtX12_text := Or.inl (lw_good_t (i := 1217) (by decide +kernel) rfl)
theorem ml12_289 : MLk RX12 289 mtX12_readText := Or.inl (lw_good_t (i := 1221) (by decide +kernel) rfl)
theorem ml12_200 : MLk RX12 200 mtX12_nextToken := Or.inl (lw_good_t (i := 1225) (by decide +kernel) rfl)
theorem ml12_119 : MLk RX12 119 mtX12_byteAt := Or.inl (lw_good_t (i := 1229) (by decide +kernel) rfl)
theorem ml12_129 : MLk RX12 129 mtX12_isFigure := Or.inl (lw_good_t (i := 1233) (by decide +kernel) rfl)
theorem ml12_136 : MLk RX12 136 mtX12_isLetterByte := Or.inl (lw_good_t (i := 1237) (by decide +kernel) rfl)
theorem ml12_145 : MLk RX12 145 mtX12_isSign := Or.inl (lw_good_t (i := 1241) (by decide +kernel) rfl)
theorem ml12_286 : MLk RX12 286 mtX12_clause := Or.inl (lw_good_t (i := 1244) (by decide +kernel) rfl)
theorem ml12_273 : MLk RX12 273 mtX12_sortOf := Or.inl (lw_good_t (i := 1248) (by decide +kernel) rfl)
theorem ml12_160 : MLk RX12 160 mtX12_w5 := Or.inl (lw_good_t (i := 1252) (by decide +kernel) rfl)
theorem ml12_156 : MLk RX12 156 mtX12_w4 := Or.inl (lw_good_t (i := 1255) (by decide +kernel) rfl)
theorem ml12_152 : MLk RX12 152 mtX12_w3 := Or.inl (lw_good_t (i := 1258) (by decide +kernel) rfl)
theorem ml12_148 : MLk RX12 148 mtX12_w2 := Or.inl (lw_good_t (i := 1261) (by decide +kernel) rfl)
theorem ml12_219 : MLk RX12 219 mtX12_isWord := Or.inl (lw_good_t (i := 1264) (by decide +kernel) rfl)
theorem ml12_279 : MLk RX12 279 mtX12_has := Or.inl (lw_good_t (i := 1268) (by decide +kernel) rfl)
theorem ml12_283 : MLk RX12 283 mtX12_body := Or.inl (lw_good_t (i := 1271) (by decide +kernel) rfl)
theorem ml12_259 : MLk RX12 259 mtX12_lawClause := Or.inl (lw_good_t (i := 1275) (by decide +kernel) rfl)
theorem ml12_251 : MLk RX12 251 mtX12_parsed := Or.inl (lw_good_t (i := 1279) (by decide +kernel) rfl)
theorem ml12_241 : MLk RX12 241 mtX12_behindOne := Or.inl (lw_good_t (i := 1283) (by decide +kernel) rfl)
theorem ml12_238 : MLk RX12 238 mtX12_betweenOf := Or.inl (lw_good_t (i := 1287) (by decide +kernel) rfl)
theorem ml12_197 : MLk RX12 197 mtX12_isAskHere := Or.inl (lw_good_t (i := 1291) (by decide +kernel) rfl)
theorem ml12_193 : MLk RX12 193 mtX12_isOpen := Or.inl (lw_good_t (i := 1295) (by decide +kernel) rfl)
theorem ml12_232 : MLk RX12 232 mtX12_isCompared := Or.inl (lw_good_t (i := 1299) (by decide +kernel) rfl)
theorem ml12_180 : MLk RX12 180 mtX12_rank := Or.inl (lw_good_t (i := 1303) (by decide +kernel) rfl)
theorem ml12_235 : MLk RX12 235 mtX12_compareOf := Or.inl (lw_good_t (i := 1306) (by decide +kernel) rfl)
theorem ml12_206 : MLk RX12 206 mtX12_settle := Or.inl (lw_good_t (i := 1310) (by decide +kernel) rfl)
theorem ml12_183 : MLk RX12 183 mtX12_emit := Or.inl (lw_good_t (i := 1314) (by decide +kernel) rfl)
theorem ml12_244 : MLk RX12 244 mtX12_beginOne := Or.inl (lw_good_t (i := 1318) (by decide +kernel) rfl)
theorem ml12_213 : MLk RX12 213 mtX12_one := Or.inl (lw_good_t (i := 1322) (by decide +kernel) rfl)
theorem ml12_209 : MLk RX12 209 mtX12_nameOf := Or.inl (lw_good_t (i := 1326) (by decide +kernel) rfl)
theorem ml12_170 : MLk RX12 170 mtX12_w6 := Or.inl (lw_good_t (i := 1330) (by decide +kernel) rfl)
theorem ml12_216 : MLk RX12 216 mtX12_isOf := Or.inl (lw_good_t (i := 1333) (by decide +kernel) rfl)
theorem ml12_223 : MLk RX12 223 mtX12_beside := Or.inl (lw_good_t (i := 1337) (by decide +kernel) rfl)
theorem ml12_226 : MLk RX12 226 mtX12_opened := Or.inl (lw_good_t (i := 1341) (by decide +kernel) rfl)
theorem ml12_229 : MLk RX12 229 mtX12_isAskAhead := Or.inl (lw_good_t (i := 1345) (by decide +kernel) rfl)
theorem ml12_263 : MLk RX12 263 mtX12_stepClause := Or.inl (lw_good_t (i := 1349) (by decide +kernel) rfl)
theorem ml12_247 : MLk RX12 247 mtX12_figure := Or.inl (lw_good_t (i := 1353) (by decide +kernel) rfl)
theorem ml12_255 : MLk RX12 255 mtX12_worded := Or.inl (lw_good_t (i := 1357) (by decide +kernel) rfl)
theorem ml12_266 : MLk RX12 266 mtX12_shipClause := Or.inl (lw_good_t (i := 1361) (by decide +kernel) rfl)
theorem ml12_269 : MLk RX12 269 mtX12_pair := Or.inl (lw_good_t (i := 1365) (by decide +kernel) rfl)
theorem mlL_41 : MLk RL 41 mtX12_fault := Or.inl (lw_good_t (i := 1369) (by decide +kernel) rfl)
theorem mlL_46 : MLk RL 46 mtX12_by := Or.inl (lw_good_t (i := 1373) (by decide +kernel) rfl)
theorem mlL_80 : MLk RL 80 mtX12_undo := Or.inl (lw_good_t (i := 1377) (by decide +kernel) rfl)
theorem ml12_371 : MLk RX12 371 mtX12_undoStep := Or.inl (lw_good_t (i := 1381) (by decide +kernel) rfl)
theorem ml12_375 : MLk RX12 375 mtX12_undoShip := Or.inl (lw_good_t (i := 1385) (by decide +kernel) rfl)
theorem ml12_340 : MLk RX12 340 mtX12_get := Or.inl (lw_good_t (i := 1389) (by decide +kernel) rfl)
theorem mlL_50 : MLk RL 50 mtX12_hour := Or.inl (lw_good_t (i := 1393) (by decide +kernel) rfl)
theorem ml12_384 : MLk RX12 384 mtX12_arePassed := Or.inl (lw_good_t (i := 1397) (by decide +kernel) rfl)
theorem ml12_378 : MLk RX12 378 mtX12_keep := Or.inl (lw_good_t (i := 1401) (by decide +kernel) rfl)
theorem ml12_381 : MLk RX12 381 mtX12_pass := Or.inl (lw_good_t (i := 1405) (by decide +kernel) rfl)
theorem ml12_365 : MLk RX12 365 mtX12_rope := Or.inl (lw_good_t (i := 1409) (by decide +kernel) rfl)
theorem ml12_346 : MLk RX12 346 mtX12_waiterOn := Or.inl (lw_good_t (i := 1413) (by decide +kernel) rfl)
theorem ml12_349 : MLk RX12 349 mtX12_takesOf := Or.inl (lw_good_t (i := 1417) (by decide +kernel) rfl)
theorem ml12_333 : MLk RX12 333 mtX12_ask := Or.inl (lw_good_t (i := 1421) (by decide +kernel) rfl)
theorem ml12_337 : MLk RX12 337 mtX12_says := Or.inl (lw_good_t (i := 1425) (by decide +kernel) rfl)
theorem ml12_323 : MLk RX12 323 mtX12_clauseOf := Or.inl (lw_good_t (i := 1429) (by decide +kernel) rfl)
theorem ml12_326 : MLk RX12 326 mtX12_cut := Or.inl (lw_good_t (i := 1433) (by decide +kernel) rfl)
theorem ml12_330 : MLk RX12 330 mtX12_work := Or.inl (lw_good_t (i := 1436) (by decide +kernel) rfl)
theorem ml12_312 : MLk RX12 312 mtX12_named := Or.inl (lw_good_t (i := 1440) (by decide +kernel) rfl)
theorem ml12_315 : MLk RX12 315 mtX12_two := Or.inl (lw_good_t (i := 1444) (by decide +kernel) rfl)
theorem ml12_296 : MLk RX12 296 mtX12_clip := Or.inl (lw_good_t (i := 1447) (by decide +kernel) rfl)
theorem ml12_319 : MLk RX12 319 mtX12_isAsked := Or.inl (lw_good_t (i := 1452) (by decide +kernel) rfl)
theorem ml12_352 : MLk RX12 352 mtX12_haulsOf := Or.inl (lw_good_t (i := 1455) (by decide +kernel) rfl)
theorem ml12_355 : MLk RX12 355 mtX12_wearsOf := Or.inl (lw_good_t (i := 1459) (by decide +kernel) rfl)
theorem ml12_358 : MLk RX12 358 mtX12_go := Or.inl (lw_good_t (i := 1463) (by decide +kernel) rfl)
theorem ml12_368 : MLk RX12 368 mtX12_pour := Or.inl (lw_good_t (i := 1467) (by decide +kernel) rfl)
theorem ml12_361 : MLk RX12 361 mtX12_flowsOf := Or.inl (lw_good_t (i := 1471) (by decide +kernel) rfl)
theorem mlL_55 : MLk RL 55 mtX12_flood := Or.inl (lw_good_t (i := 1476) (by decide +kernel) rfl)
theorem ml12_387 : MLk RX12 387 mtX12_floodNow := Or.inl (lw_good_t (i := 1480) (by decide +kernel) rfl)
theorem mlL_60 : MLk RL 60 mtX12_raise := Or.inl (lw_good_t (i := 1484) (by decide +kernel) rfl)
theorem mlL_64 : MLk RL 64 mtX12_mend := Or.inl (lw_good_t (i := 1488) (by decide +kernel) rfl)
theorem ml12_390 : MLk RX12 390 mtX12_isRiser := Or.inl (lw_good_t (i := 1492) (by decide +kernel) rfl)
theorem mlL_68 : MLk RL 68 mtX12_bind := Or.inl (lw_good_t (i := 1496) (by decide +kernel) rfl)
theorem ml12_393 : MLk RX12 393 mtX12_isShip := Or.inl (lw_good_t (i := 1500) (by decide +kernel) rfl)
theorem mlL_72 : MLk RL 72 mtX12_played := Or.inl (lw_good_t (i := 1504) (by decide +kernel) rfl)
theorem ml12_415 : MLk RX12 415 mtX12_isPlayed := Or.inl (lw_good_t (i := 1508) (by decide +kernel) rfl)
theorem ml12_396 : MLk RX12 396 mtX12_step := Or.inl (lw_good_t (i := 1512) (by decide +kernel) rfl)
theorem ml12_400 : MLk RX12 400 mtX12_ship := Or.inl (lw_good_t (i := 1513) (by decide +kernel) rfl)
theorem ml12_403 : MLk RX12 403 mtX12_flood := Or.inl (lw_good_t (i := 1514) (by decide +kernel) rfl)
theorem ml12_406 : MLk RX12 406 mtX12_raise := Or.inl (lw_good_t (i := 1515) (by decide +kernel) rfl)
theorem ml12_409 : MLk RX12 409 mtX12_mend := Or.inl (lw_good_t (i := 1516) (by decide +kernel) rfl)
theorem ml12_412 : MLk RX12 412 mtX12_bind := Or.inl (lw_good_t (i := 1517) (by decide +kernel) rfl)
theorem mlL_76 : MLk RL 76 mtX12_centuries := Or.inl (lw_good_t (i := 1518) (by decide +kernel) rfl)
theorem ml12_418 : MLk RX12 418 mtX12_happens := Or.inl (lw_good_t (i := 1522) (by decide +kernel) rfl)
theorem mlL_84 : MLk RL 84 mtX12_ofStep := Or.inl (lw_good_t (i := 1526) (by decide +kernel) rfl)
theorem ml12_421 : MLk RX12 421 mtX12_shipsOn := Or.inl (lw_good_t (i := 1530) (by decide +kernel) rfl)
theorem mlL_88 : MLk RL 88 mtX12_ofShip := Or.inl (lw_good_t (i := 1534) (by decide +kernel) rfl)
theorem mlL_92 : MLk RL 92 mtX12_is := Or.inl (lw_good_t (i := 1538) (by decide +kernel) rfl)
theorem mlL_96 : MLk RL 96 mtX12_book := Or.inl (lw_good_t (i := 1542) (by decide +kernel) rfl)
theorem ml12_424 : MLk RX12 424 mtX12_shown := Or.inl (lw_good_t (i := 1546) (by decide +kernel) rfl)
theorem mlL_169 : MLk RL 169 mtX12_waiting := Or.inl (lw_good_t (i := 1550) (by decide +kernel) rfl)
theorem mlL_100 : MLk RL 100 mtX12_foretoldShip := Or.inl (lw_good_t (i := 1554) (by decide +kernel) rfl)
theorem ml12_433 : MLk RX12 433 mtX12_behindHours := Or.inl (lw_good_t (i := 1558) (by decide +kernel) rfl)
theorem ml12_427 : MLk RX12 427 mtX12_begin := Or.inl (lw_good_t (i := 1562) (by decide +kernel) rfl)
theorem ml12_430 : MLk RX12 430 mtX12_putBack := Or.inl (lw_good_t (i := 1566) (by decide +kernel) rfl)
theorem mlL_104 : MLk RL 104 mtX12_foretoldStep := Or.inl (lw_good_t (i := 1570) (by decide +kernel) rfl)
theorem mlL_108 : MLk RL 108 mtX12_comes := Or.inl (lw_good_t (i := 1574) (by decide +kernel) rfl)
theorem mlL_112 : MLk RL 112 mtX12_voyage := Or.inl (lw_good_t (i := 1578) (by decide +kernel) rfl)
theorem ml12_437 : MLk RX12 437 mtX12_leastBy := Or.inl (lw_good_t (i := 1582) (by decide +kernel) rfl)
theorem ml12_440 : MLk RX12 440 mtX12_findGoes := Or.inl (lw_good_t (i := 1587) (by decide +kernel) rfl)
theorem mlL_116 : MLk RL 116 mtX12_hauling := Or.inl (lw_good_t (i := 1591) (by decide +kernel) rfl)
theorem ml12_446 : MLk RX12 446 mtX12_bits := Or.inl (lw_good_t (i := 1595) (by decide +kernel) rfl)
theorem ml12_449 : MLk RX12 449 mtX12_layOut := Or.inl (lw_good_t (i := 1598) (by decide +kernel) rfl)
theorem ml12_453 : MLk RX12 453 mtX12_bestHauling := Or.inl (lw_good_t (i := 1601) (by decide +kernel) rfl)
theorem ml12_443 : MLk RX12 443 mtX12_hauledBy := Or.inl (lw_good_t (i := 1605) (by decide +kernel) rfl)
theorem mlL_120 : MLk RL 120 mtX12_thing := Or.inl (lw_good_t (i := 1609) (by decide +kernel) rfl)
theorem ml12_456 : MLk RX12 456 mtX12_isFalling := Or.inl (lw_good_t (i := 1613) (by decide +kernel) rfl)
theorem mlL_124 : MLk RL 124 mtX12_upThere := Or.inl (lw_good_t (i := 1617) (by decide +kernel) rfl)
theorem mlL_128 : MLk RL 128 mtX12_toRaise := Or.inl (lw_good_t (i := 1621) (by decide +kernel) rfl)
theorem mlL_132 : MLk RL 132 mtX12_states := Or.inl (lw_good_t (i := 1625) (by decide +kernel) rfl)
theorem ml12_460 : MLk RX12 460 mtX12_worthOf := Or.inl (lw_good_t (i := 1630) (by decide +kernel) rfl)
theorem ml12_463 : MLk RX12 463 mtX12_isAhead := Or.inl (lw_good_t (i := 1634) (by decide +kernel) rfl)
theorem mlL_136 : MLk RL 136 mtX12_sound := Or.inl (lw_good_t (i := 1637) (by decide +kernel) rfl)
theorem mlL_141 : MLk RL 141 mtX12_high := Or.inl (lw_good_t (i := 1641) (by decide +kernel) rfl)
theorem ml12_466 : MLk RX12 466 mtX12_isSounding := Or.inl (lw_good_t (i := 1645) (by decide +kernel) rfl)
theorem mlL_145 : MLk RL 145 mtX12_wreck := Or.inl (lw_good_t (i := 1649) (by decide +kernel) rfl)
theorem mlL_149 : MLk RL 149 mtX12_inOrder := Or.inl (lw_good_t (i := 1653) (by decide +kernel) rfl)
theorem ml12_469 : MLk RX12 469 mtX12_isOrder := Or.inl (lw_good_t (i := 1657) (by decide +kernel) rfl)
theorem ml12_472 : MLk RX12 472 mtX12_isLower := Or.inl (lw_good_t (i := 1661) (by decide +kernel) rfl)
theorem mlL_153 : MLk RL 153 mtX12_outOfOrder := Or.inl (lw_good_t (i := 1665) (by decide +kernel) rfl)
theorem mlL_157 : MLk RL 157 mtX12_misheard := Or.inl (lw_good_t (i := 1669) (by decide +kernel) rfl)
theorem mlL_161 : MLk RL 161 mtX12_apart := Or.inl (lw_good_t (i := 1673) (by decide +kernel) rfl)
theorem mlL_165 : MLk RL 165 mtX12_chains := Or.inl (lw_good_t (i := 1677) (by decide +kernel) rfl)
theorem ml12_475 : MLk RX12 475 mtX12_grown := Or.inl (lw_good_t (i := 1681) (by decide +kernel) rfl)
theorem mlL_174 : MLk RL 174 mtX12_run := Or.inl (lw_good_t (i := 1685) (by decide +kernel) rfl)
theorem mlL_178 : MLk RL 178 mtX12_image := Or.inl (lw_good_t (i := 1689) (by decide +kernel) rfl)
theorem mlL_182 : MLk RL 182 mtX12_back := Or.inl (lw_good_t (i := 1693) (by decide +kernel) rfl)
theorem mlL_186 : MLk RL 186 mtX12_about := Or.inl (lw_good_t (i := 1697) (by decide +kernel) rfl)
theorem kc2_98 : Cond.constantLong RX2 98 (1000000) ∈ lw_good := lw_good_t (i := 705) (by decide +kernel) rfl
theorem kc2_100 : Cond.constant RX2 100 (1000000) ∈ lw_good := lw_good_t (i := 706) (by decide +kernel) rfl
theorem kc2_101 : Cond.constantLong RX2 101 (-1000000) ∈ lw_good := lw_good_t (i := 707) (by decide +kernel) rfl
theorem kc2_103 : Cond.constant RX2 103 (-1000000) ∈ lw_good := lw_good_t (i := 708) (by decide +kernel) rfl
theorem kc5_80 : Cond.constant RX5 80 (99999) ∈ lw_good := lw_good_t (i := 720) (by decide +kernel) rfl
theorem kc1_93 : Cond.constant RX1 93 (99999999) ∈ lw_good := lw_good_t (i := 743) (by decide +kernel) rfl
theorem kcJ6_265 : Cond.constant RJ6 265 (1431655765) ∈ lw_good := lw_good_t (i := 747) (by decide +kernel) rfl
theorem kcJ6_266 : Cond.constant RJ6 266 (858993459) ∈ lw_good := lw_good_t (i := 748) (by decide +kernel) rfl
theorem kcJ6_267 : Cond.constant RJ6 267 (252645135) ∈ lw_good := lw_good_t (i := 749) (by decide +kernel) rfl
theorem kc11_273 : Cond.constant RX11 273 (-1000000000) ∈ lw_good := lw_good_t (i := 918) (by decide +kernel) rfl
theorem kc12_135 : Cond.constant RX12 135 (99999) ∈ lw_good := lw_good_t (i := 1236) (by decide +kernel) rfl
theorem kc12_143 : Cond.constantLong RX12 143 (1152921504606846976) ∈ lw_good := lw_good_t (i := 1240) (by decide +kernel) rfl
theorem kc12_292 : Cond.constantLong RX12 292 (1000000) ∈ lw_good := lw_good_t (i := 1450) (by decide +kernel) rfl
theorem kc12_294 : Cond.constantLong RX12 294 (-1000000) ∈ lw_good := lw_good_t (i := 1451) (by decide +kernel) rfl
theorem kc12_364 : Cond.constant RX12 364 (99999999) ∈ lw_good := lw_good_t (i := 1475) (by decide +kernel) rfl
theorem kc12_436 : Cond.constant RX12 436 (100000000) ∈ lw_good := lw_good_t (i := 1586) (by decide +kernel) rfl
theorem kc12_459 : Cond.constant RX12 459 (-1000000000) ∈ lw_good := lw_good_t (i := 1629) (by decide +kernel) rfl
