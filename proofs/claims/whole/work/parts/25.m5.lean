/-! ===== methods: X12_sortOf, X12_clause, X12_readText, X12_text, X12_fault, X12_by, X12_clip, X12_two, X12_isAsked, X12_ask, X12_named, X12_work, X12_clauseOf, X12_says, X12_takesOf, X12_haulsOf, X12_wearsOf, X12_flowsOf, X12_isFalling, X12_waiterOn, X12_go, X12_rope, X12_pour, X12_pass, X12_keep ===== -/
def f_X12_sortOf (M : Mem) : Int := if (f_X12_isWord (f_X12_w5 116 97 107 101 115) M) = 0 then (if (f_X12_isWord (f_X12_w5 104 97 117 108 115) M) = 0 then (if (f_X12_isWord (f_X12_w5 119 101 97 114 115) M) = 0 then (if (f_X12_isWord (f_X12_w5 102 108 111 119 115) M) = 0 then (if (f_X12_isWord (f_X12_w5 102 97 108 108 115) M) = 0 then (if (f_X12_isWord (f_X12_w4 115 116 101 112) M) = 0 then (if (f_X12_isWord (f_X12_w4 115 104 105 112) M) = 0 then (if (f_X12_isWord (f_X12_w4 104 111 117 114) M) = 0 then (if (f_X12_isWord (f_X12_w5 102 108 111 111 100) M) = 0 then (if (f_X12_isWord (f_X12_w5 114 97 105 115 101) M) = 0 then (if (f_X12_isWord (f_X12_w4 109 101 110 100) M) = 0 then (if (f_X12_isWord (f_X12_w4 98 105 110 100) M) = 0 then (-1) else 11) else 10) else 9) else 8) else 7) else 6) else 5) else 4) else 3) else 2) else 1) else 0
set_option maxRecDepth 100000 in
set_option maxHeartbeats 4000000 in
theorem e_X12_sortOf {g : Gm} {d : Nat} {M N : Mem} {v : Int} (hd : 4 ≤ d) (h : f_X12_sortOf M = v) : EvM g d mtX12_sortOf [vR 801] (sg (mx N M)) (0, 0) (vI v) (sg (mx N M)) := by
  unfold f_X12_sortOf at h
  refine EvM.of mkX12_sortOf.2.2.2.1 (Nat.le_of_ble_eq_true rfl) ?_
  change Ev g d mtX12_sortOf 0 [(0, vR 801)] [] (sg (mx N M)) (0, 0) (vI v) (sg (mx N M))
  refine ev_aload_n (pc := 0) 0 dX12_sortOf_0 rfl rfl ?_
  refine ev_bipush (pc := 1) (x := 116) dX12_sortOf_1 cb_116 ?_
  refine ev_bipush (pc := 3) (x := 97) dX12_sortOf_3 cb_97 ?_
  refine ev_bipush (pc := 5) (x := 107) dX12_sortOf_5 cb_107 ?_
  refine ev_bipush (pc := 7) (x := 101) dX12_sortOf_7 cb_101 ?_
  refine ev_bipush (pc := 9) (x := 115) dX12_sortOf_9 cb_115 ?_
  refine ev_cS (pc := 11) [vI 116, vI 97, vI 107, vI 101, vI 115] [vR 801] rfl mkX12_w5 ml12_160 msX12_w5 dX12_sortOf_11 rfl (Nat.le_of_ble_eq_true rfl) (by omega) rfl (e_X12_w5 (d := d - 1) (v := (f_X12_w5 116 97 107 101 115)) (by omega)  rfl) ?_
  refine ev_cV (pc := 14) [vL (f_X12_w5 116 97 107 101 115)] [] rfl mkX12_isWord ml12_219 mnX12_isWord dX12_sortOf_14 kd_801 (by omega) rfl (Nat.le_of_ble_eq_true rfl) (by omega) rfl (e_X12_isWord (d := d - 1) (v := (f_X12_isWord (f_X12_w5 116 97 107 101 115) M)) (by omega)  rfl) ?_
  refine ev_if_eq (pc := 17) (tgt := 22) dX12_sortOf_17 (by decide) (fun b1 => ?_) (fun b1 => ?_)
  · rw [if_pos b1] at h
    refine ev_aload_n (pc := 22) 0 dX12_sortOf_22 rfl rfl ?_
    refine ev_bipush (pc := 23) (x := 104) dX12_sortOf_23 cb_104 ?_
    refine ev_bipush (pc := 25) (x := 97) dX12_sortOf_25 cb_97 ?_
    refine ev_bipush (pc := 27) (x := 117) dX12_sortOf_27 cb_117 ?_
    refine ev_bipush (pc := 29) (x := 108) dX12_sortOf_29 cb_108 ?_
    refine ev_bipush (pc := 31) (x := 115) dX12_sortOf_31 cb_115 ?_
    refine ev_cS (pc := 33) [vI 104, vI 97, vI 117, vI 108, vI 115] [vR 801] rfl mkX12_w5 ml12_160 msX12_w5 dX12_sortOf_33 rfl (Nat.le_of_ble_eq_true rfl) (by omega) rfl (e_X12_w5 (d := d - 1) (v := (f_X12_w5 104 97 117 108 115)) (by omega)  rfl) ?_
    refine ev_cV (pc := 36) [vL (f_X12_w5 104 97 117 108 115)] [] rfl mkX12_isWord ml12_219 mnX12_isWord dX12_sortOf_36 kd_801 (by omega) rfl (Nat.le_of_ble_eq_true rfl) (by omega) rfl (e_X12_isWord (d := d - 1) (v := (f_X12_isWord (f_X12_w5 104 97 117 108 115) M)) (by omega)  rfl) ?_
    refine ev_if_eq (pc := 39) (tgt := 44) dX12_sortOf_39 (by decide) (fun b2 => ?_) (fun b2 => ?_)
    · rw [if_pos b2] at h
      refine ev_aload_n (pc := 44) 0 dX12_sortOf_44 rfl rfl ?_
      refine ev_bipush (pc := 45) (x := 119) dX12_sortOf_45 cb_119 ?_
      refine ev_bipush (pc := 47) (x := 101) dX12_sortOf_47 cb_101 ?_
      refine ev_bipush (pc := 49) (x := 97) dX12_sortOf_49 cb_97 ?_
      refine ev_bipush (pc := 51) (x := 114) dX12_sortOf_51 cb_114 ?_
      refine ev_bipush (pc := 53) (x := 115) dX12_sortOf_53 cb_115 ?_
      refine ev_cS (pc := 55) [vI 119, vI 101, vI 97, vI 114, vI 115] [vR 801] rfl mkX12_w5 ml12_160 msX12_w5 dX12_sortOf_55 rfl (Nat.le_of_ble_eq_true rfl) (by omega) rfl (e_X12_w5 (d := d - 1) (v := (f_X12_w5 119 101 97 114 115)) (by omega)  rfl) ?_
      refine ev_cV (pc := 58) [vL (f_X12_w5 119 101 97 114 115)] [] rfl mkX12_isWord ml12_219 mnX12_isWord dX12_sortOf_58 kd_801 (by omega) rfl (Nat.le_of_ble_eq_true rfl) (by omega) rfl (e_X12_isWord (d := d - 1) (v := (f_X12_isWord (f_X12_w5 119 101 97 114 115) M)) (by omega)  rfl) ?_
      refine ev_if_eq (pc := 61) (tgt := 66) dX12_sortOf_61 (by decide) (fun b3 => ?_) (fun b3 => ?_)
      · rw [if_pos b3] at h
        refine ev_aload_n (pc := 66) 0 dX12_sortOf_66 rfl rfl ?_
        refine ev_bipush (pc := 67) (x := 102) dX12_sortOf_67 cb_102 ?_
        refine ev_bipush (pc := 69) (x := 108) dX12_sortOf_69 cb_108 ?_
        refine ev_bipush (pc := 71) (x := 111) dX12_sortOf_71 cb_111 ?_
        refine ev_bipush (pc := 73) (x := 119) dX12_sortOf_73 cb_119 ?_
        refine ev_bipush (pc := 75) (x := 115) dX12_sortOf_75 cb_115 ?_
        refine ev_cS (pc := 77) [vI 102, vI 108, vI 111, vI 119, vI 115] [vR 801] rfl mkX12_w5 ml12_160 msX12_w5 dX12_sortOf_77 rfl (Nat.le_of_ble_eq_true rfl) (by omega) rfl (e_X12_w5 (d := d - 1) (v := (f_X12_w5 102 108 111 119 115)) (by omega)  rfl) ?_
        refine ev_cV (pc := 80) [vL (f_X12_w5 102 108 111 119 115)] [] rfl mkX12_isWord ml12_219 mnX12_isWord dX12_sortOf_80 kd_801 (by omega) rfl (Nat.le_of_ble_eq_true rfl) (by omega) rfl (e_X12_isWord (d := d - 1) (v := (f_X12_isWord (f_X12_w5 102 108 111 119 115) M)) (by omega)  rfl) ?_
        refine ev_if_eq (pc := 83) (tgt := 88) dX12_sortOf_83 (by decide) (fun b4 => ?_) (fun b4 => ?_)
        · rw [if_pos b4] at h
          refine ev_aload_n (pc := 88) 0 dX12_sortOf_88 rfl rfl ?_
          refine ev_bipush (pc := 89) (x := 102) dX12_sortOf_89 cb_102 ?_
          refine ev_bipush (pc := 91) (x := 97) dX12_sortOf_91 cb_97 ?_
          refine ev_bipush (pc := 93) (x := 108) dX12_sortOf_93 cb_108 ?_
          refine ev_bipush (pc := 95) (x := 108) dX12_sortOf_95 cb_108 ?_
          refine ev_bipush (pc := 97) (x := 115) dX12_sortOf_97 cb_115 ?_
          refine ev_cS (pc := 99) [vI 102, vI 97, vI 108, vI 108, vI 115] [vR 801] rfl mkX12_w5 ml12_160 msX12_w5 dX12_sortOf_99 rfl (Nat.le_of_ble_eq_true rfl) (by omega) rfl (e_X12_w5 (d := d - 1) (v := (f_X12_w5 102 97 108 108 115)) (by omega)  rfl) ?_
          refine ev_cV (pc := 102) [vL (f_X12_w5 102 97 108 108 115)] [] rfl mkX12_isWord ml12_219 mnX12_isWord dX12_sortOf_102 kd_801 (by omega) rfl (Nat.le_of_ble_eq_true rfl) (by omega) rfl (e_X12_isWord (d := d - 1) (v := (f_X12_isWord (f_X12_w5 102 97 108 108 115) M)) (by omega)  rfl) ?_
          refine ev_if_eq (pc := 105) (tgt := 110) dX12_sortOf_105 (by decide) (fun b5 => ?_) (fun b5 => ?_)
          · rw [if_pos b5] at h
            refine ev_aload_n (pc := 110) 0 dX12_sortOf_110 rfl rfl ?_
            refine ev_bipush (pc := 111) (x := 115) dX12_sortOf_111 cb_115 ?_
            refine ev_bipush (pc := 113) (x := 116) dX12_sortOf_113 cb_116 ?_
            refine ev_bipush (pc := 115) (x := 101) dX12_sortOf_115 cb_101 ?_
            refine ev_bipush (pc := 117) (x := 112) dX12_sortOf_117 cb_112 ?_
            refine ev_cS (pc := 119) [vI 115, vI 116, vI 101, vI 112] [vR 801] rfl mkX12_w4 ml12_156 msX12_w4 dX12_sortOf_119 rfl (Nat.le_of_ble_eq_true rfl) (by omega) rfl (e_X12_w4 (d := d - 1) (v := (f_X12_w4 115 116 101 112)) (by omega)  rfl) ?_
            refine ev_cV (pc := 122) [vL (f_X12_w4 115 116 101 112)] [] rfl mkX12_isWord ml12_219 mnX12_isWord dX12_sortOf_122 kd_801 (by omega) rfl (Nat.le_of_ble_eq_true rfl) (by omega) rfl (e_X12_isWord (d := d - 1) (v := (f_X12_isWord (f_X12_w4 115 116 101 112) M)) (by omega)  rfl) ?_
            refine ev_if_eq (pc := 125) (tgt := 130) dX12_sortOf_125 (by decide) (fun b6 => ?_) (fun b6 => ?_)
            · rw [if_pos b6] at h
              refine ev_aload_n (pc := 130) 0 dX12_sortOf_130 rfl rfl ?_
              refine ev_bipush (pc := 131) (x := 115) dX12_sortOf_131 cb_115 ?_
              refine ev_bipush (pc := 133) (x := 104) dX12_sortOf_133 cb_104 ?_
              refine ev_bipush (pc := 135) (x := 105) dX12_sortOf_135 cb_105 ?_
              refine ev_bipush (pc := 137) (x := 112) dX12_sortOf_137 cb_112 ?_
              refine ev_cS (pc := 139) [vI 115, vI 104, vI 105, vI 112] [vR 801] rfl mkX12_w4 ml12_156 msX12_w4 dX12_sortOf_139 rfl (Nat.le_of_ble_eq_true rfl) (by omega) rfl (e_X12_w4 (d := d - 1) (v := (f_X12_w4 115 104 105 112)) (by omega)  rfl) ?_
              refine ev_cV (pc := 142) [vL (f_X12_w4 115 104 105 112)] [] rfl mkX12_isWord ml12_219 mnX12_isWord dX12_sortOf_142 kd_801 (by omega) rfl (Nat.le_of_ble_eq_true rfl) (by omega) rfl (e_X12_isWord (d := d - 1) (v := (f_X12_isWord (f_X12_w4 115 104 105 112) M)) (by omega)  rfl) ?_
              refine ev_if_eq (pc := 145) (tgt := 151) dX12_sortOf_145 (by decide) (fun b7 => ?_) (fun b7 => ?_)
              · rw [if_pos b7] at h
                refine ev_aload_n (pc := 151) 0 dX12_sortOf_151 rfl rfl ?_
                refine ev_bipush (pc := 152) (x := 104) dX12_sortOf_152 cb_104 ?_
                refine ev_bipush (pc := 154) (x := 111) dX12_sortOf_154 cb_111 ?_
                refine ev_bipush (pc := 156) (x := 117) dX12_sortOf_156 cb_117 ?_
                refine ev_bipush (pc := 158) (x := 114) dX12_sortOf_158 cb_114 ?_
                refine ev_cS (pc := 160) [vI 104, vI 111, vI 117, vI 114] [vR 801] rfl mkX12_w4 ml12_156 msX12_w4 dX12_sortOf_160 rfl (Nat.le_of_ble_eq_true rfl) (by omega) rfl (e_X12_w4 (d := d - 1) (v := (f_X12_w4 104 111 117 114)) (by omega)  rfl) ?_
                refine ev_cV (pc := 163) [vL (f_X12_w4 104 111 117 114)] [] rfl mkX12_isWord ml12_219 mnX12_isWord dX12_sortOf_163 kd_801 (by omega) rfl (Nat.le_of_ble_eq_true rfl) (by omega) rfl (e_X12_isWord (d := d - 1) (v := (f_X12_isWord (f_X12_w4 104 111 117 114) M)) (by omega)  rfl) ?_
                refine ev_if_eq (pc := 166) (tgt := 172) dX12_sortOf_166 (by decide) (fun b8 => ?_) (fun b8 => ?_)
                · rw [if_pos b8] at h
                  refine ev_aload_n (pc := 172) 0 dX12_sortOf_172 rfl rfl ?_
                  refine ev_bipush (pc := 173) (x := 102) dX12_sortOf_173 cb_102 ?_
                  refine ev_bipush (pc := 175) (x := 108) dX12_sortOf_175 cb_108 ?_
                  refine ev_bipush (pc := 177) (x := 111) dX12_sortOf_177 cb_111 ?_
                  refine ev_bipush (pc := 179) (x := 111) dX12_sortOf_179 cb_111 ?_
                  refine ev_bipush (pc := 181) (x := 100) dX12_sortOf_181 cb_100 ?_
                  refine ev_cS (pc := 183) [vI 102, vI 108, vI 111, vI 111, vI 100] [vR 801] rfl mkX12_w5 ml12_160 msX12_w5 dX12_sortOf_183 rfl (Nat.le_of_ble_eq_true rfl) (by omega) rfl (e_X12_w5 (d := d - 1) (v := (f_X12_w5 102 108 111 111 100)) (by omega)  rfl) ?_
                  refine ev_cV (pc := 186) [vL (f_X12_w5 102 108 111 111 100)] [] rfl mkX12_isWord ml12_219 mnX12_isWord dX12_sortOf_186 kd_801 (by omega) rfl (Nat.le_of_ble_eq_true rfl) (by omega) rfl (e_X12_isWord (d := d - 1) (v := (f_X12_isWord (f_X12_w5 102 108 111 111 100) M)) (by omega)  rfl) ?_
                  refine ev_if_eq (pc := 189) (tgt := 195) dX12_sortOf_189 (by decide) (fun b9 => ?_) (fun b9 => ?_)
                  · rw [if_pos b9] at h
                    refine ev_aload_n (pc := 195) 0 dX12_sortOf_195 rfl rfl ?_
                    refine ev_bipush (pc := 196) (x := 114) dX12_sortOf_196 cb_114 ?_
                    refine ev_bipush (pc := 198) (x := 97) dX12_sortOf_198 cb_97 ?_
                    refine ev_bipush (pc := 200) (x := 105) dX12_sortOf_200 cb_105 ?_
                    refine ev_bipush (pc := 202) (x := 115) dX12_sortOf_202 cb_115 ?_
                    refine ev_bipush (pc := 204) (x := 101) dX12_sortOf_204 cb_101 ?_
                    refine ev_cS (pc := 206) [vI 114, vI 97, vI 105, vI 115, vI 101] [vR 801] rfl mkX12_w5 ml12_160 msX12_w5 dX12_sortOf_206 rfl (Nat.le_of_ble_eq_true rfl) (by omega) rfl (e_X12_w5 (d := d - 1) (v := (f_X12_w5 114 97 105 115 101)) (by omega)  rfl) ?_
                    refine ev_cV (pc := 209) [vL (f_X12_w5 114 97 105 115 101)] [] rfl mkX12_isWord ml12_219 mnX12_isWord dX12_sortOf_209 kd_801 (by omega) rfl (Nat.le_of_ble_eq_true rfl) (by omega) rfl (e_X12_isWord (d := d - 1) (v := (f_X12_isWord (f_X12_w5 114 97 105 115 101) M)) (by omega)  rfl) ?_
                    refine ev_if_eq (pc := 212) (tgt := 218) dX12_sortOf_212 (by decide) (fun b10 => ?_) (fun b10 => ?_)
                    · rw [if_pos b10] at h
                      refine ev_aload_n (pc := 218) 0 dX12_sortOf_218 rfl rfl ?_
                      refine ev_bipush (pc := 219) (x := 109) dX12_sortOf_219 cb_109 ?_
                      refine ev_bipush (pc := 221) (x := 101) dX12_sortOf_221 cb_101 ?_
                      refine ev_bipush (pc := 223) (x := 110) dX12_sortOf_223 cb_110 ?_
                      refine ev_bipush (pc := 225) (x := 100) dX12_sortOf_225 cb_100 ?_
                      refine ev_cS (pc := 227) [vI 109, vI 101, vI 110, vI 100] [vR 801] rfl mkX12_w4 ml12_156 msX12_w4 dX12_sortOf_227 rfl (Nat.le_of_ble_eq_true rfl) (by omega) rfl (e_X12_w4 (d := d - 1) (v := (f_X12_w4 109 101 110 100)) (by omega)  rfl) ?_
                      refine ev_cV (pc := 230) [vL (f_X12_w4 109 101 110 100)] [] rfl mkX12_isWord ml12_219 mnX12_isWord dX12_sortOf_230 kd_801 (by omega) rfl (Nat.le_of_ble_eq_true rfl) (by omega) rfl (e_X12_isWord (d := d - 1) (v := (f_X12_isWord (f_X12_w4 109 101 110 100) M)) (by omega)  rfl) ?_
                      refine ev_if_eq (pc := 233) (tgt := 241) dX12_sortOf_233 (by decide) (fun b11 => ?_) (fun b11 => ?_)
                      · rw [if_pos b11] at h
                        refine ev_aload_n (pc := 241) 0 dX12_sortOf_241 rfl rfl ?_
                        refine ev_bipush (pc := 242) (x := 98) dX12_sortOf_242 cb_98 ?_
                        refine ev_bipush (pc := 244) (x := 105) dX12_sortOf_244 cb_105 ?_
                        refine ev_bipush (pc := 246) (x := 110) dX12_sortOf_246 cb_110 ?_
                        refine ev_bipush (pc := 248) (x := 100) dX12_sortOf_248 cb_100 ?_
                        refine ev_cS (pc := 250) [vI 98, vI 105, vI 110, vI 100] [vR 801] rfl mkX12_w4 ml12_156 msX12_w4 dX12_sortOf_250 rfl (Nat.le_of_ble_eq_true rfl) (by omega) rfl (e_X12_w4 (d := d - 1) (v := (f_X12_w4 98 105 110 100)) (by omega)  rfl) ?_
                        refine ev_cV (pc := 253) [vL (f_X12_w4 98 105 110 100)] [] rfl mkX12_isWord ml12_219 mnX12_isWord dX12_sortOf_253 kd_801 (by omega) rfl (Nat.le_of_ble_eq_true rfl) (by omega) rfl (e_X12_isWord (d := d - 1) (v := (f_X12_isWord (f_X12_w4 98 105 110 100) M)) (by omega)  rfl) ?_
                        refine ev_if_eq (pc := 256) (tgt := 264) dX12_sortOf_256 (by decide) (fun b12 => ?_) (fun b12 => ?_)
                        · rw [if_pos b12] at h
                          refine ev_iconst (pc := 264) (x := (-1)) dX12_sortOf_264 ci_m1 ?_
                          cases h
                          exact ev_iret (pc := 265) dX12_sortOf_265 rfl
                        · rw [if_neg b12] at h
                          refine ev_bipush (pc := 259) (x := 11) dX12_sortOf_259 cb_11 ?_
                          refine ev_goto (pc := 261) (tgt := 265) dX12_sortOf_261 (by decide) ?_
                          cases h
                          exact ev_iret (pc := 265) dX12_sortOf_265 rfl
                      · rw [if_neg b11] at h
                        refine ev_bipush (pc := 236) (x := 10) dX12_sortOf_236 cb_10 ?_
                        refine ev_goto (pc := 238) (tgt := 265) dX12_sortOf_238 (by decide) ?_
                        cases h
                        exact ev_iret (pc := 265) dX12_sortOf_265 rfl
                    · rw [if_neg b10] at h
                      refine ev_bipush (pc := 215) (x := 9) dX12_sortOf_215 cb_9 ?_
                      cases h
                      exact ev_iret (pc := 217) dX12_sortOf_217 rfl
                  · rw [if_neg b9] at h
                    refine ev_bipush (pc := 192) (x := 8) dX12_sortOf_192 cb_8 ?_
                    cases h
                    exact ev_iret (pc := 194) dX12_sortOf_194 rfl
                · rw [if_neg b8] at h
                  refine ev_bipush (pc := 169) (x := 7) dX12_sortOf_169 cb_7 ?_
                  cases h
                  exact ev_iret (pc := 171) dX12_sortOf_171 rfl
              · rw [if_neg b7] at h
                refine ev_bipush (pc := 148) (x := 6) dX12_sortOf_148 cb_6 ?_
                cases h
                exact ev_iret (pc := 150) dX12_sortOf_150 rfl
            · rw [if_neg b6] at h
              refine ev_iconst (pc := 128) (x := 5) dX12_sortOf_128 ci_5 ?_
              cases h
              exact ev_iret (pc := 129) dX12_sortOf_129 rfl
          · rw [if_neg b5] at h
            refine ev_iconst (pc := 108) (x := 4) dX12_sortOf_108 ci_4 ?_
            cases h
            exact ev_iret (pc := 109) dX12_sortOf_109 rfl
        · rw [if_neg b4] at h
          refine ev_iconst (pc := 86) (x := 3) dX12_sortOf_86 ci_3 ?_
          cases h
          exact ev_iret (pc := 87) dX12_sortOf_87 rfl
      · rw [if_neg b3] at h
        refine ev_iconst (pc := 64) (x := 2) dX12_sortOf_64 ci_2 ?_
        cases h
        exact ev_iret (pc := 65) dX12_sortOf_65 rfl
    · rw [if_neg b2] at h
      refine ev_iconst (pc := 42) (x := 1) dX12_sortOf_42 ci_1 ?_
      cases h
      exact ev_iret (pc := 43) dX12_sortOf_43 rfl
  · rw [if_neg b1] at h
    refine ev_iconst (pc := 20) (x := 0) dX12_sortOf_20 ci_0 ?_
    cases h
    exact ev_iret (pc := 21) dX12_sortOf_21 rfl
def f_X12_clause_J65 (n : Nat) (x1 x2 : Int) (M : Mem) : Option (Int × Mem) := lt (upM M 801 14 x1) fun M6 => (f_X12_nextToken n M6).bind fun q7 => ck (0 ≤ (wI ((wI ((q7 801 12) + 1)) + (wI (5 * x2)))) ∧ (wI ((wI ((q7 801 12) + 1)) + (wI (5 * x2)))) < 2916) (lt (upM q7 804 (wI ((wI ((q7 801 12) + 1)) + (wI (5 * x2)))) x1) fun M9 => (f_X12_body n x1 (wI ((wI ((q7 801 12) + 1)) + (wI (5 * x2)))) M9).bind fun q10 => if q10.1 = 0 then (ck (0 ≤ (q10.2 801 12) ∧ (q10.2 801 12) < 2916) (lt (upM q10.2 804 (q10.2 801 12) (wI ((q10.2 804 (q10.2 801 12)) + 1))) fun M13 => if (M13 801 9) = 59 then ((f_X12_nextToken n M13).bind fun q15 => some (0, q15)) else (some (1, M13)))) else (some (q10.1, q10.2)))
set_option maxRecDepth 100000 in
set_option maxHeartbeats 4000000 in
theorem e_X12_clause_J65 {g : Gm} {d : Nat} {n : Nat} {x1 x2 : Int} {M N : Mem} {v : Int} {M' : Mem} (hd : 11 ≤ d) (h : f_X12_clause_J65 n x1 x2 M = some (v, M')) : Ev g d mtX12_clause 65 [(0, vR 801), (1, vI x1), (2, vI x2)] [] (sg (mx N M)) (0, 0) (vI v) (sg (mx N M')) := by
  unfold f_X12_clause_J65 at h
  refine ev_aload_n (pc := 65) 0 dX12_clause_65 rfl rfl ?_
  refine ev_iload_n (pc := 66) 1 dX12_clause_66 rfl rfl ?_
  obtain ⟨M6, eM6, h⟩ := lt_some h
  refine ev_putIr (pc := 67) fl12_174 rfl dX12_clause_67 kd_801 (by omega) (by omega) eM6 ?_
  refine ev_aload_n (pc := 70) 0 dX12_clause_70 rfl rfl ?_
  obtain ⟨q7, hq7, h⟩ := bd h
  refine ev_cV0 (pc := 71) [] [] rfl mkX12_nextToken ml12_200 mnX12_nextToken dX12_clause_71 kd_801 (by omega) rfl (Nat.le_of_ble_eq_true rfl) (by omega) (e_X12_nextToken (d := d - 1) (M' := q7) (by omega)  hq7) ?_
  refine ev_aload_n (pc := 74) 0 dX12_clause_74 rfl rfl ?_
  refine ev_getIr (pc := 75) fl12_164 rfl dX12_clause_75 rfl kd_801 (by omega) (by omega) 12 rfl ?_
  refine ev_iconst (pc := 78) (x := 1) dX12_clause_78 ci_1 ?_
  refine ev_iadd (pc := 79) dX12_clause_79 ?_
  refine ev_iconst (pc := 80) (x := 5) dX12_clause_80 ci_5 ?_
  refine ev_iload_n (pc := 81) 2 dX12_clause_81 rfl rfl ?_
  refine ev_imul (pc := 82) dX12_clause_82 ?_
  refine ev_iadd (pc := 83) dX12_clause_83 ?_
  refine ev_istore_n (pc := 84) (il' := [(3, vI (wI ((wI ((q7 801 12) + 1)) + (wI (5 * x2))))), (0, vR 801), (1, vI x1), (2, vI x2)]) dX12_clause_84 rfl (Nat.le_of_ble_eq_true rfl) rfl ?_
  refine ev_aload_n (pc := 85) 1 dX12_clause_85 rfl rfl ?_
  refine ev_getR (pc := 86) fl12_16 rfl dX12_clause_86 rfl kd_801 (by omega) (rf_801_2 _) ?_
  refine ev_iload_n (pc := 89) 0 dX12_clause_89 rfl rfl ?_
  refine ev_iload_n (pc := 90) 2 dX12_clause_90 rfl rfl ?_
  obtain ⟨c8, h⟩ := ck_some h
  obtain ⟨M9, eM9, h⟩ := lt_some h
  refine ev_istr (pc := 91) dX12_clause_91 kd_804 (by omega) (by omega) c8.1 c8.2 eM9 ?_
  refine ev_aload_n (pc := 92) 1 dX12_clause_92 rfl rfl ?_
  refine ev_iload_n (pc := 93) 2 dX12_clause_93 rfl rfl ?_
  refine ev_iload_n (pc := 94) 0 dX12_clause_94 rfl rfl ?_
  obtain ⟨q10, hq10, h⟩ := bd h
  refine ev_cV (pc := 95) [vI x1, vI (wI ((wI ((q7 801 12) + 1)) + (wI (5 * x2))))] [] rfl mkX12_body ml12_283 mnX12_body dX12_clause_95 kd_801 (by omega) rfl (Nat.le_of_ble_eq_true rfl) (by omega) rfl (e_X12_body (d := d - 1) (v := q10.1) (M' := q10.2) (by omega)  hq10) ?_
  refine ev_istore (pc := 98) (il' := [(4, vI q10.1), (3, vI (wI ((wI ((q7 801 12) + 1)) + (wI (5 * x2))))), (0, vR 801), (1, vI x1), (2, vI x2)]) dX12_clause_98 (Nat.le_of_ble_eq_true rfl) rfl ?_
  refine ev_iload (pc := 100) 0 dX12_clause_100 rfl ?_
  refine ev_if_eq (pc := 102) (tgt := 108) dX12_clause_102 (by decide) (fun b11 => ?_) (fun b11 => ?_)
  · rw [if_pos b11] at h
    refine ev_aload_n (pc := 108) 2 dX12_clause_108 rfl rfl ?_
    refine ev_getR (pc := 109) fl12_16 rfl dX12_clause_109 rfl kd_801 (by omega) (rf_801_2 _) ?_
    refine ev_aload_n (pc := 112) 2 dX12_clause_112 rfl rfl ?_
    refine ev_getIr (pc := 113) fl12_164 rfl dX12_clause_113 rfl kd_801 (by omega) (by omega) 12 rfl ?_
    refine ev_dup2 (pc := 116) rfl rfl dX12_clause_116 ?_
    obtain ⟨c12, h⟩ := ck_some h
    refine ev_ildr (pc := 117) dX12_clause_117 kd_804 (by omega) (by omega) c12.1 c12.2 ?_
    refine ev_iconst (pc := 118) (x := 1) dX12_clause_118 ci_1 ?_
    refine ev_iadd (pc := 119) dX12_clause_119 ?_
    obtain ⟨M13, eM13, h⟩ := lt_some h
    refine ev_istr (pc := 120) dX12_clause_120 kd_804 (by omega) (by omega) c12.1 c12.2 eM13 ?_
    refine ev_aload_n (pc := 121) 2 dX12_clause_121 rfl rfl ?_
    refine ev_getIr (pc := 122) fl12_126 rfl dX12_clause_122 rfl kd_801 (by omega) (by omega) 9 rfl ?_
    refine ev_bipush (pc := 125) (x := 59) dX12_clause_125 cb_59 ?_
    refine ev_icmp_eq (pc := 127) (tgt := 132) dX12_clause_127 (by decide) (fun b14 => ?_) (fun b14 => ?_)
    · rw [if_pos b14] at h
      refine ev_aload_n (pc := 132) 2 dX12_clause_132 rfl rfl ?_
      obtain ⟨q15, hq15, h⟩ := bd h
      refine ev_cV0 (pc := 133) [] [] rfl mkX12_nextToken ml12_200 mnX12_nextToken dX12_clause_133 kd_801 (by omega) rfl (Nat.le_of_ble_eq_true rfl) (by omega) (e_X12_nextToken (d := d - 1) (M' := q15) (by omega)  hq15) ?_
      refine ev_iconst (pc := 136) (x := 0) dX12_clause_136 ci_0 ?_
      cases h
      exact ev_iret (pc := 137) dX12_clause_137 rfl
    · rw [if_neg b14] at h
      refine ev_iconst (pc := 130) (x := 1) dX12_clause_130 ci_1 ?_
      cases h
      exact ev_iret (pc := 131) dX12_clause_131 rfl
  · rw [if_neg b11] at h
    refine ev_iload (pc := 105) 0 dX12_clause_105 rfl ?_
    cases h
    exact ev_iret (pc := 107) dX12_clause_107 rfl
def f_X12_clause_J29 (n : Nat) (x1 : Int) (M : Mem) : Option (Int × Mem) := ck (0 ≤ (M 801 12) ∧ (M 801 12) < 2916) (if (M 804 (M 801 12)) ≠ 24 then (if 4 < x1 then (f_X12_clause_J65 n x1 (M 804 (M 801 12)) M) else (lt (upM M 801 20 (bOr (M 801 20) (bShl 1 x1))) fun M16 => f_X12_clause_J65 n x1 (M 804 (M 801 12)) M16)) else (some (6, M)))
set_option maxRecDepth 100000 in
set_option maxHeartbeats 4000000 in
theorem e_X12_clause_J29 {g : Gm} {d : Nat} {n : Nat} {x1 : Int} {M N : Mem} {v : Int} {M' : Mem} (hd : 11 ≤ d) (h : f_X12_clause_J29 n x1 M = some (v, M')) : Ev g d mtX12_clause 29 [(0, vR 801), (1, vI x1)] [] (sg (mx N M)) (0, 0) (vI v) (sg (mx N M')) := by
  unfold f_X12_clause_J29 at h
  refine ev_aload_n (pc := 29) 0 dX12_clause_29 rfl rfl ?_
  refine ev_getR (pc := 30) fl12_16 rfl dX12_clause_30 rfl kd_801 (by omega) (rf_801_2 _) ?_
  refine ev_aload_n (pc := 33) 0 dX12_clause_33 rfl rfl ?_
  refine ev_getIr (pc := 34) fl12_164 rfl dX12_clause_34 rfl kd_801 (by omega) (by omega) 12 rfl ?_
  obtain ⟨c3, h⟩ := ck_some h
  refine ev_ildr (pc := 37) dX12_clause_37 kd_804 (by omega) (by omega) c3.1 c3.2 ?_
  refine ev_istore_n (pc := 38) (il' := [(2, vI (M 804 (M 801 12))), (0, vR 801), (1, vI x1)]) dX12_clause_38 rfl (Nat.le_of_ble_eq_true rfl) rfl ?_
  refine ev_iload_n (pc := 39) 0 dX12_clause_39 rfl rfl ?_
  refine ev_bipush (pc := 40) (x := 24) dX12_clause_40 cb_24 ?_
  refine ev_icmp_ne (pc := 42) (tgt := 48) dX12_clause_42 (by decide) (fun b4 => ?_) (fun b4 => ?_)
  · rw [if_pos b4] at h
    refine ev_iload_n (pc := 48) 2 dX12_clause_48 rfl rfl ?_
    refine ev_iconst (pc := 49) (x := 4) dX12_clause_49 ci_4 ?_
    refine ev_icmp_gt (pc := 50) (tgt := 65) dX12_clause_50 (by decide) (fun b5 => ?_) (fun b5 => ?_)
    · rw [if_pos b5] at h
      refine ev_pick [1, 2, 0] rfl ?_
      exact e_X12_clause_J65 hd  h
    · rw [if_neg b5] at h
      refine ev_aload_n (pc := 53) 1 dX12_clause_53 rfl rfl ?_
      refine ev_dup (pc := 54) rfl dX12_clause_54 ?_
      refine ev_getIr (pc := 55) fl12_276 rfl dX12_clause_55 rfl kd_801 (by omega) (by omega) 20 rfl ?_
      refine ev_iconst (pc := 58) (x := 1) dX12_clause_58 ci_1 ?_
      refine ev_iload_n (pc := 59) 2 dX12_clause_59 rfl rfl ?_
      refine ev_ishl (pc := 60) dX12_clause_60 ?_
      refine ev_ior (pc := 61) dX12_clause_61 ?_
      obtain ⟨M16, eM16, h⟩ := lt_some h
      refine ev_putIr (pc := 62) fl12_276 rfl dX12_clause_62 kd_801 (by omega) (by omega) eM16 ?_
      refine ev_pick [1, 2, 0] rfl ?_
      exact e_X12_clause_J65 hd  h
  · rw [if_neg b4] at h
    refine ev_bipush (pc := 45) (x := 6) dX12_clause_45 cb_6 ?_
    cases h
    exact ev_iret (pc := 47) dX12_clause_47 rfl
def f_X12_clause (n : Nat) (M : Mem) : Option (Int × Mem) := if 0 ≤ (f_X12_sortOf M) then (if 4 < (f_X12_sortOf M) then (f_X12_clause_J29 n (f_X12_sortOf M) M) else (if (f_X12_has (M 801 20) (f_X12_sortOf M)) = 0 then (f_X12_clause_J29 n (f_X12_sortOf M) M) else (some (4, M)))) else (some (1, M))
set_option maxRecDepth 100000 in
set_option maxHeartbeats 4000000 in
theorem e_X12_clause {g : Gm} {d : Nat} {n : Nat} {M N : Mem} {v : Int} {M' : Mem} (hd : 11 ≤ d) (h : f_X12_clause n M = some (v, M')) : EvM g d mtX12_clause [vR 801] (sg (mx N M)) (0, 0) (vI v) (sg (mx N M')) := by
  unfold f_X12_clause at h
  refine EvM.of mkX12_clause.2.2.2.1 (Nat.le_of_ble_eq_true rfl) ?_
  change Ev g d mtX12_clause 0 [(0, vR 801)] [] (sg (mx N M)) (0, 0) (vI v) (sg (mx N M'))
  refine ev_aload_n (pc := 0) 0 dX12_clause_0 rfl rfl ?_
  refine ev_cV (pc := 1) [] [] rfl mkX12_sortOf ml12_273 mnX12_sortOf dX12_clause_1 kd_801 (by omega) rfl (Nat.le_of_ble_eq_true rfl) (by omega) rfl (e_X12_sortOf (d := d - 1) (v := (f_X12_sortOf M)) (by omega)  rfl) ?_
  refine ev_istore_n (pc := 4) (il' := [(1, vI (f_X12_sortOf M)), (0, vR 801)]) dX12_clause_4 rfl (Nat.le_of_ble_eq_true rfl) rfl ?_
  refine ev_iload_n (pc := 5) 0 dX12_clause_5 rfl rfl ?_
  refine ev_if_ge (pc := 6) (tgt := 11) dX12_clause_6 (by decide) (fun b1 => ?_) (fun b1 => ?_)
  · rw [if_pos b1] at h
    refine ev_iload_n (pc := 11) 0 dX12_clause_11 rfl rfl ?_
    refine ev_iconst (pc := 12) (x := 4) dX12_clause_12 ci_4 ?_
    refine ev_icmp_gt (pc := 13) (tgt := 29) dX12_clause_13 (by decide) (fun b2 => ?_) (fun b2 => ?_)
    · rw [if_pos b2] at h
      refine ev_pick [1, 0] rfl ?_
      exact e_X12_clause_J29 hd  h
    · rw [if_neg b2] at h
      refine ev_aload_n (pc := 16) 1 dX12_clause_16 rfl rfl ?_
      refine ev_getIr (pc := 17) fl12_276 rfl dX12_clause_17 rfl kd_801 (by omega) (by omega) 20 rfl ?_
      refine ev_iload_n (pc := 20) 0 dX12_clause_20 rfl rfl ?_
      refine ev_cS (pc := 21) [vI (M 801 20), vI (f_X12_sortOf M)] [] rfl mkX12_has ml12_279 msX12_has dX12_clause_21 rfl (Nat.le_of_ble_eq_true rfl) (by omega) rfl (e_X12_has (d := d - 1) (v := (f_X12_has (M 801 20) (f_X12_sortOf M))) (by omega)  rfl) ?_
      refine ev_if_eq (pc := 24) (tgt := 29) dX12_clause_24 (by decide) (fun b17 => ?_) (fun b17 => ?_)
      · rw [if_pos b17] at h
        refine ev_pick [1, 0] rfl ?_
        exact e_X12_clause_J29 hd  h
      · rw [if_neg b17] at h
        refine ev_iconst (pc := 27) (x := 4) dX12_clause_27 ci_4 ?_
        cases h
        exact ev_iret (pc := 28) dX12_clause_28 rfl
  · rw [if_neg b1] at h
    refine ev_iconst (pc := 9) (x := 1) dX12_clause_9 ci_1 ?_
    cases h
    exact ev_iret (pc := 10) dX12_clause_10 rfl
def f_X12_readText_L43 : Nat → Mem → Option (Int × Mem)
  | 0, _ => none
  | n + 1, M => if (M 801 9) = 0 then (some (0, M)) else ((f_X12_clause n M).bind fun q9 => if q9.1 = 0 then (f_X12_readText_L43 n q9.2) else (some (q9.1, q9.2)))
set_option maxRecDepth 100000 in
set_option maxHeartbeats 4000000 in
theorem e_X12_readText_L43 {g : Gm} {d : Nat} {N : Mem} (hd : 12 ≤ d) : ∀ (n : Nat) {M : Mem} {v : Int} {M' : Mem}, f_X12_readText_L43 n M = some (v, M') → Ev g d mtX12_readText 43 [(0, vR 801)] [] (sg (mx N M)) (0, 0) (vI v) (sg (mx N M')) := by
  intro n
  induction n with
  | zero =>
    intro M v M' h
    rw [f_X12_readText_L43.eq_1] at h
    cases h
  | succ n ih =>
    intro M v M' h
    rw [f_X12_readText_L43.eq_2] at h
    refine ev_aload_n (pc := 43) 0 dX12_readText_43 rfl rfl ?_
    refine ev_getIr (pc := 44) fl12_126 rfl dX12_readText_44 rfl kd_801 (by omega) (by omega) 9 rfl ?_
    refine ev_if_eq (pc := 47) (tgt := 64) dX12_readText_47 (by decide) (fun b8 => ?_) (fun b8 => ?_)
    · rw [if_pos b8] at h
      refine ev_iconst (pc := 64) (x := 0) dX12_readText_64 ci_0 ?_
      cases h
      exact ev_iret (pc := 65) dX12_readText_65 rfl
    · rw [if_neg b8] at h
      refine ev_aload_n (pc := 50) 0 dX12_readText_50 rfl rfl ?_
      obtain ⟨q9, hq9, h⟩ := bd h
      refine ev_cV (pc := 51) [] [] rfl mkX12_clause ml12_286 mnX12_clause dX12_readText_51 kd_801 (by omega) rfl (Nat.le_of_ble_eq_true rfl) (by omega) rfl (e_X12_clause (d := d - 1) (v := q9.1) (M' := q9.2) (by omega)  hq9) ?_
      refine ev_istore_n (pc := 54) (il' := [(1, vI q9.1), (0, vR 801)]) dX12_readText_54 rfl (Nat.le_of_ble_eq_true rfl) rfl ?_
      refine ev_iload_n (pc := 55) 0 dX12_readText_55 rfl rfl ?_
      refine ev_if_eq (pc := 56) (tgt := 61) dX12_readText_56 (by decide) (fun b10 => ?_) (fun b10 => ?_)
      · rw [if_pos b10] at h
        refine ev_goto (pc := 61) (tgt := 43) dX12_readText_61 (by decide) ?_
        refine ev_pick [1] rfl ?_
        exact ih h
      · rw [if_neg b10] at h
        refine ev_iload_n (pc := 59) 0 dX12_readText_59 rfl rfl ?_
        cases h
        exact ev_iret (pc := 60) dX12_readText_60 rfl
def f_X12_readText (n : Nat) (M : Mem) : Option (Int × Mem) := lt (upM M 801 12 (wI (729 * (M 802 2)))) fun M1 => ck (0 ≤ (M1 801 12) ∧ (M1 801 12) < 2916) (lt (upM M1 804 (M1 801 12) 0) fun M3 => lt (upM M3 801 13 0) fun M4 => lt (upM M4 801 20 0) fun M5 => lt (upM M5 801 7 0) fun M6 => (f_X12_nextToken n M6).bind fun q7 => f_X12_readText_L43 n q7)
set_option maxRecDepth 100000 in
set_option maxHeartbeats 4000000 in
theorem e_X12_readText {g : Gm} {d : Nat} {n : Nat} {M N : Mem} {v : Int} {M' : Mem} (hd : 12 ≤ d) (h : f_X12_readText n M = some (v, M')) : EvM g d mtX12_readText [vR 801] (sg (mx N M)) (0, 0) (vI v) (sg (mx N M')) := by
  unfold f_X12_readText at h
  refine EvM.of mkX12_readText.2.2.2.1 (Nat.le_of_ble_eq_true rfl) ?_
  change Ev g d mtX12_readText 0 [(0, vR 801)] [] (sg (mx N M)) (0, 0) (vI v) (sg (mx N M'))
  refine ev_aload_n (pc := 0) 0 dX12_readText_0 rfl rfl ?_
  refine ev_sipush (pc := 1) (x := 729) dX12_readText_1 cs_729 ?_
  refine ev_aload_n (pc := 4) 0 dX12_readText_4 rfl rfl ?_
  refine ev_getR (pc := 5) fl12_7 rfl dX12_readText_5 rfl kd_801 (by omega) (rf_801_0 _) ?_
  refine ev_iconst (pc := 8) (x := 2) dX12_readText_8 ci_2 ?_
  refine ev_ildr (pc := 9) dX12_readText_9 kd_802 (by omega) (by omega) (by omega) (by omega) ?_
  refine ev_imul (pc := 10) dX12_readText_10 ?_
  obtain ⟨M1, eM1, h⟩ := lt_some h
  refine ev_putIr (pc := 11) fl12_164 rfl dX12_readText_11 kd_801 (by omega) (by omega) eM1 ?_
  refine ev_aload_n (pc := 14) 0 dX12_readText_14 rfl rfl ?_
  refine ev_getR (pc := 15) fl12_16 rfl dX12_readText_15 rfl kd_801 (by omega) (rf_801_2 _) ?_
  refine ev_aload_n (pc := 18) 0 dX12_readText_18 rfl rfl ?_
  refine ev_getIr (pc := 19) fl12_164 rfl dX12_readText_19 rfl kd_801 (by omega) (by omega) 12 rfl ?_
  refine ev_iconst (pc := 22) (x := 0) dX12_readText_22 ci_0 ?_
  obtain ⟨c2, h⟩ := ck_some h
  obtain ⟨M3, eM3, h⟩ := lt_some h
  refine ev_istr (pc := 23) dX12_readText_23 kd_804 (by omega) (by omega) c2.1 c2.2 eM3 ?_
  refine ev_aload_n (pc := 24) 0 dX12_readText_24 rfl rfl ?_
  refine ev_iconst (pc := 25) (x := 0) dX12_readText_25 ci_0 ?_
  obtain ⟨M4, eM4, h⟩ := lt_some h
  refine ev_putIr (pc := 26) fl12_167 rfl dX12_readText_26 kd_801 (by omega) (by omega) eM4 ?_
  refine ev_aload_n (pc := 29) 0 dX12_readText_29 rfl rfl ?_
  refine ev_iconst (pc := 30) (x := 0) dX12_readText_30 ci_0 ?_
  obtain ⟨M5, eM5, h⟩ := lt_some h
  refine ev_putIr (pc := 31) fl12_276 rfl dX12_readText_31 kd_801 (by omega) (by omega) eM5 ?_
  refine ev_aload_n (pc := 34) 0 dX12_readText_34 rfl rfl ?_
  refine ev_iconst (pc := 35) (x := 0) dX12_readText_35 ci_0 ?_
  obtain ⟨M6, eM6, h⟩ := lt_some h
  refine ev_putIr (pc := 36) fl12_116 rfl dX12_readText_36 kd_801 (by omega) (by omega) eM6 ?_
  refine ev_aload_n (pc := 39) 0 dX12_readText_39 rfl rfl ?_
  obtain ⟨q7, hq7, h⟩ := bd h
  refine ev_cV0 (pc := 40) [] [] rfl mkX12_nextToken ml12_200 mnX12_nextToken dX12_readText_40 kd_801 (by omega) rfl (Nat.le_of_ble_eq_true rfl) (by omega) (e_X12_nextToken (d := d - 1) (M' := q7) (by omega)  hq7) ?_
  refine ev_pick [0] rfl ?_
  exact e_X12_readText_L43 hd  n h
def f_X12_text_J36 (n : Nat) (s1 : Int) (M : Mem) : Option (Int × Mem) := lt (upM M 801 6 s1) fun M5 => lt (upM M5 801 4 0) fun M6 => if (M6 801 5) = 0 then (lt (upM M6 802 2 (wI ((M6 802 2) + 1))) fun M8 => some ((wI ((M8 802 2) - 1)), M8)) else (some ((-1), M6))
set_option maxRecDepth 100000 in
set_option maxHeartbeats 4000000 in
theorem e_X12_text_J36 {g : Gm} {d : Nat} {n : Nat} {s1 : Int} {M N : Mem} {v : Int} {M' : Mem} (hd : 13 ≤ d) (h : f_X12_text_J36 n s1 M = some (v, M')) : Ev g d mtX12_text 36 [(0, vR 801)] [vI s1, vR 801] (sg (mx N M)) (0, 0) (vI v) (sg (mx N M')) := by
  unfold f_X12_text_J36 at h
  obtain ⟨M5, eM5, h⟩ := lt_some h
  refine ev_putIr (pc := 36) fl12_26 rfl dX12_text_36 kd_801 (by omega) (by omega) eM5 ?_
  refine ev_aload_n (pc := 39) 0 dX12_text_39 rfl rfl ?_
  refine ev_iconst (pc := 40) (x := 0) dX12_text_40 ci_0 ?_
  obtain ⟨M6, eM6, h⟩ := lt_some h
  refine ev_putIr (pc := 41) fl12_109 rfl dX12_text_41 kd_801 (by omega) (by omega) eM6 ?_
  refine ev_aload_n (pc := 44) 0 dX12_text_44 rfl rfl ?_
  refine ev_getIr (pc := 45) fl12_22 rfl dX12_text_45 rfl kd_801 (by omega) (by omega) 5 rfl ?_
  refine ev_if_eq (pc := 48) (tgt := 53) dX12_text_48 (by decide) (fun b7 => ?_) (fun b7 => ?_)
  · rw [if_pos b7] at h
    refine ev_aload_n (pc := 53) 0 dX12_text_53 rfl rfl ?_
    refine ev_getR (pc := 54) fl12_7 rfl dX12_text_54 rfl kd_801 (by omega) (rf_801_0 _) ?_
    refine ev_iconst (pc := 57) (x := 2) dX12_text_57 ci_2 ?_
    refine ev_dup2 (pc := 58) rfl rfl dX12_text_58 ?_
    refine ev_ildr (pc := 59) dX12_text_59 kd_802 (by omega) (by omega) (by omega) (by omega) ?_
    refine ev_iconst (pc := 60) (x := 1) dX12_text_60 ci_1 ?_
    refine ev_iadd (pc := 61) dX12_text_61 ?_
    obtain ⟨M8, eM8, h⟩ := lt_some h
    refine ev_istr (pc := 62) dX12_text_62 kd_802 (by omega) (by omega) (by omega) (by omega) eM8 ?_
    refine ev_aload_n (pc := 63) 0 dX12_text_63 rfl rfl ?_
    refine ev_getR (pc := 64) fl12_7 rfl dX12_text_64 rfl kd_801 (by omega) (rf_801_0 _) ?_
    refine ev_iconst (pc := 67) (x := 2) dX12_text_67 ci_2 ?_
    refine ev_ildr (pc := 68) dX12_text_68 kd_802 (by omega) (by omega) (by omega) (by omega) ?_
    refine ev_iconst (pc := 69) (x := 1) dX12_text_69 ci_1 ?_
    refine ev_isub (pc := 70) dX12_text_70 ?_
    cases h
    exact ev_iret (pc := 71) dX12_text_71 rfl
  · rw [if_neg b7] at h
    refine ev_iconst (pc := 51) (x := (-1)) dX12_text_51 ci_m1 ?_
    cases h
    exact ev_iret (pc := 52) dX12_text_52 rfl
def f_X12_text (n : Nat) (M : Mem) : Option (Int × Mem) := if (M 802 2) ≠ 4 then ((f_X12_readText n M).bind fun q2 => lt (upM q2.2 801 5 q2.1) fun M3 => if (M3 801 5) ≠ 0 then (f_X12_text_J36 n (M3 801 8) M3) else (f_X12_text_J36 n (-1) M3)) else (some ((-1), M))
set_option maxRecDepth 100000 in
set_option maxHeartbeats 4000000 in
theorem e_X12_text {g : Gm} {d : Nat} {n : Nat} {M N : Mem} {v : Int} {M' : Mem} (hd : 13 ≤ d) (h : f_X12_text n M = some (v, M')) : EvM g d mtX12_text [vR 801] (sg (mx N M)) (0, 0) (vI v) (sg (mx N M')) := by
  unfold f_X12_text at h
  refine EvM.of mkX12_text.2.2.2.1 (Nat.le_of_ble_eq_true rfl) ?_
  change Ev g d mtX12_text 0 [(0, vR 801)] [] (sg (mx N M)) (0, 0) (vI v) (sg (mx N M'))
  refine ev_aload_n (pc := 0) 0 dX12_text_0 rfl rfl ?_
  refine ev_getR (pc := 1) fl12_7 rfl dX12_text_1 rfl kd_801 (by omega) (rf_801_0 _) ?_
  refine ev_iconst (pc := 4) (x := 2) dX12_text_4 ci_2 ?_
  refine ev_ildr (pc := 5) dX12_text_5 kd_802 (by omega) (by omega) (by omega) (by omega) ?_
  refine ev_iconst (pc := 6) (x := 4) dX12_text_6 ci_4 ?_
  refine ev_icmp_ne (pc := 7) (tgt := 12) dX12_text_7 (by decide) (fun b1 => ?_) (fun b1 => ?_)
  · rw [if_pos b1] at h
    refine ev_aload_n (pc := 12) 0 dX12_text_12 rfl rfl ?_
    refine ev_aload_n (pc := 13) 0 dX12_text_13 rfl rfl ?_
    obtain ⟨q2, hq2, h⟩ := bd h
    refine ev_cV (pc := 14) [] [vR 801] rfl mkX12_readText ml12_289 mnX12_readText dX12_text_14 kd_801 (by omega) rfl (Nat.le_of_ble_eq_true rfl) (by omega) rfl (e_X12_readText (d := d - 1) (v := q2.1) (M' := q2.2) (by omega)  hq2) ?_
    obtain ⟨M3, eM3, h⟩ := lt_some h
    refine ev_putIr (pc := 17) fl12_22 rfl dX12_text_17 kd_801 (by omega) (by omega) eM3 ?_
    refine ev_aload_n (pc := 20) 0 dX12_text_20 rfl rfl ?_
    refine ev_aload_n (pc := 21) 0 dX12_text_21 rfl rfl ?_
    refine ev_getIr (pc := 22) fl12_22 rfl dX12_text_22 rfl kd_801 (by omega) (by omega) 5 rfl ?_
    refine ev_if_ne (pc := 25) (tgt := 32) dX12_text_25 (by decide) (fun b4 => ?_) (fun b4 => ?_)
    · rw [if_pos b4] at h
      refine ev_aload_n (pc := 32) 0 dX12_text_32 rfl rfl ?_
      refine ev_getIr (pc := 33) fl12_123 rfl dX12_text_33 rfl kd_801 (by omega) (by omega) 8 rfl ?_
      refine ev_pick [0] rfl ?_
      exact e_X12_text_J36 hd  h
    · rw [if_neg b4] at h
      refine ev_iconst (pc := 28) (x := (-1)) dX12_text_28 ci_m1 ?_
      refine ev_goto (pc := 29) (tgt := 36) dX12_text_29 (by decide) ?_
      refine ev_pick [0] rfl ?_
      exact e_X12_text_J36 hd  h
  · rw [if_neg b1] at h
    refine ev_iconst (pc := 10) (x := (-1)) dX12_text_10 ci_m1 ?_
    cases h
    exact ev_iret (pc := 11) dX12_text_11 rfl
def f_X12_fault (p0 : Int) (M : Mem) : Int := if p0 ≠ 0 then (if p0 ≠ 1 then (-1) else (M 801 6)) else (M 801 5)
set_option maxRecDepth 100000 in
set_option maxHeartbeats 4000000 in
theorem e_X12_fault {g : Gm} {d : Nat} {p0 : Int} {M N : Mem} {v : Int} (hd : 0 ≤ d) (h : f_X12_fault p0 M = v) : EvM g d mtX12_fault [vR 801, vI p0] (sg (mx N M)) (0, 0) (vI v) (sg (mx N M)) := by
  unfold f_X12_fault at h
  refine EvM.of mkX12_fault.2.2.2.1 (Nat.le_of_ble_eq_true rfl) ?_
  change Ev g d mtX12_fault 0 [(0, vR 801), (1, vI p0)] [] (sg (mx N M)) (0, 0) (vI v) (sg (mx N M))
  refine ev_iload_n (pc := 0) 1 dX12_fault_0 rfl rfl ?_
  refine ev_if_ne (pc := 1) (tgt := 11) dX12_fault_1 (by decide) (fun b1 => ?_) (fun b1 => ?_)
  · rw [if_pos b1] at h
    refine ev_iload_n (pc := 11) 1 dX12_fault_11 rfl rfl ?_
    refine ev_iconst (pc := 12) (x := 1) dX12_fault_12 ci_1 ?_
    refine ev_icmp_ne (pc := 13) (tgt := 23) dX12_fault_13 (by decide) (fun b2 => ?_) (fun b2 => ?_)
    · rw [if_pos b2] at h
      refine ev_iconst (pc := 23) (x := (-1)) dX12_fault_23 ci_m1 ?_
      cases h
      exact ev_iret (pc := 24) dX12_fault_24 rfl
    · rw [if_neg b2] at h
      refine ev_aload_n (pc := 16) 0 dX12_fault_16 rfl rfl ?_
      refine ev_getIr (pc := 17) fl12_26 rfl dX12_fault_17 rfl kd_801 (by omega) (by omega) 6 rfl ?_
      refine ev_goto (pc := 20) (tgt := 24) dX12_fault_20 (by decide) ?_
      cases h
      exact ev_iret (pc := 24) dX12_fault_24 rfl
  · rw [if_neg b1] at h
    refine ev_aload_n (pc := 4) 0 dX12_fault_4 rfl rfl ?_
    refine ev_getIr (pc := 5) fl12_22 rfl dX12_fault_5 rfl kd_801 (by omega) (by omega) 5 rfl ?_
    refine ev_goto (pc := 8) (tgt := 24) dX12_fault_8 (by decide) ?_
    cases h
    exact ev_iret (pc := 24) dX12_fault_24 rfl
def f_X12_by (p0 : Int) (M : Mem) : Int × Mem := if (f_X12_isIn p0 (-1) (wI ((M 802 2) - 1))) ≠ 0 then (lt (upM M 802 3 p0) fun M2 => (1, M2)) else (0, M)
set_option maxRecDepth 100000 in
set_option maxHeartbeats 4000000 in
theorem e_X12_by {g : Gm} {d : Nat} {p0 : Int} {M N : Mem} {v : Int} {M' : Mem} (hd : 1 ≤ d) (h : f_X12_by p0 M = (v, M')) : EvM g d mtX12_by [vR 801, vI p0] (sg (mx N M)) (0, 0) (vI v) (sg (mx N M')) := by
  unfold f_X12_by at h
  refine EvM.of mkX12_by.2.2.2.1 (Nat.le_of_ble_eq_true rfl) ?_
  change Ev g d mtX12_by 0 [(0, vR 801), (1, vI p0)] [] (sg (mx N M)) (0, 0) (vI v) (sg (mx N M'))
  refine ev_iload_n (pc := 0) 1 dX12_by_0 rfl rfl ?_
  refine ev_iconst (pc := 1) (x := (-1)) dX12_by_1 ci_m1 ?_
  refine ev_aload_n (pc := 2) 0 dX12_by_2 rfl rfl ?_
  refine ev_getR (pc := 3) fl12_7 rfl dX12_by_3 rfl kd_801 (by omega) (rf_801_0 _) ?_
  refine ev_iconst (pc := 6) (x := 2) dX12_by_6 ci_2 ?_
  refine ev_ildr (pc := 7) dX12_by_7 kd_802 (by omega) (by omega) (by omega) (by omega) ?_
  refine ev_iconst (pc := 8) (x := 1) dX12_by_8 ci_1 ?_
  refine ev_isub (pc := 9) dX12_by_9 ?_
  refine ev_cS (pc := 10) [vI p0, vI (-1), vI (wI ((M 802 2) - 1))] [] rfl mkX12_isIn ml12_90 msX12_isIn dX12_by_10 rfl (Nat.le_of_ble_eq_true rfl) (by omega) rfl (e_X12_isIn (d := d - 1) (v := (f_X12_isIn p0 (-1) (wI ((M 802 2) - 1)))) (by omega)  rfl) ?_
  refine ev_if_ne (pc := 13) (tgt := 18) dX12_by_13 (by decide) (fun b1 => ?_) (fun b1 => ?_)
  · rw [if_pos b1] at h
    refine ev_aload_n (pc := 18) 0 dX12_by_18 rfl rfl ?_
    refine ev_getR (pc := 19) fl12_7 rfl dX12_by_19 rfl kd_801 (by omega) (rf_801_0 _) ?_
    refine ev_iconst (pc := 22) (x := 3) dX12_by_22 ci_3 ?_
    refine ev_iload_n (pc := 23) 1 dX12_by_23 rfl rfl ?_
    obtain ⟨M2, eM2, h⟩ := lt_some h
    refine ev_istr (pc := 24) dX12_by_24 kd_802 (by omega) (by omega) (by omega) (by omega) eM2 ?_
    refine ev_iconst (pc := 25) (x := 1) dX12_by_25 ci_1 ?_
    cases h
    exact ev_zret (pc := 26) (Or.inr rfl) dX12_by_26 rfl
  · rw [if_neg b1] at h
    refine ev_iconst (pc := 16) (x := 0) dX12_by_16 ci_0 ?_
    cases h
    exact ev_zret (pc := 17) (Or.inl rfl) dX12_by_17 rfl
def f_X12_clip (p0 : Int) : Int := if (lCmp p0 1000000) ≤ 0 then (if 0 ≤ (lCmp p0 (-1000000)) then p0 else (-1000000)) else 1000000
set_option maxRecDepth 100000 in
set_option maxHeartbeats 4000000 in
theorem e_X12_clip {g : Gm} {d : Nat} {p0 : Int} {M0 : Mem} {v : Int} (hd : 0 ≤ d) (h : f_X12_clip p0 = v) : EvM g d mtX12_clip [vL p0] (sg M0) (0, 0) (vL v) (sg M0) := by
  unfold f_X12_clip at h
  refine EvM.of mkX12_clip.2.2.2.1 (Nat.le_of_ble_eq_true rfl) ?_
  change Ev g d mtX12_clip 0 [(0, vL p0)] [] (sg M0) (0, 0) (vL v) (sg M0)
  refine ev_lload_n (pc := 0) 0 dX12_clip_0 rfl rfl ?_
  refine ev_ldc2 (pc := 1) (x := 1000000) rfl kc12_292 cj_1000000 dX12_clip_1 ?_
  refine ev_lcmp (pc := 4) dX12_clip_4 ?_
  refine ev_if_le (pc := 5) (tgt := 14) dX12_clip_5 (by decide) (fun b1 => ?_) (fun b1 => ?_)
  · rw [if_pos b1] at h
    refine ev_lload_n (pc := 14) 0 dX12_clip_14 rfl rfl ?_
    refine ev_ldc2 (pc := 15) (x := (-1000000)) rfl kc12_294 cj_m1000000 dX12_clip_15 ?_
    refine ev_lcmp (pc := 18) dX12_clip_18 ?_
    refine ev_if_ge (pc := 19) (tgt := 28) dX12_clip_19 (by decide) (fun b2 => ?_) (fun b2 => ?_)
    · rw [if_pos b2] at h
      refine ev_lload_n (pc := 28) 0 dX12_clip_28 rfl rfl ?_
      cases h
      exact ev_lret (pc := 29) dX12_clip_29 rfl
    · rw [if_neg b2] at h
      refine ev_ldc2 (pc := 22) (x := (-1000000)) rfl kc12_294 cj_m1000000 dX12_clip_22 ?_
      refine ev_goto (pc := 25) (tgt := 29) dX12_clip_25 (by decide) ?_
      cases h
      exact ev_lret (pc := 29) dX12_clip_29 rfl
  · rw [if_neg b1] at h
    refine ev_ldc2 (pc := 8) (x := 1000000) rfl kc12_292 cj_1000000 dX12_clip_8 ?_
    refine ev_goto (pc := 11) (tgt := 29) dX12_clip_11 (by decide) ?_
    cases h
    exact ev_lret (pc := 29) dX12_clip_29 rfl
def f_X12_two (p0 p1 p2 : Int) : Option (Int) := (if p0 = 5 then (some (f_X12_clip (wL (p1 + p2)))) else (if p0 = 6 then (some (f_X12_clip (wL (p1 - p2)))) else (if p0 = 7 then (some (f_X12_clip (wL (p1 * p2)))) else (if (lCmp p2 0) ≠ 0 then (ck (p2 ≠ 0) (some (f_X12_clip (lDiv p1 p2)))) else (some 0)))))
set_option maxRecDepth 100000 in
set_option maxHeartbeats 4000000 in
theorem e_X12_two {g : Gm} {d : Nat} {p0 p1 p2 : Int} {M0 : Mem} {v : Int} (hd : 1 ≤ d) (h : f_X12_two p0 p1 p2 = some v) : EvM g d mtX12_two [vI p0, vL p1, vL p2] (sg M0) (0, 0) (vL v) (sg M0) := by
  unfold f_X12_two at h
  refine EvM.of mkX12_two.2.2.2.1 (Nat.le_of_ble_eq_true rfl) ?_
  change Ev g d mtX12_two 0 [(0, vI p0), (1, vL p1), (3, vL p2)] [] (sg M0) (0, 0) (vL v) (sg M0)
  refine ev_iload_n (pc := 0) 0 dX12_two_0 rfl rfl ?_
  by_cases b3 : p0 = 5
  · rw [if_pos b3] at h
    refine ev_tswIn (pc := 1) (tgt := 28) dX12_two_1 (by omega) (by omega) (by rw [b3] <;> rfl) (by decide) ?_
    refine ev_lload_n (pc := 28) 1 dX12_two_28 rfl rfl ?_
    refine ev_lload_n (pc := 29) 2 dX12_two_29 rfl rfl ?_
    refine ev_ladd (pc := 30) dX12_two_30 ?_
    refine ev_cS (pc := 31) [vL (wL (p1 + p2))] [] rfl mkX12_clip ml12_296 msX12_clip dX12_two_31 rfl (Nat.le_of_ble_eq_true rfl) (by omega) rfl (e_X12_clip (d := d - 1) (v := (f_X12_clip (wL (p1 + p2)))) (by omega)  rfl) ?_
    cases h
    exact ev_lret (pc := 34) dX12_two_34 rfl
  · rw [if_neg b3] at h
    by_cases b4 : p0 = 6
    · rw [if_pos b4] at h
      refine ev_tswIn (pc := 1) (tgt := 35) dX12_two_1 (by omega) (by omega) (by rw [b4] <;> rfl) (by decide) ?_
      refine ev_lload_n (pc := 35) 1 dX12_two_35 rfl rfl ?_
      refine ev_lload_n (pc := 36) 2 dX12_two_36 rfl rfl ?_
      refine ev_lsub (pc := 37) dX12_two_37 ?_
      refine ev_cS (pc := 38) [vL (wL (p1 - p2))] [] rfl mkX12_clip ml12_296 msX12_clip dX12_two_38 rfl (Nat.le_of_ble_eq_true rfl) (by omega) rfl (e_X12_clip (d := d - 1) (v := (f_X12_clip (wL (p1 - p2)))) (by omega)  rfl) ?_
      cases h
      exact ev_lret (pc := 41) dX12_two_41 rfl
    · rw [if_neg b4] at h
      by_cases b5 : p0 = 7
      · rw [if_pos b5] at h
        refine ev_tswIn (pc := 1) (tgt := 42) dX12_two_1 (by omega) (by omega) (by rw [b5] <;> rfl) (by decide) ?_
        refine ev_lload_n (pc := 42) 1 dX12_two_42 rfl rfl ?_
        refine ev_lload_n (pc := 43) 2 dX12_two_43 rfl rfl ?_
        refine ev_lmul (pc := 44) dX12_two_44 ?_
        refine ev_cS (pc := 45) [vL (wL (p1 * p2))] [] rfl mkX12_clip ml12_296 msX12_clip dX12_two_45 rfl (Nat.le_of_ble_eq_true rfl) (by omega) rfl (e_X12_clip (d := d - 1) (v := (f_X12_clip (wL (p1 * p2)))) (by omega)  rfl) ?_
        cases h
        exact ev_lret (pc := 48) dX12_two_48 rfl
      · rw [if_neg b5] at h
        refine ev_tswOut (pc := 1) (tgt := 49) dX12_two_1 (by omega) (by decide) ?_
        refine ev_lload_n (pc := 49) 2 dX12_two_49 rfl rfl ?_
        refine ev_lconst (pc := 50) (x := 0) dX12_two_50 cl_0 ?_
        refine ev_lcmp (pc := 51) dX12_two_51 ?_
        refine ev_if_ne (pc := 52) (tgt := 59) dX12_two_52 (by decide) (fun b1 => ?_) (fun b1 => ?_)
        · rw [if_pos b1] at h
          refine ev_lload_n (pc := 59) 1 dX12_two_59 rfl rfl ?_
          refine ev_lload_n (pc := 60) 2 dX12_two_60 rfl rfl ?_
          obtain ⟨c2, h⟩ := ck_some h
          refine ev_ldiv (pc := 61) dX12_two_61 c2 ?_
          refine ev_cS (pc := 62) [vL (lDiv p1 p2)] [] rfl mkX12_clip ml12_296 msX12_clip dX12_two_62 rfl (Nat.le_of_ble_eq_true rfl) (by omega) rfl (e_X12_clip (d := d - 1) (v := (f_X12_clip (lDiv p1 p2))) (by omega)  rfl) ?_
          cases h
          exact ev_lret (pc := 65) dX12_two_65 rfl
        · rw [if_neg b1] at h
          refine ev_lconst (pc := 55) (x := 0) dX12_two_55 cl_0 ?_
          refine ev_goto (pc := 56) (tgt := 65) dX12_two_56 (by decide) ?_
          cases h
          exact ev_lret (pc := 65) dX12_two_65 rfl
def f_X12_isAsked (p0 p1 p2 : Int) : Int := if p0 ≠ 10 then (if p0 ≠ 11 then (if p0 ≠ 12 then (if p0 ≠ 13 then (if p0 ≠ 14 then (if (lCmp p1 p2) = 0 then 0 else 1) else (if (lCmp p1 p2) ≠ 0 then 0 else 1)) else (if (lCmp p1 p2) < 0 then 0 else 1)) else (if (lCmp p1 p2) ≤ 0 then 0 else 1)) else (if 0 < (lCmp p1 p2) then 0 else 1)) else (if 0 ≤ (lCmp p1 p2) then 0 else 1)
set_option maxRecDepth 100000 in
set_option maxHeartbeats 4000000 in
theorem e_X12_isAsked {g : Gm} {d : Nat} {p0 p1 p2 : Int} {M0 : Mem} {v : Int} (hd : 0 ≤ d) (h : f_X12_isAsked p0 p1 p2 = v) : EvM g d mtX12_isAsked [vI p0, vL p1, vL p2] (sg M0) (0, 0) (vI v) (sg M0) := by
  unfold f_X12_isAsked at h
  refine EvM.of mkX12_isAsked.2.2.2.1 (Nat.le_of_ble_eq_true rfl) ?_
  change Ev g d mtX12_isAsked 0 [(0, vI p0), (1, vL p1), (3, vL p2)] [] (sg M0) (0, 0) (vI v) (sg M0)
  refine ev_iload_n (pc := 0) 0 dX12_isAsked_0 rfl rfl ?_
  refine ev_bipush (pc := 1) (x := 10) dX12_isAsked_1 cb_10 ?_
  refine ev_icmp_ne (pc := 3) (tgt := 20) dX12_isAsked_3 (by decide) (fun b1 => ?_) (fun b1 => ?_)
  · rw [if_pos b1] at h
    refine ev_iload_n (pc := 20) 0 dX12_isAsked_20 rfl rfl ?_
    refine ev_bipush (pc := 21) (x := 11) dX12_isAsked_21 cb_11 ?_
    refine ev_icmp_ne (pc := 23) (tgt := 40) dX12_isAsked_23 (by decide) (fun b2 => ?_) (fun b2 => ?_)
    · rw [if_pos b2] at h
      refine ev_iload_n (pc := 40) 0 dX12_isAsked_40 rfl rfl ?_
      refine ev_bipush (pc := 41) (x := 12) dX12_isAsked_41 cb_12 ?_
      refine ev_icmp_ne (pc := 43) (tgt := 60) dX12_isAsked_43 (by decide) (fun b3 => ?_) (fun b3 => ?_)
      · rw [if_pos b3] at h
        refine ev_iload_n (pc := 60) 0 dX12_isAsked_60 rfl rfl ?_
        refine ev_bipush (pc := 61) (x := 13) dX12_isAsked_61 cb_13 ?_
        refine ev_icmp_ne (pc := 63) (tgt := 80) dX12_isAsked_63 (by decide) (fun b4 => ?_) (fun b4 => ?_)
        · rw [if_pos b4] at h
          refine ev_iload_n (pc := 80) 0 dX12_isAsked_80 rfl rfl ?_
          refine ev_bipush (pc := 81) (x := 14) dX12_isAsked_81 cb_14 ?_
          refine ev_icmp_ne (pc := 83) (tgt := 100) dX12_isAsked_83 (by decide) (fun b5 => ?_) (fun b5 => ?_)
          · rw [if_pos b5] at h
            refine ev_lload_n (pc := 100) 1 dX12_isAsked_100 rfl rfl ?_
            refine ev_lload_n (pc := 101) 2 dX12_isAsked_101 rfl rfl ?_
            refine ev_lcmp (pc := 102) dX12_isAsked_102 ?_
            refine ev_if_eq (pc := 103) (tgt := 110) dX12_isAsked_103 (by decide) (fun b6 => ?_) (fun b6 => ?_)
            · rw [if_pos b6] at h
              refine ev_iconst (pc := 110) (x := 0) dX12_isAsked_110 ci_0 ?_
              cases h
              exact ev_zret (pc := 111) (Or.inl rfl) dX12_isAsked_111 rfl
            · rw [if_neg b6] at h
              refine ev_iconst (pc := 106) (x := 1) dX12_isAsked_106 ci_1 ?_
              refine ev_goto (pc := 107) (tgt := 111) dX12_isAsked_107 (by decide) ?_
              cases h
              exact ev_zret (pc := 111) (Or.inr rfl) dX12_isAsked_111 rfl
          · rw [if_neg b5] at h
            refine ev_lload_n (pc := 86) 1 dX12_isAsked_86 rfl rfl ?_
            refine ev_lload_n (pc := 87) 2 dX12_isAsked_87 rfl rfl ?_
            refine ev_lcmp (pc := 88) dX12_isAsked_88 ?_
            refine ev_if_ne (pc := 89) (tgt := 96) dX12_isAsked_89 (by decide) (fun b7 => ?_) (fun b7 => ?_)
            · rw [if_pos b7] at h
              refine ev_iconst (pc := 96) (x := 0) dX12_isAsked_96 ci_0 ?_
              refine ev_goto (pc := 97) (tgt := 111) dX12_isAsked_97 (by decide) ?_
              cases h
              exact ev_zret (pc := 111) (Or.inl rfl) dX12_isAsked_111 rfl
            · rw [if_neg b7] at h
              refine ev_iconst (pc := 92) (x := 1) dX12_isAsked_92 ci_1 ?_
              refine ev_goto (pc := 93) (tgt := 111) dX12_isAsked_93 (by decide) ?_
              cases h
              exact ev_zret (pc := 111) (Or.inr rfl) dX12_isAsked_111 rfl
        · rw [if_neg b4] at h
          refine ev_lload_n (pc := 66) 1 dX12_isAsked_66 rfl rfl ?_
          refine ev_lload_n (pc := 67) 2 dX12_isAsked_67 rfl rfl ?_
          refine ev_lcmp (pc := 68) dX12_isAsked_68 ?_
          refine ev_if_lt (pc := 69) (tgt := 76) dX12_isAsked_69 (by decide) (fun b8 => ?_) (fun b8 => ?_)
          · rw [if_pos b8] at h
            refine ev_iconst (pc := 76) (x := 0) dX12_isAsked_76 ci_0 ?_
            refine ev_goto (pc := 77) (tgt := 111) dX12_isAsked_77 (by decide) ?_
            cases h
            exact ev_zret (pc := 111) (Or.inl rfl) dX12_isAsked_111 rfl
          · rw [if_neg b8] at h
            refine ev_iconst (pc := 72) (x := 1) dX12_isAsked_72 ci_1 ?_
            refine ev_goto (pc := 73) (tgt := 111) dX12_isAsked_73 (by decide) ?_
            cases h
            exact ev_zret (pc := 111) (Or.inr rfl) dX12_isAsked_111 rfl
      · rw [if_neg b3] at h
        refine ev_lload_n (pc := 46) 1 dX12_isAsked_46 rfl rfl ?_
        refine ev_lload_n (pc := 47) 2 dX12_isAsked_47 rfl rfl ?_
        refine ev_lcmp (pc := 48) dX12_isAsked_48 ?_
        refine ev_if_le (pc := 49) (tgt := 56) dX12_isAsked_49 (by decide) (fun b9 => ?_) (fun b9 => ?_)
        · rw [if_pos b9] at h
          refine ev_iconst (pc := 56) (x := 0) dX12_isAsked_56 ci_0 ?_
          refine ev_goto (pc := 57) (tgt := 111) dX12_isAsked_57 (by decide) ?_
          cases h
          exact ev_zret (pc := 111) (Or.inl rfl) dX12_isAsked_111 rfl
        · rw [if_neg b9] at h
          refine ev_iconst (pc := 52) (x := 1) dX12_isAsked_52 ci_1 ?_
          refine ev_goto (pc := 53) (tgt := 111) dX12_isAsked_53 (by decide) ?_
          cases h
          exact ev_zret (pc := 111) (Or.inr rfl) dX12_isAsked_111 rfl
    · rw [if_neg b2] at h
      refine ev_lload_n (pc := 26) 1 dX12_isAsked_26 rfl rfl ?_
      refine ev_lload_n (pc := 27) 2 dX12_isAsked_27 rfl rfl ?_
      refine ev_lcmp (pc := 28) dX12_isAsked_28 ?_
      refine ev_if_gt (pc := 29) (tgt := 36) dX12_isAsked_29 (by decide) (fun b10 => ?_) (fun b10 => ?_)
      · rw [if_pos b10] at h
        refine ev_iconst (pc := 36) (x := 0) dX12_isAsked_36 ci_0 ?_
        refine ev_goto (pc := 37) (tgt := 111) dX12_isAsked_37 (by decide) ?_
        cases h
        exact ev_zret (pc := 111) (Or.inl rfl) dX12_isAsked_111 rfl
      · rw [if_neg b10] at h
        refine ev_iconst (pc := 32) (x := 1) dX12_isAsked_32 ci_1 ?_
        refine ev_goto (pc := 33) (tgt := 111) dX12_isAsked_33 (by decide) ?_
        cases h
        exact ev_zret (pc := 111) (Or.inr rfl) dX12_isAsked_111 rfl
  · rw [if_neg b1] at h
    refine ev_lload_n (pc := 6) 1 dX12_isAsked_6 rfl rfl ?_
    refine ev_lload_n (pc := 7) 2 dX12_isAsked_7 rfl rfl ?_
    refine ev_lcmp (pc := 8) dX12_isAsked_8 ?_
    refine ev_if_ge (pc := 9) (tgt := 16) dX12_isAsked_9 (by decide) (fun b11 => ?_) (fun b11 => ?_)
    · rw [if_pos b11] at h
      refine ev_iconst (pc := 16) (x := 0) dX12_isAsked_16 ci_0 ?_
      refine ev_goto (pc := 17) (tgt := 111) dX12_isAsked_17 (by decide) ?_
      cases h
      exact ev_zret (pc := 111) (Or.inl rfl) dX12_isAsked_111 rfl
    · rw [if_neg b11] at h
      refine ev_iconst (pc := 12) (x := 1) dX12_isAsked_12 ci_1 ?_
      refine ev_goto (pc := 13) (tgt := 111) dX12_isAsked_13 (by decide) ?_
      cases h
      exact ev_zret (pc := 111) (Or.inr rfl) dX12_isAsked_111 rfl
theorem z_X12_isAsked (p0 p1 p2 : Int) : f_X12_isAsked p0 p1 p2 = 0 ∨ f_X12_isAsked p0 p1 p2 = 1 := by
  unfold f_X12_isAsked
  repeat' split
  all_goals first | exact Or.inl rfl | exact Or.inr rfl
def f_X12_ask (p0 p1 p2 p3 : Int) (M : Mem) : Mem := lt (upM M 801 21 p0) fun M1 => lt (upM M1 801 22 p1) fun M2 => lt (upM M2 801 23 p2) fun M3 => lt (upM M3 801 24 p3) fun M4 => M4
set_option maxRecDepth 100000 in
set_option maxHeartbeats 4000000 in
theorem e_X12_ask {g : Gm} {d : Nat} {p0 p1 p2 p3 : Int} {M N : Mem} {M' : Mem} (hd : 0 ≤ d) (h : f_X12_ask p0 p1 p2 p3 M = M') : EvM g d mtX12_ask [vR 801, vI p0, vI p1, vI p2, vI p3] (sg (mx N M)) (0, 0) vN (sg (mx N M')) := by
  unfold f_X12_ask at h
  refine EvM.of mkX12_ask.2.2.2.1 (Nat.le_of_ble_eq_true rfl) ?_
  change Ev g d mtX12_ask 0 [(0, vR 801), (1, vI p0), (2, vI p1), (3, vI p2), (4, vI p3)] [] (sg (mx N M)) (0, 0) vN (sg (mx N M'))
  refine ev_aload_n (pc := 0) 0 dX12_ask_0 rfl rfl ?_
  refine ev_iload_n (pc := 1) 1 dX12_ask_1 rfl rfl ?_
  obtain ⟨M1, eM1, h⟩ := lt_some h
  refine ev_putIr (pc := 2) fl12_300 rfl dX12_ask_2 kd_801 (by omega) (by omega) eM1 ?_
  refine ev_aload_n (pc := 5) 0 dX12_ask_5 rfl rfl ?_
  refine ev_iload_n (pc := 6) 2 dX12_ask_6 rfl rfl ?_
  obtain ⟨M2, eM2, h⟩ := lt_some h
  refine ev_putIr (pc := 7) fl12_303 rfl dX12_ask_7 kd_801 (by omega) (by omega) eM2 ?_
  refine ev_aload_n (pc := 10) 0 dX12_ask_10 rfl rfl ?_
  refine ev_iload_n (pc := 11) 3 dX12_ask_11 rfl rfl ?_
  obtain ⟨M3, eM3, h⟩ := lt_some h
  refine ev_putIr (pc := 12) fl12_306 rfl dX12_ask_12 kd_801 (by omega) (by omega) eM3 ?_
  refine ev_aload_n (pc := 15) 0 dX12_ask_15 rfl rfl ?_
  refine ev_iload (pc := 16) 4 dX12_ask_16 rfl ?_
  obtain ⟨M4, eM4, h⟩ := lt_some h
  refine ev_putIr (pc := 18) fl12_309 rfl dX12_ask_18 kd_801 (by omega) (by omega) eM4 ?_
  cases h
  exact ev_vret (pc := 21) dX12_ask_21 rfl
def f_X12_named (p0 p1 : Int) (M : Mem) : Option (Int) := (if p0 = 0 then (some (M 801 22)) else (if p0 = 1 then (some p1) else (if p0 = 7 then (some (M 801 23)) else (if p0 = 8 then (some (M 801 24)) else (if (f_X12_isStep p1 M) = 0 then (some 0) else ((f_X12_at p1 (wI (p0 - 2)) M).bind fun q2 => some q2))))))
set_option maxRecDepth 100000 in
set_option maxHeartbeats 4000000 in
theorem e_X12_named {g : Gm} {d : Nat} {p0 p1 : Int} {M N : Mem} {v : Int} (hd : 2 ≤ d) (h : f_X12_named p0 p1 M = some v) : EvM g d mtX12_named [vR 801, vI p0, vI p1] (sg (mx N M)) (0, 0) (vI v) (sg (mx N M)) := by
  unfold f_X12_named at h
  refine EvM.of mkX12_named.2.2.2.1 (Nat.le_of_ble_eq_true rfl) ?_
  change Ev g d mtX12_named 0 [(0, vR 801), (1, vI p0), (2, vI p1)] [] (sg (mx N M)) (0, 0) (vI v) (sg (mx N M))
  refine ev_iload_n (pc := 0) 1 dX12_named_0 rfl rfl ?_
  by_cases b3 : p0 = 0
  · rw [if_pos b3] at h
    refine ev_tswIn (pc := 1) (tgt := 52) dX12_named_1 (by omega) (by omega) (by rw [b3] <;> rfl) (by decide) ?_
    refine ev_aload_n (pc := 52) 0 dX12_named_52 rfl rfl ?_
    refine ev_getIr (pc := 53) fl12_303 rfl dX12_named_53 rfl kd_801 (by omega) (by omega) 22 rfl ?_
    cases h
    exact ev_iret (pc := 56) dX12_named_56 rfl
  · rw [if_neg b3] at h
    by_cases b4 : p0 = 1
    · rw [if_pos b4] at h
      refine ev_tswIn (pc := 1) (tgt := 57) dX12_named_1 (by omega) (by omega) (by rw [b4] <;> rfl) (by decide) ?_
      refine ev_iload_n (pc := 57) 2 dX12_named_57 rfl rfl ?_
      cases h
      exact ev_iret (pc := 58) dX12_named_58 rfl
    · rw [if_neg b4] at h
      by_cases b5 : p0 = 7
      · rw [if_pos b5] at h
        refine ev_tswIn (pc := 1) (tgt := 59) dX12_named_1 (by omega) (by omega) (by rw [b5] <;> rfl) (by decide) ?_
        refine ev_aload_n (pc := 59) 0 dX12_named_59 rfl rfl ?_
        refine ev_getIr (pc := 60) fl12_306 rfl dX12_named_60 rfl kd_801 (by omega) (by omega) 23 rfl ?_
        cases h
        exact ev_iret (pc := 63) dX12_named_63 rfl
      · rw [if_neg b5] at h
        by_cases b6 : p0 = 8
        · rw [if_pos b6] at h
          refine ev_tswIn (pc := 1) (tgt := 64) dX12_named_1 (by omega) (by omega) (by rw [b6] <;> rfl) (by decide) ?_
          refine ev_aload_n (pc := 64) 0 dX12_named_64 rfl rfl ?_
          refine ev_getIr (pc := 65) fl12_309 rfl dX12_named_65 rfl kd_801 (by omega) (by omega) 24 rfl ?_
          cases h
          exact ev_iret (pc := 68) dX12_named_68 rfl
        · rw [if_neg b6] at h
          have hD : Ev g d mtX12_named 69 [(0, vR 801), (1, vI p0), (2, vI p1)] [] (sg (mx N M)) (0, 0) (vI v) (sg (mx N M)) := by
            refine ev_aload_n (pc := 69) 0 dX12_named_69 rfl rfl ?_
            refine ev_iload_n (pc := 70) 2 dX12_named_70 rfl rfl ?_
            refine ev_cV (pc := 71) [vI p1] [] rfl mkX12_isStep ml12_102 mnX12_isStep dX12_named_71 kd_801 (by omega) rfl (Nat.le_of_ble_eq_true rfl) (by omega) rfl (e_X12_isStep (d := d - 1) (v := (f_X12_isStep p1 M)) (by omega)  rfl) ?_
            refine ev_if_eq (pc := 74) (tgt := 88) dX12_named_74 (by decide) (fun b1 => ?_) (fun b1 => ?_)
            · rw [if_pos b1] at h
              refine ev_iconst (pc := 88) (x := 0) dX12_named_88 ci_0 ?_
              cases h
              exact ev_iret (pc := 89) dX12_named_89 rfl
            · rw [if_neg b1] at h
              refine ev_aload_n (pc := 77) 0 dX12_named_77 rfl rfl ?_
              refine ev_iload_n (pc := 78) 2 dX12_named_78 rfl rfl ?_
              refine ev_iload_n (pc := 79) 1 dX12_named_79 rfl rfl ?_
              refine ev_iconst (pc := 80) (x := 2) dX12_named_80 ci_2 ?_
              refine ev_isub (pc := 81) dX12_named_81 ?_
              obtain ⟨q2, hq2, h⟩ := bd h
              refine ev_cV (pc := 82) [vI p1, vI (wI (p0 - 2))] [] rfl mkX12_at ml12_98 mnX12_at dX12_named_82 kd_801 (by omega) rfl (Nat.le_of_ble_eq_true rfl) (by omega) rfl (e_X12_at (d := d - 1) (v := q2) (by omega)  hq2) ?_
              refine ev_goto (pc := 85) (tgt := 89) dX12_named_85 (by decide) ?_
              cases h
              exact ev_iret (pc := 89) dX12_named_89 rfl
          by_cases b7 : p0 = 2
          · exact ev_tswIn (pc := 1) (tgt := 69) dX12_named_1 (by omega) (by omega) (by rw [b7] <;> rfl) (by decide) hD
          by_cases b8 : p0 = 3
          · exact ev_tswIn (pc := 1) (tgt := 69) dX12_named_1 (by omega) (by omega) (by rw [b8] <;> rfl) (by decide) hD
          by_cases b9 : p0 = 4
          · exact ev_tswIn (pc := 1) (tgt := 69) dX12_named_1 (by omega) (by omega) (by rw [b9] <;> rfl) (by decide) hD
          by_cases b10 : p0 = 5
          · exact ev_tswIn (pc := 1) (tgt := 69) dX12_named_1 (by omega) (by omega) (by rw [b10] <;> rfl) (by decide) hD
          by_cases b11 : p0 = 6
          · exact ev_tswIn (pc := 1) (tgt := 69) dX12_named_1 (by omega) (by omega) (by rw [b11] <;> rfl) (by decide) hD
          exact ev_tswOut (pc := 1) (tgt := 69) dX12_named_1 (by omega) (by decide) hD
def f_X12_work_L47_J148 (n : Nat) (K : Int → Int → Int → Mem → Option (Mem)) (x2 x3 x4 x5 x6 s1 s3 s4 : Int) (M : Mem) : Option (Mem) := (f_X12_named s3 s4 M).bind fun q46 => ck (0 ≤ s1 ∧ s1 < 330) (lt (upM M 807 s1 q46) fun M48 => K (wI (x4 + 1)) x5 (wI (x6 + 1)) M48)
set_option maxRecDepth 100000 in
set_option maxHeartbeats 4000000 in
theorem e_X12_work_L47_J148 {g : Gm} {d : Nat} {n : Nat} {K : Int → Int → Int → Mem → Option (Mem)} {x2 x3 x4 x5 x6 s1 s3 s4 : Int} {M N : Mem} {q : Mem} {r : Vv} {σ' : Sg} (hd : 3 ≤ d) (hK : ∀ {x4 x5 x6 : Int} {M : Mem}, K x4 x5 x6 M = some q → Ev g d mtX12_work 47 [(0, vR 801), (2, vI x2), (3, vI x3), (4, vI x4), (5, vI x5), (6, vI x6)] [] (sg (mx N M)) (0, 0) r σ') (hk0 : Ev g d mtX12_work 392 [] [] (sg (mx N q)) (0, 0) r σ') (h : f_X12_work_L47_J148 n K x2 x3 x4 x5 x6 s1 s3 s4 M = some q) : Ev g d mtX12_work 148 [(0, vR 801), (2, vI x2), (3, vI x3), (4, vI x4), (5, vI x5), (6, vI x6)] [vI s4, vI s3, vR 801, vI s1, vR 807] (sg (mx N M)) (0, 0) r σ' := by
  unfold f_X12_work_L47_J148 at h
  obtain ⟨q46, hq46, h⟩ := bd h
  refine ev_cV (pc := 148) [vI s3, vI s4] [vI s1, vR 807] rfl mkX12_named ml12_312 mnX12_named dX12_work_148 kd_801 (by omega) rfl (Nat.le_of_ble_eq_true rfl) (by omega) rfl (e_X12_named (d := d - 1) (v := q46) (by omega)  hq46) ?_
  refine ev_i2l (pc := 151) dX12_work_151 ?_
  obtain ⟨c47, h⟩ := ck_some h
  obtain ⟨M48, eM48, h⟩ := lt_some h
  refine ev_lstr (pc := 152) dX12_work_152 kd_807 (by omega) (by omega) c47.1 c47.2 eM48 ?_
  refine ev_iinc (pc := 153) (il' := [(4, vI (wI (x4 + 1))), (0, vR 801), (2, vI x2), (3, vI x3), (5, vI x5), (6, vI x6)]) 3 dX12_work_153 rfl (Nat.le_of_ble_eq_true rfl) rfl rfl ?_
  refine ev_goto (pc := 156) (tgt := 386) dX12_work_156 (by decide) ?_
  refine ev_iinc (pc := 386) (il' := [(6, vI (wI (x6 + 1))), (4, vI (wI (x4 + 1))), (0, vR 801), (2, vI x2), (3, vI x3), (5, vI x5)]) 5 dX12_work_386 rfl (Nat.le_of_ble_eq_true rfl) rfl rfl ?_
  refine ev_goto (pc := 389) (tgt := 47) dX12_work_389 (by decide) ?_
  refine ev_pick [2, 3, 4, 1, 5, 0] rfl ?_
  exact hK h
def f_X12_work_L47 : Nat → Int → Int → Int → Int → Int → Mem → Option (Mem)
  | 0, _, _, _, _, _, _ => none
  | n + 1, x2, x3, x4, x5, x6, M => ck (0 ≤ (wI (x2 + 2)) ∧ (wI (x2 + 2)) < 2916) (if (M 804 (wI (x2 + 2))) ≤ x6 then (some M) else (ck (0 ≤ (wI (x3 + (wI (2 * x6)))) ∧ (wI (x3 + (wI (2 * x6)))) < 2916) (ck (0 ≤ (wI ((wI (x3 + (wI (2 * x6)))) + 1)) ∧ (wI ((wI (x3 + (wI (2 * x6)))) + 1)) < 2916) (if 3 < (M 804 (wI (x3 + (wI (2 * x6))))) then (if (M 804 (wI (x3 + (wI (2 * x6))))) ≠ 4 then (if 10 ≤ (M 804 (wI (x3 + (wI (2 * x6))))) then (if 20 ≤ (M 804 (wI (x3 + (wI (2 * x6))))) then (if (M 804 (wI (x3 + (wI (2 * x6))))) ≠ 20 then (if (M 804 (wI (x3 + (wI (2 * x6))))) ≠ 21 then (ck (0 ≤ (wI ((wI (x5 + (-1))) - 1)) ∧ (wI ((wI (x5 + (-1))) - 1)) < 330) (if (M 808 (wI ((wI (x5 + (-1))) - 1))) ≠ 0 then (lt (upM M 808 (wI ((wI (x5 + (-1))) - 1)) 1) fun M15 => f_X12_work_L47 n x2 x3 x4 (wI (x5 + (-1))) (wI (x6 + 1)) M15) else (ck (0 ≤ (wI (x5 + (-1))) ∧ (wI (x5 + (-1))) < 330) (if (M 808 (wI (x5 + (-1)))) = 0 then (lt (upM M 808 (wI ((wI (x5 + (-1))) - 1)) 0) fun M18 => f_X12_work_L47 n x2 x3 x4 (wI (x5 + (-1))) (wI (x6 + 1)) M18) else (lt (upM M 808 (wI ((wI (x5 + (-1))) - 1)) 1) fun M19 => f_X12_work_L47 n x2 x3 x4 (wI (x5 + (-1))) (wI (x6 + 1)) M19))))) else (ck (0 ≤ (wI ((wI (x5 + (-1))) - 1)) ∧ (wI ((wI (x5 + (-1))) - 1)) < 330) (if (M 808 (wI ((wI (x5 + (-1))) - 1))) = 0 then (lt (upM M 808 (wI ((wI (x5 + (-1))) - 1)) 0) fun M22 => f_X12_work_L47 n x2 x3 x4 (wI (x5 + (-1))) (wI (x6 + 1)) M22) else (ck (0 ≤ (wI (x5 + (-1))) ∧ (wI (x5 + (-1))) < 330) (if (M 808 (wI (x5 + (-1)))) = 0 then (lt (upM M 808 (wI ((wI (x5 + (-1))) - 1)) 0) fun M25 => f_X12_work_L47 n x2 x3 x4 (wI (x5 + (-1))) (wI (x6 + 1)) M25) else (lt (upM M 808 (wI ((wI (x5 + (-1))) - 1)) 1) fun M26 => f_X12_work_L47 n x2 x3 x4 (wI (x5 + (-1))) (wI (x6 + 1)) M26)))))) else (ck (0 ≤ (wI (x5 - 1)) ∧ (wI (x5 - 1)) < 330) (if (M 808 (wI (x5 - 1))) ≠ 0 then (lt (upM M 808 (wI (x5 - 1)) 0) fun M29 => f_X12_work_L47 n x2 x3 x4 x5 (wI (x6 + 1)) M29) else (lt (upM M 808 (wI (x5 - 1)) 1) fun M30 => f_X12_work_L47 n x2 x3 x4 x5 (wI (x6 + 1)) M30)))) else (ck (0 ≤ (wI (x4 + (-2))) ∧ (wI (x4 + (-2))) < 330) (ck (0 ≤ (wI ((wI (x4 + (-2))) + 1)) ∧ (wI ((wI (x4 + (-2))) + 1)) < 330) (lt (f_X12_isAsked (M 804 (wI (x3 + (wI (2 * x6))))) (M 807 (wI (x4 + (-2)))) (M 807 (wI ((wI (x4 + (-2))) + 1)))) fun q33 => ck (0 ≤ x5 ∧ x5 < 330) (ck (q33 = 0 ∨ q33 = 1) (lt (upM M 808 x5 q33) fun M36 => f_X12_work_L47 n x2 x3 (wI (x4 + (-2))) (wI (x5 + 1)) (wI (x6 + 1)) M36)))))) else (ck (0 ≤ (wI ((wI (x4 + (-1))) - 1)) ∧ (wI ((wI (x4 + (-1))) - 1)) < 330) (ck (0 ≤ (wI (x4 + (-1))) ∧ (wI (x4 + (-1))) < 330) ((f_X12_two (M 804 (wI (x3 + (wI (2 * x6))))) (M 807 (wI ((wI (x4 + (-1))) - 1))) (M 807 (wI (x4 + (-1))))).bind fun q39 => lt (upM M 807 (wI ((wI (x4 + (-1))) - 1)) q39) fun M40 => f_X12_work_L47 n x2 x3 (wI (x4 + (-1))) x5 (wI (x6 + 1)) M40)))) else (ck (0 ≤ (wI (x4 - 1)) ∧ (wI (x4 - 1)) < 330) (lt (upM M 807 (wI (x4 - 1)) (wL (-(M 807 (wI (x4 - 1)))))) fun M42 => f_X12_work_L47 n x2 x3 x4 x5 (wI (x6 + 1)) M42))) else (if (M 804 (wI (x3 + (wI (2 * x6))))) ≠ 0 then (if (M 804 (wI (x3 + (wI (2 * x6))))) ≠ 1 then (if (M 804 (wI (x3 + (wI (2 * x6))))) ≠ 2 then (f_X12_work_L47_J148 n (fun x4 x5 x6 M => f_X12_work_L47 n x2 x3 x4 x5 x6 M) x2 x3 x4 x5 x6 x4 (M 804 (wI ((wI (x3 + (wI (2 * x6)))) + 1))) (wI ((M 801 21) + 1)) M) else (f_X12_work_L47_J148 n (fun x4 x5 x6 M => f_X12_work_L47 n x2 x3 x4 x5 x6 M) x2 x3 x4 x5 x6 x4 (M 804 (wI ((wI (x3 + (wI (2 * x6)))) + 1))) (wI ((M 801 21) - 1)) M)) else (f_X12_work_L47_J148 n (fun x4 x5 x6 M => f_X12_work_L47 n x2 x3 x4 x5 x6 M) x2 x3 x4 x5 x6 x4 (M 804 (wI ((wI (x3 + (wI (2 * x6)))) + 1))) (M 801 21) M)) else (ck (0 ≤ x4 ∧ x4 < 330) (lt (upM M 807 x4 (M 804 (wI ((wI (x3 + (wI (2 * x6)))) + 1)))) fun M50 => f_X12_work_L47 n x2 x3 (wI (x4 + 1)) x5 (wI (x6 + 1)) M50)))))))
set_option maxRecDepth 100000 in
set_option maxHeartbeats 4000000 in
theorem e_X12_work_L47 {g : Gm} {d : Nat} {x2 x3 : Int} {r : Vv} {σ' : Sg} {N : Mem} (hd : 3 ≤ d) : ∀ (n : Nat) {x4 x5 x6 : Int} {M : Mem} {q : Mem}, f_X12_work_L47 n x2 x3 x4 x5 x6 M = some q → Ev g d mtX12_work 392 [] [] (sg (mx N q)) (0, 0) r σ' → Ev g d mtX12_work 47 [(0, vR 801), (2, vI x2), (3, vI x3), (4, vI x4), (5, vI x5), (6, vI x6)] [] (sg (mx N M)) (0, 0) r σ' := by
  intro n
  induction n with
  | zero =>
    intro x4 x5 x6 M q h hk0
    rw [f_X12_work_L47.eq_1] at h
    cases h
  | succ n ih =>
    intro x4 x5 x6 M q h hk0
    rw [f_X12_work_L47.eq_2] at h
    refine ev_iload (pc := 47) 5 dX12_work_47 rfl ?_
    refine ev_aload_n (pc := 49) 0 dX12_work_49 rfl rfl ?_
    refine ev_getR (pc := 50) fl12_16 rfl dX12_work_50 rfl kd_801 (by omega) (rf_801_2 _) ?_
    refine ev_iload_n (pc := 53) 1 dX12_work_53 rfl rfl ?_
    refine ev_iconst (pc := 54) (x := 2) dX12_work_54 ci_2 ?_
    refine ev_iadd (pc := 55) dX12_work_55 ?_
    obtain ⟨c3, h⟩ := ck_some h
    refine ev_ildr (pc := 56) dX12_work_56 kd_804 (by omega) (by omega) c3.1 c3.2 ?_
    refine ev_icmp_ge (pc := 57) (tgt := 392) dX12_work_57 (by decide) (fun b4 => ?_) (fun b4 => ?_)
    · rw [if_pos b4] at h
      cases h
      refine ev_pick [] rfl ?_
      exact hk0
    · rw [if_neg b4] at h
      refine ev_aload_n (pc := 60) 0 dX12_work_60 rfl rfl ?_
      refine ev_getR (pc := 61) fl12_16 rfl dX12_work_61 rfl kd_801 (by omega) (rf_801_2 _) ?_
      refine ev_iload_n (pc := 64) 2 dX12_work_64 rfl rfl ?_
      refine ev_iconst (pc := 65) (x := 2) dX12_work_65 ci_2 ?_
      refine ev_iload (pc := 66) 5 dX12_work_66 rfl ?_
      refine ev_imul (pc := 68) dX12_work_68 ?_
      refine ev_iadd (pc := 69) dX12_work_69 ?_
      obtain ⟨c5, h⟩ := ck_some h
      refine ev_ildr (pc := 70) dX12_work_70 kd_804 (by omega) (by omega) c5.1 c5.2 ?_
      refine ev_istore (pc := 71) (il' := [(7, vI (M 804 (wI (x3 + (wI (2 * x6)))))), (0, vR 801), (2, vI x2), (3, vI x3), (4, vI x4), (5, vI x5), (6, vI x6)]) dX12_work_71 (Nat.le_of_ble_eq_true rfl) rfl ?_
      refine ev_aload_n (pc := 73) 1 dX12_work_73 rfl rfl ?_
      refine ev_getR (pc := 74) fl12_16 rfl dX12_work_74 rfl kd_801 (by omega) (rf_801_2 _) ?_
      refine ev_iload_n (pc := 77) 3 dX12_work_77 rfl rfl ?_
      refine ev_iconst (pc := 78) (x := 2) dX12_work_78 ci_2 ?_
      refine ev_iload (pc := 79) 6 dX12_work_79 rfl ?_
      refine ev_imul (pc := 81) dX12_work_81 ?_
      refine ev_iadd (pc := 82) dX12_work_82 ?_
      refine ev_iconst (pc := 83) (x := 1) dX12_work_83 ci_1 ?_
      refine ev_iadd (pc := 84) dX12_work_84 ?_
      obtain ⟨c6, h⟩ := ck_some h
      refine ev_ildr (pc := 85) dX12_work_85 kd_804 (by omega) (by omega) c6.1 c6.2 ?_
      refine ev_istore (pc := 86) (il' := [(8, vI (M 804 (wI ((wI (x3 + (wI (2 * x6)))) + 1)))), (7, vI (M 804 (wI (x3 + (wI (2 * x6)))))), (0, vR 801), (2, vI x2), (3, vI x3), (4, vI x4), (5, vI x5), (6, vI x6)]) dX12_work_86 (Nat.le_of_ble_eq_true rfl) rfl ?_
      refine ev_iload (pc := 88) 1 dX12_work_88 rfl ?_
      refine ev_iconst (pc := 90) (x := 3) dX12_work_90 ci_3 ?_
      refine ev_icmp_gt (pc := 91) (tgt := 159) dX12_work_91 (by decide) (fun b7 => ?_) (fun b7 => ?_)
      · rw [if_pos b7] at h
        refine ev_iload (pc := 159) 1 dX12_work_159 rfl ?_
        refine ev_iconst (pc := 161) (x := 4) dX12_work_161 ci_4 ?_
        refine ev_icmp_ne (pc := 162) (tgt := 187) dX12_work_162 (by decide) (fun b8 => ?_) (fun b8 => ?_)
        · rw [if_pos b8] at h
          refine ev_iload (pc := 187) 1 dX12_work_187 rfl ?_
          refine ev_bipush (pc := 189) (x := 10) dX12_work_189 cb_10 ?_
          refine ev_icmp_ge (pc := 191) (tgt := 230) dX12_work_191 (by decide) (fun b9 => ?_) (fun b9 => ?_)
          · rw [if_pos b9] at h
            refine ev_iload (pc := 230) 1 dX12_work_230 rfl ?_
            refine ev_bipush (pc := 232) (x := 20) dX12_work_232 cb_20 ?_
            refine ev_icmp_ge (pc := 234) (tgt := 274) dX12_work_234 (by decide) (fun b10 => ?_) (fun b10 => ?_)
            · rw [if_pos b10] at h
              refine ev_iload (pc := 274) 1 dX12_work_274 rfl ?_
              refine ev_bipush (pc := 276) (x := 20) dX12_work_276 cb_20 ?_
              refine ev_icmp_ne (pc := 278) (tgt := 310) dX12_work_278 (by decide) (fun b11 => ?_) (fun b11 => ?_)
              · rw [if_pos b11] at h
                refine ev_iinc (pc := 310) (il' := [(5, vI (wI (x5 + (-1)))), (8, vI (M 804 (wI ((wI (x3 + (wI (2 * x6)))) + 1)))), (7, vI (M 804 (wI (x3 + (wI (2 * x6)))))), (0, vR 801), (2, vI x2), (3, vI x3), (4, vI x4), (6, vI x6)]) 6 dX12_work_310 rfl (Nat.le_of_ble_eq_true rfl) rfl rfl ?_
                refine ev_aload_n (pc := 313) 3 dX12_work_313 rfl rfl ?_
                refine ev_getR (pc := 314) fl12_36 rfl dX12_work_314 rfl kd_801 (by omega) (rf_801_26 _) ?_
                refine ev_iload (pc := 317) 0 dX12_work_317 rfl ?_
                refine ev_iconst (pc := 319) (x := 1) dX12_work_319 ci_1 ?_
                refine ev_isub (pc := 320) dX12_work_320 ?_
                refine ev_iload (pc := 321) 2 dX12_work_321 rfl ?_
                refine ev_bipush (pc := 323) (x := 21) dX12_work_323 cb_21 ?_
                refine ev_icmp_ne (pc := 325) (tgt := 358) dX12_work_325 (by decide) (fun b12 => ?_) (fun b12 => ?_)
                · rw [if_pos b12] at h
                  refine ev_aload_n (pc := 358) 3 dX12_work_358 rfl rfl ?_
                  refine ev_getR (pc := 359) fl12_36 rfl dX12_work_359 rfl kd_801 (by omega) (rf_801_26 _) ?_
                  refine ev_iload (pc := 362) 0 dX12_work_362 rfl ?_
                  refine ev_iconst (pc := 364) (x := 1) dX12_work_364 ci_1 ?_
                  refine ev_isub (pc := 365) dX12_work_365 ?_
                  obtain ⟨c13, h⟩ := ck_some h
                  refine ev_bldr (pc := 366) dX12_work_366 kd_808 (by omega) (by omega) c13.1 c13.2 ?_
                  refine ev_if_ne (pc := 367) (tgt := 380) dX12_work_367 (by decide) (fun b14 => ?_) (fun b14 => ?_)
                  · rw [if_pos b14] at h
                    refine ev_iconst (pc := 380) (x := 1) dX12_work_380 ci_1 ?_
                    refine ev_goto (pc := 381) (tgt := 385) dX12_work_381 (by decide) ?_
                    obtain ⟨M15, eM15, h⟩ := lt_some h
                    refine ev_bstr (pc := 385) dX12_work_385 kd_808 (by omega) (by omega) c13.1 c13.2 (Or.inr rfl) eM15 ?_
                    refine ev_iinc (pc := 386) (il' := [(6, vI (wI (x6 + 1))), (5, vI (wI (x5 + (-1)))), (8, vI (M 804 (wI ((wI (x3 + (wI (2 * x6)))) + 1)))), (7, vI (M 804 (wI (x3 + (wI (2 * x6)))))), (0, vR 801), (2, vI x2), (3, vI x3), (4, vI x4)]) 7 dX12_work_386 rfl (Nat.le_of_ble_eq_true rfl) rfl rfl ?_
                    refine ev_goto (pc := 389) (tgt := 47) dX12_work_389 (by decide) ?_
                    refine ev_pick [4, 5, 6, 7, 1, 0] rfl ?_
                    exact ih h hk0
                  · rw [if_neg b14] at h
                    refine ev_aload_n (pc := 370) 3 dX12_work_370 rfl rfl ?_
                    refine ev_getR (pc := 371) fl12_36 rfl dX12_work_371 rfl kd_801 (by omega) (rf_801_26 _) ?_
                    refine ev_iload (pc := 374) 0 dX12_work_374 rfl ?_
                    obtain ⟨c16, h⟩ := ck_some h
                    refine ev_bldr (pc := 376) dX12_work_376 kd_808 (by omega) (by omega) c16.1 c16.2 ?_
                    refine ev_if_eq (pc := 377) (tgt := 384) dX12_work_377 (by decide) (fun b17 => ?_) (fun b17 => ?_)
                    · rw [if_pos b17] at h
                      refine ev_iconst (pc := 384) (x := 0) dX12_work_384 ci_0 ?_
                      obtain ⟨M18, eM18, h⟩ := lt_some h
                      refine ev_bstr (pc := 385) dX12_work_385 kd_808 (by omega) (by omega) c13.1 c13.2 (Or.inl rfl) eM18 ?_
                      refine ev_iinc (pc := 386) (il' := [(6, vI (wI (x6 + 1))), (5, vI (wI (x5 + (-1)))), (8, vI (M 804 (wI ((wI (x3 + (wI (2 * x6)))) + 1)))), (7, vI (M 804 (wI (x3 + (wI (2 * x6)))))), (0, vR 801), (2, vI x2), (3, vI x3), (4, vI x4)]) 7 dX12_work_386 rfl (Nat.le_of_ble_eq_true rfl) rfl rfl ?_
                      refine ev_goto (pc := 389) (tgt := 47) dX12_work_389 (by decide) ?_
                      refine ev_pick [4, 5, 6, 7, 1, 0] rfl ?_
                      exact ih h hk0
                    · rw [if_neg b17] at h
                      refine ev_iconst (pc := 380) (x := 1) dX12_work_380 ci_1 ?_
                      refine ev_goto (pc := 381) (tgt := 385) dX12_work_381 (by decide) ?_
                      obtain ⟨M19, eM19, h⟩ := lt_some h
                      refine ev_bstr (pc := 385) dX12_work_385 kd_808 (by omega) (by omega) c13.1 c13.2 (Or.inr rfl) eM19 ?_
                      refine ev_iinc (pc := 386) (il' := [(6, vI (wI (x6 + 1))), (5, vI (wI (x5 + (-1)))), (8, vI (M 804 (wI ((wI (x3 + (wI (2 * x6)))) + 1)))), (7, vI (M 804 (wI (x3 + (wI (2 * x6)))))), (0, vR 801), (2, vI x2), (3, vI x3), (4, vI x4)]) 7 dX12_work_386 rfl (Nat.le_of_ble_eq_true rfl) rfl rfl ?_
                      refine ev_goto (pc := 389) (tgt := 47) dX12_work_389 (by decide) ?_
                      refine ev_pick [4, 5, 6, 7, 1, 0] rfl ?_
                      exact ih h hk0
                · rw [if_neg b12] at h
                  refine ev_aload_n (pc := 328) 3 dX12_work_328 rfl rfl ?_
                  refine ev_getR (pc := 329) fl12_36 rfl dX12_work_329 rfl kd_801 (by omega) (rf_801_26 _) ?_
                  refine ev_iload (pc := 332) 0 dX12_work_332 rfl ?_
                  refine ev_iconst (pc := 334) (x := 1) dX12_work_334 ci_1 ?_
                  refine ev_isub (pc := 335) dX12_work_335 ?_
                  obtain ⟨c20, h⟩ := ck_some h
                  refine ev_bldr (pc := 336) dX12_work_336 kd_808 (by omega) (by omega) c20.1 c20.2 ?_
                  refine ev_if_eq (pc := 337) (tgt := 354) dX12_work_337 (by decide) (fun b21 => ?_) (fun b21 => ?_)
                  · rw [if_pos b21] at h
                    refine ev_iconst (pc := 354) (x := 0) dX12_work_354 ci_0 ?_
                    refine ev_goto (pc := 355) (tgt := 385) dX12_work_355 (by decide) ?_
                    obtain ⟨M22, eM22, h⟩ := lt_some h
                    refine ev_bstr (pc := 385) dX12_work_385 kd_808 (by omega) (by omega) c20.1 c20.2 (Or.inl rfl) eM22 ?_
                    refine ev_iinc (pc := 386) (il' := [(6, vI (wI (x6 + 1))), (5, vI (wI (x5 + (-1)))), (8, vI (M 804 (wI ((wI (x3 + (wI (2 * x6)))) + 1)))), (7, vI (M 804 (wI (x3 + (wI (2 * x6)))))), (0, vR 801), (2, vI x2), (3, vI x3), (4, vI x4)]) 7 dX12_work_386 rfl (Nat.le_of_ble_eq_true rfl) rfl rfl ?_
                    refine ev_goto (pc := 389) (tgt := 47) dX12_work_389 (by decide) ?_
                    refine ev_pick [4, 5, 6, 7, 1, 0] rfl ?_
                    exact ih h hk0
                  · rw [if_neg b21] at h
                    refine ev_aload_n (pc := 340) 3 dX12_work_340 rfl rfl ?_
                    refine ev_getR (pc := 341) fl12_36 rfl dX12_work_341 rfl kd_801 (by omega) (rf_801_26 _) ?_
                    refine ev_iload (pc := 344) 0 dX12_work_344 rfl ?_
                    obtain ⟨c23, h⟩ := ck_some h
                    refine ev_bldr (pc := 346) dX12_work_346 kd_808 (by omega) (by omega) c23.1 c23.2 ?_
                    refine ev_if_eq (pc := 347) (tgt := 354) dX12_work_347 (by decide) (fun b24 => ?_) (fun b24 => ?_)
                    · rw [if_pos b24] at h
                      refine ev_iconst (pc := 354) (x := 0) dX12_work_354 ci_0 ?_
                      refine ev_goto (pc := 355) (tgt := 385) dX12_work_355 (by decide) ?_
                      obtain ⟨M25, eM25, h⟩ := lt_some h
                      refine ev_bstr (pc := 385) dX12_work_385 kd_808 (by omega) (by omega) c20.1 c20.2 (Or.inl rfl) eM25 ?_
                      refine ev_iinc (pc := 386) (il' := [(6, vI (wI (x6 + 1))), (5, vI (wI (x5 + (-1)))), (8, vI (M 804 (wI ((wI (x3 + (wI (2 * x6)))) + 1)))), (7, vI (M 804 (wI (x3 + (wI (2 * x6)))))), (0, vR 801), (2, vI x2), (3, vI x3), (4, vI x4)]) 7 dX12_work_386 rfl (Nat.le_of_ble_eq_true rfl) rfl rfl ?_
                      refine ev_goto (pc := 389) (tgt := 47) dX12_work_389 (by decide) ?_
                      refine ev_pick [4, 5, 6, 7, 1, 0] rfl ?_
                      exact ih h hk0
                    · rw [if_neg b24] at h
                      refine ev_iconst (pc := 350) (x := 1) dX12_work_350 ci_1 ?_
                      refine ev_goto (pc := 351) (tgt := 385) dX12_work_351 (by decide) ?_
                      obtain ⟨M26, eM26, h⟩ := lt_some h
                      refine ev_bstr (pc := 385) dX12_work_385 kd_808 (by omega) (by omega) c20.1 c20.2 (Or.inr rfl) eM26 ?_
                      refine ev_iinc (pc := 386) (il' := [(6, vI (wI (x6 + 1))), (5, vI (wI (x5 + (-1)))), (8, vI (M 804 (wI ((wI (x3 + (wI (2 * x6)))) + 1)))), (7, vI (M 804 (wI (x3 + (wI (2 * x6)))))), (0, vR 801), (2, vI x2), (3, vI x3), (4, vI x4)]) 7 dX12_work_386 rfl (Nat.le_of_ble_eq_true rfl) rfl rfl ?_
                      refine ev_goto (pc := 389) (tgt := 47) dX12_work_389 (by decide) ?_
                      refine ev_pick [4, 5, 6, 7, 1, 0] rfl ?_
                      exact ih h hk0
              · rw [if_neg b11] at h
                refine ev_aload_n (pc := 281) 2 dX12_work_281 rfl rfl ?_
                refine ev_getR (pc := 282) fl12_36 rfl dX12_work_282 rfl kd_801 (by omega) (rf_801_26 _) ?_
                refine ev_iload (pc := 285) 6 dX12_work_285 rfl ?_
                refine ev_iconst (pc := 287) (x := 1) dX12_work_287 ci_1 ?_
                refine ev_isub (pc := 288) dX12_work_288 ?_
                refine ev_aload_n (pc := 289) 2 dX12_work_289 rfl rfl ?_
                refine ev_getR (pc := 290) fl12_36 rfl dX12_work_290 rfl kd_801 (by omega) (rf_801_26 _) ?_
                refine ev_iload (pc := 293) 6 dX12_work_293 rfl ?_
                refine ev_iconst (pc := 295) (x := 1) dX12_work_295 ci_1 ?_
                refine ev_isub (pc := 296) dX12_work_296 ?_
                obtain ⟨c27, h⟩ := ck_some h
                refine ev_bldr (pc := 297) dX12_work_297 kd_808 (by omega) (by omega) c27.1 c27.2 ?_
                refine ev_if_ne (pc := 298) (tgt := 305) dX12_work_298 (by decide) (fun b28 => ?_) (fun b28 => ?_)
                · rw [if_pos b28] at h
                  refine ev_iconst (pc := 305) (x := 0) dX12_work_305 ci_0 ?_
                  obtain ⟨M29, eM29, h⟩ := lt_some h
                  refine ev_bstr (pc := 306) dX12_work_306 kd_808 (by omega) (by omega) c27.1 c27.2 (Or.inl rfl) eM29 ?_
                  refine ev_goto (pc := 307) (tgt := 386) dX12_work_307 (by decide) ?_
                  refine ev_iinc (pc := 386) (il' := [(6, vI (wI (x6 + 1))), (8, vI (M 804 (wI ((wI (x3 + (wI (2 * x6)))) + 1)))), (7, vI (M 804 (wI (x3 + (wI (2 * x6)))))), (0, vR 801), (2, vI x2), (3, vI x3), (4, vI x4), (5, vI x5)]) 7 dX12_work_386 rfl (Nat.le_of_ble_eq_true rfl) rfl rfl ?_
                  refine ev_goto (pc := 389) (tgt := 47) dX12_work_389 (by decide) ?_
                  refine ev_pick [3, 4, 5, 6, 7, 0] rfl ?_
                  exact ih h hk0
                · rw [if_neg b28] at h
                  refine ev_iconst (pc := 301) (x := 1) dX12_work_301 ci_1 ?_
                  refine ev_goto (pc := 302) (tgt := 306) dX12_work_302 (by decide) ?_
                  obtain ⟨M30, eM30, h⟩ := lt_some h
                  refine ev_bstr (pc := 306) dX12_work_306 kd_808 (by omega) (by omega) c27.1 c27.2 (Or.inr rfl) eM30 ?_
                  refine ev_goto (pc := 307) (tgt := 386) dX12_work_307 (by decide) ?_
                  refine ev_iinc (pc := 386) (il' := [(6, vI (wI (x6 + 1))), (8, vI (M 804 (wI ((wI (x3 + (wI (2 * x6)))) + 1)))), (7, vI (M 804 (wI (x3 + (wI (2 * x6)))))), (0, vR 801), (2, vI x2), (3, vI x3), (4, vI x4), (5, vI x5)]) 7 dX12_work_386 rfl (Nat.le_of_ble_eq_true rfl) rfl rfl ?_
                  refine ev_goto (pc := 389) (tgt := 47) dX12_work_389 (by decide) ?_
                  refine ev_pick [3, 4, 5, 6, 7, 0] rfl ?_
                  exact ih h hk0
            · rw [if_neg b10] at h
              refine ev_iinc (pc := 237) (il' := [(4, vI (wI (x4 + (-2)))), (8, vI (M 804 (wI ((wI (x3 + (wI (2 * x6)))) + 1)))), (7, vI (M 804 (wI (x3 + (wI (2 * x6)))))), (0, vR 801), (2, vI x2), (3, vI x3), (5, vI x5), (6, vI x6)]) 5 dX12_work_237 rfl (Nat.le_of_ble_eq_true rfl) rfl rfl ?_
              refine ev_aload_n (pc := 240) 3 dX12_work_240 rfl rfl ?_
              refine ev_getR (pc := 241) fl12_36 rfl dX12_work_241 rfl kd_801 (by omega) (rf_801_26 _) ?_
              refine ev_iload (pc := 244) 6 dX12_work_244 rfl ?_
              refine ev_iload (pc := 246) 2 dX12_work_246 rfl ?_
              refine ev_aload_n (pc := 248) 3 dX12_work_248 rfl rfl ?_
              refine ev_getR (pc := 249) fl12_32 rfl dX12_work_249 rfl kd_801 (by omega) (rf_801_25 _) ?_
              refine ev_iload (pc := 252) 0 dX12_work_252 rfl ?_
              obtain ⟨c31, h⟩ := ck_some h
              refine ev_lldr (pc := 254) dX12_work_254 kd_807 (by omega) (by omega) c31.1 c31.2 ?_
              refine ev_aload_n (pc := 255) 3 dX12_work_255 rfl rfl ?_
              refine ev_getR (pc := 256) fl12_32 rfl dX12_work_256 rfl kd_801 (by omega) (rf_801_25 _) ?_
              refine ev_iload (pc := 259) 0 dX12_work_259 rfl ?_
              refine ev_iconst (pc := 261) (x := 1) dX12_work_261 ci_1 ?_
              refine ev_iadd (pc := 262) dX12_work_262 ?_
              obtain ⟨c32, h⟩ := ck_some h
              refine ev_lldr (pc := 263) dX12_work_263 kd_807 (by omega) (by omega) c32.1 c32.2 ?_
              obtain ⟨q33, hq33, h⟩ := lt_some h
              refine ev_cS (pc := 264) [vI (M 804 (wI (x3 + (wI (2 * x6))))), vL (M 807 (wI (x4 + (-2)))), vL (M 807 (wI ((wI (x4 + (-2))) + 1)))] [vI x5, vR 808] rfl mkX12_isAsked ml12_319 msX12_isAsked dX12_work_264 rfl (Nat.le_of_ble_eq_true rfl) (by omega) rfl (e_X12_isAsked (d := d - 1) (v := q33) (by omega)  hq33.symm) ?_
              obtain ⟨c34, h⟩ := ck_some h
              obtain ⟨c35, h⟩ := ck_some h
              obtain ⟨M36, eM36, h⟩ := lt_some h
              refine ev_bstr (pc := 267) dX12_work_267 kd_808 (by omega) (by omega) c34.1 c34.2 c35 eM36 ?_
              refine ev_iinc (pc := 268) (il' := [(5, vI (wI (x5 + 1))), (4, vI (wI (x4 + (-2)))), (8, vI (M 804 (wI ((wI (x3 + (wI (2 * x6)))) + 1)))), (7, vI (M 804 (wI (x3 + (wI (2 * x6)))))), (0, vR 801), (2, vI x2), (3, vI x3), (6, vI x6)]) 6 dX12_work_268 rfl (Nat.le_of_ble_eq_true rfl) rfl rfl ?_
              refine ev_goto (pc := 271) (tgt := 386) dX12_work_271 (by decide) ?_
              refine ev_iinc (pc := 386) (il' := [(6, vI (wI (x6 + 1))), (5, vI (wI (x5 + 1))), (4, vI (wI (x4 + (-2)))), (8, vI (M 804 (wI ((wI (x3 + (wI (2 * x6)))) + 1)))), (7, vI (M 804 (wI (x3 + (wI (2 * x6)))))), (0, vR 801), (2, vI x2), (3, vI x3)]) 7 dX12_work_386 rfl (Nat.le_of_ble_eq_true rfl) rfl rfl ?_
              refine ev_goto (pc := 389) (tgt := 47) dX12_work_389 (by decide) ?_
              refine ev_pick [5, 6, 7, 2, 1, 0] rfl ?_
              exact ih h hk0
          · rw [if_neg b9] at h
            refine ev_iinc (pc := 194) (il' := [(4, vI (wI (x4 + (-1)))), (8, vI (M 804 (wI ((wI (x3 + (wI (2 * x6)))) + 1)))), (7, vI (M 804 (wI (x3 + (wI (2 * x6)))))), (0, vR 801), (2, vI x2), (3, vI x3), (5, vI x5), (6, vI x6)]) 5 dX12_work_194 rfl (Nat.le_of_ble_eq_true rfl) rfl rfl ?_
            refine ev_aload_n (pc := 197) 3 dX12_work_197 rfl rfl ?_
            refine ev_getR (pc := 198) fl12_32 rfl dX12_work_198 rfl kd_801 (by omega) (rf_801_25 _) ?_
            refine ev_iload (pc := 201) 0 dX12_work_201 rfl ?_
            refine ev_iconst (pc := 203) (x := 1) dX12_work_203 ci_1 ?_
            refine ev_isub (pc := 204) dX12_work_204 ?_
            refine ev_iload (pc := 205) 2 dX12_work_205 rfl ?_
            refine ev_aload_n (pc := 207) 3 dX12_work_207 rfl rfl ?_
            refine ev_getR (pc := 208) fl12_32 rfl dX12_work_208 rfl kd_801 (by omega) (rf_801_25 _) ?_
            refine ev_iload (pc := 211) 0 dX12_work_211 rfl ?_
            refine ev_iconst (pc := 213) (x := 1) dX12_work_213 ci_1 ?_
            refine ev_isub (pc := 214) dX12_work_214 ?_
            obtain ⟨c37, h⟩ := ck_some h
            refine ev_lldr (pc := 215) dX12_work_215 kd_807 (by omega) (by omega) c37.1 c37.2 ?_
            refine ev_aload_n (pc := 216) 3 dX12_work_216 rfl rfl ?_
            refine ev_getR (pc := 217) fl12_32 rfl dX12_work_217 rfl kd_801 (by omega) (rf_801_25 _) ?_
            refine ev_iload (pc := 220) 0 dX12_work_220 rfl ?_
            obtain ⟨c38, h⟩ := ck_some h
            refine ev_lldr (pc := 222) dX12_work_222 kd_807 (by omega) (by omega) c38.1 c38.2 ?_
            obtain ⟨q39, hq39, h⟩ := bd h
            refine ev_cS (pc := 223) [vI (M 804 (wI (x3 + (wI (2 * x6))))), vL (M 807 (wI ((wI (x4 + (-1))) - 1))), vL (M 807 (wI (x4 + (-1))))] [vI (wI ((wI (x4 + (-1))) - 1)), vR 807] rfl mkX12_two ml12_315 msX12_two dX12_work_223 rfl (Nat.le_of_ble_eq_true rfl) (by omega) rfl (e_X12_two (d := d - 1) (v := q39) (by omega)  hq39) ?_
            obtain ⟨M40, eM40, h⟩ := lt_some h
            refine ev_lstr (pc := 226) dX12_work_226 kd_807 (by omega) (by omega) c37.1 c37.2 eM40 ?_
            refine ev_goto (pc := 227) (tgt := 386) dX12_work_227 (by decide) ?_
            refine ev_iinc (pc := 386) (il' := [(6, vI (wI (x6 + 1))), (4, vI (wI (x4 + (-1)))), (8, vI (M 804 (wI ((wI (x3 + (wI (2 * x6)))) + 1)))), (7, vI (M 804 (wI (x3 + (wI (2 * x6)))))), (0, vR 801), (2, vI x2), (3, vI x3), (5, vI x5)]) 7 dX12_work_386 rfl (Nat.le_of_ble_eq_true rfl) rfl rfl ?_
            refine ev_goto (pc := 389) (tgt := 47) dX12_work_389 (by decide) ?_
            refine ev_pick [4, 5, 6, 1, 7, 0] rfl ?_
            exact ih h hk0
        · rw [if_neg b8] at h
          refine ev_aload_n (pc := 165) 2 dX12_work_165 rfl rfl ?_
          refine ev_getR (pc := 166) fl12_32 rfl dX12_work_166 rfl kd_801 (by omega) (rf_801_25 _) ?_
          refine ev_iload (pc := 169) 5 dX12_work_169 rfl ?_
          refine ev_iconst (pc := 171) (x := 1) dX12_work_171 ci_1 ?_
          refine ev_isub (pc := 172) dX12_work_172 ?_
          refine ev_aload_n (pc := 173) 2 dX12_work_173 rfl rfl ?_
          refine ev_getR (pc := 174) fl12_32 rfl dX12_work_174 rfl kd_801 (by omega) (rf_801_25 _) ?_
          refine ev_iload (pc := 177) 5 dX12_work_177 rfl ?_
          refine ev_iconst (pc := 179) (x := 1) dX12_work_179 ci_1 ?_
          refine ev_isub (pc := 180) dX12_work_180 ?_
          obtain ⟨c41, h⟩ := ck_some h
          refine ev_lldr (pc := 181) dX12_work_181 kd_807 (by omega) (by omega) c41.1 c41.2 ?_
          refine ev_lneg (pc := 182) dX12_work_182 ?_
          obtain ⟨M42, eM42, h⟩ := lt_some h
          refine ev_lstr (pc := 183) dX12_work_183 kd_807 (by omega) (by omega) c41.1 c41.2 eM42 ?_
          refine ev_goto (pc := 184) (tgt := 386) dX12_work_184 (by decide) ?_
          refine ev_iinc (pc := 386) (il' := [(6, vI (wI (x6 + 1))), (8, vI (M 804 (wI ((wI (x3 + (wI (2 * x6)))) + 1)))), (7, vI (M 804 (wI (x3 + (wI (2 * x6)))))), (0, vR 801), (2, vI x2), (3, vI x3), (4, vI x4), (5, vI x5)]) 7 dX12_work_386 rfl (Nat.le_of_ble_eq_true rfl) rfl rfl ?_
          refine ev_goto (pc := 389) (tgt := 47) dX12_work_389 (by decide) ?_
          refine ev_pick [3, 4, 5, 6, 7, 0] rfl ?_
          exact ih h hk0
      · rw [if_neg b7] at h
        refine ev_aload_n (pc := 94) 2 dX12_work_94 rfl rfl ?_
        refine ev_getR (pc := 95) fl12_32 rfl dX12_work_95 rfl kd_801 (by omega) (rf_801_25 _) ?_
        refine ev_iload (pc := 98) 5 dX12_work_98 rfl ?_
        refine ev_iload (pc := 100) 1 dX12_work_100 rfl ?_
        refine ev_if_ne (pc := 102) (tgt := 111) dX12_work_102 (by decide) (fun b43 => ?_) (fun b43 => ?_)
        · rw [if_pos b43] at h
          refine ev_aload_n (pc := 111) 2 dX12_work_111 rfl rfl ?_
          refine ev_iload (pc := 112) 0 dX12_work_112 rfl ?_
          refine ev_iload (pc := 114) 1 dX12_work_114 rfl ?_
          refine ev_iconst (pc := 116) (x := 1) dX12_work_116 ci_1 ?_
          refine ev_icmp_ne (pc := 117) (tgt := 127) dX12_work_117 (by decide) (fun b44 => ?_) (fun b44 => ?_)
          · rw [if_pos b44] at h
            refine ev_iload (pc := 127) 1 dX12_work_127 rfl ?_
            refine ev_iconst (pc := 129) (x := 2) dX12_work_129 ci_2 ?_
            refine ev_icmp_ne (pc := 130) (tgt := 142) dX12_work_130 (by decide) (fun b45 => ?_) (fun b45 => ?_)
            · rw [if_pos b45] at h
              refine ev_aload_n (pc := 142) 2 dX12_work_142 rfl rfl ?_
              refine ev_getIr (pc := 143) fl12_300 rfl dX12_work_143 rfl kd_801 (by omega) (by omega) 21 rfl ?_
              refine ev_iconst (pc := 146) (x := 1) dX12_work_146 ci_1 ?_
              refine ev_iadd (pc := 147) dX12_work_147 ?_
              refine ev_pick [2, 3, 4, 5, 6, 7] rfl ?_
              exact e_X12_work_L47_J148 hd  (fun h9 => ih h9 hk0) hk0 h
            · rw [if_neg b45] at h
              refine ev_aload_n (pc := 133) 2 dX12_work_133 rfl rfl ?_
              refine ev_getIr (pc := 134) fl12_300 rfl dX12_work_134 rfl kd_801 (by omega) (by omega) 21 rfl ?_
              refine ev_iconst (pc := 137) (x := 1) dX12_work_137 ci_1 ?_
              refine ev_isub (pc := 138) dX12_work_138 ?_
              refine ev_goto (pc := 139) (tgt := 148) dX12_work_139 (by decide) ?_
              refine ev_pick [2, 3, 4, 5, 6, 7] rfl ?_
              exact e_X12_work_L47_J148 hd  (fun h9 => ih h9 hk0) hk0 h
          · rw [if_neg b44] at h
            refine ev_aload_n (pc := 120) 2 dX12_work_120 rfl rfl ?_
            refine ev_getIr (pc := 121) fl12_300 rfl dX12_work_121 rfl kd_801 (by omega) (by omega) 21 rfl ?_
            refine ev_goto (pc := 124) (tgt := 148) dX12_work_124 (by decide) ?_
            refine ev_pick [2, 3, 4, 5, 6, 7] rfl ?_
            exact e_X12_work_L47_J148 hd  (fun h9 => ih h9 hk0) hk0 h
        · rw [if_neg b43] at h
          refine ev_iload (pc := 105) 0 dX12_work_105 rfl ?_
          refine ev_i2l (pc := 107) dX12_work_107 ?_
          refine ev_goto (pc := 108) (tgt := 152) dX12_work_108 (by decide) ?_
          obtain ⟨c49, h⟩ := ck_some h
          obtain ⟨M50, eM50, h⟩ := lt_some h
          refine ev_lstr (pc := 152) dX12_work_152 kd_807 (by omega) (by omega) c49.1 c49.2 eM50 ?_
          refine ev_iinc (pc := 153) (il' := [(4, vI (wI (x4 + 1))), (8, vI (M 804 (wI ((wI (x3 + (wI (2 * x6)))) + 1)))), (7, vI (M 804 (wI (x3 + (wI (2 * x6)))))), (0, vR 801), (2, vI x2), (3, vI x3), (5, vI x5), (6, vI x6)]) 5 dX12_work_153 rfl (Nat.le_of_ble_eq_true rfl) rfl rfl ?_
          refine ev_goto (pc := 156) (tgt := 386) dX12_work_156 (by decide) ?_
          refine ev_iinc (pc := 386) (il' := [(6, vI (wI (x6 + 1))), (4, vI (wI (x4 + 1))), (8, vI (M 804 (wI ((wI (x3 + (wI (2 * x6)))) + 1)))), (7, vI (M 804 (wI (x3 + (wI (2 * x6)))))), (0, vR 801), (2, vI x2), (3, vI x3), (5, vI x5)]) 7 dX12_work_386 rfl (Nat.le_of_ble_eq_true rfl) rfl rfl ?_
          refine ev_goto (pc := 389) (tgt := 47) dX12_work_389 (by decide) ?_
          refine ev_pick [4, 5, 6, 1, 7, 0] rfl ?_
          exact ih h hk0
def f_X12_work (n : Nat) (p0 : Int) (M : Mem) : Option (Mem) := lt ((wI ((wI ((wI (729 * (M 802 3))) + 1)) + (wI (5 * p0))))) fun y1 => ck (0 ≤ (wI (y1 + 1)) ∧ (wI (y1 + 1)) < 2916) ((f_X12_work_L47 n y1 (wI ((wI (729 * (M 802 3))) + 121)) 0 0 (M 804 (wI (y1 + 1))) M).bind fun q51 => some q51)
set_option maxRecDepth 100000 in
set_option maxHeartbeats 4000000 in
theorem e_X12_work {g : Gm} {d : Nat} {n : Nat} {p0 : Int} {M N : Mem} {M' : Mem} (hd : 3 ≤ d) (h : f_X12_work n p0 M = some M') : EvM g d mtX12_work [vR 801, vI p0] (sg (mx N M)) (0, 0) vN (sg (mx N M')) := by
  unfold f_X12_work at h
  refine EvM.of mkX12_work.2.2.2.1 (Nat.le_of_ble_eq_true rfl) ?_
  change Ev g d mtX12_work 0 [(0, vR 801), (1, vI p0)] [] (sg (mx N M)) (0, 0) vN (sg (mx N M'))
  refine ev_sipush (pc := 0) (x := 729) dX12_work_0 cs_729 ?_
  refine ev_aload_n (pc := 3) 0 dX12_work_3 rfl rfl ?_
  refine ev_getR (pc := 4) fl12_7 rfl dX12_work_4 rfl kd_801 (by omega) (rf_801_0 _) ?_
  refine ev_iconst (pc := 7) (x := 3) dX12_work_7 ci_3 ?_
  refine ev_ildr (pc := 8) dX12_work_8 kd_802 (by omega) (by omega) (by omega) (by omega) ?_
  refine ev_imul (pc := 9) dX12_work_9 ?_
  refine ev_iconst (pc := 10) (x := 1) dX12_work_10 ci_1 ?_
  refine ev_iadd (pc := 11) dX12_work_11 ?_
  refine ev_iconst (pc := 12) (x := 5) dX12_work_12 ci_5 ?_
  refine ev_iload_n (pc := 13) 1 dX12_work_13 rfl rfl ?_
  refine ev_imul (pc := 14) dX12_work_14 ?_
  refine ev_iadd (pc := 15) dX12_work_15 ?_
  obtain ⟨y1, ey1, h⟩ := lt_some h
  refine ev_istore_n (pc := 16) (il' := [(2, vI y1), (0, vR 801), (1, vI p0)]) dX12_work_16 rfl (Nat.le_of_ble_eq_true rfl) (by rw [ey1] <;> rfl) ?_
  refine ev_sipush (pc := 17) (x := 729) dX12_work_17 cs_729 ?_
  refine ev_aload_n (pc := 20) 1 dX12_work_20 rfl rfl ?_
  refine ev_getR (pc := 21) fl12_7 rfl dX12_work_21 rfl kd_801 (by omega) (rf_801_0 _) ?_
  refine ev_iconst (pc := 24) (x := 3) dX12_work_24 ci_3 ?_
  refine ev_ildr (pc := 25) dX12_work_25 kd_802 (by omega) (by omega) (by omega) (by omega) ?_
  refine ev_imul (pc := 26) dX12_work_26 ?_
  refine ev_bipush (pc := 27) (x := 121) dX12_work_27 cb_121 ?_
  refine ev_iadd (pc := 29) dX12_work_29 ?_
  refine ev_istore_n (pc := 30) (il' := [(3, vI (wI ((wI (729 * (M 802 3))) + 121))), (2, vI y1), (0, vR 801), (1, vI p0)]) dX12_work_30 rfl (Nat.le_of_ble_eq_true rfl) rfl ?_
  refine ev_iconst (pc := 31) (x := 0) dX12_work_31 ci_0 ?_
  refine ev_istore (pc := 32) (il' := [(4, vI 0), (3, vI (wI ((wI (729 * (M 802 3))) + 121))), (2, vI y1), (0, vR 801), (1, vI p0)]) dX12_work_32 (Nat.le_of_ble_eq_true rfl) rfl ?_
  refine ev_iconst (pc := 34) (x := 0) dX12_work_34 ci_0 ?_
  refine ev_istore (pc := 35) (il' := [(5, vI 0), (4, vI 0), (3, vI (wI ((wI (729 * (M 802 3))) + 121))), (2, vI y1), (0, vR 801), (1, vI p0)]) dX12_work_35 (Nat.le_of_ble_eq_true rfl) rfl ?_
  refine ev_aload_n (pc := 37) 4 dX12_work_37 rfl rfl ?_
  refine ev_getR (pc := 38) fl12_16 rfl dX12_work_38 rfl kd_801 (by omega) (rf_801_2 _) ?_
  refine ev_iload_n (pc := 41) 3 dX12_work_41 rfl rfl ?_
  refine ev_iconst (pc := 42) (x := 1) dX12_work_42 ci_1 ?_
  refine ev_iadd (pc := 43) dX12_work_43 ?_
  obtain ⟨c2, h⟩ := ck_some h
  refine ev_ildr (pc := 44) dX12_work_44 kd_804 (by omega) (by omega) c2.1 c2.2 ?_
  refine ev_istore (pc := 45) (il' := [(6, vI (M 804 (wI (y1 + 1)))), (5, vI 0), (4, vI 0), (3, vI (wI ((wI (729 * (M 802 3))) + 121))), (2, vI y1), (0, vR 801), (1, vI p0)]) dX12_work_45 (Nat.le_of_ble_eq_true rfl) rfl ?_
  obtain ⟨q51, hq51, h⟩ := bd h
  refine ev_pick [5, 4, 3, 2, 1, 0] rfl ?_
  refine e_X12_work_L47 hd  n hq51 ?_
  cases h
  exact ev_vret (pc := 392) dX12_work_392 rfl
def f_X12_clauseOf_L2 : Nat → Int → Int → Mem → Option (Int)
  | 0, _, _, _ => none
  | n + 1, x1, x2, M => if (M 802 3) < 0 then (some (-1)) else (ck (0 ≤ (wI (729 * (M 802 3))) ∧ (wI (729 * (M 802 3))) < 2916) (if (M 804 (wI (729 * (M 802 3)))) ≤ x2 then (some (-1)) else (ck (0 ≤ (wI ((wI ((wI (729 * (M 802 3))) + 1)) + (wI (5 * x2)))) ∧ (wI ((wI ((wI (729 * (M 802 3))) + 1)) + (wI (5 * x2)))) < 2916) (if (M 804 (wI ((wI ((wI (729 * (M 802 3))) + 1)) + (wI (5 * x2))))) ≠ x1 then (f_X12_clauseOf_L2 n x1 (wI (x2 + 1)) M) else (some x2)))))
set_option maxRecDepth 100000 in
set_option maxHeartbeats 4000000 in
theorem e_X12_clauseOf_L2 {g : Gm} {d : Nat} {x1 : Int} {M N : Mem} (hd : 0 ≤ d) : ∀ (n : Nat) {x2 : Int} {v : Int}, f_X12_clauseOf_L2 n x1 x2 M = some v → Ev g d mtX12_clauseOf 2 [(0, vR 801), (1, vI x1), (2, vI x2)] [] (sg (mx N M)) (0, 0) (vI v) (sg (mx N M)) := by
  intro n
  induction n with
  | zero =>
    intro x2 v h
    rw [f_X12_clauseOf_L2.eq_1] at h
    cases h
  | succ n ih =>
    intro x2 v h
    rw [f_X12_clauseOf_L2.eq_2] at h
    refine ev_aload_n (pc := 2) 0 dX12_clauseOf_2 rfl rfl ?_
    refine ev_getR (pc := 3) fl12_7 rfl dX12_clauseOf_3 rfl kd_801 (by omega) (rf_801_0 _) ?_
    refine ev_iconst (pc := 6) (x := 3) dX12_clauseOf_6 ci_3 ?_
    refine ev_ildr (pc := 7) dX12_clauseOf_7 kd_802 (by omega) (by omega) (by omega) (by omega) ?_
    refine ev_if_lt (pc := 8) (tgt := 63) dX12_clauseOf_8 (by decide) (fun b1 => ?_) (fun b1 => ?_)
    · rw [if_pos b1] at h
      refine ev_iconst (pc := 63) (x := (-1)) dX12_clauseOf_63 ci_m1 ?_
      cases h
      exact ev_iret (pc := 64) dX12_clauseOf_64 rfl
    · rw [if_neg b1] at h
      refine ev_iload_n (pc := 11) 2 dX12_clauseOf_11 rfl rfl ?_
      refine ev_aload_n (pc := 12) 0 dX12_clauseOf_12 rfl rfl ?_
      refine ev_getR (pc := 13) fl12_16 rfl dX12_clauseOf_13 rfl kd_801 (by omega) (rf_801_2 _) ?_
      refine ev_sipush (pc := 16) (x := 729) dX12_clauseOf_16 cs_729 ?_
      refine ev_aload_n (pc := 19) 0 dX12_clauseOf_19 rfl rfl ?_
      refine ev_getR (pc := 20) fl12_7 rfl dX12_clauseOf_20 rfl kd_801 (by omega) (rf_801_0 _) ?_
      refine ev_iconst (pc := 23) (x := 3) dX12_clauseOf_23 ci_3 ?_
      refine ev_ildr (pc := 24) dX12_clauseOf_24 kd_802 (by omega) (by omega) (by omega) (by omega) ?_
      refine ev_imul (pc := 25) dX12_clauseOf_25 ?_
      obtain ⟨c2, h⟩ := ck_some h
      refine ev_ildr (pc := 26) dX12_clauseOf_26 kd_804 (by omega) (by omega) c2.1 c2.2 ?_
      refine ev_icmp_ge (pc := 27) (tgt := 63) dX12_clauseOf_27 (by decide) (fun b3 => ?_) (fun b3 => ?_)
      · rw [if_pos b3] at h
        refine ev_iconst (pc := 63) (x := (-1)) dX12_clauseOf_63 ci_m1 ?_
        cases h
        exact ev_iret (pc := 64) dX12_clauseOf_64 rfl
      · rw [if_neg b3] at h
        refine ev_aload_n (pc := 30) 0 dX12_clauseOf_30 rfl rfl ?_
        refine ev_getR (pc := 31) fl12_16 rfl dX12_clauseOf_31 rfl kd_801 (by omega) (rf_801_2 _) ?_
        refine ev_sipush (pc := 34) (x := 729) dX12_clauseOf_34 cs_729 ?_
        refine ev_aload_n (pc := 37) 0 dX12_clauseOf_37 rfl rfl ?_
        refine ev_getR (pc := 38) fl12_7 rfl dX12_clauseOf_38 rfl kd_801 (by omega) (rf_801_0 _) ?_
        refine ev_iconst (pc := 41) (x := 3) dX12_clauseOf_41 ci_3 ?_
        refine ev_ildr (pc := 42) dX12_clauseOf_42 kd_802 (by omega) (by omega) (by omega) (by omega) ?_
        refine ev_imul (pc := 43) dX12_clauseOf_43 ?_
        refine ev_iconst (pc := 44) (x := 1) dX12_clauseOf_44 ci_1 ?_
        refine ev_iadd (pc := 45) dX12_clauseOf_45 ?_
        refine ev_iconst (pc := 46) (x := 5) dX12_clauseOf_46 ci_5 ?_
        refine ev_iload_n (pc := 47) 2 dX12_clauseOf_47 rfl rfl ?_
        refine ev_imul (pc := 48) dX12_clauseOf_48 ?_
        refine ev_iadd (pc := 49) dX12_clauseOf_49 ?_
        obtain ⟨c4, h⟩ := ck_some h
        refine ev_ildr (pc := 50) dX12_clauseOf_50 kd_804 (by omega) (by omega) c4.1 c4.2 ?_
        refine ev_iload_n (pc := 51) 1 dX12_clauseOf_51 rfl rfl ?_
        refine ev_icmp_ne (pc := 52) (tgt := 57) dX12_clauseOf_52 (by decide) (fun b5 => ?_) (fun b5 => ?_)
        · rw [if_pos b5] at h
          refine ev_iinc (pc := 57) (il' := [(2, vI (wI (x2 + 1))), (0, vR 801), (1, vI x1)]) 2 dX12_clauseOf_57 rfl (Nat.le_of_ble_eq_true rfl) rfl rfl ?_
          refine ev_goto (pc := 60) (tgt := 2) dX12_clauseOf_60 (by decide) ?_
          refine ev_pick [1, 2, 0] rfl ?_
          exact ih h
        · rw [if_neg b5] at h
          refine ev_iload_n (pc := 55) 2 dX12_clauseOf_55 rfl rfl ?_
          cases h
          exact ev_iret (pc := 56) dX12_clauseOf_56 rfl
def f_X12_clauseOf (n : Nat) (p0 : Int) (M : Mem) : Option (Int) := f_X12_clauseOf_L2 n p0 0 M
set_option maxRecDepth 100000 in
set_option maxHeartbeats 4000000 in
theorem e_X12_clauseOf {g : Gm} {d : Nat} {n : Nat} {p0 : Int} {M N : Mem} {v : Int} (hd : 0 ≤ d) (h : f_X12_clauseOf n p0 M = some v) : EvM g d mtX12_clauseOf [vR 801, vI p0] (sg (mx N M)) (0, 0) (vI v) (sg (mx N M)) := by
  unfold f_X12_clauseOf at h
  refine EvM.of mkX12_clauseOf.2.2.2.1 (Nat.le_of_ble_eq_true rfl) ?_
  change Ev g d mtX12_clauseOf 0 [(0, vR 801), (1, vI p0)] [] (sg (mx N M)) (0, 0) (vI v) (sg (mx N M))
  refine ev_iconst (pc := 0) (x := 0) dX12_clauseOf_0 ci_0 ?_
  refine ev_istore_n (pc := 1) (il' := [(2, vI 0), (0, vR 801), (1, vI p0)]) dX12_clauseOf_1 rfl (Nat.le_of_ble_eq_true rfl) rfl ?_
  refine ev_pick [1, 2, 0] rfl ?_
  exact e_X12_clauseOf_L2 hd  n h
def f_X12_says (n : Nat) (p0 p1 p2 : Int) (M : Mem) : Option (Int × Mem) := (f_X12_clauseOf n p0 M).bind fun q1 => if 0 ≤ q1 then ((f_X12_work n q1 M).bind fun q3 => some ((f_X12_cut (q3 807 0) 0 p2), q3)) else (some ((f_X12_cut p1 0 p2), M))
set_option maxRecDepth 100000 in
set_option maxHeartbeats 4000000 in
theorem e_X12_says {g : Gm} {d : Nat} {n : Nat} {p0 p1 p2 : Int} {M N : Mem} {v : Int} {M' : Mem} (hd : 4 ≤ d) (h : f_X12_says n p0 p1 p2 M = some (v, M')) : EvM g d mtX12_says [vR 801, vI p0, vI p1, vI p2] (sg (mx N M)) (0, 0) (vI v) (sg (mx N M')) := by
  unfold f_X12_says at h
  refine EvM.of mkX12_says.2.2.2.1 (Nat.le_of_ble_eq_true rfl) ?_
  change Ev g d mtX12_says 0 [(0, vR 801), (1, vI p0), (2, vI p1), (3, vI p2)] [] (sg (mx N M)) (0, 0) (vI v) (sg (mx N M'))
  refine ev_aload_n (pc := 0) 0 dX12_says_0 rfl rfl ?_
  refine ev_iload_n (pc := 1) 1 dX12_says_1 rfl rfl ?_
  obtain ⟨q1, hq1, h⟩ := bd h
  refine ev_cV (pc := 2) [vI p0] [] rfl mkX12_clauseOf ml12_323 mnX12_clauseOf dX12_says_2 kd_801 (by omega) rfl (Nat.le_of_ble_eq_true rfl) (by omega) rfl (e_X12_clauseOf (d := d - 1) (v := q1) (by omega)  hq1) ?_
  refine ev_istore (pc := 5) (il' := [(4, vI q1), (0, vR 801), (1, vI p0), (2, vI p1), (3, vI p2)]) dX12_says_5 (Nat.le_of_ble_eq_true rfl) rfl ?_
  refine ev_iload (pc := 7) 0 dX12_says_7 rfl ?_
  refine ev_if_ge (pc := 9) (tgt := 20) dX12_says_9 (by decide) (fun b2 => ?_) (fun b2 => ?_)
  · rw [if_pos b2] at h
    refine ev_aload_n (pc := 20) 1 dX12_says_20 rfl rfl ?_
    refine ev_iload (pc := 21) 0 dX12_says_21 rfl ?_
    obtain ⟨q3, hq3, h⟩ := bd h
    refine ev_cV0 (pc := 23) [vI q1] [] rfl mkX12_work ml12_330 mnX12_work dX12_says_23 kd_801 (by omega) rfl (Nat.le_of_ble_eq_true rfl) (by omega) (e_X12_work (d := d - 1) (M' := q3) (by omega)  hq3) ?_
    refine ev_aload_n (pc := 26) 1 dX12_says_26 rfl rfl ?_
    refine ev_getR (pc := 27) fl12_32 rfl dX12_says_27 rfl kd_801 (by omega) (rf_801_25 _) ?_
    refine ev_iconst (pc := 30) (x := 0) dX12_says_30 ci_0 ?_
    refine ev_lldr (pc := 31) dX12_says_31 kd_807 (by omega) (by omega) (by omega) (by omega) ?_
    refine ev_iconst (pc := 32) (x := 0) dX12_says_32 ci_0 ?_
    refine ev_iload_n (pc := 33) 4 dX12_says_33 rfl rfl ?_
    refine ev_cS (pc := 34) [vL (q3 807 0), vI 0, vI p2] [] rfl mkX12_cut ml12_326 msX12_cut dX12_says_34 rfl (Nat.le_of_ble_eq_true rfl) (by omega) rfl (e_X12_cut (d := d - 1) (v := (f_X12_cut (q3 807 0) 0 p2)) (by omega)  rfl) ?_
    cases h
    exact ev_iret (pc := 37) dX12_says_37 rfl
  · rw [if_neg b2] at h
    refine ev_iload_n (pc := 12) 3 dX12_says_12 rfl rfl ?_
    refine ev_i2l (pc := 13) dX12_says_13 ?_
    refine ev_iconst (pc := 14) (x := 0) dX12_says_14 ci_0 ?_
    refine ev_iload_n (pc := 15) 4 dX12_says_15 rfl rfl ?_
    refine ev_cS (pc := 16) [vL p1, vI 0, vI p2] [] rfl mkX12_cut ml12_326 msX12_cut dX12_says_16 rfl (Nat.le_of_ble_eq_true rfl) (by omega) rfl (e_X12_cut (d := d - 1) (v := (f_X12_cut p1 0 p2)) (by omega)  rfl) ?_
    cases h
    exact ev_iret (pc := 19) dX12_says_19 rfl
def f_X12_takesOf (n : Nat) (p0 p1 p2 : Int) (M : Mem) : Option (Int × Mem) := lt (f_X12_ask p0 p1 p2 0 M) fun q1 => (f_X12_at p0 1 q1).bind fun q2 => (f_X12_says n 0 q2 9999 q1).bind fun q3 => some (q3.1, q3.2)
set_option maxRecDepth 100000 in
set_option maxHeartbeats 4000000 in
theorem e_X12_takesOf {g : Gm} {d : Nat} {n : Nat} {p0 p1 p2 : Int} {M N : Mem} {v : Int} {M' : Mem} (hd : 5 ≤ d) (h : f_X12_takesOf n p0 p1 p2 M = some (v, M')) : EvM g d mtX12_takesOf [vR 801, vI p0, vI p1, vI p2] (sg (mx N M)) (0, 0) (vI v) (sg (mx N M')) := by
  unfold f_X12_takesOf at h
  refine EvM.of mkX12_takesOf.2.2.2.1 (Nat.le_of_ble_eq_true rfl) ?_
  change Ev g d mtX12_takesOf 0 [(0, vR 801), (1, vI p0), (2, vI p1), (3, vI p2)] [] (sg (mx N M)) (0, 0) (vI v) (sg (mx N M'))
  refine ev_aload_n (pc := 0) 0 dX12_takesOf_0 rfl rfl ?_
  refine ev_iload_n (pc := 1) 1 dX12_takesOf_1 rfl rfl ?_
  refine ev_iload_n (pc := 2) 2 dX12_takesOf_2 rfl rfl ?_
  refine ev_iload_n (pc := 3) 3 dX12_takesOf_3 rfl rfl ?_
  refine ev_iconst (pc := 4) (x := 0) dX12_takesOf_4 ci_0 ?_
  obtain ⟨q1, hq1, h⟩ := lt_some h
  refine ev_cV0 (pc := 5) [vI p0, vI p1, vI p2, vI 0] [] rfl mkX12_ask ml12_333 mnX12_ask dX12_takesOf_5 kd_801 (by omega) rfl (Nat.le_of_ble_eq_true rfl) (by omega) (e_X12_ask (d := d - 1) (M' := q1) (by omega)  hq1.symm) ?_
  refine ev_aload_n (pc := 8) 0 dX12_takesOf_8 rfl rfl ?_
  refine ev_iconst (pc := 9) (x := 0) dX12_takesOf_9 ci_0 ?_
  refine ev_aload_n (pc := 10) 0 dX12_takesOf_10 rfl rfl ?_
  refine ev_iload_n (pc := 11) 1 dX12_takesOf_11 rfl rfl ?_
  refine ev_iconst (pc := 12) (x := 1) dX12_takesOf_12 ci_1 ?_
  obtain ⟨q2, hq2, h⟩ := bd h
  refine ev_cV (pc := 13) [vI p0, vI 1] [vI 0, vR 801] rfl mkX12_at ml12_98 mnX12_at dX12_takesOf_13 kd_801 (by omega) rfl (Nat.le_of_ble_eq_true rfl) (by omega) rfl (e_X12_at (d := d - 1) (v := q2) (by omega)  hq2) ?_
  refine ev_sipush (pc := 16) (x := 9999) dX12_takesOf_16 cs_9999 ?_
  obtain ⟨q3, hq3, h⟩ := bd h
  refine ev_cV (pc := 19) [vI 0, vI q2, vI 9999] [] rfl mkX12_says ml12_337 mnX12_says dX12_takesOf_19 kd_801 (by omega) rfl (Nat.le_of_ble_eq_true rfl) (by omega) rfl (e_X12_says (d := d - 1) (v := q3.1) (M' := q3.2) (by omega)  hq3) ?_
  cases h
  exact ev_iret (pc := 22) dX12_takesOf_22 rfl
def f_X12_haulsOf (n : Nat) (p0 p1 p2 : Int) (M : Mem) : Option (Int × Mem) := lt (f_X12_ask p0 (M 802 8) p1 p2 M) fun q1 => (f_X12_at p0 0 q1).bind fun q2 => (f_X12_says n 1 (wI ((wI (p1 - p2)) * q2)) 9999 q1).bind fun q3 => some (q3.1, q3.2)
set_option maxRecDepth 100000 in
set_option maxHeartbeats 4000000 in
theorem e_X12_haulsOf {g : Gm} {d : Nat} {n : Nat} {p0 p1 p2 : Int} {M N : Mem} {v : Int} {M' : Mem} (hd : 5 ≤ d) (h : f_X12_haulsOf n p0 p1 p2 M = some (v, M')) : EvM g d mtX12_haulsOf [vR 801, vI p0, vI p1, vI p2] (sg (mx N M)) (0, 0) (vI v) (sg (mx N M')) := by
  unfold f_X12_haulsOf at h
  refine EvM.of mkX12_haulsOf.2.2.2.1 (Nat.le_of_ble_eq_true rfl) ?_
  change Ev g d mtX12_haulsOf 0 [(0, vR 801), (1, vI p0), (2, vI p1), (3, vI p2)] [] (sg (mx N M)) (0, 0) (vI v) (sg (mx N M'))
  refine ev_aload_n (pc := 0) 0 dX12_haulsOf_0 rfl rfl ?_
  refine ev_iload_n (pc := 1) 1 dX12_haulsOf_1 rfl rfl ?_
  refine ev_aload_n (pc := 2) 0 dX12_haulsOf_2 rfl rfl ?_
  refine ev_getR (pc := 3) fl12_7 rfl dX12_haulsOf_3 rfl kd_801 (by omega) (rf_801_0 _) ?_
  refine ev_bipush (pc := 6) (x := 8) dX12_haulsOf_6 cb_8 ?_
  refine ev_ildr (pc := 8) dX12_haulsOf_8 kd_802 (by omega) (by omega) (by omega) (by omega) ?_
  refine ev_iload_n (pc := 9) 2 dX12_haulsOf_9 rfl rfl ?_
  refine ev_iload_n (pc := 10) 3 dX12_haulsOf_10 rfl rfl ?_
  obtain ⟨q1, hq1, h⟩ := lt_some h
  refine ev_cV0 (pc := 11) [vI p0, vI (M 802 8), vI p1, vI p2] [] rfl mkX12_ask ml12_333 mnX12_ask dX12_haulsOf_11 kd_801 (by omega) rfl (Nat.le_of_ble_eq_true rfl) (by omega) (e_X12_ask (d := d - 1) (M' := q1) (by omega)  hq1.symm) ?_
  refine ev_aload_n (pc := 14) 0 dX12_haulsOf_14 rfl rfl ?_
  refine ev_iconst (pc := 15) (x := 1) dX12_haulsOf_15 ci_1 ?_
  refine ev_iload_n (pc := 16) 2 dX12_haulsOf_16 rfl rfl ?_
  refine ev_iload_n (pc := 17) 3 dX12_haulsOf_17 rfl rfl ?_
  refine ev_isub (pc := 18) dX12_haulsOf_18 ?_
  refine ev_aload_n (pc := 19) 0 dX12_haulsOf_19 rfl rfl ?_
  refine ev_iload_n (pc := 20) 1 dX12_haulsOf_20 rfl rfl ?_
  refine ev_iconst (pc := 21) (x := 0) dX12_haulsOf_21 ci_0 ?_
  obtain ⟨q2, hq2, h⟩ := bd h
  refine ev_cV (pc := 22) [vI p0, vI 0] [vI (wI (p1 - p2)), vI 1, vR 801] rfl mkX12_at ml12_98 mnX12_at dX12_haulsOf_22 kd_801 (by omega) rfl (Nat.le_of_ble_eq_true rfl) (by omega) rfl (e_X12_at (d := d - 1) (v := q2) (by omega)  hq2) ?_
  refine ev_imul (pc := 25) dX12_haulsOf_25 ?_
  refine ev_sipush (pc := 26) (x := 9999) dX12_haulsOf_26 cs_9999 ?_
  obtain ⟨q3, hq3, h⟩ := bd h
  refine ev_cV (pc := 29) [vI 1, vI (wI ((wI (p1 - p2)) * q2)), vI 9999] [] rfl mkX12_says ml12_337 mnX12_says dX12_haulsOf_29 kd_801 (by omega) rfl (Nat.le_of_ble_eq_true rfl) (by omega) rfl (e_X12_says (d := d - 1) (v := q3.1) (M' := q3.2) (by omega)  hq3) ?_
  cases h
  exact ev_iret (pc := 32) dX12_haulsOf_32 rfl
def f_X12_wearsOf (n : Nat) (p0 p1 : Int) (M : Mem) : Option (Int × Mem) := lt (f_X12_ask p0 (M 802 8) p1 0 M) fun q1 => (f_X12_says n 2 1 100 q1).bind fun q2 => some (q2.1, q2.2)
set_option maxRecDepth 100000 in
set_option maxHeartbeats 4000000 in
theorem e_X12_wearsOf {g : Gm} {d : Nat} {n : Nat} {p0 p1 : Int} {M N : Mem} {v : Int} {M' : Mem} (hd : 5 ≤ d) (h : f_X12_wearsOf n p0 p1 M = some (v, M')) : EvM g d mtX12_wearsOf [vR 801, vI p0, vI p1] (sg (mx N M)) (0, 0) (vI v) (sg (mx N M')) := by
  unfold f_X12_wearsOf at h
  refine EvM.of mkX12_wearsOf.2.2.2.1 (Nat.le_of_ble_eq_true rfl) ?_
  change Ev g d mtX12_wearsOf 0 [(0, vR 801), (1, vI p0), (2, vI p1)] [] (sg (mx N M)) (0, 0) (vI v) (sg (mx N M'))
  refine ev_aload_n (pc := 0) 0 dX12_wearsOf_0 rfl rfl ?_
  refine ev_iload_n (pc := 1) 1 dX12_wearsOf_1 rfl rfl ?_
  refine ev_aload_n (pc := 2) 0 dX12_wearsOf_2 rfl rfl ?_
  refine ev_getR (pc := 3) fl12_7 rfl dX12_wearsOf_3 rfl kd_801 (by omega) (rf_801_0 _) ?_
  refine ev_bipush (pc := 6) (x := 8) dX12_wearsOf_6 cb_8 ?_
  refine ev_ildr (pc := 8) dX12_wearsOf_8 kd_802 (by omega) (by omega) (by omega) (by omega) ?_
  refine ev_iload_n (pc := 9) 2 dX12_wearsOf_9 rfl rfl ?_
  refine ev_iconst (pc := 10) (x := 0) dX12_wearsOf_10 ci_0 ?_
  obtain ⟨q1, hq1, h⟩ := lt_some h
  refine ev_cV0 (pc := 11) [vI p0, vI (M 802 8), vI p1, vI 0] [] rfl mkX12_ask ml12_333 mnX12_ask dX12_wearsOf_11 kd_801 (by omega) rfl (Nat.le_of_ble_eq_true rfl) (by omega) (e_X12_ask (d := d - 1) (M' := q1) (by omega)  hq1.symm) ?_
  refine ev_aload_n (pc := 14) 0 dX12_wearsOf_14 rfl rfl ?_
  refine ev_iconst (pc := 15) (x := 2) dX12_wearsOf_15 ci_2 ?_
  refine ev_iconst (pc := 16) (x := 1) dX12_wearsOf_16 ci_1 ?_
  refine ev_bipush (pc := 17) (x := 100) dX12_wearsOf_17 cb_100 ?_
  obtain ⟨q2, hq2, h⟩ := bd h
  refine ev_cV (pc := 19) [vI 2, vI 1, vI 100] [] rfl mkX12_says ml12_337 mnX12_says dX12_wearsOf_19 kd_801 (by omega) rfl (Nat.le_of_ble_eq_true rfl) (by omega) rfl (e_X12_says (d := d - 1) (v := q2.1) (M' := q2.2) (by omega)  hq2) ?_
  cases h
  exact ev_iret (pc := 22) dX12_wearsOf_22 rfl
def f_X12_flowsOf (n : Nat) (p0 : Int) (M : Mem) : Option (Int × Mem) := lt (f_X12_ask p0 (M 802 8) 0 0 M) fun q1 => (f_X12_at p0 2 q1).bind fun q2 => (f_X12_at p0 1 q1).bind fun q3 => (f_X12_at p0 2 q1).bind fun q4 => (f_X12_says n 3 (wI (q2 - (wI (10 * q3)))) q4 q1).bind fun q5 => some (q5.1, q5.2)
set_option maxRecDepth 100000 in
set_option maxHeartbeats 4000000 in
theorem e_X12_flowsOf {g : Gm} {d : Nat} {n : Nat} {p0 : Int} {M N : Mem} {v : Int} {M' : Mem} (hd : 5 ≤ d) (h : f_X12_flowsOf n p0 M = some (v, M')) : EvM g d mtX12_flowsOf [vR 801, vI p0] (sg (mx N M)) (0, 0) (vI v) (sg (mx N M')) := by
  unfold f_X12_flowsOf at h
  refine EvM.of mkX12_flowsOf.2.2.2.1 (Nat.le_of_ble_eq_true rfl) ?_
  change Ev g d mtX12_flowsOf 0 [(0, vR 801), (1, vI p0)] [] (sg (mx N M)) (0, 0) (vI v) (sg (mx N M'))
  refine ev_aload_n (pc := 0) 0 dX12_flowsOf_0 rfl rfl ?_
  refine ev_iload_n (pc := 1) 1 dX12_flowsOf_1 rfl rfl ?_
  refine ev_aload_n (pc := 2) 0 dX12_flowsOf_2 rfl rfl ?_
  refine ev_getR (pc := 3) fl12_7 rfl dX12_flowsOf_3 rfl kd_801 (by omega) (rf_801_0 _) ?_
  refine ev_bipush (pc := 6) (x := 8) dX12_flowsOf_6 cb_8 ?_
  refine ev_ildr (pc := 8) dX12_flowsOf_8 kd_802 (by omega) (by omega) (by omega) (by omega) ?_
  refine ev_iconst (pc := 9) (x := 0) dX12_flowsOf_9 ci_0 ?_
  refine ev_iconst (pc := 10) (x := 0) dX12_flowsOf_10 ci_0 ?_
  obtain ⟨q1, hq1, h⟩ := lt_some h
  refine ev_cV0 (pc := 11) [vI p0, vI (M 802 8), vI 0, vI 0] [] rfl mkX12_ask ml12_333 mnX12_ask dX12_flowsOf_11 kd_801 (by omega) rfl (Nat.le_of_ble_eq_true rfl) (by omega) (e_X12_ask (d := d - 1) (M' := q1) (by omega)  hq1.symm) ?_
  refine ev_aload_n (pc := 14) 0 dX12_flowsOf_14 rfl rfl ?_
  refine ev_iconst (pc := 15) (x := 3) dX12_flowsOf_15 ci_3 ?_
  refine ev_aload_n (pc := 16) 0 dX12_flowsOf_16 rfl rfl ?_
  refine ev_iload_n (pc := 17) 1 dX12_flowsOf_17 rfl rfl ?_
  refine ev_iconst (pc := 18) (x := 2) dX12_flowsOf_18 ci_2 ?_
  obtain ⟨q2, hq2, h⟩ := bd h
  refine ev_cV (pc := 19) [vI p0, vI 2] [vI 3, vR 801] rfl mkX12_at ml12_98 mnX12_at dX12_flowsOf_19 kd_801 (by omega) rfl (Nat.le_of_ble_eq_true rfl) (by omega) rfl (e_X12_at (d := d - 1) (v := q2) (by omega)  hq2) ?_
  refine ev_bipush (pc := 22) (x := 10) dX12_flowsOf_22 cb_10 ?_
  refine ev_aload_n (pc := 24) 0 dX12_flowsOf_24 rfl rfl ?_
  refine ev_iload_n (pc := 25) 1 dX12_flowsOf_25 rfl rfl ?_
  refine ev_iconst (pc := 26) (x := 1) dX12_flowsOf_26 ci_1 ?_
  obtain ⟨q3, hq3, h⟩ := bd h
  refine ev_cV (pc := 27) [vI p0, vI 1] [vI 10, vI q2, vI 3, vR 801] rfl mkX12_at ml12_98 mnX12_at dX12_flowsOf_27 kd_801 (by omega) rfl (Nat.le_of_ble_eq_true rfl) (by omega) rfl (e_X12_at (d := d - 1) (v := q3) (by omega)  hq3) ?_
  refine ev_imul (pc := 30) dX12_flowsOf_30 ?_
  refine ev_isub (pc := 31) dX12_flowsOf_31 ?_
  refine ev_aload_n (pc := 32) 0 dX12_flowsOf_32 rfl rfl ?_
  refine ev_iload_n (pc := 33) 1 dX12_flowsOf_33 rfl rfl ?_
  refine ev_iconst (pc := 34) (x := 2) dX12_flowsOf_34 ci_2 ?_
  obtain ⟨q4, hq4, h⟩ := bd h
  refine ev_cV (pc := 35) [vI p0, vI 2] [vI (wI (q2 - (wI (10 * q3)))), vI 3, vR 801] rfl mkX12_at ml12_98 mnX12_at dX12_flowsOf_35 kd_801 (by omega) rfl (Nat.le_of_ble_eq_true rfl) (by omega) rfl (e_X12_at (d := d - 1) (v := q4) (by omega)  hq4) ?_
  obtain ⟨q5, hq5, h⟩ := bd h
  refine ev_cV (pc := 38) [vI 3, vI (wI (q2 - (wI (10 * q3)))), vI q4] [] rfl mkX12_says ml12_337 mnX12_says dX12_flowsOf_38 kd_801 (by omega) rfl (Nat.le_of_ble_eq_true rfl) (by omega) rfl (e_X12_says (d := d - 1) (v := q5.1) (M' := q5.2) (by omega)  hq5) ?_
  cases h
  exact ev_iret (pc := 41) dX12_flowsOf_41 rfl
def f_X12_isFalling (n : Nat) (p0 p1 : Int) (M : Mem) : Option (Int × Mem) := (f_X12_clauseOf n 4 M).bind fun q1 => if 0 ≤ q1 then (lt (f_X12_ask p0 (M 802 8) p1 0 M) fun q3 => (f_X12_work n q1 q3).bind fun q4 => ck ((q4 808 0) = 0 ∨ (q4 808 0) = 1) (some ((q4 808 0), q4))) else ((f_X12_at p0 2 M).bind fun q6 => (f_X12_at p0 1 M).bind fun q7 => if q6 ≤ (wI (10 * q7)) then (some (0, M)) else (some (1, M)))
set_option maxRecDepth 100000 in
set_option maxHeartbeats 4000000 in
theorem e_X12_isFalling {g : Gm} {d : Nat} {n : Nat} {p0 p1 : Int} {M N : Mem} {v : Int} {M' : Mem} (hd : 4 ≤ d) (h : f_X12_isFalling n p0 p1 M = some (v, M')) : EvM g d mtX12_isFalling [vR 801, vI p0, vI p1] (sg (mx N M)) (0, 0) (vI v) (sg (mx N M')) := by
  unfold f_X12_isFalling at h
  refine EvM.of mkX12_isFalling.2.2.2.1 (Nat.le_of_ble_eq_true rfl) ?_
  change Ev g d mtX12_isFalling 0 [(0, vR 801), (1, vI p0), (2, vI p1)] [] (sg (mx N M)) (0, 0) (vI v) (sg (mx N M'))
  refine ev_aload_n (pc := 0) 0 dX12_isFalling_0 rfl rfl ?_
  refine ev_iconst (pc := 1) (x := 4) dX12_isFalling_1 ci_4 ?_
  obtain ⟨q1, hq1, h⟩ := bd h
  refine ev_cV (pc := 2) [vI 4] [] rfl mkX12_clauseOf ml12_323 mnX12_clauseOf dX12_isFalling_2 kd_801 (by omega) rfl (Nat.le_of_ble_eq_true rfl) (by omega) rfl (e_X12_clauseOf (d := d - 1) (v := q1) (by omega)  hq1) ?_
  refine ev_istore_n (pc := 5) (il' := [(3, vI q1), (0, vR 801), (1, vI p0), (2, vI p1)]) dX12_isFalling_5 rfl (Nat.le_of_ble_eq_true rfl) rfl ?_
  refine ev_iload_n (pc := 6) 0 dX12_isFalling_6 rfl rfl ?_
  refine ev_if_ge (pc := 7) (tgt := 34) dX12_isFalling_7 (by decide) (fun b2 => ?_) (fun b2 => ?_)
  · rw [if_pos b2] at h
    refine ev_aload_n (pc := 34) 1 dX12_isFalling_34 rfl rfl ?_
    refine ev_iload_n (pc := 35) 2 dX12_isFalling_35 rfl rfl ?_
    refine ev_aload_n (pc := 36) 1 dX12_isFalling_36 rfl rfl ?_
    refine ev_getR (pc := 37) fl12_7 rfl dX12_isFalling_37 rfl kd_801 (by omega) (rf_801_0 _) ?_
    refine ev_bipush (pc := 40) (x := 8) dX12_isFalling_40 cb_8 ?_
    refine ev_ildr (pc := 42) dX12_isFalling_42 kd_802 (by omega) (by omega) (by omega) (by omega) ?_
    refine ev_iload_n (pc := 43) 3 dX12_isFalling_43 rfl rfl ?_
    refine ev_iconst (pc := 44) (x := 0) dX12_isFalling_44 ci_0 ?_
    obtain ⟨q3, hq3, h⟩ := lt_some h
    refine ev_cV0 (pc := 45) [vI p0, vI (M 802 8), vI p1, vI 0] [] rfl mkX12_ask ml12_333 mnX12_ask dX12_isFalling_45 kd_801 (by omega) rfl (Nat.le_of_ble_eq_true rfl) (by omega) (e_X12_ask (d := d - 1) (M' := q3) (by omega)  hq3.symm) ?_
    refine ev_aload_n (pc := 48) 1 dX12_isFalling_48 rfl rfl ?_
    refine ev_iload_n (pc := 49) 0 dX12_isFalling_49 rfl rfl ?_
    obtain ⟨q4, hq4, h⟩ := bd h
    refine ev_cV0 (pc := 50) [vI q1] [] rfl mkX12_work ml12_330 mnX12_work dX12_isFalling_50 kd_801 (by omega) rfl (Nat.le_of_ble_eq_true rfl) (by omega) (e_X12_work (d := d - 1) (M' := q4) (by omega)  hq4) ?_
    refine ev_aload_n (pc := 53) 1 dX12_isFalling_53 rfl rfl ?_
    refine ev_getR (pc := 54) fl12_36 rfl dX12_isFalling_54 rfl kd_801 (by omega) (rf_801_26 _) ?_
    refine ev_iconst (pc := 57) (x := 0) dX12_isFalling_57 ci_0 ?_
    refine ev_bldr (pc := 58) dX12_isFalling_58 kd_808 (by omega) (by omega) (by omega) (by omega) ?_
    obtain ⟨c5, h⟩ := ck_some h
    cases h
    exact ev_zret (pc := 59) c5 dX12_isFalling_59 rfl
  · rw [if_neg b2] at h
    refine ev_aload_n (pc := 10) 1 dX12_isFalling_10 rfl rfl ?_
    refine ev_iload_n (pc := 11) 2 dX12_isFalling_11 rfl rfl ?_
    refine ev_iconst (pc := 12) (x := 2) dX12_isFalling_12 ci_2 ?_
    obtain ⟨q6, hq6, h⟩ := bd h
    refine ev_cV (pc := 13) [vI p0, vI 2] [] rfl mkX12_at ml12_98 mnX12_at dX12_isFalling_13 kd_801 (by omega) rfl (Nat.le_of_ble_eq_true rfl) (by omega) rfl (e_X12_at (d := d - 1) (v := q6) (by omega)  hq6) ?_
    refine ev_bipush (pc := 16) (x := 10) dX12_isFalling_16 cb_10 ?_
    refine ev_aload_n (pc := 18) 1 dX12_isFalling_18 rfl rfl ?_
    refine ev_iload_n (pc := 19) 2 dX12_isFalling_19 rfl rfl ?_
    refine ev_iconst (pc := 20) (x := 1) dX12_isFalling_20 ci_1 ?_
    obtain ⟨q7, hq7, h⟩ := bd h
    refine ev_cV (pc := 21) [vI p0, vI 1] [vI 10, vI q6] rfl mkX12_at ml12_98 mnX12_at dX12_isFalling_21 kd_801 (by omega) rfl (Nat.le_of_ble_eq_true rfl) (by omega) rfl (e_X12_at (d := d - 1) (v := q7) (by omega)  hq7) ?_
    refine ev_imul (pc := 24) dX12_isFalling_24 ?_
    refine ev_icmp_le (pc := 25) (tgt := 32) dX12_isFalling_25 (by decide) (fun b8 => ?_) (fun b8 => ?_)
    · rw [if_pos b8] at h
      refine ev_iconst (pc := 32) (x := 0) dX12_isFalling_32 ci_0 ?_
      cases h
      exact ev_zret (pc := 33) (Or.inl rfl) dX12_isFalling_33 rfl
    · rw [if_neg b8] at h
      refine ev_iconst (pc := 28) (x := 1) dX12_isFalling_28 ci_1 ?_
      refine ev_goto (pc := 29) (tgt := 33) dX12_isFalling_29 (by decide) ?_
      cases h
      exact ev_zret (pc := 33) (Or.inr rfl) dX12_isFalling_33 rfl
def f_X12_waiterOn_L2 : Nat → Int → Int → Int → Mem → Option (Int)
  | 0, _, _, _, _ => none
  | n + 1, x1, x2, x3, M => if (M 802 1) ≤ x3 then (some (-1)) else (ck (0 ≤ x3 ∧ x3 < 7) (if (M 809 x3) ≠ 0 then (f_X12_waiterOn_L2 n x1 x2 (wI (x3 + 1)) M) else ((f_X12_get x3 1 M).bind fun q4 => if q4 ≠ x1 then (f_X12_waiterOn_L2 n x1 x2 (wI (x3 + 1)) M) else (if x2 = 0 then ((f_X12_get x3 2 M).bind fun q7 => if x1 ≤ q7 then (f_X12_waiterOn_L2 n x1 x2 (wI (x3 + 1)) M) else (some x3)) else ((f_X12_get x3 2 M).bind fun q9 => if q9 ≤ x1 then (f_X12_waiterOn_L2 n x1 x2 (wI (x3 + 1)) M) else (some x3))))))
set_option maxRecDepth 100000 in
set_option maxHeartbeats 4000000 in
theorem e_X12_waiterOn_L2 {g : Gm} {d : Nat} {x1 x2 : Int} {M N : Mem} (hd : 1 ≤ d) : ∀ (n : Nat) {x3 : Int} {v : Int}, f_X12_waiterOn_L2 n x1 x2 x3 M = some v → Ev g d mtX12_waiterOn 2 [(0, vR 801), (1, vI x1), (2, vI x2), (3, vI x3)] [] (sg (mx N M)) (0, 0) (vI v) (sg (mx N M)) := by
  intro n
  induction n with
  | zero =>
    intro x3 v h
    rw [f_X12_waiterOn_L2.eq_1] at h
    cases h
  | succ n ih =>
    intro x3 v h
    rw [f_X12_waiterOn_L2.eq_2] at h
    refine ev_iload_n (pc := 2) 3 dX12_waiterOn_2 rfl rfl ?_
    refine ev_aload_n (pc := 3) 0 dX12_waiterOn_3 rfl rfl ?_
    refine ev_getR (pc := 4) fl12_7 rfl dX12_waiterOn_4 rfl kd_801 (by omega) (rf_801_0 _) ?_
    refine ev_iconst (pc := 7) (x := 1) dX12_waiterOn_7 ci_1 ?_
    refine ev_ildr (pc := 8) dX12_waiterOn_8 kd_802 (by omega) (by omega) (by omega) (by omega) ?_
    refine ev_icmp_ge (pc := 9) (tgt := 66) dX12_waiterOn_9 (by decide) (fun b1 => ?_) (fun b1 => ?_)
    · rw [if_pos b1] at h
      refine ev_iconst (pc := 66) (x := (-1)) dX12_waiterOn_66 ci_m1 ?_
      cases h
      exact ev_iret (pc := 67) dX12_waiterOn_67 rfl
    · rw [if_neg b1] at h
      refine ev_aload_n (pc := 12) 0 dX12_waiterOn_12 rfl rfl ?_
      refine ev_getR (pc := 13) fl12_40 rfl dX12_waiterOn_13 rfl kd_801 (by omega) (rf_801_27 _) ?_
      refine ev_iload_n (pc := 16) 3 dX12_waiterOn_16 rfl rfl ?_
      obtain ⟨c2, h⟩ := ck_some h
      refine ev_bldr (pc := 17) dX12_waiterOn_17 kd_809 (by omega) (by omega) c2.1 c2.2 ?_
      refine ev_if_ne (pc := 18) (tgt := 60) dX12_waiterOn_18 (by decide) (fun b3 => ?_) (fun b3 => ?_)
      · rw [if_pos b3] at h
        refine ev_iinc (pc := 60) (il' := [(3, vI (wI (x3 + 1))), (0, vR 801), (1, vI x1), (2, vI x2)]) 3 dX12_waiterOn_60 rfl (Nat.le_of_ble_eq_true rfl) rfl rfl ?_
        refine ev_goto (pc := 63) (tgt := 2) dX12_waiterOn_63 (by decide) ?_
        refine ev_pick [1, 2, 3, 0] rfl ?_
        exact ih h
      · rw [if_neg b3] at h
        refine ev_aload_n (pc := 21) 0 dX12_waiterOn_21 rfl rfl ?_
        refine ev_iload_n (pc := 22) 3 dX12_waiterOn_22 rfl rfl ?_
        refine ev_iconst (pc := 23) (x := 1) dX12_waiterOn_23 ci_1 ?_
        obtain ⟨q4, hq4, h⟩ := bd h
        refine ev_cV (pc := 24) [vI x3, vI 1] [] rfl mkX12_get ml12_340 mnX12_get dX12_waiterOn_24 kd_801 (by omega) rfl (Nat.le_of_ble_eq_true rfl) (by omega) rfl (e_X12_get (d := d - 1) (v := q4) (by omega)  hq4) ?_
        refine ev_iload_n (pc := 27) 1 dX12_waiterOn_27 rfl rfl ?_
        refine ev_icmp_ne (pc := 28) (tgt := 60) dX12_waiterOn_28 (by decide) (fun b5 => ?_) (fun b5 => ?_)
        · rw [if_pos b5] at h
          refine ev_iinc (pc := 60) (il' := [(3, vI (wI (x3 + 1))), (0, vR 801), (1, vI x1), (2, vI x2)]) 3 dX12_waiterOn_60 rfl (Nat.le_of_ble_eq_true rfl) rfl rfl ?_
          refine ev_goto (pc := 63) (tgt := 2) dX12_waiterOn_63 (by decide) ?_
          refine ev_pick [1, 2, 3, 0] rfl ?_
          exact ih h
        · rw [if_neg b5] at h
          refine ev_iload_n (pc := 31) 2 dX12_waiterOn_31 rfl rfl ?_
          refine ev_if_eq (pc := 32) (tgt := 48) dX12_waiterOn_32 (by decide) (fun b6 => ?_) (fun b6 => ?_)
          · rw [if_pos b6] at h
            refine ev_aload_n (pc := 48) 0 dX12_waiterOn_48 rfl rfl ?_
            refine ev_iload_n (pc := 49) 3 dX12_waiterOn_49 rfl rfl ?_
            refine ev_iconst (pc := 50) (x := 2) dX12_waiterOn_50 ci_2 ?_
            obtain ⟨q7, hq7, h⟩ := bd h
            refine ev_cV (pc := 51) [vI x3, vI 2] [] rfl mkX12_get ml12_340 mnX12_get dX12_waiterOn_51 kd_801 (by omega) rfl (Nat.le_of_ble_eq_true rfl) (by omega) rfl (e_X12_get (d := d - 1) (v := q7) (by omega)  hq7) ?_
            refine ev_iload_n (pc := 54) 1 dX12_waiterOn_54 rfl rfl ?_
            refine ev_icmp_ge (pc := 55) (tgt := 60) dX12_waiterOn_55 (by decide) (fun b8 => ?_) (fun b8 => ?_)
            · rw [if_pos b8] at h
              refine ev_iinc (pc := 60) (il' := [(3, vI (wI (x3 + 1))), (0, vR 801), (1, vI x1), (2, vI x2)]) 3 dX12_waiterOn_60 rfl (Nat.le_of_ble_eq_true rfl) rfl rfl ?_
              refine ev_goto (pc := 63) (tgt := 2) dX12_waiterOn_63 (by decide) ?_
              refine ev_pick [1, 2, 3, 0] rfl ?_
              exact ih h
            · rw [if_neg b8] at h
              refine ev_iload_n (pc := 58) 3 dX12_waiterOn_58 rfl rfl ?_
              cases h
              exact ev_iret (pc := 59) dX12_waiterOn_59 rfl
          · rw [if_neg b6] at h
            refine ev_aload_n (pc := 35) 0 dX12_waiterOn_35 rfl rfl ?_
            refine ev_iload_n (pc := 36) 3 dX12_waiterOn_36 rfl rfl ?_
            refine ev_iconst (pc := 37) (x := 2) dX12_waiterOn_37 ci_2 ?_
            obtain ⟨q9, hq9, h⟩ := bd h
            refine ev_cV (pc := 38) [vI x3, vI 2] [] rfl mkX12_get ml12_340 mnX12_get dX12_waiterOn_38 kd_801 (by omega) rfl (Nat.le_of_ble_eq_true rfl) (by omega) rfl (e_X12_get (d := d - 1) (v := q9) (by omega)  hq9) ?_
            refine ev_iload_n (pc := 41) 1 dX12_waiterOn_41 rfl rfl ?_
            refine ev_icmp_le (pc := 42) (tgt := 60) dX12_waiterOn_42 (by decide) (fun b10 => ?_) (fun b10 => ?_)
            · rw [if_pos b10] at h
              refine ev_iinc (pc := 60) (il' := [(3, vI (wI (x3 + 1))), (0, vR 801), (1, vI x1), (2, vI x2)]) 3 dX12_waiterOn_60 rfl (Nat.le_of_ble_eq_true rfl) rfl rfl ?_
              refine ev_goto (pc := 63) (tgt := 2) dX12_waiterOn_63 (by decide) ?_
              refine ev_pick [1, 2, 3, 0] rfl ?_
              exact ih h
            · rw [if_neg b10] at h
              refine ev_goto (pc := 45) (tgt := 58) dX12_waiterOn_45 (by decide) ?_
              refine ev_iload_n (pc := 58) 3 dX12_waiterOn_58 rfl rfl ?_
              cases h
              exact ev_iret (pc := 59) dX12_waiterOn_59 rfl
def f_X12_waiterOn (n : Nat) (p0 p1 : Int) (M : Mem) : Option (Int) := f_X12_waiterOn_L2 n p0 p1 0 M
set_option maxRecDepth 100000 in
set_option maxHeartbeats 4000000 in
theorem e_X12_waiterOn {g : Gm} {d : Nat} {n : Nat} {p0 p1 : Int} {M N : Mem} {v : Int} (hd : 1 ≤ d) (h : f_X12_waiterOn n p0 p1 M = some v) : EvM g d mtX12_waiterOn [vR 801, vI p0, vI p1] (sg (mx N M)) (0, 0) (vI v) (sg (mx N M)) := by
  unfold f_X12_waiterOn at h
  refine EvM.of mkX12_waiterOn.2.2.2.1 (Nat.le_of_ble_eq_true rfl) ?_
  change Ev g d mtX12_waiterOn 0 [(0, vR 801), (1, vI p0), (2, vI p1)] [] (sg (mx N M)) (0, 0) (vI v) (sg (mx N M))
  refine ev_iconst (pc := 0) (x := 0) dX12_waiterOn_0 ci_0 ?_
  refine ev_istore_n (pc := 1) (il' := [(3, vI 0), (0, vR 801), (1, vI p0), (2, vI p1)]) dX12_waiterOn_1 rfl (Nat.le_of_ble_eq_true rfl) rfl ?_
  refine ev_pick [1, 2, 3, 0] rfl ?_
  exact e_X12_waiterOn_L2 hd  n h
def f_X12_go (p0 p1 p2 : Int) (M : Mem) : Option (Mem) := ck (0 ≤ p0 ∧ p0 < 7) (lt (upM M 809 p0 1) fun M2 => lt (upM M2 801 29 (wI ((M2 801 29) + 1))) fun M3 => (f_X12_get p0 3 M3).bind fun q4 => (f_X12_set p0 3 (f_X12_cut (wI (q4 + p2)) 0 99999) M3).bind fun q5 => (f_X12_set p0 1 p1 q5).bind fun q6 => if (q6 801 28) ≠ 0 then (ck (0 ≤ (wI (2106 + (iRem (q6 802 12) 8500))) ∧ (wI (2106 + (iRem (q6 802 12) 8500))) < 10606) (lt (upM q6 802 (wI (2106 + (iRem (q6 802 12) 8500))) (wI ((wI ((wI ((wI ((q6 802 8) * 7)) + p0)) * 9)) + p1))) fun M9 => lt (upM M9 802 12 (wI ((M9 802 12) + 1))) fun M10 => some M10)) else (some q6))
set_option maxRecDepth 100000 in
set_option maxHeartbeats 4000000 in
theorem e_X12_go {g : Gm} {d : Nat} {p0 p1 p2 : Int} {M N : Mem} {M' : Mem} (hd : 1 ≤ d) (h : f_X12_go p0 p1 p2 M = some M') : EvM g d mtX12_go [vR 801, vI p0, vI p1, vI p2] (sg (mx N M)) (0, 0) vN (sg (mx N M')) := by
  unfold f_X12_go at h
  refine EvM.of mkX12_go.2.2.2.1 (Nat.le_of_ble_eq_true rfl) ?_
  change Ev g d mtX12_go 0 [(0, vR 801), (1, vI p0), (2, vI p1), (3, vI p2)] [] (sg (mx N M)) (0, 0) vN (sg (mx N M'))
  refine ev_aload_n (pc := 0) 0 dX12_go_0 rfl rfl ?_
  refine ev_getR (pc := 1) fl12_40 rfl dX12_go_1 rfl kd_801 (by omega) (rf_801_27 _) ?_
  refine ev_iload_n (pc := 4) 1 dX12_go_4 rfl rfl ?_
  refine ev_iconst (pc := 5) (x := 1) dX12_go_5 ci_1 ?_
  obtain ⟨c1, h⟩ := ck_some h
  obtain ⟨M2, eM2, h⟩ := lt_some h
  refine ev_bstr (pc := 6) dX12_go_6 kd_809 (by omega) (by omega) c1.1 c1.2 (Or.inr rfl) eM2 ?_
  refine ev_aload_n (pc := 7) 0 dX12_go_7 rfl rfl ?_
  refine ev_dup (pc := 8) rfl dX12_go_8 ?_
  refine ev_getIr (pc := 9) fl12_343 rfl dX12_go_9 rfl kd_801 (by omega) (by omega) 29 rfl ?_
  refine ev_iconst (pc := 12) (x := 1) dX12_go_12 ci_1 ?_
  refine ev_iadd (pc := 13) dX12_go_13 ?_
  obtain ⟨M3, eM3, h⟩ := lt_some h
  refine ev_putIr (pc := 14) fl12_343 rfl dX12_go_14 kd_801 (by omega) (by omega) eM3 ?_
  refine ev_aload_n (pc := 17) 0 dX12_go_17 rfl rfl ?_
  refine ev_iload_n (pc := 18) 1 dX12_go_18 rfl rfl ?_
  refine ev_iconst (pc := 19) (x := 3) dX12_go_19 ci_3 ?_
  refine ev_aload_n (pc := 20) 0 dX12_go_20 rfl rfl ?_
  refine ev_iload_n (pc := 21) 1 dX12_go_21 rfl rfl ?_
  refine ev_iconst (pc := 22) (x := 3) dX12_go_22 ci_3 ?_
  obtain ⟨q4, hq4, h⟩ := bd h
  refine ev_cV (pc := 23) [vI p0, vI 3] [vI 3, vI p0, vR 801] rfl mkX12_get ml12_340 mnX12_get dX12_go_23 kd_801 (by omega) rfl (Nat.le_of_ble_eq_true rfl) (by omega) rfl (e_X12_get (d := d - 1) (v := q4) (by omega)  hq4) ?_
  refine ev_iload_n (pc := 26) 3 dX12_go_26 rfl rfl ?_
  refine ev_iadd (pc := 27) dX12_go_27 ?_
  refine ev_i2l (pc := 28) dX12_go_28 ?_
  refine ev_iconst (pc := 29) (x := 0) dX12_go_29 ci_0 ?_
  refine ev_ldc (pc := 30) (x := 99999) rfl kc12_135 cc_99999 dX12_go_30 ?_
  refine ev_cS (pc := 32) [vL (wI (q4 + p2)), vI 0, vI 99999] [vI 3, vI p0, vR 801] rfl mkX12_cut ml12_326 msX12_cut dX12_go_32 rfl (Nat.le_of_ble_eq_true rfl) (by omega) rfl (e_X12_cut (d := d - 1) (v := (f_X12_cut (wI (q4 + p2)) 0 99999)) (by omega)  rfl) ?_
  obtain ⟨q5, hq5, h⟩ := bd h
  refine ev_cV0 (pc := 35) [vI p0, vI 3, vI (f_X12_cut (wI (q4 + p2)) 0 99999)] [] rfl mkX12_set ml12_106 mnX12_set dX12_go_35 kd_801 (by omega) rfl (Nat.le_of_ble_eq_true rfl) (by omega) (e_X12_set (d := d - 1) (M' := q5) (by omega)  hq5) ?_
  refine ev_aload_n (pc := 38) 0 dX12_go_38 rfl rfl ?_
  refine ev_iload_n (pc := 39) 1 dX12_go_39 rfl rfl ?_
  refine ev_iconst (pc := 40) (x := 1) dX12_go_40 ci_1 ?_
  refine ev_iload_n (pc := 41) 2 dX12_go_41 rfl rfl ?_
  obtain ⟨q6, hq6, h⟩ := bd h
  refine ev_cV0 (pc := 42) [vI p0, vI 1, vI p1] [] rfl mkX12_set ml12_106 mnX12_set dX12_go_42 kd_801 (by omega) rfl (Nat.le_of_ble_eq_true rfl) (by omega) (e_X12_set (d := d - 1) (M' := q6) (by omega)  hq6) ?_
  refine ev_aload_n (pc := 45) 0 dX12_go_45 rfl rfl ?_
  refine ev_getIr (pc := 46) fl12_43 rfl dX12_go_46 rfl kd_801 (by omega) (by omega) 28 rfl ?_
  refine ev_if_ne (pc := 49) (tgt := 53) dX12_go_49 (by decide) (fun b7 => ?_) (fun b7 => ?_)
  · rw [if_pos b7] at h
    refine ev_aload_n (pc := 53) 0 dX12_go_53 rfl rfl ?_
    refine ev_getR (pc := 54) fl12_7 rfl dX12_go_54 rfl kd_801 (by omega) (rf_801_0 _) ?_
    refine ev_sipush (pc := 57) (x := 2106) dX12_go_57 cs_2106 ?_
    refine ev_aload_n (pc := 60) 0 dX12_go_60 rfl rfl ?_
    refine ev_getR (pc := 61) fl12_7 rfl dX12_go_61 rfl kd_801 (by omega) (rf_801_0 _) ?_
    refine ev_bipush (pc := 64) (x := 12) dX12_go_64 cb_12 ?_
    refine ev_ildr (pc := 66) dX12_go_66 kd_802 (by omega) (by omega) (by omega) (by omega) ?_
    refine ev_sipush (pc := 67) (x := 8500) dX12_go_67 cs_8500 ?_
    refine ev_irem (pc := 70) dX12_go_70 (by omega) ?_
    refine ev_iadd (pc := 71) dX12_go_71 ?_
    refine ev_aload_n (pc := 72) 0 dX12_go_72 rfl rfl ?_
    refine ev_getR (pc := 73) fl12_7 rfl dX12_go_73 rfl kd_801 (by omega) (rf_801_0 _) ?_
    refine ev_bipush (pc := 76) (x := 8) dX12_go_76 cb_8 ?_
    refine ev_ildr (pc := 78) dX12_go_78 kd_802 (by omega) (by omega) (by omega) (by omega) ?_
    refine ev_bipush (pc := 79) (x := 7) dX12_go_79 cb_7 ?_
    refine ev_imul (pc := 81) dX12_go_81 ?_
    refine ev_iload_n (pc := 82) 1 dX12_go_82 rfl rfl ?_
    refine ev_iadd (pc := 83) dX12_go_83 ?_
    refine ev_bipush (pc := 84) (x := 9) dX12_go_84 cb_9 ?_
    refine ev_imul (pc := 86) dX12_go_86 ?_
    refine ev_iload_n (pc := 87) 2 dX12_go_87 rfl rfl ?_
    refine ev_iadd (pc := 88) dX12_go_88 ?_
    obtain ⟨c8, h⟩ := ck_some h
    obtain ⟨M9, eM9, h⟩ := lt_some h
    refine ev_istr (pc := 89) dX12_go_89 kd_802 (by omega) (by omega) c8.1 c8.2 eM9 ?_
    refine ev_aload_n (pc := 90) 0 dX12_go_90 rfl rfl ?_
    refine ev_getR (pc := 91) fl12_7 rfl dX12_go_91 rfl kd_801 (by omega) (rf_801_0 _) ?_
    refine ev_bipush (pc := 94) (x := 12) dX12_go_94 cb_12 ?_
    refine ev_dup2 (pc := 96) rfl rfl dX12_go_96 ?_
    refine ev_ildr (pc := 97) dX12_go_97 kd_802 (by omega) (by omega) (by omega) (by omega) ?_
    refine ev_iconst (pc := 98) (x := 1) dX12_go_98 ci_1 ?_
    refine ev_iadd (pc := 99) dX12_go_99 ?_
    obtain ⟨M10, eM10, h⟩ := lt_some h
    refine ev_istr (pc := 100) dX12_go_100 kd_802 (by omega) (by omega) (by omega) (by omega) eM10 ?_
    cases h
    exact ev_vret (pc := 101) dX12_go_101 rfl
  · rw [if_neg b7] at h
    cases h
    exact ev_vret (pc := 52) dX12_go_52 rfl
def f_X12_rope_J157 (n : Nat) (x1 x8 : Int) (M : Mem) : Option (Mem) := (f_X12_at x1 4 M).bind fun q17 => (f_X12_put x1 4 (f_X12_cut (wI (q17 + x8)) 0 100) M).bind fun q18 => some q18
set_option maxRecDepth 100000 in
set_option maxHeartbeats 4000000 in
theorem e_X12_rope_J157 {g : Gm} {d : Nat} {n : Nat} {x1 x8 : Int} {M N : Mem} {M' : Mem} (hd : 6 ≤ d) (h : f_X12_rope_J157 n x1 x8 M = some M') : Ev g d mtX12_rope 157 [(0, vR 801), (1, vI x1), (8, vI x8)] [] (sg (mx N M)) (0, 0) vN (sg (mx N M')) := by
  unfold f_X12_rope_J157 at h
  refine ev_aload_n (pc := 157) 0 dX12_rope_157 rfl rfl ?_
  refine ev_iload_n (pc := 158) 1 dX12_rope_158 rfl rfl ?_
  refine ev_iconst (pc := 159) (x := 4) dX12_rope_159 ci_4 ?_
  refine ev_aload_n (pc := 160) 0 dX12_rope_160 rfl rfl ?_
  refine ev_iload_n (pc := 161) 1 dX12_rope_161 rfl rfl ?_
  refine ev_iconst (pc := 162) (x := 4) dX12_rope_162 ci_4 ?_
  obtain ⟨q17, hq17, h⟩ := bd h
  refine ev_cV (pc := 163) [vI x1, vI 4] [vI 4, vI x1, vR 801] rfl mkX12_at ml12_98 mnX12_at dX12_rope_163 kd_801 (by omega) rfl (Nat.le_of_ble_eq_true rfl) (by omega) rfl (e_X12_at (d := d - 1) (v := q17) (by omega)  hq17) ?_
  refine ev_iload (pc := 166) 2 dX12_rope_166 rfl ?_
  refine ev_iadd (pc := 168) dX12_rope_168 ?_
  refine ev_i2l (pc := 169) dX12_rope_169 ?_
  refine ev_iconst (pc := 170) (x := 0) dX12_rope_170 ci_0 ?_
  refine ev_bipush (pc := 171) (x := 100) dX12_rope_171 cb_100 ?_
  refine ev_cS (pc := 173) [vL (wI (q17 + x8)), vI 0, vI 100] [vI 4, vI x1, vR 801] rfl mkX12_cut ml12_326 msX12_cut dX12_rope_173 rfl (Nat.le_of_ble_eq_true rfl) (by omega) rfl (e_X12_cut (d := d - 1) (v := (f_X12_cut (wI (q17 + x8)) 0 100)) (by omega)  rfl) ?_
  obtain ⟨q18, hq18, h⟩ := bd h
  refine ev_cV0 (pc := 176) [vI x1, vI 4, vI (f_X12_cut (wI (q17 + x8)) 0 100)] [] rfl mkX12_put ml12_94 mnX12_put dX12_rope_176 kd_801 (by omega) rfl (Nat.le_of_ble_eq_true rfl) (by omega) (e_X12_put (d := d - 1) (M' := q18) (by omega)  hq18) ?_
  cases h
  exact ev_vret (pc := 179) dX12_rope_179 rfl
def f_X12_rope_J144 (n : Nat) (x1 x3 x7 x8 : Int) (M : Mem) : Option (Mem) := if x3 = (-1) then (f_X12_rope_J157 n x1 x8 M) else ((f_X12_go x3 x1 x7 M).bind fun q19 => f_X12_rope_J157 n x1 x8 q19)
set_option maxRecDepth 100000 in
set_option maxHeartbeats 4000000 in
theorem e_X12_rope_J144 {g : Gm} {d : Nat} {n : Nat} {x1 x3 x7 x8 : Int} {M N : Mem} {M' : Mem} (hd : 6 ≤ d) (h : f_X12_rope_J144 n x1 x3 x7 x8 M = some M') : Ev g d mtX12_rope 144 [(0, vR 801), (1, vI x1), (3, vI x3), (7, vI x7), (8, vI x8)] [] (sg (mx N M)) (0, 0) vN (sg (mx N M')) := by
  unfold f_X12_rope_J144 at h
  refine ev_iload_n (pc := 144) 2 dX12_rope_144 rfl rfl ?_
  refine ev_iconst (pc := 145) (x := (-1)) dX12_rope_145 ci_m1 ?_
  refine ev_icmp_eq (pc := 146) (tgt := 157) dX12_rope_146 (by decide) (fun b16 => ?_) (fun b16 => ?_)
  · rw [if_pos b16] at h
    refine ev_pick [0, 1, 4] rfl ?_
    exact e_X12_rope_J157 hd  h
  · rw [if_neg b16] at h
    refine ev_aload_n (pc := 149) 0 dX12_rope_149 rfl rfl ?_
    refine ev_iload_n (pc := 150) 2 dX12_rope_150 rfl rfl ?_
    refine ev_iload_n (pc := 151) 1 dX12_rope_151 rfl rfl ?_
    refine ev_iload (pc := 152) 3 dX12_rope_152 rfl ?_
    obtain ⟨q19, hq19, h⟩ := bd h
    refine ev_cV0 (pc := 154) [vI x3, vI x1, vI x7] [] rfl mkX12_go ml12_358 mnX12_go dX12_rope_154 kd_801 (by omega) rfl (Nat.le_of_ble_eq_true rfl) (by omega) (e_X12_go (d := d - 1) (M' := q19) (by omega)  hq19) ?_
    refine ev_pick [0, 1, 4] rfl ?_
    exact e_X12_rope_J157 hd  h
def f_X12_rope_J115 (n : Nat) (x1 x2 x3 x4 x5 x6 s0 : Int) (M : Mem) : Option (Mem) := (f_X12_wearsOf n x1 (wI (x4 + x5)) M).bind fun q14 => if x2 = (-1) then (f_X12_rope_J144 n x1 x3 s0 q14.1 q14.2) else ((f_X12_go x2 (wI (x1 + 1)) x6 q14.2).bind fun q20 => f_X12_rope_J144 n x1 x3 s0 q14.1 q20)
set_option maxRecDepth 100000 in
set_option maxHeartbeats 4000000 in
theorem e_X12_rope_J115 {g : Gm} {d : Nat} {n : Nat} {x1 x2 x3 x4 x5 x6 s0 : Int} {M N : Mem} {M' : Mem} (hd : 6 ≤ d) (h : f_X12_rope_J115 n x1 x2 x3 x4 x5 x6 s0 M = some M') : Ev g d mtX12_rope 115 [(0, vR 801), (1, vI x1), (2, vI x2), (3, vI x3), (4, vI x4), (5, vI x5), (6, vI x6)] [vI s0] (sg (mx N M)) (0, 0) vN (sg (mx N M')) := by
  unfold f_X12_rope_J115 at h
  refine ev_istore (pc := 115) (il' := [(7, vI s0), (0, vR 801), (1, vI x1), (2, vI x2), (3, vI x3), (4, vI x4), (5, vI x5), (6, vI x6)]) dX12_rope_115 (Nat.le_of_ble_eq_true rfl) rfl ?_
  refine ev_aload_n (pc := 117) 1 dX12_rope_117 rfl rfl ?_
  refine ev_iload_n (pc := 118) 2 dX12_rope_118 rfl rfl ?_
  refine ev_iload (pc := 119) 5 dX12_rope_119 rfl ?_
  refine ev_iload (pc := 121) 6 dX12_rope_121 rfl ?_
  refine ev_iadd (pc := 123) dX12_rope_123 ?_
  obtain ⟨q14, hq14, h⟩ := bd h
  refine ev_cV (pc := 124) [vI x1, vI (wI (x4 + x5))] [] rfl mkX12_wearsOf ml12_355 mnX12_wearsOf dX12_rope_124 kd_801 (by omega) rfl (Nat.le_of_ble_eq_true rfl) (by omega) rfl (e_X12_wearsOf (d := d - 1) (v := q14.1) (M' := q14.2) (by omega)  hq14) ?_
  refine ev_istore (pc := 127) (il' := [(8, vI q14.1), (7, vI s0), (0, vR 801), (1, vI x1), (2, vI x2), (3, vI x3), (4, vI x4), (5, vI x5), (6, vI x6)]) dX12_rope_127 (Nat.le_of_ble_eq_true rfl) rfl ?_
  refine ev_iload_n (pc := 129) 4 dX12_rope_129 rfl rfl ?_
  refine ev_iconst (pc := 130) (x := (-1)) dX12_rope_130 ci_m1 ?_
  refine ev_icmp_eq (pc := 131) (tgt := 144) dX12_rope_131 (by decide) (fun b15 => ?_) (fun b15 => ?_)
  · rw [if_pos b15] at h
    refine ev_pick [2, 3, 5, 1, 0] rfl ?_
    exact e_X12_rope_J144 hd  h
  · rw [if_neg b15] at h
    refine ev_aload_n (pc := 134) 2 dX12_rope_134 rfl rfl ?_
    refine ev_iload_n (pc := 135) 4 dX12_rope_135 rfl rfl ?_
    refine ev_iload_n (pc := 136) 3 dX12_rope_136 rfl rfl ?_
    refine ev_iconst (pc := 137) (x := 1) dX12_rope_137 ci_1 ?_
    refine ev_iadd (pc := 138) dX12_rope_138 ?_
    refine ev_iload (pc := 139) 8 dX12_rope_139 rfl ?_
    obtain ⟨q20, hq20, h⟩ := bd h
    refine ev_cV0 (pc := 141) [vI x2, vI (wI (x1 + 1)), vI x6] [] rfl mkX12_go ml12_358 mnX12_go dX12_rope_141 kd_801 (by omega) rfl (Nat.le_of_ble_eq_true rfl) (by omega) (e_X12_go (d := d - 1) (M' := q20) (by omega)  hq20) ?_
    refine ev_pick [2, 3, 5, 1, 0] rfl ?_
    exact e_X12_rope_J144 hd  h
def f_X12_rope_J95 (n : Nat) (x1 x2 x3 x4 x5 s0 : Int) (M : Mem) : Option (Mem) := if x3 ≠ (-1) then ((f_X12_haulsOf n x1 x5 x4 M).bind fun q13 => f_X12_rope_J115 n x1 x2 x3 x4 x5 s0 q13.1 q13.2) else (f_X12_rope_J115 n x1 x2 x3 x4 x5 s0 0 M)
set_option maxRecDepth 100000 in
set_option maxHeartbeats 4000000 in
theorem e_X12_rope_J95 {g : Gm} {d : Nat} {n : Nat} {x1 x2 x3 x4 x5 s0 : Int} {M N : Mem} {M' : Mem} (hd : 6 ≤ d) (h : f_X12_rope_J95 n x1 x2 x3 x4 x5 s0 M = some M') : Ev g d mtX12_rope 95 [(0, vR 801), (1, vI x1), (2, vI x2), (3, vI x3), (4, vI x4), (5, vI x5)] [vI s0] (sg (mx N M)) (0, 0) vN (sg (mx N M')) := by
  unfold f_X12_rope_J95 at h
  refine ev_istore (pc := 95) (il' := [(6, vI s0), (0, vR 801), (1, vI x1), (2, vI x2), (3, vI x3), (4, vI x4), (5, vI x5)]) dX12_rope_95 (Nat.le_of_ble_eq_true rfl) rfl ?_
  refine ev_iload_n (pc := 97) 4 dX12_rope_97 rfl rfl ?_
  refine ev_iconst (pc := 98) (x := (-1)) dX12_rope_98 ci_m1 ?_
  refine ev_icmp_ne (pc := 99) (tgt := 106) dX12_rope_99 (by decide) (fun b12 => ?_) (fun b12 => ?_)
  · rw [if_pos b12] at h
    refine ev_aload_n (pc := 106) 1 dX12_rope_106 rfl rfl ?_
    refine ev_iload_n (pc := 107) 2 dX12_rope_107 rfl rfl ?_
    refine ev_iload (pc := 108) 6 dX12_rope_108 rfl ?_
    refine ev_iload (pc := 110) 5 dX12_rope_110 rfl ?_
    obtain ⟨q13, hq13, h⟩ := bd h
    refine ev_cV (pc := 112) [vI x1, vI x5, vI x4] [] rfl mkX12_haulsOf ml12_352 mnX12_haulsOf dX12_rope_112 kd_801 (by omega) rfl (Nat.le_of_ble_eq_true rfl) (by omega) rfl (e_X12_haulsOf (d := d - 1) (v := q13.1) (M' := q13.2) (by omega)  hq13) ?_
    refine ev_pick [1, 2, 3, 4, 5, 6, 0] rfl ?_
    exact e_X12_rope_J115 hd  h
  · rw [if_neg b12] at h
    refine ev_iconst (pc := 102) (x := 0) dX12_rope_102 ci_0 ?_
    refine ev_goto (pc := 103) (tgt := 115) dX12_rope_103 (by decide) ?_
    refine ev_pick [1, 2, 3, 4, 5, 6, 0] rfl ?_
    exact e_X12_rope_J115 hd  h
def f_X12_rope_J70 (n : Nat) (x1 x2 x3 x4 s0 : Int) (M : Mem) : Option (Mem) := if x2 ≠ (-1) then ((f_X12_takesOf n x1 (M 802 8) x4 M).bind fun q11 => f_X12_rope_J95 n x1 x2 x3 x4 s0 q11.1 q11.2) else (f_X12_rope_J95 n x1 x2 x3 x4 s0 0 M)
set_option maxRecDepth 100000 in
set_option maxHeartbeats 4000000 in
theorem e_X12_rope_J70 {g : Gm} {d : Nat} {n : Nat} {x1 x2 x3 x4 s0 : Int} {M N : Mem} {M' : Mem} (hd : 6 ≤ d) (h : f_X12_rope_J70 n x1 x2 x3 x4 s0 M = some M') : Ev g d mtX12_rope 70 [(0, vR 801), (1, vI x1), (2, vI x2), (3, vI x3), (4, vI x4)] [vI s0] (sg (mx N M)) (0, 0) vN (sg (mx N M')) := by
  unfold f_X12_rope_J70 at h
  refine ev_istore (pc := 70) (il' := [(5, vI s0), (0, vR 801), (1, vI x1), (2, vI x2), (3, vI x3), (4, vI x4)]) dX12_rope_70 (Nat.le_of_ble_eq_true rfl) rfl ?_
  refine ev_iload_n (pc := 72) 3 dX12_rope_72 rfl rfl ?_
  refine ev_iconst (pc := 73) (x := (-1)) dX12_rope_73 ci_m1 ?_
  refine ev_icmp_ne (pc := 74) (tgt := 81) dX12_rope_74 (by decide) (fun b10 => ?_) (fun b10 => ?_)
  · rw [if_pos b10] at h
    refine ev_aload_n (pc := 81) 1 dX12_rope_81 rfl rfl ?_
    refine ev_iload_n (pc := 82) 2 dX12_rope_82 rfl rfl ?_
    refine ev_aload_n (pc := 83) 1 dX12_rope_83 rfl rfl ?_
    refine ev_getR (pc := 84) fl12_7 rfl dX12_rope_84 rfl kd_801 (by omega) (rf_801_0 _) ?_
    refine ev_bipush (pc := 87) (x := 8) dX12_rope_87 cb_8 ?_
    refine ev_ildr (pc := 89) dX12_rope_89 kd_802 (by omega) (by omega) (by omega) (by omega) ?_
    refine ev_iload (pc := 90) 5 dX12_rope_90 rfl ?_
    obtain ⟨q11, hq11, h⟩ := bd h
    refine ev_cV (pc := 92) [vI x1, vI (M 802 8), vI x4] [] rfl mkX12_takesOf ml12_349 mnX12_takesOf dX12_rope_92 kd_801 (by omega) rfl (Nat.le_of_ble_eq_true rfl) (by omega) rfl (e_X12_takesOf (d := d - 1) (v := q11.1) (M' := q11.2) (by omega)  hq11) ?_
    refine ev_pick [1, 2, 3, 4, 5, 0] rfl ?_
    exact e_X12_rope_J95 hd  h
  · rw [if_neg b10] at h
    refine ev_iconst (pc := 77) (x := 0) dX12_rope_77 ci_0 ?_
    refine ev_goto (pc := 78) (tgt := 95) dX12_rope_78 (by decide) ?_
    refine ev_pick [1, 2, 3, 4, 5, 0] rfl ?_
    exact e_X12_rope_J95 hd  h
def f_X12_rope_J53 (n : Nat) (x1 x2 x3 s0 : Int) (M : Mem) : Option (Mem) := if x3 ≠ (-1) then ((f_X12_get x3 0 M).bind fun q9 => f_X12_rope_J70 n x1 x2 x3 s0 q9 M) else (f_X12_rope_J70 n x1 x2 x3 s0 0 M)
set_option maxRecDepth 100000 in
set_option maxHeartbeats 4000000 in
theorem e_X12_rope_J53 {g : Gm} {d : Nat} {n : Nat} {x1 x2 x3 s0 : Int} {M N : Mem} {M' : Mem} (hd : 6 ≤ d) (h : f_X12_rope_J53 n x1 x2 x3 s0 M = some M') : Ev g d mtX12_rope 53 [(0, vR 801), (1, vI x1), (2, vI x2), (3, vI x3)] [vI s0] (sg (mx N M)) (0, 0) vN (sg (mx N M')) := by
  unfold f_X12_rope_J53 at h
  refine ev_istore (pc := 53) (il' := [(4, vI s0), (0, vR 801), (1, vI x1), (2, vI x2), (3, vI x3)]) dX12_rope_53 (Nat.le_of_ble_eq_true rfl) rfl ?_
  refine ev_iload_n (pc := 55) 4 dX12_rope_55 rfl rfl ?_
  refine ev_iconst (pc := 56) (x := (-1)) dX12_rope_56 ci_m1 ?_
  refine ev_icmp_ne (pc := 57) (tgt := 64) dX12_rope_57 (by decide) (fun b8 => ?_) (fun b8 => ?_)
  · rw [if_pos b8] at h
    refine ev_aload_n (pc := 64) 1 dX12_rope_64 rfl rfl ?_
    refine ev_iload_n (pc := 65) 4 dX12_rope_65 rfl rfl ?_
    refine ev_iconst (pc := 66) (x := 0) dX12_rope_66 ci_0 ?_
    obtain ⟨q9, hq9, h⟩ := bd h
    refine ev_cV (pc := 67) [vI x3, vI 0] [] rfl mkX12_get ml12_340 mnX12_get dX12_rope_67 kd_801 (by omega) rfl (Nat.le_of_ble_eq_true rfl) (by omega) rfl (e_X12_get (d := d - 1) (v := q9) (by omega)  hq9) ?_
    refine ev_pick [1, 2, 3, 4, 0] rfl ?_
    exact e_X12_rope_J70 hd  h
  · rw [if_neg b8] at h
    refine ev_iconst (pc := 60) (x := 0) dX12_rope_60 ci_0 ?_
    refine ev_goto (pc := 61) (tgt := 70) dX12_rope_61 (by decide) ?_
    refine ev_pick [1, 2, 3, 4, 0] rfl ?_
    exact e_X12_rope_J70 hd  h
def f_X12_rope_J38 (n : Nat) (x1 x2 x3 : Int) (M : Mem) : Option (Mem) := if x2 ≠ (-1) then ((f_X12_get x2 0 M).bind fun q7 => f_X12_rope_J53 n x1 x2 x3 q7 M) else (f_X12_rope_J53 n x1 x2 x3 0 M)
set_option maxRecDepth 100000 in
set_option maxHeartbeats 4000000 in
theorem e_X12_rope_J38 {g : Gm} {d : Nat} {n : Nat} {x1 x2 x3 : Int} {M N : Mem} {M' : Mem} (hd : 6 ≤ d) (h : f_X12_rope_J38 n x1 x2 x3 M = some M') : Ev g d mtX12_rope 38 [(0, vR 801), (1, vI x1), (2, vI x2), (3, vI x3)] [] (sg (mx N M)) (0, 0) vN (sg (mx N M')) := by
  unfold f_X12_rope_J38 at h
  refine ev_iload_n (pc := 38) 2 dX12_rope_38 rfl rfl ?_
  refine ev_iconst (pc := 39) (x := (-1)) dX12_rope_39 ci_m1 ?_
  refine ev_icmp_ne (pc := 40) (tgt := 47) dX12_rope_40 (by decide) (fun b6 => ?_) (fun b6 => ?_)
  · rw [if_pos b6] at h
    refine ev_aload_n (pc := 47) 0 dX12_rope_47 rfl rfl ?_
    refine ev_iload_n (pc := 48) 2 dX12_rope_48 rfl rfl ?_
    refine ev_iconst (pc := 49) (x := 0) dX12_rope_49 ci_0 ?_
    obtain ⟨q7, hq7, h⟩ := bd h
    refine ev_cV (pc := 50) [vI x2, vI 0] [] rfl mkX12_get ml12_340 mnX12_get dX12_rope_50 kd_801 (by omega) rfl (Nat.le_of_ble_eq_true rfl) (by omega) rfl (e_X12_get (d := d - 1) (v := q7) (by omega)  hq7) ?_
    refine ev_pick [0, 1, 2, 3] rfl ?_
    exact e_X12_rope_J53 hd  h
  · rw [if_neg b6] at h
    refine ev_iconst (pc := 43) (x := 0) dX12_rope_43 ci_0 ?_
    refine ev_goto (pc := 44) (tgt := 53) dX12_rope_44 (by decide) ?_
    refine ev_pick [0, 1, 2, 3] rfl ?_
    exact e_X12_rope_J53 hd  h
def f_X12_rope (n : Nat) (p0 : Int) (M : Mem) : Option (Mem) := (f_X12_waiterOn n p0 1 M).bind fun q1 => (f_X12_waiterOn n (wI (p0 + 1)) 0 M).bind fun q2 => (f_X12_at p0 4 M).bind fun q3 => if q3 = 100 then (some M) else (if q1 ≠ (-1) then (f_X12_rope_J38 n p0 q1 q2 M) else (if q2 ≠ (-1) then (f_X12_rope_J38 n p0 q1 q2 M) else (some M)))
set_option maxRecDepth 100000 in
set_option maxHeartbeats 4000000 in
theorem e_X12_rope {g : Gm} {d : Nat} {n : Nat} {p0 : Int} {M N : Mem} {M' : Mem} (hd : 6 ≤ d) (h : f_X12_rope n p0 M = some M') : EvM g d mtX12_rope [vR 801, vI p0] (sg (mx N M)) (0, 0) vN (sg (mx N M')) := by
  unfold f_X12_rope at h
  refine EvM.of mkX12_rope.2.2.2.1 (Nat.le_of_ble_eq_true rfl) ?_
  change Ev g d mtX12_rope 0 [(0, vR 801), (1, vI p0)] [] (sg (mx N M)) (0, 0) vN (sg (mx N M'))
  refine ev_aload_n (pc := 0) 0 dX12_rope_0 rfl rfl ?_
  refine ev_iload_n (pc := 1) 1 dX12_rope_1 rfl rfl ?_
  refine ev_iconst (pc := 2) (x := 1) dX12_rope_2 ci_1 ?_
  obtain ⟨q1, hq1, h⟩ := bd h
  refine ev_cV (pc := 3) [vI p0, vI 1] [] rfl mkX12_waiterOn ml12_346 mnX12_waiterOn dX12_rope_3 kd_801 (by omega) rfl (Nat.le_of_ble_eq_true rfl) (by omega) rfl (e_X12_waiterOn (d := d - 1) (v := q1) (by omega)  hq1) ?_
  refine ev_istore_n (pc := 6) (il' := [(2, vI q1), (0, vR 801), (1, vI p0)]) dX12_rope_6 rfl (Nat.le_of_ble_eq_true rfl) rfl ?_
  refine ev_aload_n (pc := 7) 1 dX12_rope_7 rfl rfl ?_
  refine ev_iload_n (pc := 8) 2 dX12_rope_8 rfl rfl ?_
  refine ev_iconst (pc := 9) (x := 1) dX12_rope_9 ci_1 ?_
  refine ev_iadd (pc := 10) dX12_rope_10 ?_
  refine ev_iconst (pc := 11) (x := 0) dX12_rope_11 ci_0 ?_
  obtain ⟨q2, hq2, h⟩ := bd h
  refine ev_cV (pc := 12) [vI (wI (p0 + 1)), vI 0] [] rfl mkX12_waiterOn ml12_346 mnX12_waiterOn dX12_rope_12 kd_801 (by omega) rfl (Nat.le_of_ble_eq_true rfl) (by omega) rfl (e_X12_waiterOn (d := d - 1) (v := q2) (by omega)  hq2) ?_
  refine ev_istore_n (pc := 15) (il' := [(3, vI q2), (2, vI q1), (0, vR 801), (1, vI p0)]) dX12_rope_15 rfl (Nat.le_of_ble_eq_true rfl) rfl ?_
  refine ev_aload_n (pc := 16) 2 dX12_rope_16 rfl rfl ?_
  refine ev_iload_n (pc := 17) 3 dX12_rope_17 rfl rfl ?_
  refine ev_iconst (pc := 18) (x := 4) dX12_rope_18 ci_4 ?_
  obtain ⟨q3, hq3, h⟩ := bd h
  refine ev_cV (pc := 19) [vI p0, vI 4] [] rfl mkX12_at ml12_98 mnX12_at dX12_rope_19 kd_801 (by omega) rfl (Nat.le_of_ble_eq_true rfl) (by omega) rfl (e_X12_at (d := d - 1) (v := q3) (by omega)  hq3) ?_
  refine ev_bipush (pc := 22) (x := 100) dX12_rope_22 cb_100 ?_
  refine ev_icmp_eq (pc := 24) (tgt := 37) dX12_rope_24 (by decide) (fun b4 => ?_) (fun b4 => ?_)
  · rw [if_pos b4] at h
    cases h
    exact ev_vret (pc := 37) dX12_rope_37 rfl
  · rw [if_neg b4] at h
    refine ev_iload_n (pc := 27) 1 dX12_rope_27 rfl rfl ?_
    refine ev_iconst (pc := 28) (x := (-1)) dX12_rope_28 ci_m1 ?_
    refine ev_icmp_ne (pc := 29) (tgt := 38) dX12_rope_29 (by decide) (fun b5 => ?_) (fun b5 => ?_)
    · rw [if_pos b5] at h
      refine ev_pick [2, 3, 1, 0] rfl ?_
      exact e_X12_rope_J38 hd  h
    · rw [if_neg b5] at h
      refine ev_iload_n (pc := 32) 0 dX12_rope_32 rfl rfl ?_
      refine ev_iconst (pc := 33) (x := (-1)) dX12_rope_33 ci_m1 ?_
      refine ev_icmp_ne (pc := 34) (tgt := 38) dX12_rope_34 (by decide) (fun b21 => ?_) (fun b21 => ?_)
      · rw [if_pos b21] at h
        refine ev_pick [2, 3, 1, 0] rfl ?_
        exact e_X12_rope_J38 hd  h
      · rw [if_neg b21] at h
        cases h
        exact ev_vret (pc := 37) dX12_rope_37 rfl
def f_X12_pour_L9 : Nat → Int → Int → Mem → Option (Mem)
  | 0, _, _, _ => none
  | n + 1, x1, x2, M => if x1 ≤ x2 then (some M) else ((f_X12_flowsOf n x2 M).bind fun q2 => ck (0 ≤ x2 ∧ x2 < 9) (lt (upM q2.2 810 x2 q2.1) fun M4 => (f_X12_at x2 2 M4).bind fun q5 => if q5 ≠ 0 then ((f_X12_at x2 3 M4).bind fun q7 => (f_X12_at x2 2 M4).bind fun q8 => ck (q8 ≠ 0) (lt (upM M4 811 x2 (iDiv (wI (q7 * (M4 810 x2))) q8)) fun M10 => f_X12_pour_L9 n x1 (wI (x2 + 1)) M10)) else (lt (upM M4 811 x2 0) fun M11 => f_X12_pour_L9 n x1 (wI (x2 + 1)) M11)))
set_option maxRecDepth 100000 in
set_option maxHeartbeats 4000000 in
theorem e_X12_pour_L9 {g : Gm} {d : Nat} {x1 : Int} {r : Vv} {σ' : Sg} {N : Mem} (hd : 6 ≤ d) : ∀ (n : Nat) {x2 : Int} {M : Mem} {q : Mem}, f_X12_pour_L9 n x1 x2 M = some q → Ev g d mtX12_pour 70 [(0, vR 801), (1, vI x1)] [] (sg (mx N q)) (0, 0) r σ' → Ev g d mtX12_pour 9 [(0, vR 801), (1, vI x1), (2, vI x2)] [] (sg (mx N M)) (0, 0) r σ' := by
  intro n
  induction n with
  | zero =>
    intro x2 M q h hk0
    rw [f_X12_pour_L9.eq_1] at h
    cases h
  | succ n ih =>
    intro x2 M q h hk0
    rw [f_X12_pour_L9.eq_2] at h
    refine ev_iload_n (pc := 9) 2 dX12_pour_9 rfl rfl ?_
    refine ev_iload_n (pc := 10) 1 dX12_pour_10 rfl rfl ?_
    refine ev_icmp_ge (pc := 11) (tgt := 70) dX12_pour_11 (by decide) (fun b1 => ?_) (fun b1 => ?_)
    · rw [if_pos b1] at h
      cases h
      refine ev_pick [0, 1] rfl ?_
      exact hk0
    · rw [if_neg b1] at h
      refine ev_aload_n (pc := 14) 0 dX12_pour_14 rfl rfl ?_
      refine ev_getR (pc := 15) fl12_47 rfl dX12_pour_15 rfl kd_801 (by omega) (rf_801_30 _) ?_
      refine ev_iload_n (pc := 18) 2 dX12_pour_18 rfl rfl ?_
      refine ev_aload_n (pc := 19) 0 dX12_pour_19 rfl rfl ?_
      refine ev_iload_n (pc := 20) 2 dX12_pour_20 rfl rfl ?_
      obtain ⟨q2, hq2, h⟩ := bd h
      refine ev_cV (pc := 21) [vI x2] [vI x2, vR 810] rfl mkX12_flowsOf ml12_361 mnX12_flowsOf dX12_pour_21 kd_801 (by omega) rfl (Nat.le_of_ble_eq_true rfl) (by omega) rfl (e_X12_flowsOf (d := d - 1) (v := q2.1) (M' := q2.2) (by omega)  hq2) ?_
      obtain ⟨c3, h⟩ := ck_some h
      obtain ⟨M4, eM4, h⟩ := lt_some h
      refine ev_istr (pc := 24) dX12_pour_24 kd_810 (by omega) (by omega) c3.1 c3.2 eM4 ?_
      refine ev_aload_n (pc := 25) 0 dX12_pour_25 rfl rfl ?_
      refine ev_getR (pc := 26) fl12_50 rfl dX12_pour_26 rfl kd_801 (by omega) (rf_801_31 _) ?_
      refine ev_iload_n (pc := 29) 2 dX12_pour_29 rfl rfl ?_
      refine ev_aload_n (pc := 30) 0 dX12_pour_30 rfl rfl ?_
      refine ev_iload_n (pc := 31) 2 dX12_pour_31 rfl rfl ?_
      refine ev_iconst (pc := 32) (x := 2) dX12_pour_32 ci_2 ?_
      obtain ⟨q5, hq5, h⟩ := bd h
      refine ev_cV (pc := 33) [vI x2, vI 2] [vI x2, vR 811] rfl mkX12_at ml12_98 mnX12_at dX12_pour_33 kd_801 (by omega) rfl (Nat.le_of_ble_eq_true rfl) (by omega) rfl (e_X12_at (d := d - 1) (v := q5) (by omega)  hq5) ?_
      refine ev_if_ne (pc := 36) (tgt := 43) dX12_pour_36 (by decide) (fun b6 => ?_) (fun b6 => ?_)
      · rw [if_pos b6] at h
        refine ev_aload_n (pc := 43) 0 dX12_pour_43 rfl rfl ?_
        refine ev_iload_n (pc := 44) 2 dX12_pour_44 rfl rfl ?_
        refine ev_iconst (pc := 45) (x := 3) dX12_pour_45 ci_3 ?_
        obtain ⟨q7, hq7, h⟩ := bd h
        refine ev_cV (pc := 46) [vI x2, vI 3] [vI x2, vR 811] rfl mkX12_at ml12_98 mnX12_at dX12_pour_46 kd_801 (by omega) rfl (Nat.le_of_ble_eq_true rfl) (by omega) rfl (e_X12_at (d := d - 1) (v := q7) (by omega)  hq7) ?_
        refine ev_aload_n (pc := 49) 0 dX12_pour_49 rfl rfl ?_
        refine ev_getR (pc := 50) fl12_47 rfl dX12_pour_50 rfl kd_801 (by omega) (rf_801_30 _) ?_
        refine ev_iload_n (pc := 53) 2 dX12_pour_53 rfl rfl ?_
        refine ev_ildr (pc := 54) dX12_pour_54 kd_810 (by omega) (by omega) c3.1 c3.2 ?_
        refine ev_imul (pc := 55) dX12_pour_55 ?_
        refine ev_aload_n (pc := 56) 0 dX12_pour_56 rfl rfl ?_
        refine ev_iload_n (pc := 57) 2 dX12_pour_57 rfl rfl ?_
        refine ev_iconst (pc := 58) (x := 2) dX12_pour_58 ci_2 ?_
        obtain ⟨q8, hq8, h⟩ := bd h
        refine ev_cV (pc := 59) [vI x2, vI 2] [vI (wI (q7 * (M4 810 x2))), vI x2, vR 811] rfl mkX12_at ml12_98 mnX12_at dX12_pour_59 kd_801 (by omega) rfl (Nat.le_of_ble_eq_true rfl) (by omega) rfl (e_X12_at (d := d - 1) (v := q8) (by omega)  hq8) ?_
        obtain ⟨c9, h⟩ := ck_some h
        refine ev_idiv (pc := 62) dX12_pour_62 c9 ?_
        obtain ⟨M10, eM10, h⟩ := lt_some h
        refine ev_istr (pc := 63) dX12_pour_63 kd_811 (by omega) (by omega) c3.1 c3.2 eM10 ?_
        refine ev_iinc (pc := 64) (il' := [(2, vI (wI (x2 + 1))), (0, vR 801), (1, vI x1)]) 2 dX12_pour_64 rfl (Nat.le_of_ble_eq_true rfl) rfl rfl ?_
        refine ev_goto (pc := 67) (tgt := 9) dX12_pour_67 (by decide) ?_
        refine ev_pick [1, 2, 0] rfl ?_
        exact ih h hk0
      · rw [if_neg b6] at h
        refine ev_iconst (pc := 39) (x := 0) dX12_pour_39 ci_0 ?_
        refine ev_goto (pc := 40) (tgt := 63) dX12_pour_40 (by decide) ?_
        obtain ⟨M11, eM11, h⟩ := lt_some h
        refine ev_istr (pc := 63) dX12_pour_63 kd_811 (by omega) (by omega) c3.1 c3.2 eM11 ?_
        refine ev_iinc (pc := 64) (il' := [(2, vI (wI (x2 + 1))), (0, vR 801), (1, vI x1)]) 2 dX12_pour_64 rfl (Nat.le_of_ble_eq_true rfl) rfl rfl ?_
        refine ev_goto (pc := 67) (tgt := 9) dX12_pour_67 (by decide) ?_
        refine ev_pick [1, 2, 0] rfl ?_
        exact ih h hk0
def f_X12_pour_L72_J153 (n : Nat) (K : Int → Mem → Option (Mem)) (x1 x2 s1 s2 s3 s4 : Int) (M : Mem) : Option (Mem) := (f_X12_put s1 s2 (f_X12_cut (wI (s3 + s4)) 0 999) M).bind fun q21 => K (wI (x2 + 1)) q21
set_option maxRecDepth 100000 in
set_option maxHeartbeats 4000000 in
theorem e_X12_pour_L72_J153 {g : Gm} {d : Nat} {n : Nat} {K : Int → Mem → Option (Mem)} {x1 x2 s1 s2 s3 s4 : Int} {M N : Mem} {q : Mem} {r : Vv} {σ' : Sg} (hd : 6 ≤ d) (hK : ∀ {x2 : Int} {M : Mem}, K x2 M = some q → Ev g d mtX12_pour 72 [(0, vR 801), (1, vI x1), (2, vI x2)] [] (sg (mx N M)) (0, 0) r σ') (hk0 : Ev g d mtX12_pour 171 [(0, vR 801), (1, vI x1)] [] (sg (mx N q)) (0, 0) r σ') (h : f_X12_pour_L72_J153 n K x1 x2 s1 s2 s3 s4 M = some q) : Ev g d mtX12_pour 153 [(0, vR 801), (1, vI x1), (2, vI x2)] [vI s4, vI s3, vI s2, vI s1, vR 801] (sg (mx N M)) (0, 0) r σ' := by
  unfold f_X12_pour_L72_J153 at h
  refine ev_iadd (pc := 153) dX12_pour_153 ?_
  refine ev_i2l (pc := 154) dX12_pour_154 ?_
  refine ev_iconst (pc := 155) (x := 0) dX12_pour_155 ci_0 ?_
  refine ev_sipush (pc := 156) (x := 999) dX12_pour_156 cs_999 ?_
  refine ev_cS (pc := 159) [vL (wI (s3 + s4)), vI 0, vI 999] [vI s2, vI s1, vR 801] rfl mkX12_cut ml12_326 msX12_cut dX12_pour_159 rfl (Nat.le_of_ble_eq_true rfl) (by omega) rfl (e_X12_cut (d := d - 1) (v := (f_X12_cut (wI (s3 + s4)) 0 999)) (by omega)  rfl) ?_
  obtain ⟨q21, hq21, h⟩ := bd h
  refine ev_cV0 (pc := 162) [vI s1, vI s2, vI (f_X12_cut (wI (s3 + s4)) 0 999)] [] rfl mkX12_put ml12_94 mnX12_put dX12_pour_162 kd_801 (by omega) rfl (Nat.le_of_ble_eq_true rfl) (by omega) (e_X12_put (d := d - 1) (M' := q21) (by omega)  hq21) ?_
  refine ev_iinc (pc := 165) (il' := [(2, vI (wI (x2 + 1))), (0, vR 801), (1, vI x1)]) 2 dX12_pour_165 rfl (Nat.le_of_ble_eq_true rfl) rfl rfl ?_
  refine ev_goto (pc := 168) (tgt := 72) dX12_pour_168 (by decide) ?_
  refine ev_pick [1, 2, 0] rfl ?_
  exact hK h
def f_X12_pour_L72_J109 (n : Nat) (K : Int → Mem → Option (Mem)) (x1 x2 s1 s2 s3 s4 : Int) (M : Mem) : Option (Mem) := (f_X12_put s1 s2 (f_X12_cut (wI (s3 + s4)) 0 999) M).bind fun q17 => (f_X12_at x2 3 q17).bind fun q18 => ck (0 ≤ x2 ∧ x2 < 9) (if x2 ≤ 0 then (f_X12_pour_L72_J153 n (K) x1 x2 x2 3 (wI (q18 - (q17 811 x2))) 0 q17) else (ck (0 ≤ (wI (x2 - 1)) ∧ (wI (x2 - 1)) < 9) (f_X12_pour_L72_J153 n (K) x1 x2 x2 3 (wI (q18 - (q17 811 x2))) (q17 811 (wI (x2 - 1))) q17)))
set_option maxRecDepth 100000 in
set_option maxHeartbeats 4000000 in
theorem e_X12_pour_L72_J109 {g : Gm} {d : Nat} {n : Nat} {K : Int → Mem → Option (Mem)} {x1 x2 s1 s2 s3 s4 : Int} {M N : Mem} {q : Mem} {r : Vv} {σ' : Sg} (hd : 6 ≤ d) (hK : ∀ {x2 : Int} {M : Mem}, K x2 M = some q → Ev g d mtX12_pour 72 [(0, vR 801), (1, vI x1), (2, vI x2)] [] (sg (mx N M)) (0, 0) r σ') (hk0 : Ev g d mtX12_pour 171 [(0, vR 801), (1, vI x1)] [] (sg (mx N q)) (0, 0) r σ') (h : f_X12_pour_L72_J109 n K x1 x2 s1 s2 s3 s4 M = some q) : Ev g d mtX12_pour 109 [(0, vR 801), (1, vI x1), (2, vI x2)] [vI s4, vI s3, vI s2, vI s1, vR 801] (sg (mx N M)) (0, 0) r σ' := by
  unfold f_X12_pour_L72_J109 at h
  refine ev_iadd (pc := 109) dX12_pour_109 ?_
  refine ev_i2l (pc := 110) dX12_pour_110 ?_
  refine ev_iconst (pc := 111) (x := 0) dX12_pour_111 ci_0 ?_
  refine ev_sipush (pc := 112) (x := 999) dX12_pour_112 cs_999 ?_
  refine ev_cS (pc := 115) [vL (wI (s3 + s4)), vI 0, vI 999] [vI s2, vI s1, vR 801] rfl mkX12_cut ml12_326 msX12_cut dX12_pour_115 rfl (Nat.le_of_ble_eq_true rfl) (by omega) rfl (e_X12_cut (d := d - 1) (v := (f_X12_cut (wI (s3 + s4)) 0 999)) (by omega)  rfl) ?_
  obtain ⟨q17, hq17, h⟩ := bd h
  refine ev_cV0 (pc := 118) [vI s1, vI s2, vI (f_X12_cut (wI (s3 + s4)) 0 999)] [] rfl mkX12_put ml12_94 mnX12_put dX12_pour_118 kd_801 (by omega) rfl (Nat.le_of_ble_eq_true rfl) (by omega) (e_X12_put (d := d - 1) (M' := q17) (by omega)  hq17) ?_
  refine ev_aload_n (pc := 121) 0 dX12_pour_121 rfl rfl ?_
  refine ev_iload_n (pc := 122) 2 dX12_pour_122 rfl rfl ?_
  refine ev_iconst (pc := 123) (x := 3) dX12_pour_123 ci_3 ?_
  refine ev_aload_n (pc := 124) 0 dX12_pour_124 rfl rfl ?_
  refine ev_iload_n (pc := 125) 2 dX12_pour_125 rfl rfl ?_
  refine ev_iconst (pc := 126) (x := 3) dX12_pour_126 ci_3 ?_
  obtain ⟨q18, hq18, h⟩ := bd h
  refine ev_cV (pc := 127) [vI x2, vI 3] [vI 3, vI x2, vR 801] rfl mkX12_at ml12_98 mnX12_at dX12_pour_127 kd_801 (by omega) rfl (Nat.le_of_ble_eq_true rfl) (by omega) rfl (e_X12_at (d := d - 1) (v := q18) (by omega)  hq18) ?_
  refine ev_aload_n (pc := 130) 0 dX12_pour_130 rfl rfl ?_
  refine ev_getR (pc := 131) fl12_50 rfl dX12_pour_131 rfl kd_801 (by omega) (rf_801_31 _) ?_
  refine ev_iload_n (pc := 134) 2 dX12_pour_134 rfl rfl ?_
  obtain ⟨c19, h⟩ := ck_some h
  refine ev_ildr (pc := 135) dX12_pour_135 kd_811 (by omega) (by omega) c19.1 c19.2 ?_
  refine ev_isub (pc := 136) dX12_pour_136 ?_
  refine ev_iload_n (pc := 137) 2 dX12_pour_137 rfl rfl ?_
  refine ev_if_le (pc := 138) (tgt := 152) dX12_pour_138 (by decide) (fun b20 => ?_) (fun b20 => ?_)
  · rw [if_pos b20] at h
    refine ev_iconst (pc := 152) (x := 0) dX12_pour_152 ci_0 ?_
    refine ev_pick [0, 1, 2] rfl ?_
    exact e_X12_pour_L72_J153 hd  hK hk0 h
  · rw [if_neg b20] at h
    refine ev_aload_n (pc := 141) 0 dX12_pour_141 rfl rfl ?_
    refine ev_getR (pc := 142) fl12_50 rfl dX12_pour_142 rfl kd_801 (by omega) (rf_801_31 _) ?_
    refine ev_iload_n (pc := 145) 2 dX12_pour_145 rfl rfl ?_
    refine ev_iconst (pc := 146) (x := 1) dX12_pour_146 ci_1 ?_
    refine ev_isub (pc := 147) dX12_pour_147 ?_
    obtain ⟨c22, h⟩ := ck_some h
    refine ev_ildr (pc := 148) dX12_pour_148 kd_811 (by omega) (by omega) c22.1 c22.2 ?_
    refine ev_goto (pc := 149) (tgt := 153) dX12_pour_149 (by decide) ?_
    refine ev_pick [0, 1, 2] rfl ?_
    exact e_X12_pour_L72_J153 hd  hK hk0 h
def f_X12_pour_L72 : Nat → Int → Int → Mem → Option (Mem)
  | 0, _, _, _ => none
  | n + 1, x1, x2, M => if x1 ≤ x2 then (some M) else ((f_X12_at x2 2 M).bind fun q14 => ck (0 ≤ x2 ∧ x2 < 9) (if x2 ≤ 0 then (f_X12_pour_L72_J109 n (fun x2 M => f_X12_pour_L72 n x1 x2 M) x1 x2 x2 2 (wI (q14 - (M 810 x2))) 0 M) else (ck (0 ≤ (wI (x2 - 1)) ∧ (wI (x2 - 1)) < 9) (f_X12_pour_L72_J109 n (fun x2 M => f_X12_pour_L72 n x1 x2 M) x1 x2 x2 2 (wI (q14 - (M 810 x2))) (M 810 (wI (x2 - 1))) M))))
set_option maxRecDepth 100000 in
set_option maxHeartbeats 4000000 in
theorem e_X12_pour_L72 {g : Gm} {d : Nat} {x1 : Int} {r : Vv} {σ' : Sg} {N : Mem} (hd : 6 ≤ d) : ∀ (n : Nat) {x2 : Int} {M : Mem} {q : Mem}, f_X12_pour_L72 n x1 x2 M = some q → Ev g d mtX12_pour 171 [(0, vR 801), (1, vI x1)] [] (sg (mx N q)) (0, 0) r σ' → Ev g d mtX12_pour 72 [(0, vR 801), (1, vI x1), (2, vI x2)] [] (sg (mx N M)) (0, 0) r σ' := by
  intro n
  induction n with
  | zero =>
    intro x2 M q h hk0
    rw [f_X12_pour_L72.eq_1] at h
    cases h
  | succ n ih =>
    intro x2 M q h hk0
    rw [f_X12_pour_L72.eq_2] at h
    refine ev_iload_n (pc := 72) 2 dX12_pour_72 rfl rfl ?_
    refine ev_iload_n (pc := 73) 1 dX12_pour_73 rfl rfl ?_
    refine ev_icmp_ge (pc := 74) (tgt := 171) dX12_pour_74 (by decide) (fun b13 => ?_) (fun b13 => ?_)
    · rw [if_pos b13] at h
      cases h
      refine ev_pick [0, 1] rfl ?_
      exact hk0
    · rw [if_neg b13] at h
      refine ev_aload_n (pc := 77) 0 dX12_pour_77 rfl rfl ?_
      refine ev_iload_n (pc := 78) 2 dX12_pour_78 rfl rfl ?_
      refine ev_iconst (pc := 79) (x := 2) dX12_pour_79 ci_2 ?_
      refine ev_aload_n (pc := 80) 0 dX12_pour_80 rfl rfl ?_
      refine ev_iload_n (pc := 81) 2 dX12_pour_81 rfl rfl ?_
      refine ev_iconst (pc := 82) (x := 2) dX12_pour_82 ci_2 ?_
      obtain ⟨q14, hq14, h⟩ := bd h
      refine ev_cV (pc := 83) [vI x2, vI 2] [vI 2, vI x2, vR 801] rfl mkX12_at ml12_98 mnX12_at dX12_pour_83 kd_801 (by omega) rfl (Nat.le_of_ble_eq_true rfl) (by omega) rfl (e_X12_at (d := d - 1) (v := q14) (by omega)  hq14) ?_
      refine ev_aload_n (pc := 86) 0 dX12_pour_86 rfl rfl ?_
      refine ev_getR (pc := 87) fl12_47 rfl dX12_pour_87 rfl kd_801 (by omega) (rf_801_30 _) ?_
      refine ev_iload_n (pc := 90) 2 dX12_pour_90 rfl rfl ?_
      obtain ⟨c15, h⟩ := ck_some h
      refine ev_ildr (pc := 91) dX12_pour_91 kd_810 (by omega) (by omega) c15.1 c15.2 ?_
      refine ev_isub (pc := 92) dX12_pour_92 ?_
      refine ev_iload_n (pc := 93) 2 dX12_pour_93 rfl rfl ?_
      refine ev_if_le (pc := 94) (tgt := 108) dX12_pour_94 (by decide) (fun b16 => ?_) (fun b16 => ?_)
      · rw [if_pos b16] at h
        refine ev_iconst (pc := 108) (x := 0) dX12_pour_108 ci_0 ?_
        refine ev_pick [0, 1, 2] rfl ?_
        exact e_X12_pour_L72_J109 hd  (fun h9 => ih h9 hk0) hk0 h
      · rw [if_neg b16] at h
        refine ev_aload_n (pc := 97) 0 dX12_pour_97 rfl rfl ?_
        refine ev_getR (pc := 98) fl12_47 rfl dX12_pour_98 rfl kd_801 (by omega) (rf_801_30 _) ?_
        refine ev_iload_n (pc := 101) 2 dX12_pour_101 rfl rfl ?_
        refine ev_iconst (pc := 102) (x := 1) dX12_pour_102 ci_1 ?_
        refine ev_isub (pc := 103) dX12_pour_103 ?_
        obtain ⟨c23, h⟩ := ck_some h
        refine ev_ildr (pc := 104) dX12_pour_104 kd_810 (by omega) (by omega) c23.1 c23.2 ?_
        refine ev_goto (pc := 105) (tgt := 109) dX12_pour_105 (by decide) ?_
        refine ev_pick [0, 1, 2] rfl ?_
        exact e_X12_pour_L72_J109 hd  (fun h9 => ih h9 hk0) hk0 h
def f_X12_pour (n : Nat) (M : Mem) : Option (Mem) := (f_X12_pour_L9 n (M 802 0) 0 M).bind fun q12 => (f_X12_pour_L72 n (M 802 0) 0 q12).bind fun q24 => if (M 802 0) ≠ 0 then (ck (0 ≤ (wI ((M 802 0) - 1)) ∧ (wI ((M 802 0) - 1)) < 9) (lt (f_X12_cut (wI ((q24 802 9) + (q24 810 (wI ((M 802 0) - 1))))) 0 99999999) fun q27 => lt (upM q24 802 9 q27) fun M28 => lt (f_X12_cut (wI ((M28 802 10) + (M28 811 (wI ((M 802 0) - 1))))) 0 99999999) fun q29 => lt (upM M28 802 10 q29) fun M30 => some M30)) else (some q24)
set_option maxRecDepth 100000 in
set_option maxHeartbeats 4000000 in
theorem e_X12_pour {g : Gm} {d : Nat} {n : Nat} {M N : Mem} {M' : Mem} (hd : 6 ≤ d) (h : f_X12_pour n M = some M') : EvM g d mtX12_pour [vR 801] (sg (mx N M)) (0, 0) vN (sg (mx N M')) := by
  unfold f_X12_pour at h
  refine EvM.of mkX12_pour.2.2.2.1 (Nat.le_of_ble_eq_true rfl) ?_
  change Ev g d mtX12_pour 0 [(0, vR 801)] [] (sg (mx N M)) (0, 0) vN (sg (mx N M'))
  refine ev_aload_n (pc := 0) 0 dX12_pour_0 rfl rfl ?_
  refine ev_getR (pc := 1) fl12_7 rfl dX12_pour_1 rfl kd_801 (by omega) (rf_801_0 _) ?_
  refine ev_iconst (pc := 4) (x := 0) dX12_pour_4 ci_0 ?_
  refine ev_ildr (pc := 5) dX12_pour_5 kd_802 (by omega) (by omega) (by omega) (by omega) ?_
  refine ev_istore_n (pc := 6) (il' := [(1, vI (M 802 0)), (0, vR 801)]) dX12_pour_6 rfl (Nat.le_of_ble_eq_true rfl) rfl ?_
  refine ev_iconst (pc := 7) (x := 0) dX12_pour_7 ci_0 ?_
  refine ev_istore_n (pc := 8) (il' := [(2, vI 0), (1, vI (M 802 0)), (0, vR 801)]) dX12_pour_8 rfl (Nat.le_of_ble_eq_true rfl) rfl ?_
  obtain ⟨q12, hq12, h⟩ := bd h
  refine ev_pick [2, 1, 0] rfl ?_
  refine e_X12_pour_L9 hd  n hq12 ?_
  refine ev_iconst (pc := 70) (x := 0) dX12_pour_70 ci_0 ?_
  refine ev_istore_n (pc := 71) (il' := [(2, vI 0), (0, vR 801), (1, vI (M 802 0))]) dX12_pour_71 rfl (Nat.le_of_ble_eq_true rfl) rfl ?_
  obtain ⟨q24, hq24, h⟩ := bd h
  refine ev_pick [1, 2, 0] rfl ?_
  refine e_X12_pour_L72 hd  n hq24 ?_
  refine ev_iload_n (pc := 171) 1 dX12_pour_171 rfl rfl ?_
  refine ev_if_ne (pc := 172) (tgt := 176) dX12_pour_172 (by decide) (fun b25 => ?_) (fun b25 => ?_)
  · rw [if_pos b25] at h
    refine ev_aload_n (pc := 176) 0 dX12_pour_176 rfl rfl ?_
    refine ev_getR (pc := 177) fl12_7 rfl dX12_pour_177 rfl kd_801 (by omega) (rf_801_0 _) ?_
    refine ev_bipush (pc := 180) (x := 9) dX12_pour_180 cb_9 ?_
    refine ev_aload_n (pc := 182) 0 dX12_pour_182 rfl rfl ?_
    refine ev_getR (pc := 183) fl12_7 rfl dX12_pour_183 rfl kd_801 (by omega) (rf_801_0 _) ?_
    refine ev_bipush (pc := 186) (x := 9) dX12_pour_186 cb_9 ?_
    refine ev_ildr (pc := 188) dX12_pour_188 kd_802 (by omega) (by omega) (by omega) (by omega) ?_
    refine ev_aload_n (pc := 189) 0 dX12_pour_189 rfl rfl ?_
    refine ev_getR (pc := 190) fl12_47 rfl dX12_pour_190 rfl kd_801 (by omega) (rf_801_30 _) ?_
    refine ev_iload_n (pc := 193) 1 dX12_pour_193 rfl rfl ?_
    refine ev_iconst (pc := 194) (x := 1) dX12_pour_194 ci_1 ?_
    refine ev_isub (pc := 195) dX12_pour_195 ?_
    obtain ⟨c26, h⟩ := ck_some h
    refine ev_ildr (pc := 196) dX12_pour_196 kd_810 (by omega) (by omega) c26.1 c26.2 ?_
    refine ev_iadd (pc := 197) dX12_pour_197 ?_
    refine ev_i2l (pc := 198) dX12_pour_198 ?_
    refine ev_iconst (pc := 199) (x := 0) dX12_pour_199 ci_0 ?_
    refine ev_ldcw (pc := 200) (x := 99999999) rfl kc12_364 cc_99999999 dX12_pour_200 ?_
    obtain ⟨q27, hq27, h⟩ := lt_some h
    refine ev_cS (pc := 203) [vL (wI ((q24 802 9) + (q24 810 (wI ((M 802 0) - 1))))), vI 0, vI 99999999] [vI 9, vR 802] rfl mkX12_cut ml12_326 msX12_cut dX12_pour_203 rfl (Nat.le_of_ble_eq_true rfl) (by omega) rfl (e_X12_cut (d := d - 1) (v := q27) (by omega)  hq27.symm) ?_
    obtain ⟨M28, eM28, h⟩ := lt_some h
    refine ev_istr (pc := 206) dX12_pour_206 kd_802 (by omega) (by omega) (by omega) (by omega) eM28 ?_
    refine ev_aload_n (pc := 207) 0 dX12_pour_207 rfl rfl ?_
    refine ev_getR (pc := 208) fl12_7 rfl dX12_pour_208 rfl kd_801 (by omega) (rf_801_0 _) ?_
    refine ev_bipush (pc := 211) (x := 10) dX12_pour_211 cb_10 ?_
    refine ev_aload_n (pc := 213) 0 dX12_pour_213 rfl rfl ?_
    refine ev_getR (pc := 214) fl12_7 rfl dX12_pour_214 rfl kd_801 (by omega) (rf_801_0 _) ?_
    refine ev_bipush (pc := 217) (x := 10) dX12_pour_217 cb_10 ?_
    refine ev_ildr (pc := 219) dX12_pour_219 kd_802 (by omega) (by omega) (by omega) (by omega) ?_
    refine ev_aload_n (pc := 220) 0 dX12_pour_220 rfl rfl ?_
    refine ev_getR (pc := 221) fl12_50 rfl dX12_pour_221 rfl kd_801 (by omega) (rf_801_31 _) ?_
    refine ev_iload_n (pc := 224) 1 dX12_pour_224 rfl rfl ?_
    refine ev_iconst (pc := 225) (x := 1) dX12_pour_225 ci_1 ?_
    refine ev_isub (pc := 226) dX12_pour_226 ?_
    refine ev_ildr (pc := 227) dX12_pour_227 kd_811 (by omega) (by omega) c26.1 c26.2 ?_
    refine ev_iadd (pc := 228) dX12_pour_228 ?_
    refine ev_i2l (pc := 229) dX12_pour_229 ?_
    refine ev_iconst (pc := 230) (x := 0) dX12_pour_230 ci_0 ?_
    refine ev_ldcw (pc := 231) (x := 99999999) rfl kc12_364 cc_99999999 dX12_pour_231 ?_
    obtain ⟨q29, hq29, h⟩ := lt_some h
    refine ev_cS (pc := 234) [vL (wI ((M28 802 10) + (M28 811 (wI ((M 802 0) - 1))))), vI 0, vI 99999999] [vI 10, vR 802] rfl mkX12_cut ml12_326 msX12_cut dX12_pour_234 rfl (Nat.le_of_ble_eq_true rfl) (by omega) rfl (e_X12_cut (d := d - 1) (v := q29) (by omega)  hq29.symm) ?_
    obtain ⟨M30, eM30, h⟩ := lt_some h
    refine ev_istr (pc := 237) dX12_pour_237 kd_802 (by omega) (by omega) (by omega) (by omega) eM30 ?_
    cases h
    exact ev_vret (pc := 238) dX12_pour_238 rfl
  · rw [if_neg b25] at h
    cases h
    exact ev_vret (pc := 175) dX12_pour_175 rfl
def f_X12_pass_L2 : Nat → Int → Mem → Option (Mem)
  | 0, _, _ => none
  | n + 1, x1, M => if 7 ≤ x1 then (some M) else (ck (0 ≤ x1 ∧ x1 < 7) (lt (upM M 809 x1 0) fun M3 => f_X12_pass_L2 n (wI (x1 + 1)) M3))
set_option maxRecDepth 100000 in
set_option maxHeartbeats 4000000 in
theorem e_X12_pass_L2 {g : Gm} {d : Nat} {r : Vv} {σ' : Sg} {N : Mem} (hd : 7 ≤ d) : ∀ (n : Nat) {x1 : Int} {M : Mem} {q : Mem}, f_X12_pass_L2 n x1 M = some q → Ev g d mtX12_pass 21 [(0, vR 801)] [] (sg (mx N q)) (0, 0) r σ' → Ev g d mtX12_pass 2 [(0, vR 801), (1, vI x1)] [] (sg (mx N M)) (0, 0) r σ' := by
  intro n
  induction n with
  | zero =>
    intro x1 M q h hk0
    rw [f_X12_pass_L2.eq_1] at h
    cases h
  | succ n ih =>
    intro x1 M q h hk0
    rw [f_X12_pass_L2.eq_2] at h
    refine ev_iload_n (pc := 2) 1 dX12_pass_2 rfl rfl ?_
    refine ev_bipush (pc := 3) (x := 7) dX12_pass_3 cb_7 ?_
    refine ev_icmp_ge (pc := 5) (tgt := 21) dX12_pass_5 (by decide) (fun b1 => ?_) (fun b1 => ?_)
    · rw [if_pos b1] at h
      cases h
      refine ev_pick [0] rfl ?_
      exact hk0
    · rw [if_neg b1] at h
      refine ev_aload_n (pc := 8) 0 dX12_pass_8 rfl rfl ?_
      refine ev_getR (pc := 9) fl12_40 rfl dX12_pass_9 rfl kd_801 (by omega) (rf_801_27 _) ?_
      refine ev_iload_n (pc := 12) 1 dX12_pass_12 rfl rfl ?_
      refine ev_iconst (pc := 13) (x := 0) dX12_pass_13 ci_0 ?_
      obtain ⟨c2, h⟩ := ck_some h
      obtain ⟨M3, eM3, h⟩ := lt_some h
      refine ev_bstr (pc := 14) dX12_pass_14 kd_809 (by omega) (by omega) c2.1 c2.2 (Or.inl rfl) eM3 ?_
      refine ev_iinc (pc := 15) (il' := [(1, vI (wI (x1 + 1))), (0, vR 801)]) 1 dX12_pass_15 rfl (Nat.le_of_ble_eq_true rfl) rfl rfl ?_
      refine ev_goto (pc := 18) (tgt := 2) dX12_pass_18 (by decide) ?_
      refine ev_pick [1, 0] rfl ?_
      exact ih h hk0
def f_X12_pass_L23 : Nat → Int → Mem → Option (Mem)
  | 0, _, _ => none
  | n + 1, x1, M => if (M 802 0) ≤ (wI (x1 + 1)) then (some M) else ((f_X12_rope n x1 M).bind fun q6 => f_X12_pass_L23 n (wI (x1 + 1)) q6)
set_option maxRecDepth 100000 in
set_option maxHeartbeats 4000000 in
theorem e_X12_pass_L23 {g : Gm} {d : Nat} {r : Vv} {σ' : Sg} {N : Mem} (hd : 7 ≤ d) : ∀ (n : Nat) {x1 : Int} {M : Mem} {q : Mem}, f_X12_pass_L23 n x1 M = some q → Ev g d mtX12_pass 46 [(0, vR 801)] [] (sg (mx N q)) (0, 0) r σ' → Ev g d mtX12_pass 23 [(0, vR 801), (1, vI x1)] [] (sg (mx N M)) (0, 0) r σ' := by
  intro n
  induction n with
  | zero =>
    intro x1 M q h hk0
    rw [f_X12_pass_L23.eq_1] at h
    cases h
  | succ n ih =>
    intro x1 M q h hk0
    rw [f_X12_pass_L23.eq_2] at h
    refine ev_iload_n (pc := 23) 1 dX12_pass_23 rfl rfl ?_
    refine ev_iconst (pc := 24) (x := 1) dX12_pass_24 ci_1 ?_
    refine ev_iadd (pc := 25) dX12_pass_25 ?_
    refine ev_aload_n (pc := 26) 0 dX12_pass_26 rfl rfl ?_
    refine ev_getR (pc := 27) fl12_7 rfl dX12_pass_27 rfl kd_801 (by omega) (rf_801_0 _) ?_
    refine ev_iconst (pc := 30) (x := 0) dX12_pass_30 ci_0 ?_
    refine ev_ildr (pc := 31) dX12_pass_31 kd_802 (by omega) (by omega) (by omega) (by omega) ?_
    refine ev_icmp_ge (pc := 32) (tgt := 46) dX12_pass_32 (by decide) (fun b5 => ?_) (fun b5 => ?_)
    · rw [if_pos b5] at h
      cases h
      refine ev_pick [0] rfl ?_
      exact hk0
    · rw [if_neg b5] at h
      refine ev_aload_n (pc := 35) 0 dX12_pass_35 rfl rfl ?_
      refine ev_iload_n (pc := 36) 1 dX12_pass_36 rfl rfl ?_
      obtain ⟨q6, hq6, h⟩ := bd h
      refine ev_cV0 (pc := 37) [vI x1] [] rfl mkX12_rope ml12_365 mnX12_rope dX12_pass_37 kd_801 (by omega) rfl (Nat.le_of_ble_eq_true rfl) (by omega) (e_X12_rope (d := d - 1) (M' := q6) (by omega)  hq6) ?_
      refine ev_iinc (pc := 40) (il' := [(1, vI (wI (x1 + 1))), (0, vR 801)]) 1 dX12_pass_40 rfl (Nat.le_of_ble_eq_true rfl) rfl rfl ?_
      refine ev_goto (pc := 43) (tgt := 23) dX12_pass_43 (by decide) ?_
      refine ev_pick [1, 0] rfl ?_
      exact ih h hk0
def f_X12_pass (n : Nat) (M : Mem) : Option (Mem) := (f_X12_pass_L2 n 0 M).bind fun q4 => (f_X12_pass_L23 n 0 q4).bind fun q7 => (f_X12_pour n q7).bind fun q8 => lt (upM q8 802 8 (wI ((q8 802 8) + 1))) fun M9 => some M9
set_option maxRecDepth 100000 in
set_option maxHeartbeats 4000000 in
theorem e_X12_pass {g : Gm} {d : Nat} {n : Nat} {M N : Mem} {M' : Mem} (hd : 7 ≤ d) (h : f_X12_pass n M = some M') : EvM g d mtX12_pass [vR 801] (sg (mx N M)) (0, 0) vN (sg (mx N M')) := by
  unfold f_X12_pass at h
  refine EvM.of mkX12_pass.2.2.2.1 (Nat.le_of_ble_eq_true rfl) ?_
  change Ev g d mtX12_pass 0 [(0, vR 801)] [] (sg (mx N M)) (0, 0) vN (sg (mx N M'))
  refine ev_iconst (pc := 0) (x := 0) dX12_pass_0 ci_0 ?_
  refine ev_istore_n (pc := 1) (il' := [(1, vI 0), (0, vR 801)]) dX12_pass_1 rfl (Nat.le_of_ble_eq_true rfl) rfl ?_
  obtain ⟨q4, hq4, h⟩ := bd h
  refine ev_pick [1, 0] rfl ?_
  refine e_X12_pass_L2 hd  n hq4 ?_
  refine ev_iconst (pc := 21) (x := 0) dX12_pass_21 ci_0 ?_
  refine ev_istore_n (pc := 22) (il' := [(1, vI 0), (0, vR 801)]) dX12_pass_22 rfl (Nat.le_of_ble_eq_true rfl) rfl ?_
  obtain ⟨q7, hq7, h⟩ := bd h
  refine ev_pick [1, 0] rfl ?_
  refine e_X12_pass_L23 hd  n hq7 ?_
  refine ev_aload_n (pc := 46) 0 dX12_pass_46 rfl rfl ?_
  obtain ⟨q8, hq8, h⟩ := bd h
  refine ev_cV0 (pc := 47) [] [] rfl mkX12_pour ml12_368 mnX12_pour dX12_pass_47 kd_801 (by omega) rfl (Nat.le_of_ble_eq_true rfl) (by omega) (e_X12_pour (d := d - 1) (M' := q8) (by omega)  hq8) ?_
  refine ev_aload_n (pc := 50) 0 dX12_pass_50 rfl rfl ?_
  refine ev_getR (pc := 51) fl12_7 rfl dX12_pass_51 rfl kd_801 (by omega) (rf_801_0 _) ?_
  refine ev_bipush (pc := 54) (x := 8) dX12_pass_54 cb_8 ?_
  refine ev_dup2 (pc := 56) rfl rfl dX12_pass_56 ?_
  refine ev_ildr (pc := 57) dX12_pass_57 kd_802 (by omega) (by omega) (by omega) (by omega) ?_
  refine ev_iconst (pc := 58) (x := 1) dX12_pass_58 ci_1 ?_
  refine ev_iadd (pc := 59) dX12_pass_59 ?_
  obtain ⟨M9, eM9, h⟩ := lt_some h
  refine ev_istr (pc := 60) dX12_pass_60 kd_802 (by omega) (by omega) (by omega) (by omega) eM9 ?_
  cases h
  exact ev_vret (pc := 61) dX12_pass_61 rfl
def f_X12_keep_L98 : Nat → Int → Int → Mem → Option (Mem)
  | 0, _, _, _ => none
  | n + 1, x1, x2, M => if 5 ≤ x2 then (some M) else (ck (0 ≤ (wI (8 + x2)) ∧ (wI (8 + x2)) < 10606) (ck (0 ≤ (wI ((wI (x1 + 2)) + x2)) ∧ (wI ((wI (x1 + 2)) + x2)) < 10606) (lt (upM M 802 (wI ((wI (x1 + 2)) + x2)) (M 802 (wI (8 + x2)))) fun M9 => f_X12_keep_L98 n x1 (wI (x2 + 1)) M9)))
set_option maxRecDepth 100000 in
set_option maxHeartbeats 4000000 in
theorem e_X12_keep_L98 {g : Gm} {d : Nat} {x1 : Int} {r : Vv} {σ' : Sg} {N : Mem} (hd : 1 ≤ d) : ∀ (n : Nat) {x2 : Int} {M : Mem} {q : Mem}, f_X12_keep_L98 n x1 x2 M = some q → Ev g d mtX12_keep 128 [(0, vR 801), (1, vI x1)] [] (sg (mx N q)) (0, 0) r σ' → Ev g d mtX12_keep 98 [(0, vR 801), (1, vI x1), (2, vI x2)] [] (sg (mx N M)) (0, 0) r σ' := by
  intro n
  induction n with
  | zero =>
    intro x2 M q h hk0
    rw [f_X12_keep_L98.eq_1] at h
    cases h
  | succ n ih =>
    intro x2 M q h hk0
    rw [f_X12_keep_L98.eq_2] at h
    refine ev_iload_n (pc := 98) 2 dX12_keep_98 rfl rfl ?_
    refine ev_iconst (pc := 99) (x := 5) dX12_keep_99 ci_5 ?_
    refine ev_icmp_ge (pc := 100) (tgt := 128) dX12_keep_100 (by decide) (fun b6 => ?_) (fun b6 => ?_)
    · rw [if_pos b6] at h
      cases h
      refine ev_pick [0, 1] rfl ?_
      exact hk0
    · rw [if_neg b6] at h
      refine ev_aload_n (pc := 103) 0 dX12_keep_103 rfl rfl ?_
      refine ev_getR (pc := 104) fl12_7 rfl dX12_keep_104 rfl kd_801 (by omega) (rf_801_0 _) ?_
      refine ev_iload_n (pc := 107) 1 dX12_keep_107 rfl rfl ?_
      refine ev_iconst (pc := 108) (x := 2) dX12_keep_108 ci_2 ?_
      refine ev_iadd (pc := 109) dX12_keep_109 ?_
      refine ev_iload_n (pc := 110) 2 dX12_keep_110 rfl rfl ?_
      refine ev_iadd (pc := 111) dX12_keep_111 ?_
      refine ev_aload_n (pc := 112) 0 dX12_keep_112 rfl rfl ?_
      refine ev_getR (pc := 113) fl12_7 rfl dX12_keep_113 rfl kd_801 (by omega) (rf_801_0 _) ?_
      refine ev_bipush (pc := 116) (x := 8) dX12_keep_116 cb_8 ?_
      refine ev_iload_n (pc := 118) 2 dX12_keep_118 rfl rfl ?_
      refine ev_iadd (pc := 119) dX12_keep_119 ?_
      obtain ⟨c7, h⟩ := ck_some h
      refine ev_ildr (pc := 120) dX12_keep_120 kd_802 (by omega) (by omega) c7.1 c7.2 ?_
      obtain ⟨c8, h⟩ := ck_some h
      obtain ⟨M9, eM9, h⟩ := lt_some h
      refine ev_istr (pc := 121) dX12_keep_121 kd_802 (by omega) (by omega) c8.1 c8.2 eM9 ?_
      refine ev_iinc (pc := 122) (il' := [(2, vI (wI (x2 + 1))), (0, vR 801), (1, vI x1)]) 2 dX12_keep_122 rfl (Nat.le_of_ble_eq_true rfl) rfl rfl ?_
      refine ev_goto (pc := 125) (tgt := 98) dX12_keep_125 (by decide) ?_
      refine ev_pick [1, 2, 0] rfl ?_
      exact ih h hk0
def f_X12_keep_L138 : Nat → Int → Int → Int → Mem → Option (Mem)
  | 0, _, _, _, _ => none
  | n + 1, x1, x2, x3, M => if 4 ≤ x3 then (some M) else ((f_X12_at x2 (wI (1 + x3)) M).bind fun q13 => ck (0 ≤ (wI ((wI ((wI (x1 + 7)) + (wI (4 * x2)))) + x3)) ∧ (wI ((wI ((wI (x1 + 7)) + (wI (4 * x2)))) + x3)) < 10606) (lt (upM M 802 (wI ((wI ((wI (x1 + 7)) + (wI (4 * x2)))) + x3)) q13) fun M15 => f_X12_keep_L138 n x1 x2 (wI (x3 + 1)) M15))
set_option maxRecDepth 100000 in
set_option maxHeartbeats 4000000 in
theorem e_X12_keep_L138 {g : Gm} {d : Nat} {x1 x2 : Int} {r : Vv} {σ' : Sg} {N : Mem} (hd : 1 ≤ d) : ∀ (n : Nat) {x3 : Int} {M : Mem} {q : Mem}, f_X12_keep_L138 n x1 x2 x3 M = some q → Ev g d mtX12_keep 172 [(0, vR 801), (1, vI x1), (2, vI x2)] [] (sg (mx N q)) (0, 0) r σ' → Ev g d mtX12_keep 138 [(0, vR 801), (1, vI x1), (2, vI x2), (3, vI x3)] [] (sg (mx N M)) (0, 0) r σ' := by
  intro n
  induction n with
  | zero =>
    intro x3 M q h hk0
    rw [f_X12_keep_L138.eq_1] at h
    cases h
  | succ n ih =>
    intro x3 M q h hk0
    rw [f_X12_keep_L138.eq_2] at h
    refine ev_iload_n (pc := 138) 3 dX12_keep_138 rfl rfl ?_
    refine ev_iconst (pc := 139) (x := 4) dX12_keep_139 ci_4 ?_
    refine ev_icmp_ge (pc := 140) (tgt := 172) dX12_keep_140 (by decide) (fun b12 => ?_) (fun b12 => ?_)
    · rw [if_pos b12] at h
      cases h
      refine ev_pick [0, 1, 2] rfl ?_
      exact hk0
    · rw [if_neg b12] at h
      refine ev_aload_n (pc := 143) 0 dX12_keep_143 rfl rfl ?_
      refine ev_getR (pc := 144) fl12_7 rfl dX12_keep_144 rfl kd_801 (by omega) (rf_801_0 _) ?_
      refine ev_iload_n (pc := 147) 1 dX12_keep_147 rfl rfl ?_
      refine ev_bipush (pc := 148) (x := 7) dX12_keep_148 cb_7 ?_
      refine ev_iadd (pc := 150) dX12_keep_150 ?_
      refine ev_iconst (pc := 151) (x := 4) dX12_keep_151 ci_4 ?_
      refine ev_iload_n (pc := 152) 2 dX12_keep_152 rfl rfl ?_
      refine ev_imul (pc := 153) dX12_keep_153 ?_
      refine ev_iadd (pc := 154) dX12_keep_154 ?_
      refine ev_iload_n (pc := 155) 3 dX12_keep_155 rfl rfl ?_
      refine ev_iadd (pc := 156) dX12_keep_156 ?_
      refine ev_aload_n (pc := 157) 0 dX12_keep_157 rfl rfl ?_
      refine ev_iload_n (pc := 158) 2 dX12_keep_158 rfl rfl ?_
      refine ev_iconst (pc := 159) (x := 1) dX12_keep_159 ci_1 ?_
      refine ev_iload_n (pc := 160) 3 dX12_keep_160 rfl rfl ?_
      refine ev_iadd (pc := 161) dX12_keep_161 ?_
      obtain ⟨q13, hq13, h⟩ := bd h
      refine ev_cV (pc := 162) [vI x2, vI (wI (1 + x3))] [vI (wI ((wI ((wI (x1 + 7)) + (wI (4 * x2)))) + x3)), vR 802] rfl mkX12_at ml12_98 mnX12_at dX12_keep_162 kd_801 (by omega) rfl (Nat.le_of_ble_eq_true rfl) (by omega) rfl (e_X12_at (d := d - 1) (v := q13) (by omega)  hq13) ?_
      obtain ⟨c14, h⟩ := ck_some h
      obtain ⟨M15, eM15, h⟩ := lt_some h
      refine ev_istr (pc := 165) dX12_keep_165 kd_802 (by omega) (by omega) c14.1 c14.2 eM15 ?_
      refine ev_iinc (pc := 166) (il' := [(3, vI (wI (x3 + 1))), (0, vR 801), (1, vI x1), (2, vI x2)]) 3 dX12_keep_166 rfl (Nat.le_of_ble_eq_true rfl) rfl rfl ?_
      refine ev_goto (pc := 169) (tgt := 138) dX12_keep_169 (by decide) ?_
      refine ev_pick [1, 2, 3, 0] rfl ?_
      exact ih h hk0
def f_X12_keep_L130 : Nat → Int → Int → Mem → Option (Mem)
  | 0, _, _, _ => none
  | n + 1, x1, x2, M => if 9 ≤ x2 then (some M) else ((f_X12_keep_L138 n x1 x2 0 M).bind fun q16 => f_X12_keep_L130 n x1 (wI (x2 + 1)) q16)
set_option maxRecDepth 100000 in
set_option maxHeartbeats 4000000 in
theorem e_X12_keep_L130 {g : Gm} {d : Nat} {x1 : Int} {r : Vv} {σ' : Sg} {N : Mem} (hd : 1 ≤ d) : ∀ (n : Nat) {x2 : Int} {M : Mem} {q : Mem}, f_X12_keep_L130 n x1 x2 M = some q → Ev g d mtX12_keep 178 [(0, vR 801), (1, vI x1)] [] (sg (mx N q)) (0, 0) r σ' → Ev g d mtX12_keep 130 [(0, vR 801), (1, vI x1), (2, vI x2)] [] (sg (mx N M)) (0, 0) r σ' := by
  intro n
  induction n with
  | zero =>
    intro x2 M q h hk0
    rw [f_X12_keep_L130.eq_1] at h
    cases h
  | succ n ih =>
    intro x2 M q h hk0
    rw [f_X12_keep_L130.eq_2] at h
    refine ev_iload_n (pc := 130) 2 dX12_keep_130 rfl rfl ?_
    refine ev_bipush (pc := 131) (x := 9) dX12_keep_131 cb_9 ?_
    refine ev_icmp_ge (pc := 133) (tgt := 178) dX12_keep_133 (by decide) (fun b11 => ?_) (fun b11 => ?_)
    · rw [if_pos b11] at h
      cases h
      refine ev_pick [0, 1] rfl ?_
      exact hk0
    · rw [if_neg b11] at h
      refine ev_iconst (pc := 136) (x := 0) dX12_keep_136 ci_0 ?_
      refine ev_istore_n (pc := 137) (il' := [(3, vI 0), (0, vR 801), (1, vI x1), (2, vI x2)]) dX12_keep_137 rfl (Nat.le_of_ble_eq_true rfl) rfl ?_
      obtain ⟨q16, hq16, h⟩ := bd h
      refine ev_pick [1, 2, 3, 0] rfl ?_
      refine e_X12_keep_L138 hd  n hq16 ?_
      refine ev_iinc (pc := 172) (il' := [(2, vI (wI (x2 + 1))), (0, vR 801), (1, vI x1)]) 2 dX12_keep_172 rfl (Nat.le_of_ble_eq_true rfl) rfl rfl ?_
      refine ev_goto (pc := 175) (tgt := 130) dX12_keep_175 (by decide) ?_
      refine ev_pick [1, 2, 0] rfl ?_
      exact ih h hk0
def f_X12_keep_L188 : Nat → Int → Int → Int → Mem → Option (Mem)
  | 0, _, _, _, _ => none
  | n + 1, x1, x2, x3, M => if 3 ≤ x3 then (some M) else ((f_X12_get x2 (wI (1 + x3)) M).bind fun q20 => ck (0 ≤ (wI ((wI ((wI (x1 + 43)) + (wI (3 * x2)))) + x3)) ∧ (wI ((wI ((wI (x1 + 43)) + (wI (3 * x2)))) + x3)) < 10606) (lt (upM M 802 (wI ((wI ((wI (x1 + 43)) + (wI (3 * x2)))) + x3)) q20) fun M22 => f_X12_keep_L188 n x1 x2 (wI (x3 + 1)) M22))
set_option maxRecDepth 100000 in
set_option maxHeartbeats 4000000 in
theorem e_X12_keep_L188 {g : Gm} {d : Nat} {x1 x2 : Int} {r : Vv} {σ' : Sg} {N : Mem} (hd : 1 ≤ d) : ∀ (n : Nat) {x3 : Int} {M : Mem} {q : Mem}, f_X12_keep_L188 n x1 x2 x3 M = some q → Ev g d mtX12_keep 222 [(0, vR 801), (1, vI x1), (2, vI x2)] [] (sg (mx N q)) (0, 0) r σ' → Ev g d mtX12_keep 188 [(0, vR 801), (1, vI x1), (2, vI x2), (3, vI x3)] [] (sg (mx N M)) (0, 0) r σ' := by
  intro n
  induction n with
  | zero =>
    intro x3 M q h hk0
    rw [f_X12_keep_L188.eq_1] at h
    cases h
  | succ n ih =>
    intro x3 M q h hk0
    rw [f_X12_keep_L188.eq_2] at h
    refine ev_iload_n (pc := 188) 3 dX12_keep_188 rfl rfl ?_
    refine ev_iconst (pc := 189) (x := 3) dX12_keep_189 ci_3 ?_
    refine ev_icmp_ge (pc := 190) (tgt := 222) dX12_keep_190 (by decide) (fun b19 => ?_) (fun b19 => ?_)
    · rw [if_pos b19] at h
      cases h
      refine ev_pick [0, 1, 2] rfl ?_
      exact hk0
    · rw [if_neg b19] at h
      refine ev_aload_n (pc := 193) 0 dX12_keep_193 rfl rfl ?_
      refine ev_getR (pc := 194) fl12_7 rfl dX12_keep_194 rfl kd_801 (by omega) (rf_801_0 _) ?_
      refine ev_iload_n (pc := 197) 1 dX12_keep_197 rfl rfl ?_
      refine ev_bipush (pc := 198) (x := 43) dX12_keep_198 cb_43 ?_
      refine ev_iadd (pc := 200) dX12_keep_200 ?_
      refine ev_iconst (pc := 201) (x := 3) dX12_keep_201 ci_3 ?_
      refine ev_iload_n (pc := 202) 2 dX12_keep_202 rfl rfl ?_
      refine ev_imul (pc := 203) dX12_keep_203 ?_
      refine ev_iadd (pc := 204) dX12_keep_204 ?_
      refine ev_iload_n (pc := 205) 3 dX12_keep_205 rfl rfl ?_
      refine ev_iadd (pc := 206) dX12_keep_206 ?_
      refine ev_aload_n (pc := 207) 0 dX12_keep_207 rfl rfl ?_
      refine ev_iload_n (pc := 208) 2 dX12_keep_208 rfl rfl ?_
      refine ev_iconst (pc := 209) (x := 1) dX12_keep_209 ci_1 ?_
      refine ev_iload_n (pc := 210) 3 dX12_keep_210 rfl rfl ?_
      refine ev_iadd (pc := 211) dX12_keep_211 ?_
      obtain ⟨q20, hq20, h⟩ := bd h
      refine ev_cV (pc := 212) [vI x2, vI (wI (1 + x3))] [vI (wI ((wI ((wI (x1 + 43)) + (wI (3 * x2)))) + x3)), vR 802] rfl mkX12_get ml12_340 mnX12_get dX12_keep_212 kd_801 (by omega) rfl (Nat.le_of_ble_eq_true rfl) (by omega) rfl (e_X12_get (d := d - 1) (v := q20) (by omega)  hq20) ?_
      obtain ⟨c21, h⟩ := ck_some h
      obtain ⟨M22, eM22, h⟩ := lt_some h
      refine ev_istr (pc := 215) dX12_keep_215 kd_802 (by omega) (by omega) c21.1 c21.2 eM22 ?_
      refine ev_iinc (pc := 216) (il' := [(3, vI (wI (x3 + 1))), (0, vR 801), (1, vI x1), (2, vI x2)]) 3 dX12_keep_216 rfl (Nat.le_of_ble_eq_true rfl) rfl rfl ?_
      refine ev_goto (pc := 219) (tgt := 188) dX12_keep_219 (by decide) ?_
      refine ev_pick [1, 2, 3, 0] rfl ?_
      exact ih h hk0
def f_X12_keep_L180 : Nat → Int → Int → Mem → Option (Mem)
  | 0, _, _, _ => none
  | n + 1, x1, x2, M => if 7 ≤ x2 then (some M) else ((f_X12_keep_L188 n x1 x2 0 M).bind fun q23 => f_X12_keep_L180 n x1 (wI (x2 + 1)) q23)
set_option maxRecDepth 100000 in
set_option maxHeartbeats 4000000 in
theorem e_X12_keep_L180 {g : Gm} {d : Nat} {x1 : Int} {r : Vv} {σ' : Sg} {N : Mem} (hd : 1 ≤ d) : ∀ (n : Nat) {x2 : Int} {M : Mem} {q : Mem}, f_X12_keep_L180 n x1 x2 M = some q → Ev g d mtX12_keep 228 [(0, vR 801)] [] (sg (mx N q)) (0, 0) r σ' → Ev g d mtX12_keep 180 [(0, vR 801), (1, vI x1), (2, vI x2)] [] (sg (mx N M)) (0, 0) r σ' := by
  intro n
  induction n with
  | zero =>
    intro x2 M q h hk0
    rw [f_X12_keep_L180.eq_1] at h
    cases h
  | succ n ih =>
    intro x2 M q h hk0
    rw [f_X12_keep_L180.eq_2] at h
    refine ev_iload_n (pc := 180) 2 dX12_keep_180 rfl rfl ?_
    refine ev_bipush (pc := 181) (x := 7) dX12_keep_181 cb_7 ?_
    refine ev_icmp_ge (pc := 183) (tgt := 228) dX12_keep_183 (by decide) (fun b18 => ?_) (fun b18 => ?_)
    · rw [if_pos b18] at h
      cases h
      refine ev_pick [0] rfl ?_
      exact hk0
    · rw [if_neg b18] at h
      refine ev_iconst (pc := 186) (x := 0) dX12_keep_186 ci_0 ?_
      refine ev_istore_n (pc := 187) (il' := [(3, vI 0), (0, vR 801), (1, vI x1), (2, vI x2)]) dX12_keep_187 rfl (Nat.le_of_ble_eq_true rfl) rfl ?_
      obtain ⟨q23, hq23, h⟩ := bd h
      refine ev_pick [1, 2, 3, 0] rfl ?_
      refine e_X12_keep_L188 hd  n hq23 ?_
      refine ev_iinc (pc := 222) (il' := [(2, vI (wI (x2 + 1))), (0, vR 801), (1, vI x1)]) 2 dX12_keep_222 rfl (Nat.le_of_ble_eq_true rfl) rfl rfl ?_
      refine ev_goto (pc := 225) (tgt := 180) dX12_keep_225 (by decide) ?_
      refine ev_pick [1, 2, 0] rfl ?_
      exact ih h hk0
def f_X12_keep_J56 (n : Nat) (M : Mem) : Option (Mem) := ck (0 ≤ (wI (186 + (wI (64 * (M 802 4))))) ∧ (wI (186 + (wI (64 * (M 802 4))))) < 10606) (lt (upM M 802 (wI (186 + (wI (64 * (M 802 4))))) (M 802 0)) fun M3 => ck (0 ≤ (wI ((wI (186 + (wI (64 * (M 802 4))))) + 1)) ∧ (wI ((wI (186 + (wI (64 * (M 802 4))))) + 1)) < 10606) (lt (upM M3 802 (wI ((wI (186 + (wI (64 * (M 802 4))))) + 1)) (M3 802 1)) fun M5 => (f_X12_keep_L98 n (wI (186 + (wI (64 * (M 802 4))))) 0 M5).bind fun q10 => (f_X12_keep_L130 n (wI (186 + (wI (64 * (M 802 4))))) 0 q10).bind fun q17 => (f_X12_keep_L180 n (wI (186 + (wI (64 * (M 802 4))))) 0 q17).bind fun q24 => lt (upM q24 802 4 (wI ((q24 802 4) + 1))) fun M25 => some M25))
set_option maxRecDepth 100000 in
set_option maxHeartbeats 4000000 in
theorem e_X12_keep_J56 {g : Gm} {d : Nat} {n : Nat} {M N : Mem} {M' : Mem} (hd : 1 ≤ d) (h : f_X12_keep_J56 n M = some M') : Ev g d mtX12_keep 56 [(0, vR 801)] [] (sg (mx N M)) (0, 0) vN (sg (mx N M')) := by
  unfold f_X12_keep_J56 at h
  refine ev_sipush (pc := 56) (x := 186) dX12_keep_56 cs_186 ?_
  refine ev_bipush (pc := 59) (x := 64) dX12_keep_59 cb_64 ?_
  refine ev_aload_n (pc := 61) 0 dX12_keep_61 rfl rfl ?_
  refine ev_getR (pc := 62) fl12_7 rfl dX12_keep_62 rfl kd_801 (by omega) (rf_801_0 _) ?_
  refine ev_iconst (pc := 65) (x := 4) dX12_keep_65 ci_4 ?_
  refine ev_ildr (pc := 66) dX12_keep_66 kd_802 (by omega) (by omega) (by omega) (by omega) ?_
  refine ev_imul (pc := 67) dX12_keep_67 ?_
  refine ev_iadd (pc := 68) dX12_keep_68 ?_
  refine ev_istore_n (pc := 69) (il' := [(1, vI (wI (186 + (wI (64 * (M 802 4)))))), (0, vR 801)]) dX12_keep_69 rfl (Nat.le_of_ble_eq_true rfl) rfl ?_
  refine ev_aload_n (pc := 70) 1 dX12_keep_70 rfl rfl ?_
  refine ev_getR (pc := 71) fl12_7 rfl dX12_keep_71 rfl kd_801 (by omega) (rf_801_0 _) ?_
  refine ev_iload_n (pc := 74) 0 dX12_keep_74 rfl rfl ?_
  refine ev_aload_n (pc := 75) 1 dX12_keep_75 rfl rfl ?_
  refine ev_getR (pc := 76) fl12_7 rfl dX12_keep_76 rfl kd_801 (by omega) (rf_801_0 _) ?_
  refine ev_iconst (pc := 79) (x := 0) dX12_keep_79 ci_0 ?_
  refine ev_ildr (pc := 80) dX12_keep_80 kd_802 (by omega) (by omega) (by omega) (by omega) ?_
  obtain ⟨c2, h⟩ := ck_some h
  obtain ⟨M3, eM3, h⟩ := lt_some h
  refine ev_istr (pc := 81) dX12_keep_81 kd_802 (by omega) (by omega) c2.1 c2.2 eM3 ?_
  refine ev_aload_n (pc := 82) 1 dX12_keep_82 rfl rfl ?_
  refine ev_getR (pc := 83) fl12_7 rfl dX12_keep_83 rfl kd_801 (by omega) (rf_801_0 _) ?_
  refine ev_iload_n (pc := 86) 0 dX12_keep_86 rfl rfl ?_
  refine ev_iconst (pc := 87) (x := 1) dX12_keep_87 ci_1 ?_
  refine ev_iadd (pc := 88) dX12_keep_88 ?_
  refine ev_aload_n (pc := 89) 1 dX12_keep_89 rfl rfl ?_
  refine ev_getR (pc := 90) fl12_7 rfl dX12_keep_90 rfl kd_801 (by omega) (rf_801_0 _) ?_
  refine ev_iconst (pc := 93) (x := 1) dX12_keep_93 ci_1 ?_
  refine ev_ildr (pc := 94) dX12_keep_94 kd_802 (by omega) (by omega) (by omega) (by omega) ?_
  obtain ⟨c4, h⟩ := ck_some h
  obtain ⟨M5, eM5, h⟩ := lt_some h
  refine ev_istr (pc := 95) dX12_keep_95 kd_802 (by omega) (by omega) c4.1 c4.2 eM5 ?_
  refine ev_iconst (pc := 96) (x := 0) dX12_keep_96 ci_0 ?_
  refine ev_istore_n (pc := 97) (il' := [(2, vI 0), (1, vI (wI (186 + (wI (64 * (M 802 4)))))), (0, vR 801)]) dX12_keep_97 rfl (Nat.le_of_ble_eq_true rfl) rfl ?_
  obtain ⟨q10, hq10, h⟩ := bd h
  refine ev_pick [2, 1, 0] rfl ?_
  refine e_X12_keep_L98 hd  n hq10 ?_
  refine ev_iconst (pc := 128) (x := 0) dX12_keep_128 ci_0 ?_
  refine ev_istore_n (pc := 129) (il' := [(2, vI 0), (0, vR 801), (1, vI (wI (186 + (wI (64 * (M 802 4))))))]) dX12_keep_129 rfl (Nat.le_of_ble_eq_true rfl) rfl ?_
  obtain ⟨q17, hq17, h⟩ := bd h
  refine ev_pick [1, 2, 0] rfl ?_
  refine e_X12_keep_L130 hd  n hq17 ?_
  refine ev_iconst (pc := 178) (x := 0) dX12_keep_178 ci_0 ?_
  refine ev_istore_n (pc := 179) (il' := [(2, vI 0), (0, vR 801), (1, vI (wI (186 + (wI (64 * (M 802 4))))))]) dX12_keep_179 rfl (Nat.le_of_ble_eq_true rfl) rfl ?_
  obtain ⟨q24, hq24, h⟩ := bd h
  refine ev_pick [1, 2, 0] rfl ?_
  refine e_X12_keep_L180 hd  n hq24 ?_
  refine ev_aload_n (pc := 228) 0 dX12_keep_228 rfl rfl ?_
  refine ev_getR (pc := 229) fl12_7 rfl dX12_keep_229 rfl kd_801 (by omega) (rf_801_0 _) ?_
  refine ev_iconst (pc := 232) (x := 4) dX12_keep_232 ci_4 ?_
  refine ev_dup2 (pc := 233) rfl rfl dX12_keep_233 ?_
  refine ev_ildr (pc := 234) dX12_keep_234 kd_802 (by omega) (by omega) (by omega) (by omega) ?_
  refine ev_iconst (pc := 235) (x := 1) dX12_keep_235 ci_1 ?_
  refine ev_iadd (pc := 236) dX12_keep_236 ?_
  obtain ⟨M25, eM25, h⟩ := lt_some h
  refine ev_istr (pc := 237) dX12_keep_237 kd_802 (by omega) (by omega) (by omega) (by omega) eM25 ?_
  cases h
  exact ev_vret (pc := 238) dX12_keep_238 rfl
def f_X12_keep_L13 : Nat → Int → Mem → Option (Mem)
  | 0, _, _ => none
  | n + 1, x1, M => if 1856 ≤ x1 then (some M) else (ck (0 ≤ (wI (250 + x1)) ∧ (wI (250 + x1)) < 10606) (ck (0 ≤ (wI (186 + x1)) ∧ (wI (186 + x1)) < 10606) (lt (upM M 802 (wI (186 + x1)) (M 802 (wI (250 + x1)))) fun M29 => f_X12_keep_L13 n (wI (x1 + 1)) M29)))
set_option maxRecDepth 100000 in
set_option maxHeartbeats 4000000 in
theorem e_X12_keep_L13 {g : Gm} {d : Nat} {r : Vv} {σ' : Sg} {N : Mem} (hd : 1 ≤ d) : ∀ (n : Nat) {x1 : Int} {M : Mem} {q : Mem}, f_X12_keep_L13 n x1 M = some q → Ev g d mtX12_keep 46 [(0, vR 801)] [] (sg (mx N q)) (0, 0) r σ' → Ev g d mtX12_keep 13 [(0, vR 801), (1, vI x1)] [] (sg (mx N M)) (0, 0) r σ' := by
  intro n
  induction n with
  | zero =>
    intro x1 M q h hk0
    rw [f_X12_keep_L13.eq_1] at h
    cases h
  | succ n ih =>
    intro x1 M q h hk0
    rw [f_X12_keep_L13.eq_2] at h
    refine ev_iload_n (pc := 13) 1 dX12_keep_13 rfl rfl ?_
    refine ev_sipush (pc := 14) (x := 1856) dX12_keep_14 cs_1856 ?_
    refine ev_icmp_ge (pc := 17) (tgt := 46) dX12_keep_17 (by decide) (fun b26 => ?_) (fun b26 => ?_)
    · rw [if_pos b26] at h
      cases h
      refine ev_pick [0] rfl ?_
      exact hk0
    · rw [if_neg b26] at h
      refine ev_aload_n (pc := 20) 0 dX12_keep_20 rfl rfl ?_
      refine ev_getR (pc := 21) fl12_7 rfl dX12_keep_21 rfl kd_801 (by omega) (rf_801_0 _) ?_
      refine ev_sipush (pc := 24) (x := 186) dX12_keep_24 cs_186 ?_
      refine ev_iload_n (pc := 27) 1 dX12_keep_27 rfl rfl ?_
      refine ev_iadd (pc := 28) dX12_keep_28 ?_
      refine ev_aload_n (pc := 29) 0 dX12_keep_29 rfl rfl ?_
      refine ev_getR (pc := 30) fl12_7 rfl dX12_keep_30 rfl kd_801 (by omega) (rf_801_0 _) ?_
      refine ev_sipush (pc := 33) (x := 250) dX12_keep_33 cs_250 ?_
      refine ev_iload_n (pc := 36) 1 dX12_keep_36 rfl rfl ?_
      refine ev_iadd (pc := 37) dX12_keep_37 ?_
      obtain ⟨c27, h⟩ := ck_some h
      refine ev_ildr (pc := 38) dX12_keep_38 kd_802 (by omega) (by omega) c27.1 c27.2 ?_
      obtain ⟨c28, h⟩ := ck_some h
      obtain ⟨M29, eM29, h⟩ := lt_some h
      refine ev_istr (pc := 39) dX12_keep_39 kd_802 (by omega) (by omega) c28.1 c28.2 eM29 ?_
      refine ev_iinc (pc := 40) (il' := [(1, vI (wI (x1 + 1))), (0, vR 801)]) 1 dX12_keep_40 rfl (Nat.le_of_ble_eq_true rfl) rfl rfl ?_
      refine ev_goto (pc := 43) (tgt := 13) dX12_keep_43 (by decide) ?_
      refine ev_pick [1, 0] rfl ?_
      exact ih h hk0
def f_X12_keep (n : Nat) (M : Mem) : Option (Mem) := if (M 802 4) ≠ 30 then (f_X12_keep_J56 n M) else ((f_X12_keep_L13 n 0 M).bind fun q30 => lt (upM q30 802 4 (wI ((q30 802 4) - 1))) fun M31 => f_X12_keep_J56 n M31)
set_option maxRecDepth 100000 in
set_option maxHeartbeats 4000000 in
theorem e_X12_keep {g : Gm} {d : Nat} {n : Nat} {M N : Mem} {M' : Mem} (hd : 1 ≤ d) (h : f_X12_keep n M = some M') : EvM g d mtX12_keep [vR 801] (sg (mx N M)) (0, 0) vN (sg (mx N M')) := by
  unfold f_X12_keep at h
  refine EvM.of mkX12_keep.2.2.2.1 (Nat.le_of_ble_eq_true rfl) ?_
  change Ev g d mtX12_keep 0 [(0, vR 801)] [] (sg (mx N M)) (0, 0) vN (sg (mx N M'))
  refine ev_aload_n (pc := 0) 0 dX12_keep_0 rfl rfl ?_
  refine ev_getR (pc := 1) fl12_7 rfl dX12_keep_1 rfl kd_801 (by omega) (rf_801_0 _) ?_
  refine ev_iconst (pc := 4) (x := 4) dX12_keep_4 ci_4 ?_
  refine ev_ildr (pc := 5) dX12_keep_5 kd_802 (by omega) (by omega) (by omega) (by omega) ?_
  refine ev_bipush (pc := 6) (x := 30) dX12_keep_6 cb_30 ?_
  refine ev_icmp_ne (pc := 8) (tgt := 56) dX12_keep_8 (by decide) (fun b1 => ?_) (fun b1 => ?_)
  · rw [if_pos b1] at h
    refine ev_pick [0] rfl ?_
    exact e_X12_keep_J56 hd  h
  · rw [if_neg b1] at h
    refine ev_iconst (pc := 11) (x := 0) dX12_keep_11 ci_0 ?_
    refine ev_istore_n (pc := 12) (il' := [(1, vI 0), (0, vR 801)]) dX12_keep_12 rfl (Nat.le_of_ble_eq_true rfl) rfl ?_
    obtain ⟨q30, hq30, h⟩ := bd h
    refine ev_pick [1, 0] rfl ?_
    refine e_X12_keep_L13 hd  n hq30 ?_
    refine ev_aload_n (pc := 46) 0 dX12_keep_46 rfl rfl ?_
    refine ev_getR (pc := 47) fl12_7 rfl dX12_keep_47 rfl kd_801 (by omega) (rf_801_0 _) ?_
    refine ev_iconst (pc := 50) (x := 4) dX12_keep_50 ci_4 ?_
    refine ev_dup2 (pc := 51) rfl rfl dX12_keep_51 ?_
    refine ev_ildr (pc := 52) dX12_keep_52 kd_802 (by omega) (by omega) (by omega) (by omega) ?_
    refine ev_iconst (pc := 53) (x := 1) dX12_keep_53 ci_1 ?_
    refine ev_isub (pc := 54) dX12_keep_54 ?_
    obtain ⟨M31, eM31, h⟩ := lt_some h
    refine ev_istr (pc := 55) dX12_keep_55 kd_802 (by omega) (by omega) (by omega) (by omega) eM31 ?_
    refine ev_pick [0] rfl ?_
    exact e_X12_keep_J56 hd  h
