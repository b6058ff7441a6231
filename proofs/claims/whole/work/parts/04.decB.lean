theorem dX12_init_0 : decode cX12_init 0 = .ok (.aload_n 0, 1) := by decide +kernel
theorem dX12_init_1 : decode cX12_init 1 = .ok (.invokespecial 1, 3) := by decide +kernel
theorem dX12_init_4 : decode cX12_init 4 = .ok (.aload_n 0, 1) := by decide +kernel
theorem dX12_init_5 : decode cX12_init 5 = .ok (.sipush 10606, 3) := by decide +kernel
theorem dX12_init_8 : decode cX12_init 8 = .ok (.newarray .int, 2) := by decide +kernel
theorem dX12_init_10 : decode cX12_init 10 = .ok (.putfield 7, 3) := by decide +kernel
theorem dX12_init_13 : decode cX12_init 13 = .ok (.aload_n 0, 1) := by decide +kernel
theorem dX12_init_14 : decode cX12_init 14 = .ok (.sipush 10606, 3) := by decide +kernel
theorem dX12_init_17 : decode cX12_init 17 = .ok (.newarray .int, 2) := by decide +kernel
theorem dX12_init_19 : decode cX12_init 19 = .ok (.putfield 13, 3) := by decide +kernel
theorem dX12_init_22 : decode cX12_init 22 = .ok (.aload_n 0, 1) := by decide +kernel
theorem dX12_init_23 : decode cX12_init 23 = .ok (.sipush 2916, 3) := by decide +kernel
theorem dX12_init_26 : decode cX12_init 26 = .ok (.newarray .int, 2) := by decide +kernel
theorem dX12_init_28 : decode cX12_init 28 = .ok (.putfield 16, 3) := by decide +kernel
theorem dX12_init_31 : decode cX12_init 31 = .ok (.aload_n 0, 1) := by decide +kernel
theorem dX12_init_32 : decode cX12_init 32 = .ok (.sipush 300, 3) := by decide +kernel
theorem dX12_init_35 : decode cX12_init 35 = .ok (.newarray .int, 2) := by decide +kernel
theorem dX12_init_37 : decode cX12_init 37 = .ok (.putfield 19, 3) := by decide +kernel
theorem dX12_init_40 : decode cX12_init 40 = .ok (.aload_n 0, 1) := by decide +kernel
theorem dX12_init_41 : decode cX12_init 41 = .ok (.iconst (-1), 1) := by decide +kernel
theorem dX12_init_42 : decode cX12_init 42 = .ok (.putfield 22, 3) := by decide +kernel
theorem dX12_init_45 : decode cX12_init 45 = .ok (.aload_n 0, 1) := by decide +kernel
theorem dX12_init_46 : decode cX12_init 46 = .ok (.iconst (-1), 1) := by decide +kernel
theorem dX12_init_47 : decode cX12_init 47 = .ok (.putfield 26, 3) := by decide +kernel
theorem dX12_init_50 : decode cX12_init 50 = .ok (.aload_n 0, 1) := by decide +kernel
theorem dX12_init_51 : decode cX12_init 51 = .ok (.sipush 160, 3) := by decide +kernel
theorem dX12_init_54 : decode cX12_init 54 = .ok (.newarray .int, 2) := by decide +kernel
theorem dX12_init_56 : decode cX12_init 56 = .ok (.putfield 29, 3) := by decide +kernel
theorem dX12_init_59 : decode cX12_init 59 = .ok (.aload_n 0, 1) := by decide +kernel
theorem dX12_init_60 : decode cX12_init 60 = .ok (.sipush 330, 3) := by decide +kernel
theorem dX12_init_63 : decode cX12_init 63 = .ok (.newarray .long, 2) := by decide +kernel
theorem dX12_init_65 : decode cX12_init 65 = .ok (.putfield 32, 3) := by decide +kernel
theorem dX12_init_68 : decode cX12_init 68 = .ok (.aload_n 0, 1) := by decide +kernel
theorem dX12_init_69 : decode cX12_init 69 = .ok (.sipush 330, 3) := by decide +kernel
theorem dX12_init_72 : decode cX12_init 72 = .ok (.newarray .boolean, 2) := by decide +kernel
theorem dX12_init_74 : decode cX12_init 74 = .ok (.putfield 36, 3) := by decide +kernel
theorem dX12_init_77 : decode cX12_init 77 = .ok (.aload_n 0, 1) := by decide +kernel
theorem dX12_init_78 : decode cX12_init 78 = .ok (.bipush 7, 2) := by decide +kernel
theorem dX12_init_80 : decode cX12_init 80 = .ok (.newarray .boolean, 2) := by decide +kernel
theorem dX12_init_82 : decode cX12_init 82 = .ok (.putfield 40, 3) := by decide +kernel
theorem dX12_init_85 : decode cX12_init 85 = .ok (.aload_n 0, 1) := by decide +kernel
theorem dX12_init_86 : decode cX12_init 86 = .ok (.iconst 1, 1) := by decide +kernel
theorem dX12_init_87 : decode cX12_init 87 = .ok (.putfield 43, 3) := by decide +kernel
theorem dX12_init_90 : decode cX12_init 90 = .ok (.aload_n 0, 1) := by decide +kernel
theorem dX12_init_91 : decode cX12_init 91 = .ok (.bipush 9, 2) := by decide +kernel
theorem dX12_init_93 : decode cX12_init 93 = .ok (.newarray .int, 2) := by decide +kernel
theorem dX12_init_95 : decode cX12_init 95 = .ok (.putfield 47, 3) := by decide +kernel
theorem dX12_init_98 : decode cX12_init 98 = .ok (.aload_n 0, 1) := by decide +kernel
theorem dX12_init_99 : decode cX12_init 99 = .ok (.bipush 9, 2) := by decide +kernel
theorem dX12_init_101 : decode cX12_init 101 = .ok (.newarray .int, 2) := by decide +kernel
theorem dX12_init_103 : decode cX12_init 103 = .ok (.putfield 50, 3) := by decide +kernel
theorem dX12_init_106 : decode cX12_init 106 = .ok (.aload_n 0, 1) := by decide +kernel
theorem dX12_init_107 : decode cX12_init 107 = .ok (.sipush 130, 3) := by decide +kernel
theorem dX12_init_110 : decode cX12_init 110 = .ok (.newarray .int, 2) := by decide +kernel
theorem dX12_init_112 : decode cX12_init 112 = .ok (.putfield 53, 3) := by decide +kernel
theorem dX12_init_115 : decode cX12_init 115 = .ok (.aload_n 0, 1) := by decide +kernel
theorem dX12_init_116 : decode cX12_init 116 = .ok (.sipush 384, 3) := by decide +kernel
theorem dX12_init_119 : decode cX12_init 119 = .ok (.newarray .int, 2) := by decide +kernel
theorem dX12_init_121 : decode cX12_init 121 = .ok (.putfield 56, 3) := by decide +kernel
theorem dX12_init_124 : decode cX12_init 124 = .ok (.aload_n 0, 1) := by decide +kernel
theorem dX12_init_125 : decode cX12_init 125 = .ok (.sipush 441, 3) := by decide +kernel
theorem dX12_init_128 : decode cX12_init 128 = .ok (.newarray .int, 2) := by decide +kernel
theorem dX12_init_130 : decode cX12_init 130 = .ok (.putfield 59, 3) := by decide +kernel
theorem dX12_init_133 : decode cX12_init 133 = .ok (.aload_n 0, 1) := by decide +kernel
theorem dX12_init_134 : decode cX12_init 134 = .ok (.bipush 8, 2) := by decide +kernel
theorem dX12_init_136 : decode cX12_init 136 = .ok (.newarray .int, 2) := by decide +kernel
theorem dX12_init_138 : decode cX12_init 138 = .ok (.putfield 62, 3) := by decide +kernel
theorem dX12_init_141 : decode cX12_init 141 = .ok (.aload_n 0, 1) := by decide +kernel
theorem dX12_init_142 : decode cX12_init 142 = .ok (.bipush 7, 2) := by decide +kernel
theorem dX12_init_144 : decode cX12_init 144 = .ok (.newarray .int, 2) := by decide +kernel
theorem dX12_init_146 : decode cX12_init 146 = .ok (.putfield 65, 3) := by decide +kernel
theorem dX12_init_149 : decode cX12_init 149 = .ok (.aload_n 0, 1) := by decide +kernel
theorem dX12_init_150 : decode cX12_init 150 = .ok (.bipush 7, 2) := by decide +kernel
theorem dX12_init_152 : decode cX12_init 152 = .ok (.newarray .int, 2) := by decide +kernel
theorem dX12_init_154 : decode cX12_init 154 = .ok (.putfield 68, 3) := by decide +kernel
theorem dX12_init_157 : decode cX12_init 157 = .ok (.aload_n 0, 1) := by decide +kernel
theorem dX12_init_158 : decode cX12_init 158 = .ok (.iconst 4, 1) := by decide +kernel
theorem dX12_init_159 : decode cX12_init 159 = .ok (.newarray .int, 2) := by decide +kernel
theorem dX12_init_161 : decode cX12_init 161 = .ok (.putfield 71, 3) := by decide +kernel
theorem dX12_init_164 : decode cX12_init 164 = .ok (.aload_n 0, 1) := by decide +kernel
theorem dX12_init_165 : decode cX12_init 165 = .ok (.iconst 4, 1) := by decide +kernel
theorem dX12_init_166 : decode cX12_init 166 = .ok (.newarray .int, 2) := by decide +kernel
theorem dX12_init_168 : decode cX12_init 168 = .ok (.putfield 74, 3) := by decide +kernel
theorem dX12_init_171 : decode cX12_init 171 = .ok (.aload_n 0, 1) := by decide +kernel
theorem dX12_init_172 : decode cX12_init 172 = .ok (.bipush 10, 2) := by decide +kernel
theorem dX12_init_174 : decode cX12_init 174 = .ok (.newarray .int, 2) := by decide +kernel
theorem dX12_init_176 : decode cX12_init 176 = .ok (.putfield 77, 3) := by decide +kernel
theorem dX12_init_179 : decode cX12_init 179 = .ok (.aload_n 0, 1) := by decide +kernel
theorem dX12_init_180 : decode cX12_init 180 = .ok (.bipush 10, 2) := by decide +kernel
theorem dX12_init_182 : decode cX12_init 182 = .ok (.newarray .int, 2) := by decide +kernel
theorem dX12_init_184 : decode cX12_init 184 = .ok (.putfield 80, 3) := by decide +kernel
theorem dX12_init_187 : decode cX12_init 187 = .ok (.aload_n 0, 1) := by decide +kernel
theorem dX12_init_188 : decode cX12_init 188 = .ok (.bipush 7, 2) := by decide +kernel
theorem dX12_init_190 : decode cX12_init 190 = .ok (.newarray .int, 2) := by decide +kernel
theorem dX12_init_192 : decode cX12_init 192 = .ok (.putfield 83, 3) := by decide +kernel
theorem dX12_init_195 : decode cX12_init 195 = .ok (.aload_n 0, 1) := by decide +kernel
theorem dX12_init_196 : decode cX12_init 196 = .ok (.getfield 7, 3) := by decide +kernel
theorem dX12_init_199 : decode cX12_init 199 = .ok (.bipush 11, 2) := by decide +kernel
theorem dX12_init_201 : decode cX12_init 201 = .ok (.bipush 83, 2) := by decide +kernel
theorem dX12_init_203 : decode cX12_init 203 = .ok (.iastore, 1) := by decide +kernel
theorem dX12_init_204 : decode cX12_init 204 = .ok (.aload_n 0, 1) := by decide +kernel
theorem dX12_init_205 : decode cX12_init 205 = .ok (.getfield 7, 3) := by decide +kernel
theorem dX12_init_208 : decode cX12_init 208 = .ok (.iconst 3, 1) := by decide +kernel
theorem dX12_init_209 : decode cX12_init 209 = .ok (.iconst (-1), 1) := by decide +kernel
theorem dX12_init_210 : decode cX12_init 210 = .ok (.iastore, 1) := by decide +kernel
theorem dX12_init_211 : decode cX12_init 211 = .ok (.aload_n 0, 1) := by decide +kernel
theorem dX12_init_212 : decode cX12_init 212 = .ok (.getfield 7, 3) := by decide +kernel
theorem dX12_init_215 : decode cX12_init 215 = .ok (.aload_n 0, 1) := by decide +kernel
theorem dX12_init_216 : decode cX12_init 216 = .ok (.getfield 13, 3) := by decide +kernel
theorem dX12_init_219 : decode cX12_init 219 = .ok (.invokestatic 86, 3) := by decide +kernel
theorem dX12_init_222 : decode cX12_init 222 = .ok (.return_, 1) := by decide +kernel
theorem dX12_copy_0 : decode cX12_copy 0 = .ok (.iconst 0, 1) := by decide +kernel
theorem dX12_copy_1 : decode cX12_copy 1 = .ok (.istore_n 2, 1) := by decide +kernel
theorem dX12_copy_2 : decode cX12_copy 2 = .ok (.iload_n 2, 1) := by decide +kernel
theorem dX12_copy_3 : decode cX12_copy 3 = .ok (.sipush 10606, 3) := by decide +kernel
theorem dX12_copy_6 : decode cX12_copy 6 = .ok (.if_icmp .ge 15, 3) := by decide +kernel
theorem dX12_copy_9 : decode cX12_copy 9 = .ok (.aload_n 1, 1) := by decide +kernel
theorem dX12_copy_10 : decode cX12_copy 10 = .ok (.iload_n 2, 1) := by decide +kernel
theorem dX12_copy_11 : decode cX12_copy 11 = .ok (.aload_n 0, 1) := by decide +kernel
theorem dX12_copy_12 : decode cX12_copy 12 = .ok (.iload_n 2, 1) := by decide +kernel
theorem dX12_copy_13 : decode cX12_copy 13 = .ok (.iaload, 1) := by decide +kernel
theorem dX12_copy_14 : decode cX12_copy 14 = .ok (.iastore, 1) := by decide +kernel
theorem dX12_copy_15 : decode cX12_copy 15 = .ok (.iinc 2 1, 3) := by decide +kernel
theorem dX12_copy_18 : decode cX12_copy 18 = .ok (.goto (-16), 3) := by decide +kernel
theorem dX12_copy_21 : decode cX12_copy 21 = .ok (.return_, 1) := by decide +kernel
theorem dX12_isIn_0 : decode cX12_isIn 0 = .ok (.iload_n 0, 1) := by decide +kernel
theorem dX12_isIn_1 : decode cX12_isIn 1 = .ok (.iload_n 1, 1) := by decide +kernel
theorem dX12_isIn_2 : decode cX12_isIn 2 = .ok (.if_icmp .lt 12, 3) := by decide +kernel
theorem dX12_isIn_5 : decode cX12_isIn 5 = .ok (.iload_n 0, 1) := by decide +kernel
theorem dX12_isIn_6 : decode cX12_isIn 6 = .ok (.iload_n 2, 1) := by decide +kernel
theorem dX12_isIn_7 : decode cX12_isIn 7 = .ok (.if_icmp .gt 7, 3) := by decide +kernel
theorem dX12_isIn_10 : decode cX12_isIn 10 = .ok (.iconst 1, 1) := by decide +kernel
theorem dX12_isIn_11 : decode cX12_isIn 11 = .ok (.goto 4, 3) := by decide +kernel
theorem dX12_isIn_14 : decode cX12_isIn 14 = .ok (.iconst 0, 1) := by decide +kernel
theorem dX12_isIn_15 : decode cX12_isIn 15 = .ok (.ireturn, 1) := by decide +kernel
theorem dX12_cut_0 : decode cX12_cut 0 = .ok (.lload_n 0, 1) := by decide +kernel
theorem dX12_cut_1 : decode cX12_cut 1 = .ok (.iload_n 2, 1) := by decide +kernel
theorem dX12_cut_2 : decode cX12_cut 2 = .ok (.i2l, 1) := by decide +kernel
theorem dX12_cut_3 : decode cX12_cut 3 = .ok (.lcmp, 1) := by decide +kernel
theorem dX12_cut_4 : decode cX12_cut 4 = .ok (.ifCond .ge 7, 3) := by decide +kernel
theorem dX12_cut_7 : decode cX12_cut 7 = .ok (.iload_n 2, 1) := by decide +kernel
theorem dX12_cut_8 : decode cX12_cut 8 = .ok (.goto 16, 3) := by decide +kernel
theorem dX12_cut_11 : decode cX12_cut 11 = .ok (.lload_n 0, 1) := by decide +kernel
theorem dX12_cut_12 : decode cX12_cut 12 = .ok (.iload_n 3, 1) := by decide +kernel
theorem dX12_cut_13 : decode cX12_cut 13 = .ok (.i2l, 1) := by decide +kernel
theorem dX12_cut_14 : decode cX12_cut 14 = .ok (.lcmp, 1) := by decide +kernel
theorem dX12_cut_15 : decode cX12_cut 15 = .ok (.ifCond .le 7, 3) := by decide +kernel
theorem dX12_cut_18 : decode cX12_cut 18 = .ok (.iload_n 3, 1) := by decide +kernel
theorem dX12_cut_19 : decode cX12_cut 19 = .ok (.goto 5, 3) := by decide +kernel
theorem dX12_cut_22 : decode cX12_cut 22 = .ok (.lload_n 0, 1) := by decide +kernel
theorem dX12_cut_23 : decode cX12_cut 23 = .ok (.l2i, 1) := by decide +kernel
theorem dX12_cut_24 : decode cX12_cut 24 = .ok (.ireturn, 1) := by decide +kernel
theorem dX12_has_0 : decode cX12_has 0 = .ok (.iload_n 0, 1) := by decide +kernel
theorem dX12_has_1 : decode cX12_has 1 = .ok (.iload_n 1, 1) := by decide +kernel
theorem dX12_has_2 : decode cX12_has 2 = .ok (.ishr, 1) := by decide +kernel
theorem dX12_has_3 : decode cX12_has 3 = .ok (.iconst 1, 1) := by decide +kernel
theorem dX12_has_4 : decode cX12_has 4 = .ok (.iand, 1) := by decide +kernel
theorem dX12_has_5 : decode cX12_has 5 = .ok (.iconst 1, 1) := by decide +kernel
theorem dX12_has_6 : decode cX12_has 6 = .ok (.if_icmp .ne 7, 3) := by decide +kernel
theorem dX12_has_9 : decode cX12_has 9 = .ok (.iconst 1, 1) := by decide +kernel
theorem dX12_has_10 : decode cX12_has 10 = .ok (.goto 4, 3) := by decide +kernel
theorem dX12_has_13 : decode cX12_has 13 = .ok (.iconst 0, 1) := by decide +kernel
theorem dX12_has_14 : decode cX12_has 14 = .ok (.ireturn, 1) := by decide +kernel
theorem dX12_bits_0 : decode cX12_bits 0 = .ok (.iconst 0, 1) := by decide +kernel
theorem dX12_bits_1 : decode cX12_bits 1 = .ok (.istore_n 1, 1) := by decide +kernel
theorem dX12_bits_2 : decode cX12_bits 2 = .ok (.iconst 0, 1) := by decide +kernel
theorem dX12_bits_3 : decode cX12_bits 3 = .ok (.istore_n 2, 1) := by decide +kernel
theorem dX12_bits_4 : decode cX12_bits 4 = .ok (.iload_n 2, 1) := by decide +kernel
theorem dX12_bits_5 : decode cX12_bits 5 = .ok (.bipush 10, 2) := by decide +kernel
theorem dX12_bits_7 : decode cX12_bits 7 = .ok (.if_icmp .ge 17, 3) := by decide +kernel
theorem dX12_bits_10 : decode cX12_bits 10 = .ok (.iload_n 1, 1) := by decide +kernel
theorem dX12_bits_11 : decode cX12_bits 11 = .ok (.iload_n 0, 1) := by decide +kernel
theorem dX12_bits_12 : decode cX12_bits 12 = .ok (.iload_n 2, 1) := by decide +kernel
theorem dX12_bits_13 : decode cX12_bits 13 = .ok (.ishr, 1) := by decide +kernel
theorem dX12_bits_14 : decode cX12_bits 14 = .ok (.iconst 1, 1) := by decide +kernel
theorem dX12_bits_15 : decode cX12_bits 15 = .ok (.iand, 1) := by decide +kernel
theorem dX12_bits_16 : decode cX12_bits 16 = .ok (.iadd, 1) := by decide +kernel
theorem dX12_bits_17 : decode cX12_bits 17 = .ok (.istore_n 1, 1) := by decide +kernel
theorem dX12_bits_18 : decode cX12_bits 18 = .ok (.iinc 2 1, 3) := by decide +kernel
theorem dX12_bits_21 : decode cX12_bits 21 = .ok (.goto (-17), 3) := by decide +kernel
theorem dX12_bits_24 : decode cX12_bits 24 = .ok (.iload_n 1, 1) := by decide +kernel
theorem dX12_bits_25 : decode cX12_bits 25 = .ok (.ireturn, 1) := by decide +kernel
theorem dX12_isStep_0 : decode cX12_isStep 0 = .ok (.iload_n 1, 1) := by decide +kernel
theorem dX12_isStep_1 : decode cX12_isStep 1 = .ok (.iconst 0, 1) := by decide +kernel
theorem dX12_isStep_2 : decode cX12_isStep 2 = .ok (.aload_n 0, 1) := by decide +kernel
theorem dX12_isStep_3 : decode cX12_isStep 3 = .ok (.getfield 7, 3) := by decide +kernel
theorem dX12_isStep_6 : decode cX12_isStep 6 = .ok (.iconst 0, 1) := by decide +kernel
theorem dX12_isStep_7 : decode cX12_isStep 7 = .ok (.iaload, 1) := by decide +kernel
theorem dX12_isStep_8 : decode cX12_isStep 8 = .ok (.iconst 1, 1) := by decide +kernel
theorem dX12_isStep_9 : decode cX12_isStep 9 = .ok (.isub, 1) := by decide +kernel
theorem dX12_isStep_10 : decode cX12_isStep 10 = .ok (.invokestatic 90, 3) := by decide +kernel
theorem dX12_isStep_13 : decode cX12_isStep 13 = .ok (.ireturn, 1) := by decide +kernel
theorem dX12_isShip_0 : decode cX12_isShip 0 = .ok (.iload_n 1, 1) := by decide +kernel
theorem dX12_isShip_1 : decode cX12_isShip 1 = .ok (.iconst 0, 1) := by decide +kernel
theorem dX12_isShip_2 : decode cX12_isShip 2 = .ok (.aload_n 0, 1) := by decide +kernel
theorem dX12_isShip_3 : decode cX12_isShip 3 = .ok (.getfield 7, 3) := by decide +kernel
theorem dX12_isShip_6 : decode cX12_isShip 6 = .ok (.iconst 1, 1) := by decide +kernel
theorem dX12_isShip_7 : decode cX12_isShip 7 = .ok (.iaload, 1) := by decide +kernel
theorem dX12_isShip_8 : decode cX12_isShip 8 = .ok (.iconst 1, 1) := by decide +kernel
theorem dX12_isShip_9 : decode cX12_isShip 9 = .ok (.isub, 1) := by decide +kernel
theorem dX12_isShip_10 : decode cX12_isShip 10 = .ok (.invokestatic 90, 3) := by decide +kernel
theorem dX12_isShip_13 : decode cX12_isShip 13 = .ok (.ireturn, 1) := by decide +kernel
theorem dX12_isRiser_0 : decode cX12_isRiser 0 = .ok (.iload_n 1, 1) := by decide +kernel
theorem dX12_isRiser_1 : decode cX12_isRiser 1 = .ok (.iconst 0, 1) := by decide +kernel
theorem dX12_isRiser_2 : decode cX12_isRiser 2 = .ok (.aload_n 0, 1) := by decide +kernel
theorem dX12_isRiser_3 : decode cX12_isRiser 3 = .ok (.getfield 7, 3) := by decide +kernel
theorem dX12_isRiser_6 : decode cX12_isRiser 6 = .ok (.iconst 0, 1) := by decide +kernel
theorem dX12_isRiser_7 : decode cX12_isRiser 7 = .ok (.iaload, 1) := by decide +kernel
theorem dX12_isRiser_8 : decode cX12_isRiser 8 = .ok (.iconst 2, 1) := by decide +kernel
theorem dX12_isRiser_9 : decode cX12_isRiser 9 = .ok (.isub, 1) := by decide +kernel
theorem dX12_isRiser_10 : decode cX12_isRiser 10 = .ok (.invokestatic 90, 3) := by decide +kernel
theorem dX12_isRiser_13 : decode cX12_isRiser 13 = .ok (.ireturn, 1) := by decide +kernel
theorem dX12_at_0 : decode cX12_at 0 = .ok (.aload_n 0, 1) := by decide +kernel
theorem dX12_at_1 : decode cX12_at 1 = .ok (.getfield 7, 3) := by decide +kernel
theorem dX12_at_4 : decode cX12_at 4 = .ok (.bipush 16, 2) := by decide +kernel
theorem dX12_at_6 : decode cX12_at 6 = .ok (.bipush 8, 2) := by decide +kernel
theorem dX12_at_8 : decode cX12_at 8 = .ok (.iload_n 1, 1) := by decide +kernel
theorem dX12_at_9 : decode cX12_at 9 = .ok (.imul, 1) := by decide +kernel
theorem dX12_at_10 : decode cX12_at 10 = .ok (.iadd, 1) := by decide +kernel
theorem dX12_at_11 : decode cX12_at 11 = .ok (.iload_n 2, 1) := by decide +kernel
theorem dX12_at_12 : decode cX12_at 12 = .ok (.iadd, 1) := by decide +kernel
theorem dX12_at_13 : decode cX12_at 13 = .ok (.iaload, 1) := by decide +kernel
theorem dX12_at_14 : decode cX12_at 14 = .ok (.ireturn, 1) := by decide +kernel
theorem dX12_put_0 : decode cX12_put 0 = .ok (.aload_n 0, 1) := by decide +kernel
theorem dX12_put_1 : decode cX12_put 1 = .ok (.getfield 7, 3) := by decide +kernel
theorem dX12_put_4 : decode cX12_put 4 = .ok (.bipush 16, 2) := by decide +kernel
theorem dX12_put_6 : decode cX12_put 6 = .ok (.bipush 8, 2) := by decide +kernel
theorem dX12_put_8 : decode cX12_put 8 = .ok (.iload_n 1, 1) := by decide +kernel
theorem dX12_put_9 : decode cX12_put 9 = .ok (.imul, 1) := by decide +kernel
theorem dX12_put_10 : decode cX12_put 10 = .ok (.iadd, 1) := by decide +kernel
theorem dX12_put_11 : decode cX12_put 11 = .ok (.iload_n 2, 1) := by decide +kernel
theorem dX12_put_12 : decode cX12_put 12 = .ok (.iadd, 1) := by decide +kernel
theorem dX12_put_13 : decode cX12_put 13 = .ok (.iload_n 3, 1) := by decide +kernel
theorem dX12_put_14 : decode cX12_put 14 = .ok (.iastore, 1) := by decide +kernel
theorem dX12_put_15 : decode cX12_put 15 = .ok (.return_, 1) := by decide +kernel
theorem dX12_get_0 : decode cX12_get 0 = .ok (.aload_n 0, 1) := by decide +kernel
theorem dX12_get_1 : decode cX12_get 1 = .ok (.getfield 7, 3) := by decide +kernel
theorem dX12_get_4 : decode cX12_get 4 = .ok (.bipush 88, 2) := by decide +kernel
theorem dX12_get_6 : decode cX12_get 6 = .ok (.bipush 6, 2) := by decide +kernel
theorem dX12_get_8 : decode cX12_get 8 = .ok (.iload_n 1, 1) := by decide +kernel
theorem dX12_get_9 : decode cX12_get 9 = .ok (.imul, 1) := by decide +kernel
theorem dX12_get_10 : decode cX12_get 10 = .ok (.iadd, 1) := by decide +kernel
theorem dX12_get_11 : decode cX12_get 11 = .ok (.iload_n 2, 1) := by decide +kernel
theorem dX12_get_12 : decode cX12_get 12 = .ok (.iadd, 1) := by decide +kernel
theorem dX12_get_13 : decode cX12_get 13 = .ok (.iaload, 1) := by decide +kernel
theorem dX12_get_14 : decode cX12_get 14 = .ok (.ireturn, 1) := by decide +kernel
theorem dX12_set_0 : decode cX12_set 0 = .ok (.aload_n 0, 1) := by decide +kernel
theorem dX12_set_1 : decode cX12_set 1 = .ok (.getfield 7, 3) := by decide +kernel
theorem dX12_set_4 : decode cX12_set 4 = .ok (.bipush 88, 2) := by decide +kernel
theorem dX12_set_6 : decode cX12_set 6 = .ok (.bipush 6, 2) := by decide +kernel
theorem dX12_set_8 : decode cX12_set 8 = .ok (.iload_n 1, 1) := by decide +kernel
theorem dX12_set_9 : decode cX12_set 9 = .ok (.imul, 1) := by decide +kernel
theorem dX12_set_10 : decode cX12_set 10 = .ok (.iadd, 1) := by decide +kernel
theorem dX12_set_11 : decode cX12_set 11 = .ok (.iload_n 2, 1) := by decide +kernel
theorem dX12_set_12 : decode cX12_set 12 = .ok (.iadd, 1) := by decide +kernel
theorem dX12_set_13 : decode cX12_set 13 = .ok (.iload_n 3, 1) := by decide +kernel
theorem dX12_set_14 : decode cX12_set 14 = .ok (.iastore, 1) := by decide +kernel
theorem dX12_set_15 : decode cX12_set 15 = .ok (.return_, 1) := by decide +kernel
theorem dX12_step_0 : decode cX12_step 0 = .ok (.iload_n 1, 1) := by decide +kernel
theorem dX12_step_1 : decode cX12_step 1 = .ok (.iconst 1, 1) := by decide +kernel
theorem dX12_step_2 : decode cX12_step 2 = .ok (.bipush 99, 2) := by decide +kernel
theorem dX12_step_4 : decode cX12_step 4 = .ok (.invokestatic 90, 3) := by decide +kernel
theorem dX12_step_7 : decode cX12_step 7 = .ok (.ifCond .eq 47, 3) := by decide +kernel
theorem dX12_step_10 : decode cX12_step 10 = .ok (.iload_n 2, 1) := by decide +kernel
theorem dX12_step_11 : decode cX12_step 11 = .ok (.iconst 0, 1) := by decide +kernel
theorem dX12_step_12 : decode cX12_step 12 = .ok (.bipush 99, 2) := by decide +kernel
theorem dX12_step_14 : decode cX12_step 14 = .ok (.invokestatic 90, 3) := by decide +kernel
theorem dX12_step_17 : decode cX12_step 17 = .ok (.ifCond .eq 37, 3) := by decide +kernel
theorem dX12_step_20 : decode cX12_step 20 = .ok (.iload_n 3, 1) := by decide +kernel
theorem dX12_step_21 : decode cX12_step 21 = .ok (.iconst 0, 1) := by decide +kernel
theorem dX12_step_22 : decode cX12_step 22 = .ok (.sipush 999, 3) := by decide +kernel
theorem dX12_step_25 : decode cX12_step 25 = .ok (.invokestatic 90, 3) := by decide +kernel
theorem dX12_step_28 : decode cX12_step 28 = .ok (.ifCond .eq 26, 3) := by decide +kernel
theorem dX12_step_31 : decode cX12_step 31 = .ok (.iload 4, 2) := by decide +kernel
theorem dX12_step_33 : decode cX12_step 33 = .ok (.iconst 0, 1) := by decide +kernel
theorem dX12_step_34 : decode cX12_step 34 = .ok (.sipush 999, 3) := by decide +kernel
theorem dX12_step_37 : decode cX12_step 37 = .ok (.invokestatic 90, 3) := by decide +kernel
theorem dX12_step_40 : decode cX12_step 40 = .ok (.ifCond .eq 14, 3) := by decide +kernel
theorem dX12_step_43 : decode cX12_step 43 = .ok (.aload_n 0, 1) := by decide +kernel
theorem dX12_step_44 : decode cX12_step 44 = .ok (.getfield 7, 3) := by decide +kernel
theorem dX12_step_47 : decode cX12_step 47 = .ok (.iconst 0, 1) := by decide +kernel
theorem dX12_step_48 : decode cX12_step 48 = .ok (.iaload, 1) := by decide +kernel
theorem dX12_step_49 : decode cX12_step 49 = .ok (.bipush 9, 2) := by decide +kernel
theorem dX12_step_51 : decode cX12_step 51 = .ok (.if_icmp .ne 5, 3) := by decide +kernel
theorem dX12_step_54 : decode cX12_step 54 = .ok (.iconst (-1), 1) := by decide +kernel
theorem dX12_step_55 : decode cX12_step 55 = .ok (.ireturn, 1) := by decide +kernel
theorem dX12_step_56 : decode cX12_step 56 = .ok (.aload_n 0, 1) := by decide +kernel
theorem dX12_step_57 : decode cX12_step 57 = .ok (.getfield 7, 3) := by decide +kernel
theorem dX12_step_60 : decode cX12_step 60 = .ok (.iconst 0, 1) := by decide +kernel
theorem dX12_step_61 : decode cX12_step 61 = .ok (.iaload, 1) := by decide +kernel
theorem dX12_step_62 : decode cX12_step 62 = .ok (.istore 5, 2) := by decide +kernel
theorem dX12_step_64 : decode cX12_step 64 = .ok (.aload_n 0, 1) := by decide +kernel
theorem dX12_step_65 : decode cX12_step 65 = .ok (.iload 5, 2) := by decide +kernel
theorem dX12_step_67 : decode cX12_step 67 = .ok (.iconst 0, 1) := by decide +kernel
theorem dX12_step_68 : decode cX12_step 68 = .ok (.iload_n 1, 1) := by decide +kernel
theorem dX12_step_69 : decode cX12_step 69 = .ok (.invokevirtual 94, 3) := by decide +kernel
theorem dX12_step_72 : decode cX12_step 72 = .ok (.aload_n 0, 1) := by decide +kernel
theorem dX12_step_73 : decode cX12_step 73 = .ok (.iload 5, 2) := by decide +kernel
theorem dX12_step_75 : decode cX12_step 75 = .ok (.iconst 1, 1) := by decide +kernel
theorem dX12_step_76 : decode cX12_step 76 = .ok (.iload_n 2, 1) := by decide +kernel
theorem dX12_step_77 : decode cX12_step 77 = .ok (.invokevirtual 94, 3) := by decide +kernel
theorem dX12_step_80 : decode cX12_step 80 = .ok (.aload_n 0, 1) := by decide +kernel
theorem dX12_step_81 : decode cX12_step 81 = .ok (.iload 5, 2) := by decide +kernel
theorem dX12_step_83 : decode cX12_step 83 = .ok (.iconst 2, 1) := by decide +kernel
theorem dX12_step_84 : decode cX12_step 84 = .ok (.iload_n 3, 1) := by decide +kernel
theorem dX12_step_85 : decode cX12_step 85 = .ok (.invokevirtual 94, 3) := by decide +kernel
theorem dX12_step_88 : decode cX12_step 88 = .ok (.aload_n 0, 1) := by decide +kernel
theorem dX12_step_89 : decode cX12_step 89 = .ok (.iload 5, 2) := by decide +kernel
theorem dX12_step_91 : decode cX12_step 91 = .ok (.iconst 3, 1) := by decide +kernel
theorem dX12_step_92 : decode cX12_step 92 = .ok (.iload 4, 2) := by decide +kernel
theorem dX12_step_94 : decode cX12_step 94 = .ok (.invokevirtual 94, 3) := by decide +kernel
theorem dX12_step_97 : decode cX12_step 97 = .ok (.aload_n 0, 1) := by decide +kernel
theorem dX12_step_98 : decode cX12_step 98 = .ok (.iload 5, 2) := by decide +kernel
theorem dX12_step_100 : decode cX12_step 100 = .ok (.iconst 4, 1) := by decide +kernel
theorem dX12_step_101 : decode cX12_step 101 = .ok (.iconst 0, 1) := by decide +kernel
theorem dX12_step_102 : decode cX12_step 102 = .ok (.invokevirtual 94, 3) := by decide +kernel
theorem dX12_step_105 : decode cX12_step 105 = .ok (.iconst 0, 1) := by decide +kernel
theorem dX12_step_106 : decode cX12_step 106 = .ok (.istore 6, 2) := by decide +kernel
theorem dX12_step_108 : decode cX12_step 108 = .ok (.iload 6, 2) := by decide +kernel
theorem dX12_step_110 : decode cX12_step 110 = .ok (.iconst 3, 1) := by decide +kernel
theorem dX12_step_111 : decode cX12_step 111 = .ok (.if_icmp .ge 29, 3) := by decide +kernel
theorem dX12_step_114 : decode cX12_step 114 = .ok (.aload_n 0, 1) := by decide +kernel
theorem dX12_step_115 : decode cX12_step 115 = .ok (.iload 5, 2) := by decide +kernel
theorem dX12_step_117 : decode cX12_step 117 = .ok (.iconst 5, 1) := by decide +kernel
theorem dX12_step_118 : decode cX12_step 118 = .ok (.iload 6, 2) := by decide +kernel
theorem dX12_step_120 : decode cX12_step 120 = .ok (.iadd, 1) := by decide +kernel
theorem dX12_step_121 : decode cX12_step 121 = .ok (.aload_n 0, 1) := by decide +kernel
theorem dX12_step_122 : decode cX12_step 122 = .ok (.iload 5, 2) := by decide +kernel
theorem dX12_step_124 : decode cX12_step 124 = .ok (.iconst 1, 1) := by decide +kernel
theorem dX12_step_125 : decode cX12_step 125 = .ok (.iload 6, 2) := by decide +kernel
theorem dX12_step_127 : decode cX12_step 127 = .ok (.iadd, 1) := by decide +kernel
theorem dX12_step_128 : decode cX12_step 128 = .ok (.invokevirtual 98, 3) := by decide +kernel
theorem dX12_step_131 : decode cX12_step 131 = .ok (.invokevirtual 94, 3) := by decide +kernel
theorem dX12_step_134 : decode cX12_step 134 = .ok (.iinc 6 1, 3) := by decide +kernel
theorem dX12_step_137 : decode cX12_step 137 = .ok (.goto (-29), 3) := by decide +kernel
theorem dX12_step_140 : decode cX12_step 140 = .ok (.aload_n 0, 1) := by decide +kernel
theorem dX12_step_141 : decode cX12_step 141 = .ok (.getfield 7, 3) := by decide +kernel
theorem dX12_step_144 : decode cX12_step 144 = .ok (.iconst 0, 1) := by decide +kernel
theorem dX12_step_145 : decode cX12_step 145 = .ok (.dup2, 1) := by decide +kernel
theorem dX12_step_146 : decode cX12_step 146 = .ok (.iaload, 1) := by decide +kernel
theorem dX12_step_147 : decode cX12_step 147 = .ok (.iconst 1, 1) := by decide +kernel
theorem dX12_step_148 : decode cX12_step 148 = .ok (.iadd, 1) := by decide +kernel
theorem dX12_step_149 : decode cX12_step 149 = .ok (.iastore, 1) := by decide +kernel
theorem dX12_step_150 : decode cX12_step 150 = .ok (.iload 5, 2) := by decide +kernel
theorem dX12_step_152 : decode cX12_step 152 = .ok (.ireturn, 1) := by decide +kernel
theorem dX12_ship_0 : decode cX12_ship 0 = .ok (.iload_n 1, 1) := by decide +kernel
theorem dX12_ship_1 : decode cX12_ship 1 = .ok (.iconst 1, 1) := by decide +kernel
theorem dX12_ship_2 : decode cX12_ship 2 = .ok (.bipush 99, 2) := by decide +kernel
theorem dX12_ship_4 : decode cX12_ship 4 = .ok (.invokestatic 90, 3) := by decide +kernel
theorem dX12_ship_7 : decode cX12_ship 7 = .ok (.ifCond .eq 30, 3) := by decide +kernel
theorem dX12_ship_10 : decode cX12_ship 10 = .ok (.aload_n 0, 1) := by decide +kernel
theorem dX12_ship_11 : decode cX12_ship 11 = .ok (.iload_n 2, 1) := by decide +kernel
theorem dX12_ship_12 : decode cX12_ship 12 = .ok (.invokevirtual 102, 3) := by decide +kernel
theorem dX12_ship_15 : decode cX12_ship 15 = .ok (.ifCond .eq 22, 3) := by decide +kernel
theorem dX12_ship_18 : decode cX12_ship 18 = .ok (.aload_n 0, 1) := by decide +kernel
theorem dX12_ship_19 : decode cX12_ship 19 = .ok (.iload_n 3, 1) := by decide +kernel
theorem dX12_ship_20 : decode cX12_ship 20 = .ok (.invokevirtual 102, 3) := by decide +kernel
theorem dX12_ship_23 : decode cX12_ship 23 = .ok (.ifCond .eq 14, 3) := by decide +kernel
theorem dX12_ship_26 : decode cX12_ship 26 = .ok (.aload_n 0, 1) := by decide +kernel
theorem dX12_ship_27 : decode cX12_ship 27 = .ok (.getfield 7, 3) := by decide +kernel
theorem dX12_ship_30 : decode cX12_ship 30 = .ok (.iconst 1, 1) := by decide +kernel
theorem dX12_ship_31 : decode cX12_ship 31 = .ok (.iaload, 1) := by decide +kernel
theorem dX12_ship_32 : decode cX12_ship 32 = .ok (.bipush 7, 2) := by decide +kernel
theorem dX12_ship_34 : decode cX12_ship 34 = .ok (.if_icmp .ne 5, 3) := by decide +kernel
theorem dX12_ship_37 : decode cX12_ship 37 = .ok (.iconst (-1), 1) := by decide +kernel
theorem dX12_ship_38 : decode cX12_ship 38 = .ok (.ireturn, 1) := by decide +kernel
theorem dX12_ship_39 : decode cX12_ship 39 = .ok (.aload_n 0, 1) := by decide +kernel
theorem dX12_ship_40 : decode cX12_ship 40 = .ok (.getfield 7, 3) := by decide +kernel
theorem dX12_ship_43 : decode cX12_ship 43 = .ok (.iconst 1, 1) := by decide +kernel
theorem dX12_ship_44 : decode cX12_ship 44 = .ok (.iaload, 1) := by decide +kernel
theorem dX12_ship_45 : decode cX12_ship 45 = .ok (.istore 4, 2) := by decide +kernel
theorem dX12_ship_47 : decode cX12_ship 47 = .ok (.aload_n 0, 1) := by decide +kernel
theorem dX12_ship_48 : decode cX12_ship 48 = .ok (.iload 4, 2) := by decide +kernel
theorem dX12_ship_50 : decode cX12_ship 50 = .ok (.iconst 0, 1) := by decide +kernel
theorem dX12_ship_51 : decode cX12_ship 51 = .ok (.iload_n 1, 1) := by decide +kernel
theorem dX12_ship_52 : decode cX12_ship 52 = .ok (.invokevirtual 106, 3) := by decide +kernel
theorem dX12_ship_55 : decode cX12_ship 55 = .ok (.aload_n 0, 1) := by decide +kernel
theorem dX12_ship_56 : decode cX12_ship 56 = .ok (.iload 4, 2) := by decide +kernel
theorem dX12_ship_58 : decode cX12_ship 58 = .ok (.iconst 1, 1) := by decide +kernel
theorem dX12_ship_59 : decode cX12_ship 59 = .ok (.iload_n 2, 1) := by decide +kernel
theorem dX12_ship_60 : decode cX12_ship 60 = .ok (.invokevirtual 106, 3) := by decide +kernel
theorem dX12_ship_63 : decode cX12_ship 63 = .ok (.aload_n 0, 1) := by decide +kernel
theorem dX12_ship_64 : decode cX12_ship 64 = .ok (.iload 4, 2) := by decide +kernel
theorem dX12_ship_66 : decode cX12_ship 66 = .ok (.iconst 2, 1) := by decide +kernel
theorem dX12_ship_67 : decode cX12_ship 67 = .ok (.iload_n 3, 1) := by decide +kernel
theorem dX12_ship_68 : decode cX12_ship 68 = .ok (.invokevirtual 106, 3) := by decide +kernel
theorem dX12_ship_71 : decode cX12_ship 71 = .ok (.aload_n 0, 1) := by decide +kernel
theorem dX12_ship_72 : decode cX12_ship 72 = .ok (.iload 4, 2) := by decide +kernel
theorem dX12_ship_74 : decode cX12_ship 74 = .ok (.iconst 3, 1) := by decide +kernel
theorem dX12_ship_75 : decode cX12_ship 75 = .ok (.iconst 0, 1) := by decide +kernel
theorem dX12_ship_76 : decode cX12_ship 76 = .ok (.invokevirtual 106, 3) := by decide +kernel
theorem dX12_ship_79 : decode cX12_ship 79 = .ok (.aload_n 0, 1) := by decide +kernel
theorem dX12_ship_80 : decode cX12_ship 80 = .ok (.iload 4, 2) := by decide +kernel
theorem dX12_ship_82 : decode cX12_ship 82 = .ok (.iconst 4, 1) := by decide +kernel
theorem dX12_ship_83 : decode cX12_ship 83 = .ok (.iload_n 2, 1) := by decide +kernel
theorem dX12_ship_84 : decode cX12_ship 84 = .ok (.invokevirtual 106, 3) := by decide +kernel
theorem dX12_ship_87 : decode cX12_ship 87 = .ok (.aload_n 0, 1) := by decide +kernel
theorem dX12_ship_88 : decode cX12_ship 88 = .ok (.iload 4, 2) := by decide +kernel
theorem dX12_ship_90 : decode cX12_ship 90 = .ok (.iconst 5, 1) := by decide +kernel
theorem dX12_ship_91 : decode cX12_ship 91 = .ok (.iload_n 3, 1) := by decide +kernel
theorem dX12_ship_92 : decode cX12_ship 92 = .ok (.invokevirtual 106, 3) := by decide +kernel
theorem dX12_ship_95 : decode cX12_ship 95 = .ok (.aload_n 0, 1) := by decide +kernel
theorem dX12_ship_96 : decode cX12_ship 96 = .ok (.getfield 7, 3) := by decide +kernel
theorem dX12_ship_99 : decode cX12_ship 99 = .ok (.iconst 1, 1) := by decide +kernel
theorem dX12_ship_100 : decode cX12_ship 100 = .ok (.dup2, 1) := by decide +kernel
theorem dX12_ship_101 : decode cX12_ship 101 = .ok (.iaload, 1) := by decide +kernel
theorem dX12_ship_102 : decode cX12_ship 102 = .ok (.iconst 1, 1) := by decide +kernel
theorem dX12_ship_103 : decode cX12_ship 103 = .ok (.iadd, 1) := by decide +kernel
theorem dX12_ship_104 : decode cX12_ship 104 = .ok (.iastore, 1) := by decide +kernel
theorem dX12_ship_105 : decode cX12_ship 105 = .ok (.iload 4, 2) := by decide +kernel
theorem dX12_ship_107 : decode cX12_ship 107 = .ok (.ireturn, 1) := by decide +kernel
theorem dX12_four_0 : decode cX12_four 0 = .ok (.bipush 24, 2) := by decide +kernel
theorem dX12_four_2 : decode cX12_four 2 = .ok (.istore_n 2, 1) := by decide +kernel
theorem dX12_four_3 : decode cX12_four 3 = .ok (.iload_n 2, 1) := by decide +kernel
theorem dX12_four_4 : decode cX12_four 4 = .ok (.ifCond .lt 35, 3) := by decide +kernel
theorem dX12_four_7 : decode cX12_four 7 = .ok (.aload_n 0, 1) := by decide +kernel
theorem dX12_four_8 : decode cX12_four 8 = .ok (.getfield 19, 3) := by decide +kernel
theorem dX12_four_11 : decode cX12_four 11 = .ok (.aload_n 0, 1) := by decide +kernel
theorem dX12_four_12 : decode cX12_four 12 = .ok (.getfield 109, 3) := by decide +kernel
theorem dX12_four_15 : decode cX12_four 15 = .ok (.iload_n 1, 1) := by decide +kernel
theorem dX12_four_16 : decode cX12_four 16 = .ok (.iload_n 2, 1) := by decide +kernel
theorem dX12_four_17 : decode cX12_four 17 = .ok (.ishr, 1) := by decide +kernel
theorem dX12_four_18 : decode cX12_four 18 = .ok (.sipush 255, 3) := by decide +kernel
theorem dX12_four_21 : decode cX12_four 21 = .ok (.iand, 1) := by decide +kernel
theorem dX12_four_22 : decode cX12_four 22 = .ok (.iastore, 1) := by decide +kernel
theorem dX12_four_23 : decode cX12_four 23 = .ok (.aload_n 0, 1) := by decide +kernel
theorem dX12_four_24 : decode cX12_four 24 = .ok (.dup, 1) := by decide +kernel
theorem dX12_four_25 : decode cX12_four 25 = .ok (.getfield 109, 3) := by decide +kernel
theorem dX12_four_28 : decode cX12_four 28 = .ok (.iconst 1, 1) := by decide +kernel
theorem dX12_four_29 : decode cX12_four 29 = .ok (.iadd, 1) := by decide +kernel
theorem dX12_four_30 : decode cX12_four 30 = .ok (.putfield 109, 3) := by decide +kernel
theorem dX12_four_33 : decode cX12_four 33 = .ok (.iinc 2 (-8), 3) := by decide +kernel
theorem dX12_four_36 : decode cX12_four 36 = .ok (.goto (-33), 3) := by decide +kernel
theorem dX12_four_39 : decode cX12_four 39 = .ok (.return_, 1) := by decide +kernel
theorem dX12_feed_0 : decode cX12_feed 0 = .ok (.aload_n 0, 1) := by decide +kernel
theorem dX12_feed_1 : decode cX12_feed 1 = .ok (.getfield 109, 3) := by decide +kernel
theorem dX12_feed_4 : decode cX12_feed 4 = .ok (.bipush 20, 2) := by decide +kernel
theorem dX12_feed_6 : decode cX12_feed 6 = .ok (.iadd, 1) := by decide +kernel
theorem dX12_feed_7 : decode cX12_feed 7 = .ok (.sipush 300, 3) := by decide +kernel
theorem dX12_feed_10 : decode cX12_feed 10 = .ok (.if_icmp .le 5, 3) := by decide +kernel
theorem dX12_feed_13 : decode cX12_feed 13 = .ok (.iconst (-1), 1) := by decide +kernel
theorem dX12_feed_14 : decode cX12_feed 14 = .ok (.ireturn, 1) := by decide +kernel
theorem dX12_feed_15 : decode cX12_feed 15 = .ok (.aload_n 0, 1) := by decide +kernel
theorem dX12_feed_16 : decode cX12_feed 16 = .ok (.iload_n 1, 1) := by decide +kernel
theorem dX12_feed_17 : decode cX12_feed 17 = .ok (.invokevirtual 112, 3) := by decide +kernel
theorem dX12_feed_20 : decode cX12_feed 20 = .ok (.aload_n 0, 1) := by decide +kernel
theorem dX12_feed_21 : decode cX12_feed 21 = .ok (.iload_n 2, 1) := by decide +kernel
theorem dX12_feed_22 : decode cX12_feed 22 = .ok (.invokevirtual 112, 3) := by decide +kernel
theorem dX12_feed_25 : decode cX12_feed 25 = .ok (.aload_n 0, 1) := by decide +kernel
theorem dX12_feed_26 : decode cX12_feed 26 = .ok (.iload_n 3, 1) := by decide +kernel
theorem dX12_feed_27 : decode cX12_feed 27 = .ok (.invokevirtual 112, 3) := by decide +kernel
theorem dX12_feed_30 : decode cX12_feed 30 = .ok (.aload_n 0, 1) := by decide +kernel
theorem dX12_feed_31 : decode cX12_feed 31 = .ok (.iload 4, 2) := by decide +kernel
theorem dX12_feed_33 : decode cX12_feed 33 = .ok (.invokevirtual 112, 3) := by decide +kernel
theorem dX12_feed_36 : decode cX12_feed 36 = .ok (.aload_n 0, 1) := by decide +kernel
theorem dX12_feed_37 : decode cX12_feed 37 = .ok (.iload 5, 2) := by decide +kernel
theorem dX12_feed_39 : decode cX12_feed 39 = .ok (.invokevirtual 112, 3) := by decide +kernel
theorem dX12_feed_42 : decode cX12_feed 42 = .ok (.aload_n 0, 1) := by decide +kernel
theorem dX12_feed_43 : decode cX12_feed 43 = .ok (.getfield 109, 3) := by decide +kernel
theorem dX12_feed_46 : decode cX12_feed 46 = .ok (.ireturn, 1) := by decide +kernel
theorem dX12_end_0 : decode cX12_end 0 = .ok (.iload_n 1, 1) := by decide +kernel
theorem dX12_end_1 : decode cX12_end 1 = .ok (.iconst 0, 1) := by decide +kernel
theorem dX12_end_2 : decode cX12_end 2 = .ok (.aload_n 0, 1) := by decide +kernel
theorem dX12_end_3 : decode cX12_end 3 = .ok (.getfield 109, 3) := by decide +kernel
theorem dX12_end_6 : decode cX12_end 6 = .ok (.invokestatic 90, 3) := by decide +kernel
theorem dX12_end_9 : decode cX12_end 9 = .ok (.ifCond .ne 5, 3) := by decide +kernel
theorem dX12_end_12 : decode cX12_end 12 = .ok (.iconst (-1), 1) := by decide +kernel
theorem dX12_end_13 : decode cX12_end 13 = .ok (.ireturn, 1) := by decide +kernel
theorem dX12_end_14 : decode cX12_end 14 = .ok (.aload_n 0, 1) := by decide +kernel
theorem dX12_end_15 : decode cX12_end 15 = .ok (.iload_n 1, 1) := by decide +kernel
theorem dX12_end_16 : decode cX12_end 16 = .ok (.putfield 109, 3) := by decide +kernel
theorem dX12_end_19 : decode cX12_end 19 = .ok (.iload_n 1, 1) := by decide +kernel
theorem dX12_end_20 : decode cX12_end 20 = .ok (.ireturn, 1) := by decide +kernel
theorem dX12_byteAt_0 : decode cX12_byteAt 0 = .ok (.iload_n 1, 1) := by decide +kernel
theorem dX12_byteAt_1 : decode cX12_byteAt 1 = .ok (.aload_n 0, 1) := by decide +kernel
theorem dX12_byteAt_2 : decode cX12_byteAt 2 = .ok (.getfield 109, 3) := by decide +kernel
theorem dX12_byteAt_5 : decode cX12_byteAt 5 = .ok (.if_icmp .ge 12, 3) := by decide +kernel
theorem dX12_byteAt_8 : decode cX12_byteAt 8 = .ok (.aload_n 0, 1) := by decide +kernel
theorem dX12_byteAt_9 : decode cX12_byteAt 9 = .ok (.getfield 19, 3) := by decide +kernel
theorem dX12_byteAt_12 : decode cX12_byteAt 12 = .ok (.iload_n 1, 1) := by decide +kernel
theorem dX12_byteAt_13 : decode cX12_byteAt 13 = .ok (.iaload, 1) := by decide +kernel
theorem dX12_byteAt_14 : decode cX12_byteAt 14 = .ok (.goto 4, 3) := by decide +kernel
theorem dX12_byteAt_17 : decode cX12_byteAt 17 = .ok (.iconst (-1), 1) := by decide +kernel
theorem dX12_byteAt_18 : decode cX12_byteAt 18 = .ok (.ireturn, 1) := by decide +kernel
theorem dX12_isLetterByte_0 : decode cX12_isLetterByte 0 = .ok (.iload_n 0, 1) := by decide +kernel
theorem dX12_isLetterByte_1 : decode cX12_isLetterByte 1 = .ok (.bipush 97, 2) := by decide +kernel
theorem dX12_isLetterByte_3 : decode cX12_isLetterByte 3 = .ok (.if_icmp .lt 9, 3) := by decide +kernel
theorem dX12_isLetterByte_6 : decode cX12_isLetterByte 6 = .ok (.iload_n 0, 1) := by decide +kernel
theorem dX12_isLetterByte_7 : decode cX12_isLetterByte 7 = .ok (.bipush 122, 2) := by decide +kernel
theorem dX12_isLetterByte_9 : decode cX12_isLetterByte 9 = .ok (.if_icmp .le 15, 3) := by decide +kernel
theorem dX12_isLetterByte_12 : decode cX12_isLetterByte 12 = .ok (.iload_n 0, 1) := by decide +kernel
theorem dX12_isLetterByte_13 : decode cX12_isLetterByte 13 = .ok (.bipush 65, 2) := by decide +kernel
theorem dX12_isLetterByte_15 : decode cX12_isLetterByte 15 = .ok (.if_icmp .lt 13, 3) := by decide +kernel
theorem dX12_isLetterByte_18 : decode cX12_isLetterByte 18 = .ok (.iload_n 0, 1) := by decide +kernel
theorem dX12_isLetterByte_19 : decode cX12_isLetterByte 19 = .ok (.bipush 90, 2) := by decide +kernel
theorem dX12_isLetterByte_21 : decode cX12_isLetterByte 21 = .ok (.if_icmp .gt 7, 3) := by decide +kernel
theorem dX12_isLetterByte_24 : decode cX12_isLetterByte 24 = .ok (.iconst 1, 1) := by decide +kernel
theorem dX12_isLetterByte_25 : decode cX12_isLetterByte 25 = .ok (.goto 4, 3) := by decide +kernel
theorem dX12_isLetterByte_28 : decode cX12_isLetterByte 28 = .ok (.iconst 0, 1) := by decide +kernel
theorem dX12_isLetterByte_29 : decode cX12_isLetterByte 29 = .ok (.ireturn, 1) := by decide +kernel
theorem dX12_isFigure_0 : decode cX12_isFigure 0 = .ok (.iload_n 0, 1) := by decide +kernel
theorem dX12_isFigure_1 : decode cX12_isFigure 1 = .ok (.bipush 48, 2) := by decide +kernel
theorem dX12_isFigure_3 : decode cX12_isFigure 3 = .ok (.if_icmp .lt 13, 3) := by decide +kernel
theorem dX12_isFigure_6 : decode cX12_isFigure 6 = .ok (.iload_n 0, 1) := by decide +kernel
theorem dX12_isFigure_7 : decode cX12_isFigure 7 = .ok (.bipush 57, 2) := by decide +kernel
theorem dX12_isFigure_9 : decode cX12_isFigure 9 = .ok (.if_icmp .gt 7, 3) := by decide +kernel
theorem dX12_isFigure_12 : decode cX12_isFigure 12 = .ok (.iconst 1, 1) := by decide +kernel
theorem dX12_isFigure_13 : decode cX12_isFigure 13 = .ok (.goto 4, 3) := by decide +kernel
theorem dX12_isFigure_16 : decode cX12_isFigure 16 = .ok (.iconst 0, 1) := by decide +kernel
theorem dX12_isFigure_17 : decode cX12_isFigure 17 = .ok (.ireturn, 1) := by decide +kernel
theorem dX12_isSign_0 : decode cX12_isSign 0 = .ok (.iload_n 0, 1) := by decide +kernel
theorem dX12_isSign_1 : decode cX12_isSign 1 = .ok (.tableswitch 129 35 62 #[127, 129, 129, 129, 129, 127, 127, 127, 127, 127, 127, 129, 127, 129, 129, 129, 129, 129, 129, 129, 129, 129, 129, 129, 127, 127, 127, 127], 127) := by decide +kernel
theorem dX12_isSign_128 : decode cX12_isSign 128 = .ok (.iconst 1, 1) := by decide +kernel
theorem dX12_isSign_129 : decode cX12_isSign 129 = .ok (.ireturn, 1) := by decide +kernel
theorem dX12_isSign_130 : decode cX12_isSign 130 = .ok (.iconst 0, 1) := by decide +kernel
theorem dX12_isSign_131 : decode cX12_isSign 131 = .ok (.ireturn, 1) := by decide +kernel
theorem dX12_nextToken_0 : decode cX12_nextToken 0 = .ok (.aload_n 0, 1) := by decide +kernel
theorem dX12_nextToken_1 : decode cX12_nextToken 1 = .ok (.aload_n 0, 1) := by decide +kernel
theorem dX12_nextToken_2 : decode cX12_nextToken 2 = .ok (.getfield 116, 3) := by decide +kernel
theorem dX12_nextToken_5 : decode cX12_nextToken 5 = .ok (.invokevirtual 119, 3) := by decide +kernel
theorem dX12_nextToken_8 : decode cX12_nextToken 8 = .ok (.bipush 32, 2) := by decide +kernel
theorem dX12_nextToken_10 : decode cX12_nextToken 10 = .ok (.if_icmp .eq 16, 3) := by decide +kernel
theorem dX12_nextToken_13 : decode cX12_nextToken 13 = .ok (.aload_n 0, 1) := by decide +kernel
theorem dX12_nextToken_14 : decode cX12_nextToken 14 = .ok (.aload_n 0, 1) := by decide +kernel
theorem dX12_nextToken_15 : decode cX12_nextToken 15 = .ok (.getfield 116, 3) := by decide +kernel
theorem dX12_nextToken_18 : decode cX12_nextToken 18 = .ok (.invokevirtual 119, 3) := by decide +kernel
theorem dX12_nextToken_21 : decode cX12_nextToken 21 = .ok (.bipush 10, 2) := by decide +kernel
theorem dX12_nextToken_23 : decode cX12_nextToken 23 = .ok (.if_icmp .ne 16, 3) := by decide +kernel
theorem dX12_nextToken_26 : decode cX12_nextToken 26 = .ok (.aload_n 0, 1) := by decide +kernel
theorem dX12_nextToken_27 : decode cX12_nextToken 27 = .ok (.dup, 1) := by decide +kernel
theorem dX12_nextToken_28 : decode cX12_nextToken 28 = .ok (.getfield 116, 3) := by decide +kernel
theorem dX12_nextToken_31 : decode cX12_nextToken 31 = .ok (.iconst 1, 1) := by decide +kernel
theorem dX12_nextToken_32 : decode cX12_nextToken 32 = .ok (.iadd, 1) := by decide +kernel
theorem dX12_nextToken_33 : decode cX12_nextToken 33 = .ok (.putfield 116, 3) := by decide +kernel
theorem dX12_nextToken_36 : decode cX12_nextToken 36 = .ok (.goto (-36), 3) := by decide +kernel
theorem dX12_nextToken_39 : decode cX12_nextToken 39 = .ok (.aload_n 0, 1) := by decide +kernel
theorem dX12_nextToken_40 : decode cX12_nextToken 40 = .ok (.aload_n 0, 1) := by decide +kernel
theorem dX12_nextToken_41 : decode cX12_nextToken 41 = .ok (.getfield 116, 3) := by decide +kernel
theorem dX12_nextToken_44 : decode cX12_nextToken 44 = .ok (.putfield 123, 3) := by decide +kernel
theorem dX12_nextToken_47 : decode cX12_nextToken 47 = .ok (.aload_n 0, 1) := by decide +kernel
theorem dX12_nextToken_48 : decode cX12_nextToken 48 = .ok (.aload_n 0, 1) := by decide +kernel
theorem dX12_nextToken_49 : decode cX12_nextToken 49 = .ok (.getfield 116, 3) := by decide +kernel
theorem dX12_nextToken_52 : decode cX12_nextToken 52 = .ok (.invokevirtual 119, 3) := by decide +kernel
theorem dX12_nextToken_55 : decode cX12_nextToken 55 = .ok (.istore_n 1, 1) := by decide +kernel
theorem dX12_nextToken_56 : decode cX12_nextToken 56 = .ok (.iload_n 1, 1) := by decide +kernel
theorem dX12_nextToken_57 : decode cX12_nextToken 57 = .ok (.ifCond .ge 11, 3) := by decide +kernel
theorem dX12_nextToken_60 : decode cX12_nextToken 60 = .ok (.aload_n 0, 1) := by decide +kernel
theorem dX12_nextToken_61 : decode cX12_nextToken 61 = .ok (.iconst 0, 1) := by decide +kernel
theorem dX12_nextToken_62 : decode cX12_nextToken 62 = .ok (.putfield 126, 3) := by decide +kernel
theorem dX12_nextToken_65 : decode cX12_nextToken 65 = .ok (.goto 245, 3) := by decide +kernel
theorem dX12_nextToken_68 : decode cX12_nextToken 68 = .ok (.iload_n 1, 1) := by decide +kernel
theorem dX12_nextToken_69 : decode cX12_nextToken 69 = .ok (.invokestatic 129, 3) := by decide +kernel
theorem dX12_nextToken_72 : decode cX12_nextToken 72 = .ok (.ifCond .eq 79, 3) := by decide +kernel
theorem dX12_nextToken_75 : decode cX12_nextToken 75 = .ok (.aload_n 0, 1) := by decide +kernel
theorem dX12_nextToken_76 : decode cX12_nextToken 76 = .ok (.iconst 1, 1) := by decide +kernel
theorem dX12_nextToken_77 : decode cX12_nextToken 77 = .ok (.putfield 126, 3) := by decide +kernel
theorem dX12_nextToken_80 : decode cX12_nextToken 80 = .ok (.aload_n 0, 1) := by decide +kernel
theorem dX12_nextToken_81 : decode cX12_nextToken 81 = .ok (.iconst 0, 1) := by decide +kernel
theorem dX12_nextToken_82 : decode cX12_nextToken 82 = .ok (.putfield 132, 3) := by decide +kernel
theorem dX12_nextToken_85 : decode cX12_nextToken 85 = .ok (.aload_n 0, 1) := by decide +kernel
theorem dX12_nextToken_86 : decode cX12_nextToken 86 = .ok (.aload_n 0, 1) := by decide +kernel
theorem dX12_nextToken_87 : decode cX12_nextToken 87 = .ok (.getfield 116, 3) := by decide +kernel
theorem dX12_nextToken_90 : decode cX12_nextToken 90 = .ok (.invokevirtual 119, 3) := by decide +kernel
theorem dX12_nextToken_93 : decode cX12_nextToken 93 = .ok (.invokestatic 129, 3) := by decide +kernel
theorem dX12_nextToken_96 : decode cX12_nextToken 96 = .ok (.ifCond .eq 214, 3) := by decide +kernel
theorem dX12_nextToken_99 : decode cX12_nextToken 99 = .ok (.aload_n 0, 1) := by decide +kernel
theorem dX12_nextToken_100 : decode cX12_nextToken 100 = .ok (.aload_n 0, 1) := by decide +kernel
theorem dX12_nextToken_101 : decode cX12_nextToken 101 = .ok (.getfield 132, 3) := by decide +kernel
theorem dX12_nextToken_104 : decode cX12_nextToken 104 = .ok (.ldc 135, 2) := by decide +kernel
theorem dX12_nextToken_106 : decode cX12_nextToken 106 = .ok (.if_icmp .le 10, 3) := by decide +kernel
theorem dX12_nextToken_109 : decode cX12_nextToken 109 = .ok (.aload_n 0, 1) := by decide +kernel
theorem dX12_nextToken_110 : decode cX12_nextToken 110 = .ok (.getfield 132, 3) := by decide +kernel
theorem dX12_nextToken_113 : decode cX12_nextToken 113 = .ok (.goto 22, 3) := by decide +kernel
theorem dX12_nextToken_116 : decode cX12_nextToken 116 = .ok (.bipush 10, 2) := by decide +kernel
theorem dX12_nextToken_118 : decode cX12_nextToken 118 = .ok (.aload_n 0, 1) := by decide +kernel
theorem dX12_nextToken_119 : decode cX12_nextToken 119 = .ok (.getfield 132, 3) := by decide +kernel
theorem dX12_nextToken_122 : decode cX12_nextToken 122 = .ok (.imul, 1) := by decide +kernel
theorem dX12_nextToken_123 : decode cX12_nextToken 123 = .ok (.aload_n 0, 1) := by decide +kernel
theorem dX12_nextToken_124 : decode cX12_nextToken 124 = .ok (.aload_n 0, 1) := by decide +kernel
theorem dX12_nextToken_125 : decode cX12_nextToken 125 = .ok (.getfield 116, 3) := by decide +kernel
theorem dX12_nextToken_128 : decode cX12_nextToken 128 = .ok (.invokevirtual 119, 3) := by decide +kernel
theorem dX12_nextToken_131 : decode cX12_nextToken 131 = .ok (.iadd, 1) := by decide +kernel
theorem dX12_nextToken_132 : decode cX12_nextToken 132 = .ok (.bipush 48, 2) := by decide +kernel
theorem dX12_nextToken_134 : decode cX12_nextToken 134 = .ok (.isub, 1) := by decide +kernel
theorem dX12_nextToken_135 : decode cX12_nextToken 135 = .ok (.putfield 132, 3) := by decide +kernel
theorem dX12_nextToken_138 : decode cX12_nextToken 138 = .ok (.aload_n 0, 1) := by decide +kernel
theorem dX12_nextToken_139 : decode cX12_nextToken 139 = .ok (.dup, 1) := by decide +kernel
theorem dX12_nextToken_140 : decode cX12_nextToken 140 = .ok (.getfield 116, 3) := by decide +kernel
theorem dX12_nextToken_143 : decode cX12_nextToken 143 = .ok (.iconst 1, 1) := by decide +kernel
theorem dX12_nextToken_144 : decode cX12_nextToken 144 = .ok (.iadd, 1) := by decide +kernel
theorem dX12_nextToken_145 : decode cX12_nextToken 145 = .ok (.putfield 116, 3) := by decide +kernel
theorem dX12_nextToken_148 : decode cX12_nextToken 148 = .ok (.goto (-63), 3) := by decide +kernel
theorem dX12_nextToken_151 : decode cX12_nextToken 151 = .ok (.iload_n 1, 1) := by decide +kernel
theorem dX12_nextToken_152 : decode cX12_nextToken 152 = .ok (.invokestatic 136, 3) := by decide +kernel
theorem dX12_nextToken_155 : decode cX12_nextToken 155 = .ok (.ifCond .eq 79, 3) := by decide +kernel
theorem dX12_nextToken_158 : decode cX12_nextToken 158 = .ok (.aload_n 0, 1) := by decide +kernel
theorem dX12_nextToken_159 : decode cX12_nextToken 159 = .ok (.iconst 2, 1) := by decide +kernel
theorem dX12_nextToken_160 : decode cX12_nextToken 160 = .ok (.putfield 126, 3) := by decide +kernel
theorem dX12_nextToken_163 : decode cX12_nextToken 163 = .ok (.aload_n 0, 1) := by decide +kernel
theorem dX12_nextToken_164 : decode cX12_nextToken 164 = .ok (.lconst 0, 1) := by decide +kernel
theorem dX12_nextToken_165 : decode cX12_nextToken 165 = .ok (.putfield 139, 3) := by decide +kernel
theorem dX12_nextToken_168 : decode cX12_nextToken 168 = .ok (.aload_n 0, 1) := by decide +kernel
theorem dX12_nextToken_169 : decode cX12_nextToken 169 = .ok (.aload_n 0, 1) := by decide +kernel
theorem dX12_nextToken_170 : decode cX12_nextToken 170 = .ok (.getfield 116, 3) := by decide +kernel
theorem dX12_nextToken_173 : decode cX12_nextToken 173 = .ok (.invokevirtual 119, 3) := by decide +kernel
theorem dX12_nextToken_176 : decode cX12_nextToken 176 = .ok (.invokestatic 136, 3) := by decide +kernel
theorem dX12_nextToken_179 : decode cX12_nextToken 179 = .ok (.ifCond .eq 131, 3) := by decide +kernel
theorem dX12_nextToken_182 : decode cX12_nextToken 182 = .ok (.aload_n 0, 1) := by decide +kernel
theorem dX12_nextToken_183 : decode cX12_nextToken 183 = .ok (.aload_n 0, 1) := by decide +kernel
theorem dX12_nextToken_184 : decode cX12_nextToken 184 = .ok (.getfield 139, 3) := by decide +kernel
theorem dX12_nextToken_187 : decode cX12_nextToken 187 = .ok (.bipush 48, 2) := by decide +kernel
theorem dX12_nextToken_189 : decode cX12_nextToken 189 = .ok (.lshr, 1) := by decide +kernel
theorem dX12_nextToken_190 : decode cX12_nextToken 190 = .ok (.lconst 0, 1) := by decide +kernel
theorem dX12_nextToken_191 : decode cX12_nextToken 191 = .ok (.lcmp, 1) := by decide +kernel
theorem dX12_nextToken_192 : decode cX12_nextToken 192 = .ok (.ifCond .eq 9, 3) := by decide +kernel
theorem dX12_nextToken_195 : decode cX12_nextToken 195 = .ok (.ldc2_w 143, 3) := by decide +kernel
theorem dX12_nextToken_198 : decode cX12_nextToken 198 = .ok (.goto 20, 3) := by decide +kernel
theorem dX12_nextToken_201 : decode cX12_nextToken 201 = .ok (.aload_n 0, 1) := by decide +kernel
theorem dX12_nextToken_202 : decode cX12_nextToken 202 = .ok (.getfield 139, 3) := by decide +kernel
theorem dX12_nextToken_205 : decode cX12_nextToken 205 = .ok (.bipush 8, 2) := by decide +kernel
theorem dX12_nextToken_207 : decode cX12_nextToken 207 = .ok (.lshl, 1) := by decide +kernel
theorem dX12_nextToken_208 : decode cX12_nextToken 208 = .ok (.aload_n 0, 1) := by decide +kernel
theorem dX12_nextToken_209 : decode cX12_nextToken 209 = .ok (.aload_n 0, 1) := by decide +kernel
theorem dX12_nextToken_210 : decode cX12_nextToken 210 = .ok (.getfield 116, 3) := by decide +kernel
theorem dX12_nextToken_213 : decode cX12_nextToken 213 = .ok (.invokevirtual 119, 3) := by decide +kernel
theorem dX12_nextToken_216 : decode cX12_nextToken 216 = .ok (.i2l, 1) := by decide +kernel
theorem dX12_nextToken_217 : decode cX12_nextToken 217 = .ok (.lor, 1) := by decide +kernel
theorem dX12_nextToken_218 : decode cX12_nextToken 218 = .ok (.putfield 139, 3) := by decide +kernel
theorem dX12_nextToken_221 : decode cX12_nextToken 221 = .ok (.aload_n 0, 1) := by decide +kernel
theorem dX12_nextToken_222 : decode cX12_nextToken 222 = .ok (.dup, 1) := by decide +kernel
theorem dX12_nextToken_223 : decode cX12_nextToken 223 = .ok (.getfield 116, 3) := by decide +kernel
theorem dX12_nextToken_226 : decode cX12_nextToken 226 = .ok (.iconst 1, 1) := by decide +kernel
theorem dX12_nextToken_227 : decode cX12_nextToken 227 = .ok (.iadd, 1) := by decide +kernel
theorem dX12_nextToken_228 : decode cX12_nextToken 228 = .ok (.putfield 116, 3) := by decide +kernel
theorem dX12_nextToken_231 : decode cX12_nextToken 231 = .ok (.goto (-63), 3) := by decide +kernel
theorem dX12_nextToken_234 : decode cX12_nextToken 234 = .ok (.aload_n 0, 1) := by decide +kernel
theorem dX12_nextToken_235 : decode cX12_nextToken 235 = .ok (.iload_n 1, 1) := by decide +kernel
theorem dX12_nextToken_236 : decode cX12_nextToken 236 = .ok (.invokestatic 145, 3) := by decide +kernel
theorem dX12_nextToken_239 : decode cX12_nextToken 239 = .ok (.ifCond .eq 7, 3) := by decide +kernel
theorem dX12_nextToken_242 : decode cX12_nextToken 242 = .ok (.iload_n 1, 1) := by decide +kernel
theorem dX12_nextToken_243 : decode cX12_nextToken 243 = .ok (.goto 4, 3) := by decide +kernel
theorem dX12_nextToken_246 : decode cX12_nextToken 246 = .ok (.iconst 3, 1) := by decide +kernel
theorem dX12_nextToken_247 : decode cX12_nextToken 247 = .ok (.putfield 126, 3) := by decide +kernel
theorem dX12_nextToken_250 : decode cX12_nextToken 250 = .ok (.aload_n 0, 1) := by decide +kernel
theorem dX12_nextToken_251 : decode cX12_nextToken 251 = .ok (.dup, 1) := by decide +kernel
theorem dX12_nextToken_252 : decode cX12_nextToken 252 = .ok (.getfield 116, 3) := by decide +kernel
theorem dX12_nextToken_255 : decode cX12_nextToken 255 = .ok (.iconst 1, 1) := by decide +kernel
theorem dX12_nextToken_256 : decode cX12_nextToken 256 = .ok (.iadd, 1) := by decide +kernel
theorem dX12_nextToken_257 : decode cX12_nextToken 257 = .ok (.putfield 116, 3) := by decide +kernel
theorem dX12_nextToken_260 : decode cX12_nextToken 260 = .ok (.iload_n 1, 1) := by decide +kernel
theorem dX12_nextToken_261 : decode cX12_nextToken 261 = .ok (.bipush 60, 2) := by decide +kernel
theorem dX12_nextToken_263 : decode cX12_nextToken 263 = .ok (.if_icmp .eq 9, 3) := by decide +kernel
theorem dX12_nextToken_266 : decode cX12_nextToken 266 = .ok (.iload_n 1, 1) := by decide +kernel
theorem dX12_nextToken_267 : decode cX12_nextToken 267 = .ok (.bipush 62, 2) := by decide +kernel
theorem dX12_nextToken_269 : decode cX12_nextToken 269 = .ok (.if_icmp .ne 41, 3) := by decide +kernel
theorem dX12_nextToken_272 : decode cX12_nextToken 272 = .ok (.aload_n 0, 1) := by decide +kernel
theorem dX12_nextToken_273 : decode cX12_nextToken 273 = .ok (.aload_n 0, 1) := by decide +kernel
theorem dX12_nextToken_274 : decode cX12_nextToken 274 = .ok (.getfield 116, 3) := by decide +kernel
theorem dX12_nextToken_277 : decode cX12_nextToken 277 = .ok (.invokevirtual 119, 3) := by decide +kernel
theorem dX12_nextToken_280 : decode cX12_nextToken 280 = .ok (.bipush 61, 2) := by decide +kernel
theorem dX12_nextToken_282 : decode cX12_nextToken 282 = .ok (.if_icmp .ne 28, 3) := by decide +kernel
theorem dX12_nextToken_285 : decode cX12_nextToken 285 = .ok (.aload_n 0, 1) := by decide +kernel
theorem dX12_nextToken_286 : decode cX12_nextToken 286 = .ok (.iload_n 1, 1) := by decide +kernel
theorem dX12_nextToken_287 : decode cX12_nextToken 287 = .ok (.bipush 60, 2) := by decide +kernel
theorem dX12_nextToken_289 : decode cX12_nextToken 289 = .ok (.if_icmp .ne 7, 3) := by decide +kernel
theorem dX12_nextToken_292 : decode cX12_nextToken 292 = .ok (.iconst 4, 1) := by decide +kernel
theorem dX12_nextToken_293 : decode cX12_nextToken 293 = .ok (.goto 4, 3) := by decide +kernel
theorem dX12_nextToken_296 : decode cX12_nextToken 296 = .ok (.iconst 5, 1) := by decide +kernel
theorem dX12_nextToken_297 : decode cX12_nextToken 297 = .ok (.putfield 126, 3) := by decide +kernel
theorem dX12_nextToken_300 : decode cX12_nextToken 300 = .ok (.aload_n 0, 1) := by decide +kernel
theorem dX12_nextToken_301 : decode cX12_nextToken 301 = .ok (.dup, 1) := by decide +kernel
theorem dX12_nextToken_302 : decode cX12_nextToken 302 = .ok (.getfield 116, 3) := by decide +kernel
theorem dX12_nextToken_305 : decode cX12_nextToken 305 = .ok (.iconst 1, 1) := by decide +kernel
theorem dX12_nextToken_306 : decode cX12_nextToken 306 = .ok (.iadd, 1) := by decide +kernel
theorem dX12_nextToken_307 : decode cX12_nextToken 307 = .ok (.putfield 116, 3) := by decide +kernel
theorem dX12_nextToken_310 : decode cX12_nextToken 310 = .ok (.return_, 1) := by decide +kernel
theorem dX12_w2_0 : decode cX12_w2 0 = .ok (.iload_n 0, 1) := by decide +kernel
theorem dX12_w2_1 : decode cX12_w2 1 = .ok (.i2l, 1) := by decide +kernel
theorem dX12_w2_2 : decode cX12_w2 2 = .ok (.bipush 8, 2) := by decide +kernel
theorem dX12_w2_4 : decode cX12_w2 4 = .ok (.lshl, 1) := by decide +kernel
theorem dX12_w2_5 : decode cX12_w2 5 = .ok (.iload_n 1, 1) := by decide +kernel
theorem dX12_w2_6 : decode cX12_w2 6 = .ok (.i2l, 1) := by decide +kernel
theorem dX12_w2_7 : decode cX12_w2 7 = .ok (.lor, 1) := by decide +kernel
theorem dX12_w2_8 : decode cX12_w2 8 = .ok (.lreturn, 1) := by decide +kernel
theorem dX12_w3_0 : decode cX12_w3 0 = .ok (.iload_n 0, 1) := by decide +kernel
theorem dX12_w3_1 : decode cX12_w3 1 = .ok (.iload_n 1, 1) := by decide +kernel
theorem dX12_w3_2 : decode cX12_w3 2 = .ok (.invokestatic 148, 3) := by decide +kernel
theorem dX12_w3_5 : decode cX12_w3 5 = .ok (.bipush 8, 2) := by decide +kernel
theorem dX12_w3_7 : decode cX12_w3 7 = .ok (.lshl, 1) := by decide +kernel
theorem dX12_w3_8 : decode cX12_w3 8 = .ok (.iload_n 2, 1) := by decide +kernel
theorem dX12_w3_9 : decode cX12_w3 9 = .ok (.i2l, 1) := by decide +kernel
theorem dX12_w3_10 : decode cX12_w3 10 = .ok (.lor, 1) := by decide +kernel
theorem dX12_w3_11 : decode cX12_w3 11 = .ok (.lreturn, 1) := by decide +kernel
theorem dX12_w4_0 : decode cX12_w4 0 = .ok (.iload_n 0, 1) := by decide +kernel
theorem dX12_w4_1 : decode cX12_w4 1 = .ok (.iload_n 1, 1) := by decide +kernel
theorem dX12_w4_2 : decode cX12_w4 2 = .ok (.iload_n 2, 1) := by decide +kernel
theorem dX12_w4_3 : decode cX12_w4 3 = .ok (.invokestatic 152, 3) := by decide +kernel
theorem dX12_w4_6 : decode cX12_w4 6 = .ok (.bipush 8, 2) := by decide +kernel
theorem dX12_w4_8 : decode cX12_w4 8 = .ok (.lshl, 1) := by decide +kernel
theorem dX12_w4_9 : decode cX12_w4 9 = .ok (.iload_n 3, 1) := by decide +kernel
theorem dX12_w4_10 : decode cX12_w4 10 = .ok (.i2l, 1) := by decide +kernel
theorem dX12_w4_11 : decode cX12_w4 11 = .ok (.lor, 1) := by decide +kernel
theorem dX12_w4_12 : decode cX12_w4 12 = .ok (.lreturn, 1) := by decide +kernel
theorem dX12_w5_0 : decode cX12_w5 0 = .ok (.iload_n 0, 1) := by decide +kernel
theorem dX12_w5_1 : decode cX12_w5 1 = .ok (.iload_n 1, 1) := by decide +kernel
theorem dX12_w5_2 : decode cX12_w5 2 = .ok (.iload_n 2, 1) := by decide +kernel
theorem dX12_w5_3 : decode cX12_w5 3 = .ok (.iload_n 3, 1) := by decide +kernel
theorem dX12_w5_4 : decode cX12_w5 4 = .ok (.invokestatic 156, 3) := by decide +kernel
theorem dX12_w5_7 : decode cX12_w5 7 = .ok (.bipush 8, 2) := by decide +kernel
theorem dX12_w5_9 : decode cX12_w5 9 = .ok (.lshl, 1) := by decide +kernel
theorem dX12_w5_10 : decode cX12_w5 10 = .ok (.iload 4, 2) := by decide +kernel
theorem dX12_w5_12 : decode cX12_w5 12 = .ok (.i2l, 1) := by decide +kernel
theorem dX12_w5_13 : decode cX12_w5 13 = .ok (.lor, 1) := by decide +kernel
theorem dX12_w5_14 : decode cX12_w5 14 = .ok (.lreturn, 1) := by decide +kernel
theorem dX12_w6_0 : decode cX12_w6 0 = .ok (.iload_n 0, 1) := by decide +kernel
theorem dX12_w6_1 : decode cX12_w6 1 = .ok (.iload_n 1, 1) := by decide +kernel
theorem dX12_w6_2 : decode cX12_w6 2 = .ok (.iload_n 2, 1) := by decide +kernel
theorem dX12_w6_3 : decode cX12_w6 3 = .ok (.iload_n 3, 1) := by decide +kernel
theorem dX12_w6_4 : decode cX12_w6 4 = .ok (.iload 4, 2) := by decide +kernel
theorem dX12_w6_6 : decode cX12_w6 6 = .ok (.invokestatic 160, 3) := by decide +kernel
theorem dX12_w6_9 : decode cX12_w6 9 = .ok (.bipush 8, 2) := by decide +kernel
theorem dX12_w6_11 : decode cX12_w6 11 = .ok (.lshl, 1) := by decide +kernel
theorem dX12_w6_12 : decode cX12_w6 12 = .ok (.iload 5, 2) := by decide +kernel
theorem dX12_w6_14 : decode cX12_w6 14 = .ok (.i2l, 1) := by decide +kernel
theorem dX12_w6_15 : decode cX12_w6 15 = .ok (.lor, 1) := by decide +kernel
theorem dX12_w6_16 : decode cX12_w6 16 = .ok (.lreturn, 1) := by decide +kernel
theorem dX12_isWord_0 : decode cX12_isWord 0 = .ok (.aload_n 0, 1) := by decide +kernel
theorem dX12_isWord_1 : decode cX12_isWord 1 = .ok (.getfield 126, 3) := by decide +kernel
theorem dX12_isWord_4 : decode cX12_isWord 4 = .ok (.iconst 2, 1) := by decide +kernel
theorem dX12_isWord_5 : decode cX12_isWord 5 = .ok (.if_icmp .ne 16, 3) := by decide +kernel
theorem dX12_isWord_8 : decode cX12_isWord 8 = .ok (.aload_n 0, 1) := by decide +kernel
theorem dX12_isWord_9 : decode cX12_isWord 9 = .ok (.getfield 139, 3) := by decide +kernel
theorem dX12_isWord_12 : decode cX12_isWord 12 = .ok (.lload_n 1, 1) := by decide +kernel
theorem dX12_isWord_13 : decode cX12_isWord 13 = .ok (.lcmp, 1) := by decide +kernel
theorem dX12_isWord_14 : decode cX12_isWord 14 = .ok (.ifCond .ne 7, 3) := by decide +kernel
theorem dX12_isWord_17 : decode cX12_isWord 17 = .ok (.iconst 1, 1) := by decide +kernel
theorem dX12_isWord_18 : decode cX12_isWord 18 = .ok (.goto 4, 3) := by decide +kernel
theorem dX12_isWord_21 : decode cX12_isWord 21 = .ok (.iconst 0, 1) := by decide +kernel
theorem dX12_isWord_22 : decode cX12_isWord 22 = .ok (.ireturn, 1) := by decide +kernel
theorem dX12_emit_0 : decode cX12_emit 0 = .ok (.aload_n 0, 1) := by decide +kernel
theorem dX12_emit_1 : decode cX12_emit 1 = .ok (.getfield 16, 3) := by decide +kernel
theorem dX12_emit_4 : decode cX12_emit 4 = .ok (.aload_n 0, 1) := by decide +kernel
theorem dX12_emit_5 : decode cX12_emit 5 = .ok (.getfield 164, 3) := by decide +kernel
theorem dX12_emit_8 : decode cX12_emit 8 = .ok (.bipush 121, 2) := by decide +kernel
theorem dX12_emit_10 : decode cX12_emit 10 = .ok (.iadd, 1) := by decide +kernel
theorem dX12_emit_11 : decode cX12_emit 11 = .ok (.iconst 2, 1) := by decide +kernel
theorem dX12_emit_12 : decode cX12_emit 12 = .ok (.aload_n 0, 1) := by decide +kernel
theorem dX12_emit_13 : decode cX12_emit 13 = .ok (.getfield 167, 3) := by decide +kernel
theorem dX12_emit_16 : decode cX12_emit 16 = .ok (.imul, 1) := by decide +kernel
theorem dX12_emit_17 : decode cX12_emit 17 = .ok (.iadd, 1) := by decide +kernel
theorem dX12_emit_18 : decode cX12_emit 18 = .ok (.iload_n 1, 1) := by decide +kernel
theorem dX12_emit_19 : decode cX12_emit 19 = .ok (.iastore, 1) := by decide +kernel
theorem dX12_emit_20 : decode cX12_emit 20 = .ok (.aload_n 0, 1) := by decide +kernel
theorem dX12_emit_21 : decode cX12_emit 21 = .ok (.getfield 16, 3) := by decide +kernel
theorem dX12_emit_24 : decode cX12_emit 24 = .ok (.aload_n 0, 1) := by decide +kernel
theorem dX12_emit_25 : decode cX12_emit 25 = .ok (.getfield 164, 3) := by decide +kernel
theorem dX12_emit_28 : decode cX12_emit 28 = .ok (.bipush 121, 2) := by decide +kernel
theorem dX12_emit_30 : decode cX12_emit 30 = .ok (.iadd, 1) := by decide +kernel
theorem dX12_emit_31 : decode cX12_emit 31 = .ok (.iconst 2, 1) := by decide +kernel
theorem dX12_emit_32 : decode cX12_emit 32 = .ok (.aload_n 0, 1) := by decide +kernel
theorem dX12_emit_33 : decode cX12_emit 33 = .ok (.getfield 167, 3) := by decide +kernel
theorem dX12_emit_36 : decode cX12_emit 36 = .ok (.imul, 1) := by decide +kernel
theorem dX12_emit_37 : decode cX12_emit 37 = .ok (.iadd, 1) := by decide +kernel
theorem dX12_emit_38 : decode cX12_emit 38 = .ok (.iconst 1, 1) := by decide +kernel
theorem dX12_emit_39 : decode cX12_emit 39 = .ok (.iadd, 1) := by decide +kernel
theorem dX12_emit_40 : decode cX12_emit 40 = .ok (.iload_n 2, 1) := by decide +kernel
theorem dX12_emit_41 : decode cX12_emit 41 = .ok (.iastore, 1) := by decide +kernel
theorem dX12_emit_42 : decode cX12_emit 42 = .ok (.aload_n 0, 1) := by decide +kernel
theorem dX12_emit_43 : decode cX12_emit 43 = .ok (.dup, 1) := by decide +kernel
theorem dX12_emit_44 : decode cX12_emit 44 = .ok (.getfield 167, 3) := by decide +kernel
theorem dX12_emit_47 : decode cX12_emit 47 = .ok (.iconst 1, 1) := by decide +kernel
theorem dX12_emit_48 : decode cX12_emit 48 = .ok (.iadd, 1) := by decide +kernel
theorem dX12_emit_49 : decode cX12_emit 49 = .ok (.putfield 167, 3) := by decide +kernel
theorem dX12_emit_52 : decode cX12_emit 52 = .ok (.return_, 1) := by decide +kernel
theorem dX12_nameOf_0 : decode cX12_nameOf 0 = .ok (.aload_n 0, 1) := by decide +kernel
theorem dX12_nameOf_1 : decode cX12_nameOf 1 = .ok (.getfield 126, 3) := by decide +kernel
theorem dX12_nameOf_4 : decode cX12_nameOf 4 = .ok (.iconst 2, 1) := by decide +kernel
theorem dX12_nameOf_5 : decode cX12_nameOf 5 = .ok (.if_icmp .eq 5, 3) := by decide +kernel
theorem dX12_nameOf_8 : decode cX12_nameOf 8 = .ok (.iconst (-1), 1) := by decide +kernel
theorem dX12_nameOf_9 : decode cX12_nameOf 9 = .ok (.ireturn, 1) := by decide +kernel
theorem dX12_nameOf_10 : decode cX12_nameOf 10 = .ok (.aload_n 0, 1) := by decide +kernel
theorem dX12_nameOf_11 : decode cX12_nameOf 11 = .ok (.getfield 139, 3) := by decide +kernel
theorem dX12_nameOf_14 : decode cX12_nameOf 14 = .ok (.bipush 104, 2) := by decide +kernel
theorem dX12_nameOf_16 : decode cX12_nameOf 16 = .ok (.bipush 111, 2) := by decide +kernel
theorem dX12_nameOf_18 : decode cX12_nameOf 18 = .ok (.bipush 117, 2) := by decide +kernel
theorem dX12_nameOf_20 : decode cX12_nameOf 20 = .ok (.bipush 114, 2) := by decide +kernel
theorem dX12_nameOf_22 : decode cX12_nameOf 22 = .ok (.invokestatic 156, 3) := by decide +kernel
theorem dX12_nameOf_25 : decode cX12_nameOf 25 = .ok (.lcmp, 1) := by decide +kernel
theorem dX12_nameOf_26 : decode cX12_nameOf 26 = .ok (.ifCond .ne 5, 3) := by decide +kernel
theorem dX12_nameOf_29 : decode cX12_nameOf 29 = .ok (.iconst 0, 1) := by decide +kernel
theorem dX12_nameOf_30 : decode cX12_nameOf 30 = .ok (.ireturn, 1) := by decide +kernel
theorem dX12_nameOf_31 : decode cX12_nameOf 31 = .ok (.aload_n 0, 1) := by decide +kernel
theorem dX12_nameOf_32 : decode cX12_nameOf 32 = .ok (.getfield 139, 3) := by decide +kernel
theorem dX12_nameOf_35 : decode cX12_nameOf 35 = .ok (.bipush 115, 2) := by decide +kernel
theorem dX12_nameOf_37 : decode cX12_nameOf 37 = .ok (.bipush 116, 2) := by decide +kernel
theorem dX12_nameOf_39 : decode cX12_nameOf 39 = .ok (.bipush 101, 2) := by decide +kernel
theorem dX12_nameOf_41 : decode cX12_nameOf 41 = .ok (.bipush 112, 2) := by decide +kernel
theorem dX12_nameOf_43 : decode cX12_nameOf 43 = .ok (.invokestatic 156, 3) := by decide +kernel
theorem dX12_nameOf_46 : decode cX12_nameOf 46 = .ok (.lcmp, 1) := by decide +kernel
theorem dX12_nameOf_47 : decode cX12_nameOf 47 = .ok (.ifCond .ne 5, 3) := by decide +kernel
theorem dX12_nameOf_50 : decode cX12_nameOf 50 = .ok (.iconst 1, 1) := by decide +kernel
theorem dX12_nameOf_51 : decode cX12_nameOf 51 = .ok (.ireturn, 1) := by decide +kernel
theorem dX12_nameOf_52 : decode cX12_nameOf 52 = .ok (.aload_n 0, 1) := by decide +kernel
theorem dX12_nameOf_53 : decode cX12_nameOf 53 = .ok (.getfield 139, 3) := by decide +kernel
theorem dX12_nameOf_56 : decode cX12_nameOf 56 = .ok (.bipush 104, 2) := by decide +kernel
theorem dX12_nameOf_58 : decode cX12_nameOf 58 = .ok (.bipush 105, 2) := by decide +kernel
theorem dX12_nameOf_60 : decode cX12_nameOf 60 = .ok (.bipush 103, 2) := by decide +kernel
theorem dX12_nameOf_62 : decode cX12_nameOf 62 = .ok (.bipush 104, 2) := by decide +kernel
theorem dX12_nameOf_64 : decode cX12_nameOf 64 = .ok (.invokestatic 156, 3) := by decide +kernel
theorem dX12_nameOf_67 : decode cX12_nameOf 67 = .ok (.lcmp, 1) := by decide +kernel
theorem dX12_nameOf_68 : decode cX12_nameOf 68 = .ok (.ifCond .ne 5, 3) := by decide +kernel
theorem dX12_nameOf_71 : decode cX12_nameOf 71 = .ok (.iconst 2, 1) := by decide +kernel
theorem dX12_nameOf_72 : decode cX12_nameOf 72 = .ok (.ireturn, 1) := by decide +kernel
theorem dX12_nameOf_73 : decode cX12_nameOf 73 = .ok (.aload_n 0, 1) := by decide +kernel
theorem dX12_nameOf_74 : decode cX12_nameOf 74 = .ok (.getfield 139, 3) := by decide +kernel
theorem dX12_nameOf_77 : decode cX12_nameOf 77 = .ok (.bipush 115, 2) := by decide +kernel
theorem dX12_nameOf_79 : decode cX12_nameOf 79 = .ok (.bipush 105, 2) := by decide +kernel
theorem dX12_nameOf_81 : decode cX12_nameOf 81 = .ok (.bipush 108, 2) := by decide +kernel
theorem dX12_nameOf_83 : decode cX12_nameOf 83 = .ok (.bipush 108, 2) := by decide +kernel
theorem dX12_nameOf_85 : decode cX12_nameOf 85 = .ok (.invokestatic 156, 3) := by decide +kernel
theorem dX12_nameOf_88 : decode cX12_nameOf 88 = .ok (.lcmp, 1) := by decide +kernel
theorem dX12_nameOf_89 : decode cX12_nameOf 89 = .ok (.ifCond .ne 5, 3) := by decide +kernel
theorem dX12_nameOf_92 : decode cX12_nameOf 92 = .ok (.iconst 3, 1) := by decide +kernel
theorem dX12_nameOf_93 : decode cX12_nameOf 93 = .ok (.ireturn, 1) := by decide +kernel
theorem dX12_nameOf_94 : decode cX12_nameOf 94 = .ok (.aload_n 0, 1) := by decide +kernel
theorem dX12_nameOf_95 : decode cX12_nameOf 95 = .ok (.getfield 139, 3) := by decide +kernel
theorem dX12_nameOf_98 : decode cX12_nameOf 98 = .ok (.bipush 119, 2) := by decide +kernel
theorem dX12_nameOf_100 : decode cX12_nameOf 100 = .ok (.bipush 97, 2) := by decide +kernel
theorem dX12_nameOf_102 : decode cX12_nameOf 102 = .ok (.bipush 116, 2) := by decide +kernel
theorem dX12_nameOf_104 : decode cX12_nameOf 104 = .ok (.bipush 101, 2) := by decide +kernel
theorem dX12_nameOf_106 : decode cX12_nameOf 106 = .ok (.bipush 114, 2) := by decide +kernel
theorem dX12_nameOf_108 : decode cX12_nameOf 108 = .ok (.invokestatic 160, 3) := by decide +kernel
theorem dX12_nameOf_111 : decode cX12_nameOf 111 = .ok (.lcmp, 1) := by decide +kernel
theorem dX12_nameOf_112 : decode cX12_nameOf 112 = .ok (.ifCond .ne 5, 3) := by decide +kernel
theorem dX12_nameOf_115 : decode cX12_nameOf 115 = .ok (.iconst 4, 1) := by decide +kernel
theorem dX12_nameOf_116 : decode cX12_nameOf 116 = .ok (.ireturn, 1) := by decide +kernel
theorem dX12_nameOf_117 : decode cX12_nameOf 117 = .ok (.aload_n 0, 1) := by decide +kernel
theorem dX12_nameOf_118 : decode cX12_nameOf 118 = .ok (.getfield 139, 3) := by decide +kernel
theorem dX12_nameOf_121 : decode cX12_nameOf 121 = .ok (.bipush 102, 2) := by decide +kernel
theorem dX12_nameOf_123 : decode cX12_nameOf 123 = .ok (.bipush 105, 2) := by decide +kernel
theorem dX12_nameOf_125 : decode cX12_nameOf 125 = .ok (.bipush 115, 2) := by decide +kernel
theorem dX12_nameOf_127 : decode cX12_nameOf 127 = .ok (.bipush 104, 2) := by decide +kernel
theorem dX12_nameOf_129 : decode cX12_nameOf 129 = .ok (.invokestatic 156, 3) := by decide +kernel
theorem dX12_nameOf_132 : decode cX12_nameOf 132 = .ok (.lcmp, 1) := by decide +kernel
theorem dX12_nameOf_133 : decode cX12_nameOf 133 = .ok (.ifCond .ne 5, 3) := by decide +kernel
theorem dX12_nameOf_136 : decode cX12_nameOf 136 = .ok (.iconst 5, 1) := by decide +kernel
theorem dX12_nameOf_137 : decode cX12_nameOf 137 = .ok (.ireturn, 1) := by decide +kernel
theorem dX12_nameOf_138 : decode cX12_nameOf 138 = .ok (.aload_n 0, 1) := by decide +kernel
theorem dX12_nameOf_139 : decode cX12_nameOf 139 = .ok (.getfield 139, 3) := by decide +kernel
theorem dX12_nameOf_142 : decode cX12_nameOf 142 = .ok (.bipush 119, 2) := by decide +kernel
theorem dX12_nameOf_144 : decode cX12_nameOf 144 = .ok (.bipush 111, 2) := by decide +kernel
theorem dX12_nameOf_146 : decode cX12_nameOf 146 = .ok (.bipush 114, 2) := by decide +kernel
theorem dX12_nameOf_148 : decode cX12_nameOf 148 = .ok (.bipush 110, 2) := by decide +kernel
theorem dX12_nameOf_150 : decode cX12_nameOf 150 = .ok (.invokestatic 156, 3) := by decide +kernel
theorem dX12_nameOf_153 : decode cX12_nameOf 153 = .ok (.lcmp, 1) := by decide +kernel
theorem dX12_nameOf_154 : decode cX12_nameOf 154 = .ok (.ifCond .ne 6, 3) := by decide +kernel
theorem dX12_nameOf_157 : decode cX12_nameOf 157 = .ok (.bipush 6, 2) := by decide +kernel
theorem dX12_nameOf_159 : decode cX12_nameOf 159 = .ok (.ireturn, 1) := by decide +kernel
theorem dX12_nameOf_160 : decode cX12_nameOf 160 = .ok (.aload_n 0, 1) := by decide +kernel
theorem dX12_nameOf_161 : decode cX12_nameOf 161 = .ok (.getfield 139, 3) := by decide +kernel
theorem dX12_nameOf_164 : decode cX12_nameOf 164 = .ok (.bipush 119, 2) := by decide +kernel
theorem dX12_nameOf_166 : decode cX12_nameOf 166 = .ok (.bipush 101, 2) := by decide +kernel
theorem dX12_nameOf_168 : decode cX12_nameOf 168 = .ok (.bipush 105, 2) := by decide +kernel
theorem dX12_nameOf_170 : decode cX12_nameOf 170 = .ok (.bipush 103, 2) := by decide +kernel
theorem dX12_nameOf_172 : decode cX12_nameOf 172 = .ok (.bipush 104, 2) := by decide +kernel
theorem dX12_nameOf_174 : decode cX12_nameOf 174 = .ok (.bipush 116, 2) := by decide +kernel
theorem dX12_nameOf_176 : decode cX12_nameOf 176 = .ok (.invokestatic 170, 3) := by decide +kernel
theorem dX12_nameOf_179 : decode cX12_nameOf 179 = .ok (.lcmp, 1) := by decide +kernel
theorem dX12_nameOf_180 : decode cX12_nameOf 180 = .ok (.ifCond .ne 8, 3) := by decide +kernel
theorem dX12_nameOf_183 : decode cX12_nameOf 183 = .ok (.bipush 7, 2) := by decide +kernel
theorem dX12_nameOf_185 : decode cX12_nameOf 185 = .ok (.goto 30, 3) := by decide +kernel
theorem dX12_nameOf_188 : decode cX12_nameOf 188 = .ok (.aload_n 0, 1) := by decide +kernel
theorem dX12_nameOf_189 : decode cX12_nameOf 189 = .ok (.getfield 139, 3) := by decide +kernel
theorem dX12_nameOf_192 : decode cX12_nameOf 192 = .ok (.bipush 111, 2) := by decide +kernel
theorem dX12_nameOf_194 : decode cX12_nameOf 194 = .ok (.bipush 116, 2) := by decide +kernel
theorem dX12_nameOf_196 : decode cX12_nameOf 196 = .ok (.bipush 104, 2) := by decide +kernel
theorem dX12_nameOf_198 : decode cX12_nameOf 198 = .ok (.bipush 101, 2) := by decide +kernel
theorem dX12_nameOf_200 : decode cX12_nameOf 200 = .ok (.bipush 114, 2) := by decide +kernel
theorem dX12_nameOf_202 : decode cX12_nameOf 202 = .ok (.invokestatic 160, 3) := by decide +kernel
theorem dX12_nameOf_205 : decode cX12_nameOf 205 = .ok (.lcmp, 1) := by decide +kernel
theorem dX12_nameOf_206 : decode cX12_nameOf 206 = .ok (.ifCond .ne 8, 3) := by decide +kernel
theorem dX12_nameOf_209 : decode cX12_nameOf 209 = .ok (.bipush 8, 2) := by decide +kernel
theorem dX12_nameOf_211 : decode cX12_nameOf 211 = .ok (.goto 4, 3) := by decide +kernel
theorem dX12_nameOf_214 : decode cX12_nameOf 214 = .ok (.iconst (-1), 1) := by decide +kernel
theorem dX12_nameOf_215 : decode cX12_nameOf 215 = .ok (.ireturn, 1) := by decide +kernel
theorem dX12_isOf_0 : decode cX12_isOf 0 = .ok (.iload_n 1, 1) := by decide +kernel
theorem dX12_isOf_1 : decode cX12_isOf 1 = .ok (.bipush 7, 2) := by decide +kernel
theorem dX12_isOf_3 : decode cX12_isOf 3 = .ok (.if_icmp .lt 28, 3) := by decide +kernel
theorem dX12_isOf_6 : decode cX12_isOf 6 = .ok (.iload_n 1, 1) := by decide +kernel
theorem dX12_isOf_7 : decode cX12_isOf 7 = .ok (.bipush 7, 2) := by decide +kernel
theorem dX12_isOf_9 : decode cX12_isOf 9 = .ok (.if_icmp .ne 14, 3) := by decide +kernel
theorem dX12_isOf_12 : decode cX12_isOf 12 = .ok (.aload_n 0, 1) := by decide +kernel
theorem dX12_isOf_13 : decode cX12_isOf 13 = .ok (.getfield 174, 3) := by decide +kernel
theorem dX12_isOf_16 : decode cX12_isOf 16 = .ok (.iconst 3, 1) := by decide +kernel
theorem dX12_isOf_17 : decode cX12_isOf 17 = .ok (.if_icmp .eq 18, 3) := by decide +kernel
theorem dX12_isOf_20 : decode cX12_isOf 20 = .ok (.goto 11, 3) := by decide +kernel
theorem dX12_isOf_23 : decode cX12_isOf 23 = .ok (.aload_n 0, 1) := by decide +kernel
theorem dX12_isOf_24 : decode cX12_isOf 24 = .ok (.getfield 174, 3) := by decide +kernel
theorem dX12_isOf_27 : decode cX12_isOf 27 = .ok (.iconst 1, 1) := by decide +kernel
theorem dX12_isOf_28 : decode cX12_isOf 28 = .ok (.if_icmp .ne 7, 3) := by decide +kernel
theorem dX12_isOf_31 : decode cX12_isOf 31 = .ok (.iconst 1, 1) := by decide +kernel
theorem dX12_isOf_32 : decode cX12_isOf 32 = .ok (.goto 4, 3) := by decide +kernel
theorem dX12_isOf_35 : decode cX12_isOf 35 = .ok (.iconst 0, 1) := by decide +kernel
theorem dX12_isOf_36 : decode cX12_isOf 36 = .ok (.ireturn, 1) := by decide +kernel
theorem dX12_rank_0 : decode cX12_rank 0 = .ok (.iload_n 0, 1) := by decide +kernel
theorem dX12_rank_1 : decode cX12_rank 1 = .ok (.bipush 40, 2) := by decide +kernel
theorem dX12_rank_3 : decode cX12_rank 3 = .ok (.if_icmp .lt 7, 3) := by decide +kernel
theorem dX12_rank_6 : decode cX12_rank 6 = .ok (.iconst 0, 1) := by decide +kernel
theorem dX12_rank_7 : decode cX12_rank 7 = .ok (.goto 65, 3) := by decide +kernel
theorem dX12_rank_10 : decode cX12_rank 10 = .ok (.iload_n 0, 1) := by decide +kernel
theorem dX12_rank_11 : decode cX12_rank 11 = .ok (.bipush 22, 2) := by decide +kernel
theorem dX12_rank_13 : decode cX12_rank 13 = .ok (.if_icmp .ne 7, 3) := by decide +kernel
theorem dX12_rank_16 : decode cX12_rank 16 = .ok (.iconst 1, 1) := by decide +kernel
theorem dX12_rank_17 : decode cX12_rank 17 = .ok (.goto 55, 3) := by decide +kernel
theorem dX12_rank_20 : decode cX12_rank 20 = .ok (.iload_n 0, 1) := by decide +kernel
theorem dX12_rank_21 : decode cX12_rank 21 = .ok (.bipush 21, 2) := by decide +kernel
theorem dX12_rank_23 : decode cX12_rank 23 = .ok (.if_icmp .ne 7, 3) := by decide +kernel
theorem dX12_rank_26 : decode cX12_rank 26 = .ok (.iconst 2, 1) := by decide +kernel
theorem dX12_rank_27 : decode cX12_rank 27 = .ok (.goto 45, 3) := by decide +kernel
theorem dX12_rank_30 : decode cX12_rank 30 = .ok (.iload_n 0, 1) := by decide +kernel
theorem dX12_rank_31 : decode cX12_rank 31 = .ok (.bipush 20, 2) := by decide +kernel
theorem dX12_rank_33 : decode cX12_rank 33 = .ok (.if_icmp .ne 7, 3) := by decide +kernel
theorem dX12_rank_36 : decode cX12_rank 36 = .ok (.iconst 3, 1) := by decide +kernel
theorem dX12_rank_37 : decode cX12_rank 37 = .ok (.goto 35, 3) := by decide +kernel
theorem dX12_rank_40 : decode cX12_rank 40 = .ok (.iload_n 0, 1) := by decide +kernel
theorem dX12_rank_41 : decode cX12_rank 41 = .ok (.bipush 10, 2) := by decide +kernel
theorem dX12_rank_43 : decode cX12_rank 43 = .ok (.if_icmp .lt 7, 3) := by decide +kernel
theorem dX12_rank_46 : decode cX12_rank 46 = .ok (.iconst 4, 1) := by decide +kernel
theorem dX12_rank_47 : decode cX12_rank 47 = .ok (.goto 25, 3) := by decide +kernel
theorem dX12_rank_50 : decode cX12_rank 50 = .ok (.iload_n 0, 1) := by decide +kernel
theorem dX12_rank_51 : decode cX12_rank 51 = .ok (.iconst 4, 1) := by decide +kernel
theorem dX12_rank_52 : decode cX12_rank 52 = .ok (.if_icmp .ne 8, 3) := by decide +kernel
theorem dX12_rank_55 : decode cX12_rank 55 = .ok (.bipush 7, 2) := by decide +kernel
theorem dX12_rank_57 : decode cX12_rank 57 = .ok (.goto 15, 3) := by decide +kernel
theorem dX12_rank_60 : decode cX12_rank 60 = .ok (.iload_n 0, 1) := by decide +kernel
theorem dX12_rank_61 : decode cX12_rank 61 = .ok (.bipush 7, 2) := by decide +kernel
theorem dX12_rank_63 : decode cX12_rank 63 = .ok (.if_icmp .lt 8, 3) := by decide +kernel
theorem dX12_rank_66 : decode cX12_rank 66 = .ok (.bipush 6, 2) := by decide +kernel
theorem dX12_rank_68 : decode cX12_rank 68 = .ok (.goto 4, 3) := by decide +kernel
theorem dX12_rank_71 : decode cX12_rank 71 = .ok (.iconst 5, 1) := by decide +kernel
theorem dX12_rank_72 : decode cX12_rank 72 = .ok (.ireturn, 1) := by decide +kernel
theorem dX12_settle_0 : decode cX12_settle 0 = .ok (.aload_n 0, 1) := by decide +kernel
theorem dX12_settle_1 : decode cX12_settle 1 = .ok (.getfield 177, 3) := by decide +kernel
theorem dX12_settle_4 : decode cX12_settle 4 = .ok (.ifCond .le 85, 3) := by decide +kernel
theorem dX12_settle_7 : decode cX12_settle 7 = .ok (.aload_n 0, 1) := by decide +kernel
theorem dX12_settle_8 : decode cX12_settle 8 = .ok (.getfield 29, 3) := by decide +kernel
theorem dX12_settle_11 : decode cX12_settle 11 = .ok (.aload_n 0, 1) := by decide +kernel
theorem dX12_settle_12 : decode cX12_settle 12 = .ok (.getfield 177, 3) := by decide +kernel
theorem dX12_settle_15 : decode cX12_settle 15 = .ok (.iconst 1, 1) := by decide +kernel
theorem dX12_settle_16 : decode cX12_settle 16 = .ok (.isub, 1) := by decide +kernel
theorem dX12_settle_17 : decode cX12_settle 17 = .ok (.iaload, 1) := by decide +kernel
theorem dX12_settle_18 : decode cX12_settle 18 = .ok (.invokestatic 180, 3) := by decide +kernel
theorem dX12_settle_21 : decode cX12_settle 21 = .ok (.iload_n 1, 1) := by decide +kernel
theorem dX12_settle_22 : decode cX12_settle 22 = .ok (.if_icmp .lt 67, 3) := by decide +kernel
theorem dX12_settle_25 : decode cX12_settle 25 = .ok (.aload_n 0, 1) := by decide +kernel
theorem dX12_settle_26 : decode cX12_settle 26 = .ok (.dup, 1) := by decide +kernel
theorem dX12_settle_27 : decode cX12_settle 27 = .ok (.getfield 177, 3) := by decide +kernel
theorem dX12_settle_30 : decode cX12_settle 30 = .ok (.iconst 1, 1) := by decide +kernel
theorem dX12_settle_31 : decode cX12_settle 31 = .ok (.isub, 1) := by decide +kernel
theorem dX12_settle_32 : decode cX12_settle 32 = .ok (.putfield 177, 3) := by decide +kernel
theorem dX12_settle_35 : decode cX12_settle 35 = .ok (.aload_n 0, 1) := by decide +kernel
theorem dX12_settle_36 : decode cX12_settle 36 = .ok (.aload_n 0, 1) := by decide +kernel
theorem dX12_settle_37 : decode cX12_settle 37 = .ok (.getfield 29, 3) := by decide +kernel
theorem dX12_settle_40 : decode cX12_settle 40 = .ok (.aload_n 0, 1) := by decide +kernel
theorem dX12_settle_41 : decode cX12_settle 41 = .ok (.getfield 177, 3) := by decide +kernel
theorem dX12_settle_44 : decode cX12_settle 44 = .ok (.iaload, 1) := by decide +kernel
theorem dX12_settle_45 : decode cX12_settle 45 = .ok (.iconst 0, 1) := by decide +kernel
theorem dX12_settle_46 : decode cX12_settle 46 = .ok (.invokevirtual 183, 3) := by decide +kernel
theorem dX12_settle_49 : decode cX12_settle 49 = .ok (.aload_n 0, 1) := by decide +kernel
theorem dX12_settle_50 : decode cX12_settle 50 = .ok (.getfield 29, 3) := by decide +kernel
theorem dX12_settle_53 : decode cX12_settle 53 = .ok (.aload_n 0, 1) := by decide +kernel
theorem dX12_settle_54 : decode cX12_settle 54 = .ok (.getfield 177, 3) := by decide +kernel
theorem dX12_settle_57 : decode cX12_settle 57 = .ok (.iaload, 1) := by decide +kernel
theorem dX12_settle_58 : decode cX12_settle 58 = .ok (.iconst 4, 1) := by decide +kernel
theorem dX12_settle_59 : decode cX12_settle 59 = .ok (.if_icmp .eq 17, 3) := by decide +kernel
theorem dX12_settle_62 : decode cX12_settle 62 = .ok (.aload_n 0, 1) := by decide +kernel
theorem dX12_settle_63 : decode cX12_settle 63 = .ok (.getfield 29, 3) := by decide +kernel
theorem dX12_settle_66 : decode cX12_settle 66 = .ok (.aload_n 0, 1) := by decide +kernel
theorem dX12_settle_67 : decode cX12_settle 67 = .ok (.getfield 177, 3) := by decide +kernel
theorem dX12_settle_70 : decode cX12_settle 70 = .ok (.iaload, 1) := by decide +kernel
theorem dX12_settle_71 : decode cX12_settle 71 = .ok (.bipush 20, 2) := by decide +kernel
theorem dX12_settle_73 : decode cX12_settle 73 = .ok (.if_icmp .ne (-73), 3) := by decide +kernel
theorem dX12_settle_76 : decode cX12_settle 76 = .ok (.aload_n 0, 1) := by decide +kernel
theorem dX12_settle_77 : decode cX12_settle 77 = .ok (.dup, 1) := by decide +kernel
theorem dX12_settle_78 : decode cX12_settle 78 = .ok (.getfield 187, 3) := by decide +kernel
theorem dX12_settle_81 : decode cX12_settle 81 = .ok (.iconst 1, 1) := by decide +kernel
theorem dX12_settle_82 : decode cX12_settle 82 = .ok (.isub, 1) := by decide +kernel
theorem dX12_settle_83 : decode cX12_settle 83 = .ok (.putfield 187, 3) := by decide +kernel
theorem dX12_settle_86 : decode cX12_settle 86 = .ok (.goto (-86), 3) := by decide +kernel
theorem dX12_settle_89 : decode cX12_settle 89 = .ok (.return_, 1) := by decide +kernel
theorem dX12_isOpen_0 : decode cX12_isOpen 0 = .ok (.aload_n 0, 1) := by decide +kernel
theorem dX12_isOpen_1 : decode cX12_isOpen 1 = .ok (.getfield 177, 3) := by decide +kernel
theorem dX12_isOpen_4 : decode cX12_isOpen 4 = .ok (.iconst 1, 1) := by decide +kernel
theorem dX12_isOpen_5 : decode cX12_isOpen 5 = .ok (.isub, 1) := by decide +kernel
theorem dX12_isOpen_6 : decode cX12_isOpen 6 = .ok (.istore_n 1, 1) := by decide +kernel
theorem dX12_isOpen_7 : decode cX12_isOpen 7 = .ok (.iload_n 1, 1) := by decide +kernel
theorem dX12_isOpen_8 : decode cX12_isOpen 8 = .ok (.ifCond .lt 20, 3) := by decide +kernel
theorem dX12_isOpen_11 : decode cX12_isOpen 11 = .ok (.aload_n 0, 1) := by decide +kernel
theorem dX12_isOpen_12 : decode cX12_isOpen 12 = .ok (.getfield 29, 3) := by decide +kernel
theorem dX12_isOpen_15 : decode cX12_isOpen 15 = .ok (.iload_n 1, 1) := by decide +kernel
theorem dX12_isOpen_16 : decode cX12_isOpen 16 = .ok (.iaload, 1) := by decide +kernel
theorem dX12_isOpen_17 : decode cX12_isOpen 17 = .ok (.bipush 40, 2) := by decide +kernel
theorem dX12_isOpen_19 : decode cX12_isOpen 19 = .ok (.if_icmp .ge 9, 3) := by decide +kernel
theorem dX12_isOpen_22 : decode cX12_isOpen 22 = .ok (.iinc 1 (-1), 3) := by decide +kernel
theorem dX12_isOpen_25 : decode cX12_isOpen 25 = .ok (.goto (-18), 3) := by decide +kernel
theorem dX12_isOpen_28 : decode cX12_isOpen 28 = .ok (.iload_n 1, 1) := by decide +kernel
theorem dX12_isOpen_29 : decode cX12_isOpen 29 = .ok (.ifCond .lt 7, 3) := by decide +kernel
theorem dX12_isOpen_32 : decode cX12_isOpen 32 = .ok (.iconst 1, 1) := by decide +kernel
theorem dX12_isOpen_33 : decode cX12_isOpen 33 = .ok (.goto 4, 3) := by decide +kernel
theorem dX12_isOpen_36 : decode cX12_isOpen 36 = .ok (.iconst 0, 1) := by decide +kernel
theorem dX12_isOpen_37 : decode cX12_isOpen 37 = .ok (.ireturn, 1) := by decide +kernel
theorem dX12_isCompared_0 : decode cX12_isCompared 0 = .ok (.aload_n 0, 1) := by decide +kernel
theorem dX12_isCompared_1 : decode cX12_isCompared 1 = .ok (.getfield 177, 3) := by decide +kernel
theorem dX12_isCompared_4 : decode cX12_isCompared 4 = .ok (.iconst 1, 1) := by decide +kernel
theorem dX12_isCompared_5 : decode cX12_isCompared 5 = .ok (.isub, 1) := by decide +kernel
theorem dX12_isCompared_6 : decode cX12_isCompared 6 = .ok (.istore_n 1, 1) := by decide +kernel
theorem dX12_isCompared_7 : decode cX12_isCompared 7 = .ok (.iload_n 1, 1) := by decide +kernel
theorem dX12_isCompared_8 : decode cX12_isCompared 8 = .ok (.ifCond .lt 22, 3) := by decide +kernel
theorem dX12_isCompared_11 : decode cX12_isCompared 11 = .ok (.aload_n 0, 1) := by decide +kernel
theorem dX12_isCompared_12 : decode cX12_isCompared 12 = .ok (.getfield 29, 3) := by decide +kernel
theorem dX12_isCompared_15 : decode cX12_isCompared 15 = .ok (.iload_n 1, 1) := by decide +kernel
theorem dX12_isCompared_16 : decode cX12_isCompared 16 = .ok (.iaload, 1) := by decide +kernel
theorem dX12_isCompared_17 : decode cX12_isCompared 17 = .ok (.invokestatic 180, 3) := by decide +kernel
theorem dX12_isCompared_20 : decode cX12_isCompared 20 = .ok (.iconst 4, 1) := by decide +kernel
theorem dX12_isCompared_21 : decode cX12_isCompared 21 = .ok (.if_icmp .le 9, 3) := by decide +kernel
theorem dX12_isCompared_24 : decode cX12_isCompared 24 = .ok (.iinc 1 (-1), 3) := by decide +kernel
theorem dX12_isCompared_27 : decode cX12_isCompared 27 = .ok (.goto (-20), 3) := by decide +kernel
theorem dX12_isCompared_30 : decode cX12_isCompared 30 = .ok (.iload_n 1, 1) := by decide +kernel
theorem dX12_isCompared_31 : decode cX12_isCompared 31 = .ok (.ifCond .lt 20, 3) := by decide +kernel
theorem dX12_isCompared_34 : decode cX12_isCompared 34 = .ok (.aload_n 0, 1) := by decide +kernel
theorem dX12_isCompared_35 : decode cX12_isCompared 35 = .ok (.getfield 29, 3) := by decide +kernel
theorem dX12_isCompared_38 : decode cX12_isCompared 38 = .ok (.iload_n 1, 1) := by decide +kernel
theorem dX12_isCompared_39 : decode cX12_isCompared 39 = .ok (.iaload, 1) := by decide +kernel
theorem dX12_isCompared_40 : decode cX12_isCompared 40 = .ok (.invokestatic 180, 3) := by decide +kernel
theorem dX12_isCompared_43 : decode cX12_isCompared 43 = .ok (.iconst 4, 1) := by decide +kernel
theorem dX12_isCompared_44 : decode cX12_isCompared 44 = .ok (.if_icmp .ne 7, 3) := by decide +kernel
theorem dX12_isCompared_47 : decode cX12_isCompared 47 = .ok (.iconst 1, 1) := by decide +kernel
theorem dX12_isCompared_48 : decode cX12_isCompared 48 = .ok (.goto 4, 3) := by decide +kernel
theorem dX12_isCompared_51 : decode cX12_isCompared 51 = .ok (.iconst 0, 1) := by decide +kernel
theorem dX12_isCompared_52 : decode cX12_isCompared 52 = .ok (.ireturn, 1) := by decide +kernel
theorem dX12_isAskHere_0 : decode cX12_isAskHere 0 = .ok (.aload_n 0, 1) := by decide +kernel
theorem dX12_isAskHere_1 : decode cX12_isAskHere 1 = .ok (.getfield 190, 3) := by decide +kernel
theorem dX12_isAskHere_4 : decode cX12_isAskHere 4 = .ok (.ifCond .eq 14, 3) := by decide +kernel
theorem dX12_isAskHere_7 : decode cX12_isAskHere 7 = .ok (.aload_n 0, 1) := by decide +kernel
theorem dX12_isAskHere_8 : decode cX12_isAskHere 8 = .ok (.invokevirtual 193, 3) := by decide +kernel
theorem dX12_isAskHere_11 : decode cX12_isAskHere 11 = .ok (.ifCond .ne 7, 3) := by decide +kernel
theorem dX12_isAskHere_14 : decode cX12_isAskHere 14 = .ok (.iconst 1, 1) := by decide +kernel
theorem dX12_isAskHere_15 : decode cX12_isAskHere 15 = .ok (.goto 4, 3) := by decide +kernel
theorem dX12_isAskHere_18 : decode cX12_isAskHere 18 = .ok (.iconst 0, 1) := by decide +kernel
theorem dX12_isAskHere_19 : decode cX12_isAskHere 19 = .ok (.ireturn, 1) := by decide +kernel
theorem dX12_isAskAhead_0 : decode cX12_isAskAhead 0 = .ok (.aload_n 0, 1) := by decide +kernel
theorem dX12_isAskAhead_1 : decode cX12_isAskAhead 1 = .ok (.invokevirtual 197, 3) := by decide +kernel
theorem dX12_isAskAhead_4 : decode cX12_isAskAhead 4 = .ok (.ifCond .eq 36, 3) := by decide +kernel
theorem dX12_isAskAhead_7 : decode cX12_isAskAhead 7 = .ok (.aload_n 0, 1) := by decide +kernel
theorem dX12_isAskAhead_8 : decode cX12_isAskAhead 8 = .ok (.getfield 177, 3) := by decide +kernel
theorem dX12_isAskAhead_11 : decode cX12_isAskAhead 11 = .ok (.ifCond .eq 25, 3) := by decide +kernel
theorem dX12_isAskAhead_14 : decode cX12_isAskAhead 14 = .ok (.aload_n 0, 1) := by decide +kernel
theorem dX12_isAskAhead_15 : decode cX12_isAskAhead 15 = .ok (.getfield 29, 3) := by decide +kernel
theorem dX12_isAskAhead_18 : decode cX12_isAskAhead 18 = .ok (.aload_n 0, 1) := by decide +kernel
theorem dX12_isAskAhead_19 : decode cX12_isAskAhead 19 = .ok (.getfield 177, 3) := by decide +kernel
theorem dX12_isAskAhead_22 : decode cX12_isAskAhead 22 = .ok (.iconst 1, 1) := by decide +kernel
theorem dX12_isAskAhead_23 : decode cX12_isAskAhead 23 = .ok (.isub, 1) := by decide +kernel
theorem dX12_isAskAhead_24 : decode cX12_isAskAhead 24 = .ok (.iaload, 1) := by decide +kernel
theorem dX12_isAskAhead_25 : decode cX12_isAskAhead 25 = .ok (.invokestatic 180, 3) := by decide +kernel
theorem dX12_isAskAhead_28 : decode cX12_isAskAhead 28 = .ok (.iconst 1, 1) := by decide +kernel
theorem dX12_isAskAhead_29 : decode cX12_isAskAhead 29 = .ok (.iconst 3, 1) := by decide +kernel
theorem dX12_isAskAhead_30 : decode cX12_isAskAhead 30 = .ok (.invokestatic 90, 3) := by decide +kernel
theorem dX12_isAskAhead_33 : decode cX12_isAskAhead 33 = .ok (.ifCond .eq 7, 3) := by decide +kernel
theorem dX12_isAskAhead_36 : decode cX12_isAskAhead 36 = .ok (.iconst 1, 1) := by decide +kernel
theorem dX12_isAskAhead_37 : decode cX12_isAskAhead 37 = .ok (.goto 4, 3) := by decide +kernel
theorem dX12_isAskAhead_40 : decode cX12_isAskAhead 40 = .ok (.iconst 0, 1) := by decide +kernel
theorem dX12_isAskAhead_41 : decode cX12_isAskAhead 41 = .ok (.ireturn, 1) := by decide +kernel
theorem dX12_opened_0 : decode cX12_opened 0 = .ok (.aload_n 0, 1) := by decide +kernel
theorem dX12_opened_1 : decode cX12_opened 1 = .ok (.getfield 187, 3) := by decide +kernel
theorem dX12_opened_4 : decode cX12_opened 4 = .ok (.bipush 8, 2) := by decide +kernel
theorem dX12_opened_6 : decode cX12_opened 6 = .ok (.if_icmp .ne 5, 3) := by decide +kernel
theorem dX12_opened_9 : decode cX12_opened 9 = .ok (.iconst 3, 1) := by decide +kernel
theorem dX12_opened_10 : decode cX12_opened 10 = .ok (.ireturn, 1) := by decide +kernel
theorem dX12_opened_11 : decode cX12_opened 11 = .ok (.aload_n 0, 1) := by decide +kernel
theorem dX12_opened_12 : decode cX12_opened 12 = .ok (.dup, 1) := by decide +kernel
theorem dX12_opened_13 : decode cX12_opened 13 = .ok (.getfield 187, 3) := by decide +kernel
theorem dX12_opened_16 : decode cX12_opened 16 = .ok (.iconst 1, 1) := by decide +kernel
theorem dX12_opened_17 : decode cX12_opened 17 = .ok (.iadd, 1) := by decide +kernel
theorem dX12_opened_18 : decode cX12_opened 18 = .ok (.putfield 187, 3) := by decide +kernel
theorem dX12_opened_21 : decode cX12_opened 21 = .ok (.aload_n 0, 1) := by decide +kernel
theorem dX12_opened_22 : decode cX12_opened 22 = .ok (.getfield 29, 3) := by decide +kernel
theorem dX12_opened_25 : decode cX12_opened 25 = .ok (.aload_n 0, 1) := by decide +kernel
theorem dX12_opened_26 : decode cX12_opened 26 = .ok (.getfield 177, 3) := by decide +kernel
theorem dX12_opened_29 : decode cX12_opened 29 = .ok (.iload_n 1, 1) := by decide +kernel
theorem dX12_opened_30 : decode cX12_opened 30 = .ok (.iastore, 1) := by decide +kernel
theorem dX12_opened_31 : decode cX12_opened 31 = .ok (.aload_n 0, 1) := by decide +kernel
theorem dX12_opened_32 : decode cX12_opened 32 = .ok (.dup, 1) := by decide +kernel
theorem dX12_opened_33 : decode cX12_opened 33 = .ok (.getfield 177, 3) := by decide +kernel
theorem dX12_opened_36 : decode cX12_opened 36 = .ok (.iconst 1, 1) := by decide +kernel
theorem dX12_opened_37 : decode cX12_opened 37 = .ok (.iadd, 1) := by decide +kernel
theorem dX12_opened_38 : decode cX12_opened 38 = .ok (.putfield 177, 3) := by decide +kernel
theorem dX12_opened_41 : decode cX12_opened 41 = .ok (.aload_n 0, 1) := by decide +kernel
theorem dX12_opened_42 : decode cX12_opened 42 = .ok (.invokevirtual 200, 3) := by decide +kernel
theorem dX12_opened_45 : decode cX12_opened 45 = .ok (.iconst 0, 1) := by decide +kernel
theorem dX12_opened_46 : decode cX12_opened 46 = .ok (.ireturn, 1) := by decide +kernel
theorem dX12_one_0 : decode cX12_one 0 = .ok (.aload_n 0, 1) := by decide +kernel
theorem dX12_one_1 : decode cX12_one 1 = .ok (.iload_n 1, 1) := by decide +kernel
theorem dX12_one_2 : decode cX12_one 2 = .ok (.iload_n 2, 1) := by decide +kernel
theorem dX12_one_3 : decode cX12_one 3 = .ok (.invokevirtual 183, 3) := by decide +kernel
theorem dX12_one_6 : decode cX12_one 6 = .ok (.aload_n 0, 1) := by decide +kernel
theorem dX12_one_7 : decode cX12_one 7 = .ok (.invokevirtual 200, 3) := by decide +kernel
theorem dX12_one_10 : decode cX12_one 10 = .ok (.aload_n 0, 1) := by decide +kernel
theorem dX12_one_11 : decode cX12_one 11 = .ok (.iconst 1, 1) := by decide +kernel
theorem dX12_one_12 : decode cX12_one 12 = .ok (.putfield 203, 3) := by decide +kernel
theorem dX12_one_15 : decode cX12_one 15 = .ok (.aload_n 0, 1) := by decide +kernel
theorem dX12_one_16 : decode cX12_one 16 = .ok (.bipush 7, 2) := by decide +kernel
theorem dX12_one_18 : decode cX12_one 18 = .ok (.invokevirtual 206, 3) := by decide +kernel
theorem dX12_one_21 : decode cX12_one 21 = .ok (.iconst 0, 1) := by decide +kernel
theorem dX12_one_22 : decode cX12_one 22 = .ok (.ireturn, 1) := by decide +kernel
theorem dX12_beside_0 : decode cX12_beside 0 = .ok (.aload_n 0, 1) := by decide +kernel
theorem dX12_beside_1 : decode cX12_beside 1 = .ok (.invokevirtual 200, 3) := by decide +kernel
theorem dX12_beside_4 : decode cX12_beside 4 = .ok (.aload_n 0, 1) := by decide +kernel
theorem dX12_beside_5 : decode cX12_beside 5 = .ok (.invokevirtual 209, 3) := by decide +kernel
theorem dX12_beside_8 : decode cX12_beside 8 = .ok (.istore_n 2, 1) := by decide +kernel
theorem dX12_beside_9 : decode cX12_beside 9 = .ok (.iload_n 2, 1) := by decide +kernel
theorem dX12_beside_10 : decode cX12_beside 10 = .ok (.ifCond .ge 7, 3) := by decide +kernel
theorem dX12_beside_13 : decode cX12_beside 13 = .ok (.iconst 1, 1) := by decide +kernel
theorem dX12_beside_14 : decode cX12_beside 14 = .ok (.goto 23, 3) := by decide +kernel
theorem dX12_beside_17 : decode cX12_beside 17 = .ok (.iload_n 2, 1) := by decide +kernel
theorem dX12_beside_18 : decode cX12_beside 18 = .ok (.iconst 2, 1) := by decide +kernel
theorem dX12_beside_19 : decode cX12_beside 19 = .ok (.bipush 6, 2) := by decide +kernel
theorem dX12_beside_21 : decode cX12_beside 21 = .ok (.invokestatic 90, 3) := by decide +kernel
theorem dX12_beside_24 : decode cX12_beside 24 = .ok (.ifCond .eq 12, 3) := by decide +kernel
theorem dX12_beside_27 : decode cX12_beside 27 = .ok (.aload_n 0, 1) := by decide +kernel
theorem dX12_beside_28 : decode cX12_beside 28 = .ok (.iload_n 1, 1) := by decide +kernel
theorem dX12_beside_29 : decode cX12_beside 29 = .ok (.iload_n 2, 1) := by decide +kernel
theorem dX12_beside_30 : decode cX12_beside 30 = .ok (.invokevirtual 213, 3) := by decide +kernel
theorem dX12_beside_33 : decode cX12_beside 33 = .ok (.goto 4, 3) := by decide +kernel
theorem dX12_beside_36 : decode cX12_beside 36 = .ok (.iconst 5, 1) := by decide +kernel
theorem dX12_beside_37 : decode cX12_beside 37 = .ok (.ireturn, 1) := by decide +kernel
theorem dX12_beginOne_0 : decode cX12_beginOne 0 = .ok (.aload_n 0, 1) := by decide +kernel
theorem dX12_beginOne_1 : decode cX12_beginOne 1 = .ok (.getfield 126, 3) := by decide +kernel
theorem dX12_beginOne_4 : decode cX12_beginOne 4 = .ok (.iconst 1, 1) := by decide +kernel
theorem dX12_beginOne_5 : decode cX12_beginOne 5 = .ok (.if_icmp .ne 27, 3) := by decide +kernel
theorem dX12_beginOne_8 : decode cX12_beginOne 8 = .ok (.aload_n 0, 1) := by decide +kernel
theorem dX12_beginOne_9 : decode cX12_beginOne 9 = .ok (.getfield 132, 3) := by decide +kernel
theorem dX12_beginOne_12 : decode cX12_beginOne 12 = .ok (.sipush 9999, 3) := by decide +kernel
theorem dX12_beginOne_15 : decode cX12_beginOne 15 = .ok (.if_icmp .le 7, 3) := by decide +kernel
theorem dX12_beginOne_18 : decode cX12_beginOne 18 = .ok (.iconst 2, 1) := by decide +kernel
theorem dX12_beginOne_19 : decode cX12_beginOne 19 = .ok (.goto 12, 3) := by decide +kernel
theorem dX12_beginOne_22 : decode cX12_beginOne 22 = .ok (.aload_n 0, 1) := by decide +kernel
theorem dX12_beginOne_23 : decode cX12_beginOne 23 = .ok (.iconst 0, 1) := by decide +kernel
theorem dX12_beginOne_24 : decode cX12_beginOne 24 = .ok (.aload_n 0, 1) := by decide +kernel
theorem dX12_beginOne_25 : decode cX12_beginOne 25 = .ok (.getfield 132, 3) := by decide +kernel
theorem dX12_beginOne_28 : decode cX12_beginOne 28 = .ok (.invokevirtual 213, 3) := by decide +kernel
theorem dX12_beginOne_31 : decode cX12_beginOne 31 = .ok (.ireturn, 1) := by decide +kernel
theorem dX12_beginOne_32 : decode cX12_beginOne 32 = .ok (.aload_n 0, 1) := by decide +kernel
theorem dX12_beginOne_33 : decode cX12_beginOne 33 = .ok (.invokevirtual 209, 3) := by decide +kernel
theorem dX12_beginOne_36 : decode cX12_beginOne 36 = .ok (.istore_n 1, 1) := by decide +kernel
theorem dX12_beginOne_37 : decode cX12_beginOne 37 = .ok (.iload_n 1, 1) := by decide +kernel
theorem dX12_beginOne_38 : decode cX12_beginOne 38 = .ok (.ifCond .lt 22, 3) := by decide +kernel
theorem dX12_beginOne_41 : decode cX12_beginOne 41 = .ok (.aload_n 0, 1) := by decide +kernel
theorem dX12_beginOne_42 : decode cX12_beginOne 42 = .ok (.iload_n 1, 1) := by decide +kernel
theorem dX12_beginOne_43 : decode cX12_beginOne 43 = .ok (.invokevirtual 216, 3) := by decide +kernel
theorem dX12_beginOne_46 : decode cX12_beginOne 46 = .ok (.ifCond .eq 12, 3) := by decide +kernel
theorem dX12_beginOne_49 : decode cX12_beginOne 49 = .ok (.aload_n 0, 1) := by decide +kernel
theorem dX12_beginOne_50 : decode cX12_beginOne 50 = .ok (.iconst 1, 1) := by decide +kernel
theorem dX12_beginOne_51 : decode cX12_beginOne 51 = .ok (.iload_n 1, 1) := by decide +kernel
theorem dX12_beginOne_52 : decode cX12_beginOne 52 = .ok (.invokevirtual 213, 3) := by decide +kernel
theorem dX12_beginOne_55 : decode cX12_beginOne 55 = .ok (.goto 4, 3) := by decide +kernel
theorem dX12_beginOne_58 : decode cX12_beginOne 58 = .ok (.iconst 5, 1) := by decide +kernel
theorem dX12_beginOne_59 : decode cX12_beginOne 59 = .ok (.ireturn, 1) := by decide +kernel
theorem dX12_beginOne_60 : decode cX12_beginOne 60 = .ok (.aload_n 0, 1) := by decide +kernel
theorem dX12_beginOne_61 : decode cX12_beginOne 61 = .ok (.bipush 97, 2) := by decide +kernel
theorem dX12_beginOne_63 : decode cX12_beginOne 63 = .ok (.bipush 98, 2) := by decide +kernel
theorem dX12_beginOne_65 : decode cX12_beginOne 65 = .ok (.bipush 111, 2) := by decide +kernel
theorem dX12_beginOne_67 : decode cX12_beginOne 67 = .ok (.bipush 118, 2) := by decide +kernel
theorem dX12_beginOne_69 : decode cX12_beginOne 69 = .ok (.bipush 101, 2) := by decide +kernel
theorem dX12_beginOne_71 : decode cX12_beginOne 71 = .ok (.invokestatic 160, 3) := by decide +kernel
theorem dX12_beginOne_74 : decode cX12_beginOne 74 = .ok (.invokevirtual 219, 3) := by decide +kernel
theorem dX12_beginOne_77 : decode cX12_beginOne 77 = .ok (.ifCond .eq 9, 3) := by decide +kernel
theorem dX12_beginOne_80 : decode cX12_beginOne 80 = .ok (.aload_n 0, 1) := by decide +kernel
theorem dX12_beginOne_81 : decode cX12_beginOne 81 = .ok (.iconst 2, 1) := by decide +kernel
theorem dX12_beginOne_82 : decode cX12_beginOne 82 = .ok (.invokevirtual 223, 3) := by decide +kernel
theorem dX12_beginOne_85 : decode cX12_beginOne 85 = .ok (.ireturn, 1) := by decide +kernel
theorem dX12_beginOne_86 : decode cX12_beginOne 86 = .ok (.aload_n 0, 1) := by decide +kernel
theorem dX12_beginOne_87 : decode cX12_beginOne 87 = .ok (.bipush 98, 2) := by decide +kernel
theorem dX12_beginOne_89 : decode cX12_beginOne 89 = .ok (.bipush 101, 2) := by decide +kernel
theorem dX12_beginOne_91 : decode cX12_beginOne 91 = .ok (.bipush 108, 2) := by decide +kernel
theorem dX12_beginOne_93 : decode cX12_beginOne 93 = .ok (.bipush 111, 2) := by decide +kernel
theorem dX12_beginOne_95 : decode cX12_beginOne 95 = .ok (.bipush 119, 2) := by decide +kernel
theorem dX12_beginOne_97 : decode cX12_beginOne 97 = .ok (.invokestatic 160, 3) := by decide +kernel
theorem dX12_beginOne_100 : decode cX12_beginOne 100 = .ok (.invokevirtual 219, 3) := by decide +kernel
theorem dX12_beginOne_103 : decode cX12_beginOne 103 = .ok (.ifCond .eq 9, 3) := by decide +kernel
theorem dX12_beginOne_106 : decode cX12_beginOne 106 = .ok (.aload_n 0, 1) := by decide +kernel
theorem dX12_beginOne_107 : decode cX12_beginOne 107 = .ok (.iconst 3, 1) := by decide +kernel
theorem dX12_beginOne_108 : decode cX12_beginOne 108 = .ok (.invokevirtual 223, 3) := by decide +kernel
theorem dX12_beginOne_111 : decode cX12_beginOne 111 = .ok (.ireturn, 1) := by decide +kernel
theorem dX12_beginOne_112 : decode cX12_beginOne 112 = .ok (.aload_n 0, 1) := by decide +kernel
theorem dX12_beginOne_113 : decode cX12_beginOne 113 = .ok (.getfield 126, 3) := by decide +kernel
theorem dX12_beginOne_116 : decode cX12_beginOne 116 = .ok (.bipush 40, 2) := by decide +kernel
theorem dX12_beginOne_118 : decode cX12_beginOne 118 = .ok (.if_icmp .ne 10, 3) := by decide +kernel
theorem dX12_beginOne_121 : decode cX12_beginOne 121 = .ok (.aload_n 0, 1) := by decide +kernel
theorem dX12_beginOne_122 : decode cX12_beginOne 122 = .ok (.bipush 40, 2) := by decide +kernel
theorem dX12_beginOne_124 : decode cX12_beginOne 124 = .ok (.invokevirtual 226, 3) := by decide +kernel
theorem dX12_beginOne_127 : decode cX12_beginOne 127 = .ok (.ireturn, 1) := by decide +kernel
theorem dX12_beginOne_128 : decode cX12_beginOne 128 = .ok (.aload_n 0, 1) := by decide +kernel
theorem dX12_beginOne_129 : decode cX12_beginOne 129 = .ok (.getfield 126, 3) := by decide +kernel
theorem dX12_beginOne_132 : decode cX12_beginOne 132 = .ok (.bipush 45, 2) := by decide +kernel
theorem dX12_beginOne_134 : decode cX12_beginOne 134 = .ok (.if_icmp .ne 9, 3) := by decide +kernel
theorem dX12_beginOne_137 : decode cX12_beginOne 137 = .ok (.aload_n 0, 1) := by decide +kernel
theorem dX12_beginOne_138 : decode cX12_beginOne 138 = .ok (.iconst 4, 1) := by decide +kernel
theorem dX12_beginOne_139 : decode cX12_beginOne 139 = .ok (.invokevirtual 226, 3) := by decide +kernel
theorem dX12_beginOne_142 : decode cX12_beginOne 142 = .ok (.ireturn, 1) := by decide +kernel
theorem dX12_beginOne_143 : decode cX12_beginOne 143 = .ok (.aload_n 0, 1) := by decide +kernel
theorem dX12_beginOne_144 : decode cX12_beginOne 144 = .ok (.bipush 110, 2) := by decide +kernel
theorem dX12_beginOne_146 : decode cX12_beginOne 146 = .ok (.bipush 111, 2) := by decide +kernel
theorem dX12_beginOne_148 : decode cX12_beginOne 148 = .ok (.bipush 116, 2) := by decide +kernel
theorem dX12_beginOne_150 : decode cX12_beginOne 150 = .ok (.invokestatic 152, 3) := by decide +kernel
theorem dX12_beginOne_153 : decode cX12_beginOne 153 = .ok (.invokevirtual 219, 3) := by decide +kernel
theorem dX12_beginOne_156 : decode cX12_beginOne 156 = .ok (.ifCond .eq 19, 3) := by decide +kernel
theorem dX12_beginOne_159 : decode cX12_beginOne 159 = .ok (.aload_n 0, 1) := by decide +kernel
theorem dX12_beginOne_160 : decode cX12_beginOne 160 = .ok (.invokevirtual 229, 3) := by decide +kernel
theorem dX12_beginOne_163 : decode cX12_beginOne 163 = .ok (.ifCond .eq 12, 3) := by decide +kernel
theorem dX12_beginOne_166 : decode cX12_beginOne 166 = .ok (.aload_n 0, 1) := by decide +kernel
theorem dX12_beginOne_167 : decode cX12_beginOne 167 = .ok (.bipush 20, 2) := by decide +kernel
theorem dX12_beginOne_169 : decode cX12_beginOne 169 = .ok (.invokevirtual 226, 3) := by decide +kernel
theorem dX12_beginOne_172 : decode cX12_beginOne 172 = .ok (.goto 4, 3) := by decide +kernel
theorem dX12_beginOne_175 : decode cX12_beginOne 175 = .ok (.iconst 1, 1) := by decide +kernel
theorem dX12_beginOne_176 : decode cX12_beginOne 176 = .ok (.ireturn, 1) := by decide +kernel
theorem dX12_compareOf_0 : decode cX12_compareOf 0 = .ok (.aload_n 0, 1) := by decide +kernel
theorem dX12_compareOf_1 : decode cX12_compareOf 1 = .ok (.getfield 126, 3) := by decide +kernel
theorem dX12_compareOf_4 : decode cX12_compareOf 4 = .ok (.bipush 60, 2) := by decide +kernel
theorem dX12_compareOf_6 : decode cX12_compareOf 6 = .ok (.if_icmp .ne 8, 3) := by decide +kernel
theorem dX12_compareOf_9 : decode cX12_compareOf 9 = .ok (.bipush 10, 2) := by decide +kernel
theorem dX12_compareOf_11 : decode cX12_compareOf 11 = .ok (.goto 72, 3) := by decide +kernel
theorem dX12_compareOf_14 : decode cX12_compareOf 14 = .ok (.aload_n 0, 1) := by decide +kernel
theorem dX12_compareOf_15 : decode cX12_compareOf 15 = .ok (.getfield 126, 3) := by decide +kernel
theorem dX12_compareOf_18 : decode cX12_compareOf 18 = .ok (.iconst 4, 1) := by decide +kernel
theorem dX12_compareOf_19 : decode cX12_compareOf 19 = .ok (.if_icmp .ne 8, 3) := by decide +kernel
theorem dX12_compareOf_22 : decode cX12_compareOf 22 = .ok (.bipush 11, 2) := by decide +kernel
theorem dX12_compareOf_24 : decode cX12_compareOf 24 = .ok (.goto 59, 3) := by decide +kernel
theorem dX12_compareOf_27 : decode cX12_compareOf 27 = .ok (.aload_n 0, 1) := by decide +kernel
theorem dX12_compareOf_28 : decode cX12_compareOf 28 = .ok (.getfield 126, 3) := by decide +kernel
theorem dX12_compareOf_31 : decode cX12_compareOf 31 = .ok (.bipush 62, 2) := by decide +kernel
theorem dX12_compareOf_33 : decode cX12_compareOf 33 = .ok (.if_icmp .ne 8, 3) := by decide +kernel
theorem dX12_compareOf_36 : decode cX12_compareOf 36 = .ok (.bipush 12, 2) := by decide +kernel
theorem dX12_compareOf_38 : decode cX12_compareOf 38 = .ok (.goto 45, 3) := by decide +kernel
theorem dX12_compareOf_41 : decode cX12_compareOf 41 = .ok (.aload_n 0, 1) := by decide +kernel
theorem dX12_compareOf_42 : decode cX12_compareOf 42 = .ok (.getfield 126, 3) := by decide +kernel
theorem dX12_compareOf_45 : decode cX12_compareOf 45 = .ok (.iconst 5, 1) := by decide +kernel
theorem dX12_compareOf_46 : decode cX12_compareOf 46 = .ok (.if_icmp .ne 8, 3) := by decide +kernel
theorem dX12_compareOf_49 : decode cX12_compareOf 49 = .ok (.bipush 13, 2) := by decide +kernel
theorem dX12_compareOf_51 : decode cX12_compareOf 51 = .ok (.goto 32, 3) := by decide +kernel
theorem dX12_compareOf_54 : decode cX12_compareOf 54 = .ok (.aload_n 0, 1) := by decide +kernel
theorem dX12_compareOf_55 : decode cX12_compareOf 55 = .ok (.getfield 126, 3) := by decide +kernel
theorem dX12_compareOf_58 : decode cX12_compareOf 58 = .ok (.bipush 61, 2) := by decide +kernel
theorem dX12_compareOf_60 : decode cX12_compareOf 60 = .ok (.if_icmp .ne 8, 3) := by decide +kernel
theorem dX12_compareOf_63 : decode cX12_compareOf 63 = .ok (.bipush 14, 2) := by decide +kernel
theorem dX12_compareOf_65 : decode cX12_compareOf 65 = .ok (.goto 18, 3) := by decide +kernel
theorem dX12_compareOf_68 : decode cX12_compareOf 68 = .ok (.aload_n 0, 1) := by decide +kernel
theorem dX12_compareOf_69 : decode cX12_compareOf 69 = .ok (.getfield 126, 3) := by decide +kernel
theorem dX12_compareOf_72 : decode cX12_compareOf 72 = .ok (.bipush 35, 2) := by decide +kernel
theorem dX12_compareOf_74 : decode cX12_compareOf 74 = .ok (.if_icmp .ne 8, 3) := by decide +kernel
theorem dX12_compareOf_77 : decode cX12_compareOf 77 = .ok (.bipush 15, 2) := by decide +kernel
theorem dX12_compareOf_79 : decode cX12_compareOf 79 = .ok (.goto 4, 3) := by decide +kernel
theorem dX12_compareOf_82 : decode cX12_compareOf 82 = .ok (.iconst (-1), 1) := by decide +kernel
theorem dX12_compareOf_83 : decode cX12_compareOf 83 = .ok (.ireturn, 1) := by decide +kernel
theorem dX12_betweenOf_0 : decode cX12_betweenOf 0 = .ok (.aload_n 0, 1) := by decide +kernel
theorem dX12_betweenOf_1 : decode cX12_betweenOf 1 = .ok (.getfield 126, 3) := by decide +kernel
theorem dX12_betweenOf_4 : decode cX12_betweenOf 4 = .ok (.bipush 43, 2) := by decide +kernel
theorem dX12_betweenOf_6 : decode cX12_betweenOf 6 = .ok (.if_icmp .ne 5, 3) := by decide +kernel
theorem dX12_betweenOf_9 : decode cX12_betweenOf 9 = .ok (.iconst 5, 1) := by decide +kernel
theorem dX12_betweenOf_10 : decode cX12_betweenOf 10 = .ok (.ireturn, 1) := by decide +kernel
theorem dX12_betweenOf_11 : decode cX12_betweenOf 11 = .ok (.aload_n 0, 1) := by decide +kernel
theorem dX12_betweenOf_12 : decode cX12_betweenOf 12 = .ok (.getfield 126, 3) := by decide +kernel
theorem dX12_betweenOf_15 : decode cX12_betweenOf 15 = .ok (.bipush 45, 2) := by decide +kernel
theorem dX12_betweenOf_17 : decode cX12_betweenOf 17 = .ok (.if_icmp .ne 6, 3) := by decide +kernel
theorem dX12_betweenOf_20 : decode cX12_betweenOf 20 = .ok (.bipush 6, 2) := by decide +kernel
theorem dX12_betweenOf_22 : decode cX12_betweenOf 22 = .ok (.ireturn, 1) := by decide +kernel
theorem dX12_betweenOf_23 : decode cX12_betweenOf 23 = .ok (.aload_n 0, 1) := by decide +kernel
theorem dX12_betweenOf_24 : decode cX12_betweenOf 24 = .ok (.getfield 126, 3) := by decide +kernel
theorem dX12_betweenOf_27 : decode cX12_betweenOf 27 = .ok (.bipush 42, 2) := by decide +kernel
theorem dX12_betweenOf_29 : decode cX12_betweenOf 29 = .ok (.if_icmp .ne 6, 3) := by decide +kernel
theorem dX12_betweenOf_32 : decode cX12_betweenOf 32 = .ok (.bipush 7, 2) := by decide +kernel
theorem dX12_betweenOf_34 : decode cX12_betweenOf 34 = .ok (.ireturn, 1) := by decide +kernel
theorem dX12_betweenOf_35 : decode cX12_betweenOf 35 = .ok (.aload_n 0, 1) := by decide +kernel
theorem dX12_betweenOf_36 : decode cX12_betweenOf 36 = .ok (.getfield 126, 3) := by decide +kernel
theorem dX12_betweenOf_39 : decode cX12_betweenOf 39 = .ok (.bipush 47, 2) := by decide +kernel
theorem dX12_betweenOf_41 : decode cX12_betweenOf 41 = .ok (.if_icmp .ne 6, 3) := by decide +kernel
theorem dX12_betweenOf_44 : decode cX12_betweenOf 44 = .ok (.bipush 8, 2) := by decide +kernel
theorem dX12_betweenOf_46 : decode cX12_betweenOf 46 = .ok (.ireturn, 1) := by decide +kernel
theorem dX12_betweenOf_47 : decode cX12_betweenOf 47 = .ok (.aload_n 0, 1) := by decide +kernel
theorem dX12_betweenOf_48 : decode cX12_betweenOf 48 = .ok (.invokevirtual 197, 3) := by decide +kernel
theorem dX12_betweenOf_51 : decode cX12_betweenOf 51 = .ok (.ifCond .ne 5, 3) := by decide +kernel
theorem dX12_betweenOf_54 : decode cX12_betweenOf 54 = .ok (.iconst (-1), 1) := by decide +kernel
theorem dX12_betweenOf_55 : decode cX12_betweenOf 55 = .ok (.ireturn, 1) := by decide +kernel
theorem dX12_betweenOf_56 : decode cX12_betweenOf 56 = .ok (.aload_n 0, 1) := by decide +kernel
theorem dX12_betweenOf_57 : decode cX12_betweenOf 57 = .ok (.invokevirtual 232, 3) := by decide +kernel
theorem dX12_betweenOf_60 : decode cX12_betweenOf 60 = .ok (.ifCond .ne 8, 3) := by decide +kernel
theorem dX12_betweenOf_63 : decode cX12_betweenOf 63 = .ok (.aload_n 0, 1) := by decide +kernel
theorem dX12_betweenOf_64 : decode cX12_betweenOf 64 = .ok (.invokevirtual 235, 3) := by decide +kernel
theorem dX12_betweenOf_67 : decode cX12_betweenOf 67 = .ok (.ireturn, 1) := by decide +kernel
theorem dX12_betweenOf_68 : decode cX12_betweenOf 68 = .ok (.aload_n 0, 1) := by decide +kernel
theorem dX12_betweenOf_69 : decode cX12_betweenOf 69 = .ok (.bipush 97, 2) := by decide +kernel
theorem dX12_betweenOf_71 : decode cX12_betweenOf 71 = .ok (.bipush 110, 2) := by decide +kernel
theorem dX12_betweenOf_73 : decode cX12_betweenOf 73 = .ok (.bipush 100, 2) := by decide +kernel
theorem dX12_betweenOf_75 : decode cX12_betweenOf 75 = .ok (.invokestatic 152, 3) := by decide +kernel
theorem dX12_betweenOf_78 : decode cX12_betweenOf 78 = .ok (.invokevirtual 219, 3) := by decide +kernel
theorem dX12_betweenOf_81 : decode cX12_betweenOf 81 = .ok (.ifCond .eq 8, 3) := by decide +kernel
theorem dX12_betweenOf_84 : decode cX12_betweenOf 84 = .ok (.bipush 21, 2) := by decide +kernel
theorem dX12_betweenOf_86 : decode cX12_betweenOf 86 = .ok (.goto 23, 3) := by decide +kernel
theorem dX12_betweenOf_89 : decode cX12_betweenOf 89 = .ok (.aload_n 0, 1) := by decide +kernel
theorem dX12_betweenOf_90 : decode cX12_betweenOf 90 = .ok (.bipush 111, 2) := by decide +kernel
theorem dX12_betweenOf_92 : decode cX12_betweenOf 92 = .ok (.bipush 114, 2) := by decide +kernel
theorem dX12_betweenOf_94 : decode cX12_betweenOf 94 = .ok (.invokestatic 148, 3) := by decide +kernel
theorem dX12_betweenOf_97 : decode cX12_betweenOf 97 = .ok (.invokevirtual 219, 3) := by decide +kernel
theorem dX12_betweenOf_100 : decode cX12_betweenOf 100 = .ok (.ifCond .eq 8, 3) := by decide +kernel
theorem dX12_betweenOf_103 : decode cX12_betweenOf 103 = .ok (.bipush 22, 2) := by decide +kernel
theorem dX12_betweenOf_105 : decode cX12_betweenOf 105 = .ok (.goto 4, 3) := by decide +kernel
theorem dX12_betweenOf_108 : decode cX12_betweenOf 108 = .ok (.iconst (-1), 1) := by decide +kernel
theorem dX12_betweenOf_109 : decode cX12_betweenOf 109 = .ok (.ireturn, 1) := by decide +kernel
theorem dX12_behindOne_0 : decode cX12_behindOne 0 = .ok (.aload_n 0, 1) := by decide +kernel
theorem dX12_behindOne_1 : decode cX12_behindOne 1 = .ok (.invokevirtual 238, 3) := by decide +kernel
theorem dX12_behindOne_4 : decode cX12_behindOne 4 = .ok (.istore_n 1, 1) := by decide +kernel
theorem dX12_behindOne_5 : decode cX12_behindOne 5 = .ok (.iload_n 1, 1) := by decide +kernel
theorem dX12_behindOne_6 : decode cX12_behindOne 6 = .ok (.ifCond .lt 42, 3) := by decide +kernel
theorem dX12_behindOne_9 : decode cX12_behindOne 9 = .ok (.aload_n 0, 1) := by decide +kernel
theorem dX12_behindOne_10 : decode cX12_behindOne 10 = .ok (.iload_n 1, 1) := by decide +kernel
theorem dX12_behindOne_11 : decode cX12_behindOne 11 = .ok (.invokestatic 180, 3) := by decide +kernel
theorem dX12_behindOne_14 : decode cX12_behindOne 14 = .ok (.invokevirtual 206, 3) := by decide +kernel
theorem dX12_behindOne_17 : decode cX12_behindOne 17 = .ok (.aload_n 0, 1) := by decide +kernel
theorem dX12_behindOne_18 : decode cX12_behindOne 18 = .ok (.getfield 29, 3) := by decide +kernel
theorem dX12_behindOne_21 : decode cX12_behindOne 21 = .ok (.aload_n 0, 1) := by decide +kernel
theorem dX12_behindOne_22 : decode cX12_behindOne 22 = .ok (.getfield 177, 3) := by decide +kernel
theorem dX12_behindOne_25 : decode cX12_behindOne 25 = .ok (.iload_n 1, 1) := by decide +kernel
theorem dX12_behindOne_26 : decode cX12_behindOne 26 = .ok (.iastore, 1) := by decide +kernel
theorem dX12_behindOne_27 : decode cX12_behindOne 27 = .ok (.aload_n 0, 1) := by decide +kernel
theorem dX12_behindOne_28 : decode cX12_behindOne 28 = .ok (.dup, 1) := by decide +kernel
theorem dX12_behindOne_29 : decode cX12_behindOne 29 = .ok (.getfield 177, 3) := by decide +kernel
theorem dX12_behindOne_32 : decode cX12_behindOne 32 = .ok (.iconst 1, 1) := by decide +kernel
theorem dX12_behindOne_33 : decode cX12_behindOne 33 = .ok (.iadd, 1) := by decide +kernel
theorem dX12_behindOne_34 : decode cX12_behindOne 34 = .ok (.putfield 177, 3) := by decide +kernel
theorem dX12_behindOne_37 : decode cX12_behindOne 37 = .ok (.aload_n 0, 1) := by decide +kernel
theorem dX12_behindOne_38 : decode cX12_behindOne 38 = .ok (.iconst 0, 1) := by decide +kernel
theorem dX12_behindOne_39 : decode cX12_behindOne 39 = .ok (.putfield 203, 3) := by decide +kernel
theorem dX12_behindOne_42 : decode cX12_behindOne 42 = .ok (.aload_n 0, 1) := by decide +kernel
theorem dX12_behindOne_43 : decode cX12_behindOne 43 = .ok (.invokevirtual 200, 3) := by decide +kernel
theorem dX12_behindOne_46 : decode cX12_behindOne 46 = .ok (.iconst 1, 1) := by decide +kernel
theorem dX12_behindOne_47 : decode cX12_behindOne 47 = .ok (.ireturn, 1) := by decide +kernel
theorem dX12_behindOne_48 : decode cX12_behindOne 48 = .ok (.aload_n 0, 1) := by decide +kernel
theorem dX12_behindOne_49 : decode cX12_behindOne 49 = .ok (.invokevirtual 193, 3) := by decide +kernel
theorem dX12_behindOne_52 : decode cX12_behindOne 52 = .ok (.ifCond .eq 12, 3) := by decide +kernel
theorem dX12_behindOne_55 : decode cX12_behindOne 55 = .ok (.aload_n 0, 1) := by decide +kernel
theorem dX12_behindOne_56 : decode cX12_behindOne 56 = .ok (.getfield 126, 3) := by decide +kernel
theorem dX12_behindOne_59 : decode cX12_behindOne 59 = .ok (.bipush 41, 2) := by decide +kernel
theorem dX12_behindOne_61 : decode cX12_behindOne 61 = .ok (.if_icmp .eq 5, 3) := by decide +kernel
theorem dX12_behindOne_64 : decode cX12_behindOne 64 = .ok (.iconst 0, 1) := by decide +kernel
theorem dX12_behindOne_65 : decode cX12_behindOne 65 = .ok (.ireturn, 1) := by decide +kernel
theorem dX12_behindOne_66 : decode cX12_behindOne 66 = .ok (.aload_n 0, 1) := by decide +kernel
theorem dX12_behindOne_67 : decode cX12_behindOne 67 = .ok (.iconst 1, 1) := by decide +kernel
theorem dX12_behindOne_68 : decode cX12_behindOne 68 = .ok (.invokevirtual 206, 3) := by decide +kernel
theorem dX12_behindOne_71 : decode cX12_behindOne 71 = .ok (.aload_n 0, 1) := by decide +kernel
theorem dX12_behindOne_72 : decode cX12_behindOne 72 = .ok (.dup, 1) := by decide +kernel
theorem dX12_behindOne_73 : decode cX12_behindOne 73 = .ok (.getfield 177, 3) := by decide +kernel
theorem dX12_behindOne_76 : decode cX12_behindOne 76 = .ok (.iconst 1, 1) := by decide +kernel
theorem dX12_behindOne_77 : decode cX12_behindOne 77 = .ok (.isub, 1) := by decide +kernel
theorem dX12_behindOne_78 : decode cX12_behindOne 78 = .ok (.putfield 177, 3) := by decide +kernel
theorem dX12_behindOne_81 : decode cX12_behindOne 81 = .ok (.aload_n 0, 1) := by decide +kernel
theorem dX12_behindOne_82 : decode cX12_behindOne 82 = .ok (.dup, 1) := by decide +kernel
theorem dX12_behindOne_83 : decode cX12_behindOne 83 = .ok (.getfield 187, 3) := by decide +kernel
theorem dX12_behindOne_86 : decode cX12_behindOne 86 = .ok (.iconst 1, 1) := by decide +kernel
theorem dX12_behindOne_87 : decode cX12_behindOne 87 = .ok (.isub, 1) := by decide +kernel
theorem dX12_behindOne_88 : decode cX12_behindOne 88 = .ok (.putfield 187, 3) := by decide +kernel
theorem dX12_behindOne_91 : decode cX12_behindOne 91 = .ok (.aload_n 0, 1) := by decide +kernel
theorem dX12_behindOne_92 : decode cX12_behindOne 92 = .ok (.invokevirtual 200, 3) := by decide +kernel
theorem dX12_behindOne_95 : decode cX12_behindOne 95 = .ok (.aload_n 0, 1) := by decide +kernel
theorem dX12_behindOne_96 : decode cX12_behindOne 96 = .ok (.bipush 7, 2) := by decide +kernel
theorem dX12_behindOne_98 : decode cX12_behindOne 98 = .ok (.invokevirtual 206, 3) := by decide +kernel
theorem dX12_behindOne_101 : decode cX12_behindOne 101 = .ok (.iconst 1, 1) := by decide +kernel
theorem dX12_behindOne_102 : decode cX12_behindOne 102 = .ok (.ireturn, 1) := by decide +kernel
theorem dX12_parsed_0 : decode cX12_parsed 0 = .ok (.aload_n 0, 1) := by decide +kernel
theorem dX12_parsed_1 : decode cX12_parsed 1 = .ok (.iconst 0, 1) := by decide +kernel
theorem dX12_parsed_2 : decode cX12_parsed 2 = .ok (.putfield 177, 3) := by decide +kernel
theorem dX12_parsed_5 : decode cX12_parsed 5 = .ok (.aload_n 0, 1) := by decide +kernel
theorem dX12_parsed_6 : decode cX12_parsed 6 = .ok (.iconst 0, 1) := by decide +kernel
theorem dX12_parsed_7 : decode cX12_parsed 7 = .ok (.putfield 187, 3) := by decide +kernel
theorem dX12_parsed_10 : decode cX12_parsed 10 = .ok (.aload_n 0, 1) := by decide +kernel
theorem dX12_parsed_11 : decode cX12_parsed 11 = .ok (.iconst 0, 1) := by decide +kernel
theorem dX12_parsed_12 : decode cX12_parsed 12 = .ok (.putfield 203, 3) := by decide +kernel
theorem dX12_parsed_15 : decode cX12_parsed 15 = .ok (.aload_n 0, 1) := by decide +kernel
theorem dX12_parsed_16 : decode cX12_parsed 16 = .ok (.iload_n 1, 1) := by decide +kernel
theorem dX12_parsed_17 : decode cX12_parsed 17 = .ok (.putfield 190, 3) := by decide +kernel
theorem dX12_parsed_20 : decode cX12_parsed 20 = .ok (.aload_n 0, 1) := by decide +kernel
theorem dX12_parsed_21 : decode cX12_parsed 21 = .ok (.getfield 203, 3) := by decide +kernel
theorem dX12_parsed_24 : decode cX12_parsed 24 = .ok (.ifCond .eq 40, 3) := by decide +kernel
theorem dX12_parsed_27 : decode cX12_parsed 27 = .ok (.aload_n 0, 1) := by decide +kernel
theorem dX12_parsed_28 : decode cX12_parsed 28 = .ok (.invokevirtual 241, 3) := by decide +kernel
theorem dX12_parsed_31 : decode cX12_parsed 31 = .ok (.ifCond .eq 6, 3) := by decide +kernel
theorem dX12_parsed_34 : decode cX12_parsed 34 = .ok (.goto (-14), 3) := by decide +kernel
theorem dX12_parsed_37 : decode cX12_parsed 37 = .ok (.aload_n 0, 1) := by decide +kernel
theorem dX12_parsed_38 : decode cX12_parsed 38 = .ok (.invokevirtual 193, 3) := by decide +kernel
theorem dX12_parsed_41 : decode cX12_parsed 41 = .ok (.ifCond .ne 14, 3) := by decide +kernel
theorem dX12_parsed_44 : decode cX12_parsed 44 = .ok (.iload_n 1, 1) := by decide +kernel
theorem dX12_parsed_45 : decode cX12_parsed 45 = .ok (.ifCond .eq 12, 3) := by decide +kernel
theorem dX12_parsed_48 : decode cX12_parsed 48 = .ok (.aload_n 0, 1) := by decide +kernel
theorem dX12_parsed_49 : decode cX12_parsed 49 = .ok (.invokevirtual 232, 3) := by decide +kernel
theorem dX12_parsed_52 : decode cX12_parsed 52 = .ok (.ifCond .ne 5, 3) := by decide +kernel
theorem dX12_parsed_55 : decode cX12_parsed 55 = .ok (.iconst 1, 1) := by decide +kernel
theorem dX12_parsed_56 : decode cX12_parsed 56 = .ok (.ireturn, 1) := by decide +kernel
theorem dX12_parsed_57 : decode cX12_parsed 57 = .ok (.aload_n 0, 1) := by decide +kernel
theorem dX12_parsed_58 : decode cX12_parsed 58 = .ok (.iconst 1, 1) := by decide +kernel
theorem dX12_parsed_59 : decode cX12_parsed 59 = .ok (.invokevirtual 206, 3) := by decide +kernel
theorem dX12_parsed_62 : decode cX12_parsed 62 = .ok (.iconst 0, 1) := by decide +kernel
theorem dX12_parsed_63 : decode cX12_parsed 63 = .ok (.ireturn, 1) := by decide +kernel
theorem dX12_parsed_64 : decode cX12_parsed 64 = .ok (.aload_n 0, 1) := by decide +kernel
theorem dX12_parsed_65 : decode cX12_parsed 65 = .ok (.invokevirtual 244, 3) := by decide +kernel
theorem dX12_parsed_68 : decode cX12_parsed 68 = .ok (.istore_n 2, 1) := by decide +kernel
theorem dX12_parsed_69 : decode cX12_parsed 69 = .ok (.iload_n 2, 1) := by decide +kernel
theorem dX12_parsed_70 : decode cX12_parsed 70 = .ok (.ifCond .eq 5, 3) := by decide +kernel
theorem dX12_parsed_73 : decode cX12_parsed 73 = .ok (.iload_n 2, 1) := by decide +kernel
theorem dX12_parsed_74 : decode cX12_parsed 74 = .ok (.ireturn, 1) := by decide +kernel
theorem dX12_parsed_75 : decode cX12_parsed 75 = .ok (.goto (-55), 3) := by decide +kernel
theorem dX12_figure_0 : decode cX12_figure 0 = .ok (.aload_n 0, 1) := by decide +kernel
theorem dX12_figure_1 : decode cX12_figure 1 = .ok (.getfield 126, 3) := by decide +kernel
theorem dX12_figure_4 : decode cX12_figure 4 = .ok (.iconst 1, 1) := by decide +kernel
theorem dX12_figure_5 : decode cX12_figure 5 = .ok (.if_icmp .eq 5, 3) := by decide +kernel
theorem dX12_figure_8 : decode cX12_figure 8 = .ok (.iconst 1, 1) := by decide +kernel
theorem dX12_figure_9 : decode cX12_figure 9 = .ok (.ireturn, 1) := by decide +kernel
theorem dX12_figure_10 : decode cX12_figure 10 = .ok (.aload_n 0, 1) := by decide +kernel
theorem dX12_figure_11 : decode cX12_figure 11 = .ok (.getfield 132, 3) := by decide +kernel
theorem dX12_figure_14 : decode cX12_figure 14 = .ok (.iload_n 2, 1) := by decide +kernel
theorem dX12_figure_15 : decode cX12_figure 15 = .ok (.iload_n 3, 1) := by decide +kernel
theorem dX12_figure_16 : decode cX12_figure 16 = .ok (.invokestatic 90, 3) := by decide +kernel
theorem dX12_figure_19 : decode cX12_figure 19 = .ok (.ifCond .ne 5, 3) := by decide +kernel
theorem dX12_figure_22 : decode cX12_figure 22 = .ok (.iconst 2, 1) := by decide +kernel
theorem dX12_figure_23 : decode cX12_figure 23 = .ok (.ireturn, 1) := by decide +kernel
theorem dX12_figure_24 : decode cX12_figure 24 = .ok (.aload_n 0, 1) := by decide +kernel
theorem dX12_figure_25 : decode cX12_figure 25 = .ok (.getfield 16, 3) := by decide +kernel
theorem dX12_figure_28 : decode cX12_figure 28 = .ok (.iload_n 1, 1) := by decide +kernel
theorem dX12_figure_29 : decode cX12_figure 29 = .ok (.aload_n 0, 1) := by decide +kernel
theorem dX12_figure_30 : decode cX12_figure 30 = .ok (.getfield 132, 3) := by decide +kernel
theorem dX12_figure_33 : decode cX12_figure 33 = .ok (.iastore, 1) := by decide +kernel
theorem dX12_figure_34 : decode cX12_figure 34 = .ok (.aload_n 0, 1) := by decide +kernel
theorem dX12_figure_35 : decode cX12_figure 35 = .ok (.invokevirtual 200, 3) := by decide +kernel
theorem dX12_figure_38 : decode cX12_figure 38 = .ok (.iconst 0, 1) := by decide +kernel
theorem dX12_figure_39 : decode cX12_figure 39 = .ok (.ireturn, 1) := by decide +kernel
theorem dX12_worded_0 : decode cX12_worded 0 = .ok (.aload_n 0, 1) := by decide +kernel
theorem dX12_worded_1 : decode cX12_worded 1 = .ok (.lload_n 1, 1) := by decide +kernel
theorem dX12_worded_2 : decode cX12_worded 2 = .ok (.invokevirtual 219, 3) := by decide +kernel
theorem dX12_worded_5 : decode cX12_worded 5 = .ok (.ifCond .ne 5, 3) := by decide +kernel
theorem dX12_worded_8 : decode cX12_worded 8 = .ok (.iconst 1, 1) := by decide +kernel
theorem dX12_worded_9 : decode cX12_worded 9 = .ok (.ireturn, 1) := by decide +kernel
theorem dX12_worded_10 : decode cX12_worded 10 = .ok (.aload_n 0, 1) := by decide +kernel
theorem dX12_worded_11 : decode cX12_worded 11 = .ok (.invokevirtual 200, 3) := by decide +kernel
theorem dX12_worded_14 : decode cX12_worded 14 = .ok (.aload_n 0, 1) := by decide +kernel
theorem dX12_worded_15 : decode cX12_worded 15 = .ok (.iload_n 3, 1) := by decide +kernel
theorem dX12_worded_16 : decode cX12_worded 16 = .ok (.iload 4, 2) := by decide +kernel
theorem dX12_worded_18 : decode cX12_worded 18 = .ok (.iload 5, 2) := by decide +kernel
theorem dX12_worded_20 : decode cX12_worded 20 = .ok (.invokevirtual 247, 3) := by decide +kernel
theorem dX12_worded_23 : decode cX12_worded 23 = .ok (.ireturn, 1) := by decide +kernel
theorem dX12_lawClause_0 : decode cX12_lawClause 0 = .ok (.aload_n 0, 1) := by decide +kernel
theorem dX12_lawClause_1 : decode cX12_lawClause 1 = .ok (.getfield 16, 3) := by decide +kernel
theorem dX12_lawClause_4 : decode cX12_lawClause 4 = .ok (.iload_n 1, 1) := by decide +kernel
theorem dX12_lawClause_5 : decode cX12_lawClause 5 = .ok (.iconst 1, 1) := by decide +kernel
theorem dX12_lawClause_6 : decode cX12_lawClause 6 = .ok (.iadd, 1) := by decide +kernel
theorem dX12_lawClause_7 : decode cX12_lawClause 7 = .ok (.aload_n 0, 1) := by decide +kernel
theorem dX12_lawClause_8 : decode cX12_lawClause 8 = .ok (.getfield 167, 3) := by decide +kernel
theorem dX12_lawClause_11 : decode cX12_lawClause 11 = .ok (.iastore, 1) := by decide +kernel
theorem dX12_lawClause_12 : decode cX12_lawClause 12 = .ok (.aload_n 0, 1) := by decide +kernel
theorem dX12_lawClause_13 : decode cX12_lawClause 13 = .ok (.iload_n 2, 1) := by decide +kernel
theorem dX12_lawClause_14 : decode cX12_lawClause 14 = .ok (.invokevirtual 251, 3) := by decide +kernel
theorem dX12_lawClause_17 : decode cX12_lawClause 17 = .ok (.istore_n 3, 1) := by decide +kernel
theorem dX12_lawClause_18 : decode cX12_lawClause 18 = .ok (.aload_n 0, 1) := by decide +kernel
theorem dX12_lawClause_19 : decode cX12_lawClause 19 = .ok (.getfield 16, 3) := by decide +kernel
theorem dX12_lawClause_22 : decode cX12_lawClause 22 = .ok (.iload_n 1, 1) := by decide +kernel
theorem dX12_lawClause_23 : decode cX12_lawClause 23 = .ok (.iconst 2, 1) := by decide +kernel
theorem dX12_lawClause_24 : decode cX12_lawClause 24 = .ok (.iadd, 1) := by decide +kernel
theorem dX12_lawClause_25 : decode cX12_lawClause 25 = .ok (.aload_n 0, 1) := by decide +kernel
theorem dX12_lawClause_26 : decode cX12_lawClause 26 = .ok (.getfield 167, 3) := by decide +kernel
theorem dX12_lawClause_29 : decode cX12_lawClause 29 = .ok (.iastore, 1) := by decide +kernel
theorem dX12_lawClause_30 : decode cX12_lawClause 30 = .ok (.iload_n 3, 1) := by decide +kernel
theorem dX12_lawClause_31 : decode cX12_lawClause 31 = .ok (.ireturn, 1) := by decide +kernel
theorem dX12_stepClause_0 : decode cX12_stepClause 0 = .ok (.aload_n 0, 1) := by decide +kernel
theorem dX12_stepClause_1 : decode cX12_stepClause 1 = .ok (.iload_n 1, 1) := by decide +kernel
theorem dX12_stepClause_2 : decode cX12_stepClause 2 = .ok (.iconst 1, 1) := by decide +kernel
theorem dX12_stepClause_3 : decode cX12_stepClause 3 = .ok (.iadd, 1) := by decide +kernel
theorem dX12_stepClause_4 : decode cX12_stepClause 4 = .ok (.iconst 1, 1) := by decide +kernel
theorem dX12_stepClause_5 : decode cX12_stepClause 5 = .ok (.bipush 99, 2) := by decide +kernel
theorem dX12_stepClause_7 : decode cX12_stepClause 7 = .ok (.invokevirtual 247, 3) := by decide +kernel
theorem dX12_stepClause_10 : decode cX12_stepClause 10 = .ok (.istore_n 2, 1) := by decide +kernel
theorem dX12_stepClause_11 : decode cX12_stepClause 11 = .ok (.iload_n 2, 1) := by decide +kernel
theorem dX12_stepClause_12 : decode cX12_stepClause 12 = .ok (.ifCond .ne 25, 3) := by decide +kernel
theorem dX12_stepClause_15 : decode cX12_stepClause 15 = .ok (.aload_n 0, 1) := by decide +kernel
theorem dX12_stepClause_16 : decode cX12_stepClause 16 = .ok (.bipush 115, 2) := by decide +kernel
theorem dX12_stepClause_18 : decode cX12_stepClause 18 = .ok (.bipush 105, 2) := by decide +kernel
theorem dX12_stepClause_20 : decode cX12_stepClause 20 = .ok (.bipush 108, 2) := by decide +kernel
theorem dX12_stepClause_22 : decode cX12_stepClause 22 = .ok (.bipush 108, 2) := by decide +kernel
theorem dX12_stepClause_24 : decode cX12_stepClause 24 = .ok (.invokestatic 156, 3) := by decide +kernel
theorem dX12_stepClause_27 : decode cX12_stepClause 27 = .ok (.iload_n 1, 1) := by decide +kernel
theorem dX12_stepClause_28 : decode cX12_stepClause 28 = .ok (.iconst 2, 1) := by decide +kernel
theorem dX12_stepClause_29 : decode cX12_stepClause 29 = .ok (.iadd, 1) := by decide +kernel
theorem dX12_stepClause_30 : decode cX12_stepClause 30 = .ok (.iconst 0, 1) := by decide +kernel
theorem dX12_stepClause_31 : decode cX12_stepClause 31 = .ok (.bipush 99, 2) := by decide +kernel
theorem dX12_stepClause_33 : decode cX12_stepClause 33 = .ok (.invokevirtual 255, 3) := by decide +kernel
theorem dX12_stepClause_36 : decode cX12_stepClause 36 = .ok (.istore_n 2, 1) := by decide +kernel
theorem dX12_stepClause_37 : decode cX12_stepClause 37 = .ok (.iload_n 2, 1) := by decide +kernel
theorem dX12_stepClause_38 : decode cX12_stepClause 38 = .ok (.ifCond .ne 28, 3) := by decide +kernel
theorem dX12_stepClause_41 : decode cX12_stepClause 41 = .ok (.aload_n 0, 1) := by decide +kernel
theorem dX12_stepClause_42 : decode cX12_stepClause 42 = .ok (.bipush 119, 2) := by decide +kernel
theorem dX12_stepClause_44 : decode cX12_stepClause 44 = .ok (.bipush 97, 2) := by decide +kernel
theorem dX12_stepClause_46 : decode cX12_stepClause 46 = .ok (.bipush 116, 2) := by decide +kernel
theorem dX12_stepClause_48 : decode cX12_stepClause 48 = .ok (.bipush 101, 2) := by decide +kernel
theorem dX12_stepClause_50 : decode cX12_stepClause 50 = .ok (.bipush 114, 2) := by decide +kernel
theorem dX12_stepClause_52 : decode cX12_stepClause 52 = .ok (.invokestatic 160, 3) := by decide +kernel
theorem dX12_stepClause_55 : decode cX12_stepClause 55 = .ok (.iload_n 1, 1) := by decide +kernel
theorem dX12_stepClause_56 : decode cX12_stepClause 56 = .ok (.iconst 3, 1) := by decide +kernel
theorem dX12_stepClause_57 : decode cX12_stepClause 57 = .ok (.iadd, 1) := by decide +kernel
theorem dX12_stepClause_58 : decode cX12_stepClause 58 = .ok (.iconst 0, 1) := by decide +kernel
theorem dX12_stepClause_59 : decode cX12_stepClause 59 = .ok (.sipush 999, 3) := by decide +kernel
theorem dX12_stepClause_62 : decode cX12_stepClause 62 = .ok (.invokevirtual 255, 3) := by decide +kernel
theorem dX12_stepClause_65 : decode cX12_stepClause 65 = .ok (.istore_n 2, 1) := by decide +kernel
theorem dX12_stepClause_66 : decode cX12_stepClause 66 = .ok (.iload_n 2, 1) := by decide +kernel
theorem dX12_stepClause_67 : decode cX12_stepClause 67 = .ok (.ifCond .eq 7, 3) := by decide +kernel
theorem dX12_stepClause_70 : decode cX12_stepClause 70 = .ok (.iload_n 2, 1) := by decide +kernel
theorem dX12_stepClause_71 : decode cX12_stepClause 71 = .ok (.goto 25, 3) := by decide +kernel
theorem dX12_stepClause_74 : decode cX12_stepClause 74 = .ok (.aload_n 0, 1) := by decide +kernel
theorem dX12_stepClause_75 : decode cX12_stepClause 75 = .ok (.bipush 102, 2) := by decide +kernel
theorem dX12_stepClause_77 : decode cX12_stepClause 77 = .ok (.bipush 105, 2) := by decide +kernel
theorem dX12_stepClause_79 : decode cX12_stepClause 79 = .ok (.bipush 115, 2) := by decide +kernel
theorem dX12_stepClause_81 : decode cX12_stepClause 81 = .ok (.bipush 104, 2) := by decide +kernel
theorem dX12_stepClause_83 : decode cX12_stepClause 83 = .ok (.invokestatic 156, 3) := by decide +kernel
theorem dX12_stepClause_86 : decode cX12_stepClause 86 = .ok (.iload_n 1, 1) := by decide +kernel
theorem dX12_stepClause_87 : decode cX12_stepClause 87 = .ok (.iconst 4, 1) := by decide +kernel
theorem dX12_stepClause_88 : decode cX12_stepClause 88 = .ok (.iadd, 1) := by decide +kernel
theorem dX12_stepClause_89 : decode cX12_stepClause 89 = .ok (.iconst 0, 1) := by decide +kernel
theorem dX12_stepClause_90 : decode cX12_stepClause 90 = .ok (.sipush 999, 3) := by decide +kernel
theorem dX12_stepClause_93 : decode cX12_stepClause 93 = .ok (.invokevirtual 255, 3) := by decide +kernel
theorem dX12_stepClause_96 : decode cX12_stepClause 96 = .ok (.ireturn, 1) := by decide +kernel
theorem dX12_shipClause_0 : decode cX12_shipClause 0 = .ok (.aload_n 0, 1) := by decide +kernel
theorem dX12_shipClause_1 : decode cX12_shipClause 1 = .ok (.iload_n 1, 1) := by decide +kernel
theorem dX12_shipClause_2 : decode cX12_shipClause 2 = .ok (.iconst 1, 1) := by decide +kernel
theorem dX12_shipClause_3 : decode cX12_shipClause 3 = .ok (.iadd, 1) := by decide +kernel
theorem dX12_shipClause_4 : decode cX12_shipClause 4 = .ok (.iconst 1, 1) := by decide +kernel
theorem dX12_shipClause_5 : decode cX12_shipClause 5 = .ok (.bipush 99, 2) := by decide +kernel
theorem dX12_shipClause_7 : decode cX12_shipClause 7 = .ok (.invokevirtual 247, 3) := by decide +kernel
theorem dX12_shipClause_10 : decode cX12_shipClause 10 = .ok (.istore_n 2, 1) := by decide +kernel
theorem dX12_shipClause_11 : decode cX12_shipClause 11 = .ok (.iload_n 2, 1) := by decide +kernel
theorem dX12_shipClause_12 : decode cX12_shipClause 12 = .ok (.ifCond .ne 21, 3) := by decide +kernel
theorem dX12_shipClause_15 : decode cX12_shipClause 15 = .ok (.aload_n 0, 1) := by decide +kernel
theorem dX12_shipClause_16 : decode cX12_shipClause 16 = .ok (.bipush 111, 2) := by decide +kernel
theorem dX12_shipClause_18 : decode cX12_shipClause 18 = .ok (.bipush 110, 2) := by decide +kernel
theorem dX12_shipClause_20 : decode cX12_shipClause 20 = .ok (.invokestatic 148, 3) := by decide +kernel
theorem dX12_shipClause_23 : decode cX12_shipClause 23 = .ok (.iload_n 1, 1) := by decide +kernel
theorem dX12_shipClause_24 : decode cX12_shipClause 24 = .ok (.iconst 2, 1) := by decide +kernel
theorem dX12_shipClause_25 : decode cX12_shipClause 25 = .ok (.iadd, 1) := by decide +kernel
theorem dX12_shipClause_26 : decode cX12_shipClause 26 = .ok (.iconst 0, 1) := by decide +kernel
theorem dX12_shipClause_27 : decode cX12_shipClause 27 = .ok (.bipush 8, 2) := by decide +kernel
theorem dX12_shipClause_29 : decode cX12_shipClause 29 = .ok (.invokevirtual 255, 3) := by decide +kernel
theorem dX12_shipClause_32 : decode cX12_shipClause 32 = .ok (.istore_n 2, 1) := by decide +kernel
theorem dX12_shipClause_33 : decode cX12_shipClause 33 = .ok (.iload_n 2, 1) := by decide +kernel
theorem dX12_shipClause_34 : decode cX12_shipClause 34 = .ok (.ifCond .eq 7, 3) := by decide +kernel
theorem dX12_shipClause_37 : decode cX12_shipClause 37 = .ok (.iload_n 2, 1) := by decide +kernel
theorem dX12_shipClause_38 : decode cX12_shipClause 38 = .ok (.goto 20, 3) := by decide +kernel
theorem dX12_shipClause_41 : decode cX12_shipClause 41 = .ok (.aload_n 0, 1) := by decide +kernel
theorem dX12_shipClause_42 : decode cX12_shipClause 42 = .ok (.bipush 116, 2) := by decide +kernel
theorem dX12_shipClause_44 : decode cX12_shipClause 44 = .ok (.bipush 111, 2) := by decide +kernel
theorem dX12_shipClause_46 : decode cX12_shipClause 46 = .ok (.invokestatic 148, 3) := by decide +kernel
theorem dX12_shipClause_49 : decode cX12_shipClause 49 = .ok (.iload_n 1, 1) := by decide +kernel
theorem dX12_shipClause_50 : decode cX12_shipClause 50 = .ok (.iconst 3, 1) := by decide +kernel
theorem dX12_shipClause_51 : decode cX12_shipClause 51 = .ok (.iadd, 1) := by decide +kernel
theorem dX12_shipClause_52 : decode cX12_shipClause 52 = .ok (.iconst 0, 1) := by decide +kernel
theorem dX12_shipClause_53 : decode cX12_shipClause 53 = .ok (.bipush 8, 2) := by decide +kernel
theorem dX12_shipClause_55 : decode cX12_shipClause 55 = .ok (.invokevirtual 255, 3) := by decide +kernel
theorem dX12_shipClause_58 : decode cX12_shipClause 58 = .ok (.ireturn, 1) := by decide +kernel
theorem dX12_pair_0 : decode cX12_pair 0 = .ok (.aload_n 0, 1) := by decide +kernel
theorem dX12_pair_1 : decode cX12_pair 1 = .ok (.iload_n 1, 1) := by decide +kernel
theorem dX12_pair_2 : decode cX12_pair 2 = .ok (.iconst 1, 1) := by decide +kernel
theorem dX12_pair_3 : decode cX12_pair 3 = .ok (.iadd, 1) := by decide +kernel
theorem dX12_pair_4 : decode cX12_pair 4 = .ok (.iconst 0, 1) := by decide +kernel
theorem dX12_pair_5 : decode cX12_pair 5 = .ok (.iload_n 2, 1) := by decide +kernel
theorem dX12_pair_6 : decode cX12_pair 6 = .ok (.invokevirtual 247, 3) := by decide +kernel
theorem dX12_pair_9 : decode cX12_pair 9 = .ok (.istore 7, 2) := by decide +kernel
theorem dX12_pair_11 : decode cX12_pair 11 = .ok (.iload 7, 2) := by decide +kernel
theorem dX12_pair_13 : decode cX12_pair 13 = .ok (.ifCond .eq 8, 3) := by decide +kernel
theorem dX12_pair_16 : decode cX12_pair 16 = .ok (.iload 7, 2) := by decide +kernel
theorem dX12_pair_18 : decode cX12_pair 18 = .ok (.goto 15, 3) := by decide +kernel
theorem dX12_pair_21 : decode cX12_pair 21 = .ok (.aload_n 0, 1) := by decide +kernel
theorem dX12_pair_22 : decode cX12_pair 22 = .ok (.lload_n 3, 1) := by decide +kernel
theorem dX12_pair_23 : decode cX12_pair 23 = .ok (.iload_n 1, 1) := by decide +kernel
theorem dX12_pair_24 : decode cX12_pair 24 = .ok (.iconst 2, 1) := by decide +kernel
theorem dX12_pair_25 : decode cX12_pair 25 = .ok (.iadd, 1) := by decide +kernel
theorem dX12_pair_26 : decode cX12_pair 26 = .ok (.iload 5, 2) := by decide +kernel
theorem dX12_pair_28 : decode cX12_pair 28 = .ok (.iload 6, 2) := by decide +kernel
theorem dX12_pair_30 : decode cX12_pair 30 = .ok (.invokevirtual 255, 3) := by decide +kernel
theorem dX12_pair_33 : decode cX12_pair 33 = .ok (.ireturn, 1) := by decide +kernel
theorem dX12_body_0 : decode cX12_body 0 = .ok (.iload_n 1, 1) := by decide +kernel
theorem dX12_body_1 : decode cX12_body 1 = .ok (.tableswitch 143 4 11 #[47, 54, 60, 66, 77, 96, 114, 125], 47) := by decide +kernel
theorem dX12_body_48 : decode cX12_body 48 = .ok (.aload_n 0, 1) := by decide +kernel
theorem dX12_body_49 : decode cX12_body 49 = .ok (.iload_n 2, 1) := by decide +kernel
theorem dX12_body_50 : decode cX12_body 50 = .ok (.iconst 1, 1) := by decide +kernel
theorem dX12_body_51 : decode cX12_body 51 = .ok (.invokevirtual 259, 3) := by decide +kernel
theorem dX12_body_54 : decode cX12_body 54 = .ok (.ireturn, 1) := by decide +kernel
theorem dX12_body_55 : decode cX12_body 55 = .ok (.aload_n 0, 1) := by decide +kernel
theorem dX12_body_56 : decode cX12_body 56 = .ok (.iload_n 2, 1) := by decide +kernel
theorem dX12_body_57 : decode cX12_body 57 = .ok (.invokevirtual 263, 3) := by decide +kernel
theorem dX12_body_60 : decode cX12_body 60 = .ok (.ireturn, 1) := by decide +kernel
theorem dX12_body_61 : decode cX12_body 61 = .ok (.aload_n 0, 1) := by decide +kernel
theorem dX12_body_62 : decode cX12_body 62 = .ok (.iload_n 2, 1) := by decide +kernel
theorem dX12_body_63 : decode cX12_body 63 = .ok (.invokevirtual 266, 3) := by decide +kernel
theorem dX12_body_66 : decode cX12_body 66 = .ok (.ireturn, 1) := by decide +kernel
theorem dX12_body_67 : decode cX12_body 67 = .ok (.aload_n 0, 1) := by decide +kernel
theorem dX12_body_68 : decode cX12_body 68 = .ok (.iload_n 2, 1) := by decide +kernel
theorem dX12_body_69 : decode cX12_body 69 = .ok (.iconst 1, 1) := by decide +kernel
theorem dX12_body_70 : decode cX12_body 70 = .ok (.iadd, 1) := by decide +kernel
theorem dX12_body_71 : decode cX12_body 71 = .ok (.iconst 1, 1) := by decide +kernel
theorem dX12_body_72 : decode cX12_body 72 = .ok (.bipush 60, 2) := by decide +kernel
theorem dX12_body_74 : decode cX12_body 74 = .ok (.invokevirtual 247, 3) := by decide +kernel
theorem dX12_body_77 : decode cX12_body 77 = .ok (.ireturn, 1) := by decide +kernel
theorem dX12_body_78 : decode cX12_body 78 = .ok (.aload_n 0, 1) := by decide +kernel
theorem dX12_body_79 : decode cX12_body 79 = .ok (.iload_n 2, 1) := by decide +kernel
theorem dX12_body_80 : decode cX12_body 80 = .ok (.bipush 8, 2) := by decide +kernel
theorem dX12_body_82 : decode cX12_body 82 = .ok (.bipush 98, 2) := by decide +kernel
theorem dX12_body_84 : decode cX12_body 84 = .ok (.bipush 121, 2) := by decide +kernel
theorem dX12_body_86 : decode cX12_body 86 = .ok (.invokestatic 148, 3) := by decide +kernel
theorem dX12_body_89 : decode cX12_body 89 = .ok (.iconst 1, 1) := by decide +kernel
theorem dX12_body_90 : decode cX12_body 90 = .ok (.sipush 999, 3) := by decide +kernel
theorem dX12_body_93 : decode cX12_body 93 = .ok (.invokevirtual 269, 3) := by decide +kernel
theorem dX12_body_96 : decode cX12_body 96 = .ok (.ireturn, 1) := by decide +kernel
theorem dX12_body_97 : decode cX12_body 97 = .ok (.aload_n 0, 1) := by decide +kernel
theorem dX12_body_98 : decode cX12_body 98 = .ok (.iload_n 2, 1) := by decide +kernel
theorem dX12_body_99 : decode cX12_body 99 = .ok (.bipush 8, 2) := by decide +kernel
theorem dX12_body_101 : decode cX12_body 101 = .ok (.bipush 116, 2) := by decide +kernel
theorem dX12_body_103 : decode cX12_body 103 = .ok (.bipush 111, 2) := by decide +kernel
theorem dX12_body_105 : decode cX12_body 105 = .ok (.invokestatic 148, 3) := by decide +kernel
theorem dX12_body_108 : decode cX12_body 108 = .ok (.iconst 0, 1) := by decide +kernel
theorem dX12_body_109 : decode cX12_body 109 = .ok (.bipush 99, 2) := by decide +kernel
theorem dX12_body_111 : decode cX12_body 111 = .ok (.invokevirtual 269, 3) := by decide +kernel
theorem dX12_body_114 : decode cX12_body 114 = .ok (.ireturn, 1) := by decide +kernel
theorem dX12_body_115 : decode cX12_body 115 = .ok (.aload_n 0, 1) := by decide +kernel
theorem dX12_body_116 : decode cX12_body 116 = .ok (.iload_n 2, 1) := by decide +kernel
theorem dX12_body_117 : decode cX12_body 117 = .ok (.iconst 1, 1) := by decide +kernel
theorem dX12_body_118 : decode cX12_body 118 = .ok (.iadd, 1) := by decide +kernel
theorem dX12_body_119 : decode cX12_body 119 = .ok (.iconst 0, 1) := by decide +kernel
theorem dX12_body_120 : decode cX12_body 120 = .ok (.bipush 8, 2) := by decide +kernel
theorem dX12_body_122 : decode cX12_body 122 = .ok (.invokevirtual 247, 3) := by decide +kernel
theorem dX12_body_125 : decode cX12_body 125 = .ok (.ireturn, 1) := by decide +kernel
theorem dX12_body_126 : decode cX12_body 126 = .ok (.aload_n 0, 1) := by decide +kernel
theorem dX12_body_127 : decode cX12_body 127 = .ok (.iload_n 2, 1) := by decide +kernel
theorem dX12_body_128 : decode cX12_body 128 = .ok (.bipush 6, 2) := by decide +kernel
theorem dX12_body_130 : decode cX12_body 130 = .ok (.bipush 116, 2) := by decide +kernel
theorem dX12_body_132 : decode cX12_body 132 = .ok (.bipush 111, 2) := by decide +kernel
theorem dX12_body_134 : decode cX12_body 134 = .ok (.invokestatic 148, 3) := by decide +kernel
theorem dX12_body_137 : decode cX12_body 137 = .ok (.iconst 0, 1) := by decide +kernel
theorem dX12_body_138 : decode cX12_body 138 = .ok (.bipush 8, 2) := by decide +kernel
theorem dX12_body_140 : decode cX12_body 140 = .ok (.invokevirtual 269, 3) := by decide +kernel
theorem dX12_body_143 : decode cX12_body 143 = .ok (.ireturn, 1) := by decide +kernel
theorem dX12_body_144 : decode cX12_body 144 = .ok (.aload_n 0, 1) := by decide +kernel
theorem dX12_body_145 : decode cX12_body 145 = .ok (.iload_n 2, 1) := by decide +kernel
theorem dX12_body_146 : decode cX12_body 146 = .ok (.iconst 0, 1) := by decide +kernel
theorem dX12_body_147 : decode cX12_body 147 = .ok (.invokevirtual 259, 3) := by decide +kernel
theorem dX12_body_150 : decode cX12_body 150 = .ok (.ireturn, 1) := by decide +kernel
theorem dX12_sortOf_0 : decode cX12_sortOf 0 = .ok (.aload_n 0, 1) := by decide +kernel
theorem dX12_sortOf_1 : decode cX12_sortOf 1 = .ok (.bipush 116, 2) := by decide +kernel
theorem dX12_sortOf_3 : decode cX12_sortOf 3 = .ok (.bipush 97, 2) := by decide +kernel
theorem dX12_sortOf_5 : decode cX12_sortOf 5 = .ok (.bipush 107, 2) := by decide +kernel
theorem dX12_sortOf_7 : decode cX12_sortOf 7 = .ok (.bipush 101, 2) := by decide +kernel
theorem dX12_sortOf_9 : decode cX12_sortOf 9 = .ok (.bipush 115, 2) := by decide +kernel
theorem dX12_sortOf_11 : decode cX12_sortOf 11 = .ok (.invokestatic 160, 3) := by decide +kernel
theorem dX12_sortOf_14 : decode cX12_sortOf 14 = .ok (.invokevirtual 219, 3) := by decide +kernel
theorem dX12_sortOf_17 : decode cX12_sortOf 17 = .ok (.ifCond .eq 5, 3) := by decide +kernel
theorem dX12_sortOf_20 : decode cX12_sortOf 20 = .ok (.iconst 0, 1) := by decide +kernel
theorem dX12_sortOf_21 : decode cX12_sortOf 21 = .ok (.ireturn, 1) := by decide +kernel
theorem dX12_sortOf_22 : decode cX12_sortOf 22 = .ok (.aload_n 0, 1) := by decide +kernel
theorem dX12_sortOf_23 : decode cX12_sortOf 23 = .ok (.bipush 104, 2) := by decide +kernel
theorem dX12_sortOf_25 : decode cX12_sortOf 25 = .ok (.bipush 97, 2) := by decide +kernel
theorem dX12_sortOf_27 : decode cX12_sortOf 27 = .ok (.bipush 117, 2) := by decide +kernel
theorem dX12_sortOf_29 : decode cX12_sortOf 29 = .ok (.bipush 108, 2) := by decide +kernel
theorem dX12_sortOf_31 : decode cX12_sortOf 31 = .ok (.bipush 115, 2) := by decide +kernel
theorem dX12_sortOf_33 : decode cX12_sortOf 33 = .ok (.invokestatic 160, 3) := by decide +kernel
theorem dX12_sortOf_36 : decode cX12_sortOf 36 = .ok (.invokevirtual 219, 3) := by decide +kernel
theorem dX12_sortOf_39 : decode cX12_sortOf 39 = .ok (.ifCond .eq 5, 3) := by decide +kernel
theorem dX12_sortOf_42 : decode cX12_sortOf 42 = .ok (.iconst 1, 1) := by decide +kernel
theorem dX12_sortOf_43 : decode cX12_sortOf 43 = .ok (.ireturn, 1) := by decide +kernel
theorem dX12_sortOf_44 : decode cX12_sortOf 44 = .ok (.aload_n 0, 1) := by decide +kernel
theorem dX12_sortOf_45 : decode cX12_sortOf 45 = .ok (.bipush 119, 2) := by decide +kernel
theorem dX12_sortOf_47 : decode cX12_sortOf 47 = .ok (.bipush 101, 2) := by decide +kernel
theorem dX12_sortOf_49 : decode cX12_sortOf 49 = .ok (.bipush 97, 2) := by decide +kernel
theorem dX12_sortOf_51 : decode cX12_sortOf 51 = .ok (.bipush 114, 2) := by decide +kernel
theorem dX12_sortOf_53 : decode cX12_sortOf 53 = .ok (.bipush 115, 2) := by decide +kernel
theorem dX12_sortOf_55 : decode cX12_sortOf 55 = .ok (.invokestatic 160, 3) := by decide +kernel
theorem dX12_sortOf_58 : decode cX12_sortOf 58 = .ok (.invokevirtual 219, 3) := by decide +kernel
theorem dX12_sortOf_61 : decode cX12_sortOf 61 = .ok (.ifCond .eq 5, 3) := by decide +kernel
theorem dX12_sortOf_64 : decode cX12_sortOf 64 = .ok (.iconst 2, 1) := by decide +kernel
theorem dX12_sortOf_65 : decode cX12_sortOf 65 = .ok (.ireturn, 1) := by decide +kernel
theorem dX12_sortOf_66 : decode cX12_sortOf 66 = .ok (.aload_n 0, 1) := by decide +kernel
theorem dX12_sortOf_67 : decode cX12_sortOf 67 = .ok (.bipush 102, 2) := by decide +kernel
theorem dX12_sortOf_69 : decode cX12_sortOf 69 = .ok (.bipush 108, 2) := by decide +kernel
theorem dX12_sortOf_71 : decode cX12_sortOf 71 = .ok (.bipush 111, 2) := by decide +kernel
theorem dX12_sortOf_73 : decode cX12_sortOf 73 = .ok (.bipush 119, 2) := by decide +kernel
theorem dX12_sortOf_75 : decode cX12_sortOf 75 = .ok (.bipush 115, 2) := by decide +kernel
theorem dX12_sortOf_77 : decode cX12_sortOf 77 = .ok (.invokestatic 160, 3) := by decide +kernel
theorem dX12_sortOf_80 : decode cX12_sortOf 80 = .ok (.invokevirtual 219, 3) := by decide +kernel
theorem dX12_sortOf_83 : decode cX12_sortOf 83 = .ok (.ifCond .eq 5, 3) := by decide +kernel
theorem dX12_sortOf_86 : decode cX12_sortOf 86 = .ok (.iconst 3, 1) := by decide +kernel
theorem dX12_sortOf_87 : decode cX12_sortOf 87 = .ok (.ireturn, 1) := by decide +kernel
theorem dX12_sortOf_88 : decode cX12_sortOf 88 = .ok (.aload_n 0, 1) := by decide +kernel
theorem dX12_sortOf_89 : decode cX12_sortOf 89 = .ok (.bipush 102, 2) := by decide +kernel
theorem dX12_sortOf_91 : decode cX12_sortOf 91 = .ok (.bipush 97, 2) := by decide +kernel
theorem dX12_sortOf_93 : decode cX12_sortOf 93 = .ok (.bipush 108, 2) := by decide +kernel
theorem dX12_sortOf_95 : decode cX12_sortOf 95 = .ok (.bipush 108, 2) := by decide +kernel
theorem dX12_sortOf_97 : decode cX12_sortOf 97 = .ok (.bipush 115, 2) := by decide +kernel
theorem dX12_sortOf_99 : decode cX12_sortOf 99 = .ok (.invokestatic 160, 3) := by decide +kernel
theorem dX12_sortOf_102 : decode cX12_sortOf 102 = .ok (.invokevirtual 219, 3) := by decide +kernel
theorem dX12_sortOf_105 : decode cX12_sortOf 105 = .ok (.ifCond .eq 5, 3) := by decide +kernel
theorem dX12_sortOf_108 : decode cX12_sortOf 108 = .ok (.iconst 4, 1) := by decide +kernel
theorem dX12_sortOf_109 : decode cX12_sortOf 109 = .ok (.ireturn, 1) := by decide +kernel
theorem dX12_sortOf_110 : decode cX12_sortOf 110 = .ok (.aload_n 0, 1) := by decide +kernel
theorem dX12_sortOf_111 : decode cX12_sortOf 111 = .ok (.bipush 115, 2) := by decide +kernel
theorem dX12_sortOf_113 : decode cX12_sortOf 113 = .ok (.bipush 116, 2) := by decide +kernel
theorem dX12_sortOf_115 : decode cX12_sortOf 115 = .ok (.bipush 101, 2) := by decide +kernel
theorem dX12_sortOf_117 : decode cX12_sortOf 117 = .ok (.bipush 112, 2) := by decide +kernel
theorem dX12_sortOf_119 : decode cX12_sortOf 119 = .ok (.invokestatic 156, 3) := by decide +kernel
theorem dX12_sortOf_122 : decode cX12_sortOf 122 = .ok (.invokevirtual 219, 3) := by decide +kernel
theorem dX12_sortOf_125 : decode cX12_sortOf 125 = .ok (.ifCond .eq 5, 3) := by decide +kernel
theorem dX12_sortOf_128 : decode cX12_sortOf 128 = .ok (.iconst 5, 1) := by decide +kernel
theorem dX12_sortOf_129 : decode cX12_sortOf 129 = .ok (.ireturn, 1) := by decide +kernel
theorem dX12_sortOf_130 : decode cX12_sortOf 130 = .ok (.aload_n 0, 1) := by decide +kernel
theorem dX12_sortOf_131 : decode cX12_sortOf 131 = .ok (.bipush 115, 2) := by decide +kernel
theorem dX12_sortOf_133 : decode cX12_sortOf 133 = .ok (.bipush 104, 2) := by decide +kernel
theorem dX12_sortOf_135 : decode cX12_sortOf 135 = .ok (.bipush 105, 2) := by decide +kernel
theorem dX12_sortOf_137 : decode cX12_sortOf 137 = .ok (.bipush 112, 2) := by decide +kernel
theorem dX12_sortOf_139 : decode cX12_sortOf 139 = .ok (.invokestatic 156, 3) := by decide +kernel
theorem dX12_sortOf_142 : decode cX12_sortOf 142 = .ok (.invokevirtual 219, 3) := by decide +kernel
theorem dX12_sortOf_145 : decode cX12_sortOf 145 = .ok (.ifCond .eq 6, 3) := by decide +kernel
theorem dX12_sortOf_148 : decode cX12_sortOf 148 = .ok (.bipush 6, 2) := by decide +kernel
theorem dX12_sortOf_150 : decode cX12_sortOf 150 = .ok (.ireturn, 1) := by decide +kernel
theorem dX12_sortOf_151 : decode cX12_sortOf 151 = .ok (.aload_n 0, 1) := by decide +kernel
theorem dX12_sortOf_152 : decode cX12_sortOf 152 = .ok (.bipush 104, 2) := by decide +kernel
theorem dX12_sortOf_154 : decode cX12_sortOf 154 = .ok (.bipush 111, 2) := by decide +kernel
theorem dX12_sortOf_156 : decode cX12_sortOf 156 = .ok (.bipush 117, 2) := by decide +kernel
theorem dX12_sortOf_158 : decode cX12_sortOf 158 = .ok (.bipush 114, 2) := by decide +kernel
theorem dX12_sortOf_160 : decode cX12_sortOf 160 = .ok (.invokestatic 156, 3) := by decide +kernel
theorem dX12_sortOf_163 : decode cX12_sortOf 163 = .ok (.invokevirtual 219, 3) := by decide +kernel
theorem dX12_sortOf_166 : decode cX12_sortOf 166 = .ok (.ifCond .eq 6, 3) := by decide +kernel
theorem dX12_sortOf_169 : decode cX12_sortOf 169 = .ok (.bipush 7, 2) := by decide +kernel
theorem dX12_sortOf_171 : decode cX12_sortOf 171 = .ok (.ireturn, 1) := by decide +kernel
theorem dX12_sortOf_172 : decode cX12_sortOf 172 = .ok (.aload_n 0, 1) := by decide +kernel
theorem dX12_sortOf_173 : decode cX12_sortOf 173 = .ok (.bipush 102, 2) := by decide +kernel
theorem dX12_sortOf_175 : decode cX12_sortOf 175 = .ok (.bipush 108, 2) := by decide +kernel
theorem dX12_sortOf_177 : decode cX12_sortOf 177 = .ok (.bipush 111, 2) := by decide +kernel
theorem dX12_sortOf_179 : decode cX12_sortOf 179 = .ok (.bipush 111, 2) := by decide +kernel
theorem dX12_sortOf_181 : decode cX12_sortOf 181 = .ok (.bipush 100, 2) := by decide +kernel
theorem dX12_sortOf_183 : decode cX12_sortOf 183 = .ok (.invokestatic 160, 3) := by decide +kernel
theorem dX12_sortOf_186 : decode cX12_sortOf 186 = .ok (.invokevirtual 219, 3) := by decide +kernel
theorem dX12_sortOf_189 : decode cX12_sortOf 189 = .ok (.ifCond .eq 6, 3) := by decide +kernel
theorem dX12_sortOf_192 : decode cX12_sortOf 192 = .ok (.bipush 8, 2) := by decide +kernel
theorem dX12_sortOf_194 : decode cX12_sortOf 194 = .ok (.ireturn, 1) := by decide +kernel
theorem dX12_sortOf_195 : decode cX12_sortOf 195 = .ok (.aload_n 0, 1) := by decide +kernel
theorem dX12_sortOf_196 : decode cX12_sortOf 196 = .ok (.bipush 114, 2) := by decide +kernel
theorem dX12_sortOf_198 : decode cX12_sortOf 198 = .ok (.bipush 97, 2) := by decide +kernel
theorem dX12_sortOf_200 : decode cX12_sortOf 200 = .ok (.bipush 105, 2) := by decide +kernel
theorem dX12_sortOf_202 : decode cX12_sortOf 202 = .ok (.bipush 115, 2) := by decide +kernel
theorem dX12_sortOf_204 : decode cX12_sortOf 204 = .ok (.bipush 101, 2) := by decide +kernel
theorem dX12_sortOf_206 : decode cX12_sortOf 206 = .ok (.invokestatic 160, 3) := by decide +kernel
theorem dX12_sortOf_209 : decode cX12_sortOf 209 = .ok (.invokevirtual 219, 3) := by decide +kernel
theorem dX12_sortOf_212 : decode cX12_sortOf 212 = .ok (.ifCond .eq 6, 3) := by decide +kernel
theorem dX12_sortOf_215 : decode cX12_sortOf 215 = .ok (.bipush 9, 2) := by decide +kernel
theorem dX12_sortOf_217 : decode cX12_sortOf 217 = .ok (.ireturn, 1) := by decide +kernel
theorem dX12_sortOf_218 : decode cX12_sortOf 218 = .ok (.aload_n 0, 1) := by decide +kernel
theorem dX12_sortOf_219 : decode cX12_sortOf 219 = .ok (.bipush 109, 2) := by decide +kernel
theorem dX12_sortOf_221 : decode cX12_sortOf 221 = .ok (.bipush 101, 2) := by decide +kernel
theorem dX12_sortOf_223 : decode cX12_sortOf 223 = .ok (.bipush 110, 2) := by decide +kernel
theorem dX12_sortOf_225 : decode cX12_sortOf 225 = .ok (.bipush 100, 2) := by decide +kernel
theorem dX12_sortOf_227 : decode cX12_sortOf 227 = .ok (.invokestatic 156, 3) := by decide +kernel
theorem dX12_sortOf_230 : decode cX12_sortOf 230 = .ok (.invokevirtual 219, 3) := by decide +kernel
theorem dX12_sortOf_233 : decode cX12_sortOf 233 = .ok (.ifCond .eq 8, 3) := by decide +kernel
theorem dX12_sortOf_236 : decode cX12_sortOf 236 = .ok (.bipush 10, 2) := by decide +kernel
theorem dX12_sortOf_238 : decode cX12_sortOf 238 = .ok (.goto 27, 3) := by decide +kernel
theorem dX12_sortOf_241 : decode cX12_sortOf 241 = .ok (.aload_n 0, 1) := by decide +kernel
theorem dX12_sortOf_242 : decode cX12_sortOf 242 = .ok (.bipush 98, 2) := by decide +kernel
theorem dX12_sortOf_244 : decode cX12_sortOf 244 = .ok (.bipush 105, 2) := by decide +kernel
theorem dX12_sortOf_246 : decode cX12_sortOf 246 = .ok (.bipush 110, 2) := by decide +kernel
theorem dX12_sortOf_248 : decode cX12_sortOf 248 = .ok (.bipush 100, 2) := by decide +kernel
theorem dX12_sortOf_250 : decode cX12_sortOf 250 = .ok (.invokestatic 156, 3) := by decide +kernel
theorem dX12_sortOf_253 : decode cX12_sortOf 253 = .ok (.invokevirtual 219, 3) := by decide +kernel
theorem dX12_sortOf_256 : decode cX12_sortOf 256 = .ok (.ifCond .eq 8, 3) := by decide +kernel
theorem dX12_sortOf_259 : decode cX12_sortOf 259 = .ok (.bipush 11, 2) := by decide +kernel
theorem dX12_sortOf_261 : decode cX12_sortOf 261 = .ok (.goto 4, 3) := by decide +kernel
theorem dX12_sortOf_264 : decode cX12_sortOf 264 = .ok (.iconst (-1), 1) := by decide +kernel
theorem dX12_sortOf_265 : decode cX12_sortOf 265 = .ok (.ireturn, 1) := by decide +kernel
theorem dX12_clause_0 : decode cX12_clause 0 = .ok (.aload_n 0, 1) := by decide +kernel
theorem dX12_clause_1 : decode cX12_clause 1 = .ok (.invokevirtual 273, 3) := by decide +kernel
theorem dX12_clause_4 : decode cX12_clause 4 = .ok (.istore_n 1, 1) := by decide +kernel
theorem dX12_clause_5 : decode cX12_clause 5 = .ok (.iload_n 1, 1) := by decide +kernel
theorem dX12_clause_6 : decode cX12_clause 6 = .ok (.ifCond .ge 5, 3) := by decide +kernel
theorem dX12_clause_9 : decode cX12_clause 9 = .ok (.iconst 1, 1) := by decide +kernel
theorem dX12_clause_10 : decode cX12_clause 10 = .ok (.ireturn, 1) := by decide +kernel
theorem dX12_clause_11 : decode cX12_clause 11 = .ok (.iload_n 1, 1) := by decide +kernel
theorem dX12_clause_12 : decode cX12_clause 12 = .ok (.iconst 4, 1) := by decide +kernel
theorem dX12_clause_13 : decode cX12_clause 13 = .ok (.if_icmp .gt 16, 3) := by decide +kernel
theorem dX12_clause_16 : decode cX12_clause 16 = .ok (.aload_n 0, 1) := by decide +kernel
theorem dX12_clause_17 : decode cX12_clause 17 = .ok (.getfield 276, 3) := by decide +kernel
theorem dX12_clause_20 : decode cX12_clause 20 = .ok (.iload_n 1, 1) := by decide +kernel
theorem dX12_clause_21 : decode cX12_clause 21 = .ok (.invokestatic 279, 3) := by decide +kernel
theorem dX12_clause_24 : decode cX12_clause 24 = .ok (.ifCond .eq 5, 3) := by decide +kernel
theorem dX12_clause_27 : decode cX12_clause 27 = .ok (.iconst 4, 1) := by decide +kernel
theorem dX12_clause_28 : decode cX12_clause 28 = .ok (.ireturn, 1) := by decide +kernel
theorem dX12_clause_29 : decode cX12_clause 29 = .ok (.aload_n 0, 1) := by decide +kernel
theorem dX12_clause_30 : decode cX12_clause 30 = .ok (.getfield 16, 3) := by decide +kernel
theorem dX12_clause_33 : decode cX12_clause 33 = .ok (.aload_n 0, 1) := by decide +kernel
theorem dX12_clause_34 : decode cX12_clause 34 = .ok (.getfield 164, 3) := by decide +kernel
theorem dX12_clause_37 : decode cX12_clause 37 = .ok (.iaload, 1) := by decide +kernel
theorem dX12_clause_38 : decode cX12_clause 38 = .ok (.istore_n 2, 1) := by decide +kernel
theorem dX12_clause_39 : decode cX12_clause 39 = .ok (.iload_n 2, 1) := by decide +kernel
theorem dX12_clause_40 : decode cX12_clause 40 = .ok (.bipush 24, 2) := by decide +kernel
theorem dX12_clause_42 : decode cX12_clause 42 = .ok (.if_icmp .ne 6, 3) := by decide +kernel
theorem dX12_clause_45 : decode cX12_clause 45 = .ok (.bipush 6, 2) := by decide +kernel
theorem dX12_clause_47 : decode cX12_clause 47 = .ok (.ireturn, 1) := by decide +kernel
theorem dX12_clause_48 : decode cX12_clause 48 = .ok (.iload_n 1, 1) := by decide +kernel
theorem dX12_clause_49 : decode cX12_clause 49 = .ok (.iconst 4, 1) := by decide +kernel
theorem dX12_clause_50 : decode cX12_clause 50 = .ok (.if_icmp .gt 15, 3) := by decide +kernel
theorem dX12_clause_53 : decode cX12_clause 53 = .ok (.aload_n 0, 1) := by decide +kernel
theorem dX12_clause_54 : decode cX12_clause 54 = .ok (.dup, 1) := by decide +kernel
theorem dX12_clause_55 : decode cX12_clause 55 = .ok (.getfield 276, 3) := by decide +kernel
theorem dX12_clause_58 : decode cX12_clause 58 = .ok (.iconst 1, 1) := by decide +kernel
theorem dX12_clause_59 : decode cX12_clause 59 = .ok (.iload_n 1, 1) := by decide +kernel
theorem dX12_clause_60 : decode cX12_clause 60 = .ok (.ishl, 1) := by decide +kernel
theorem dX12_clause_61 : decode cX12_clause 61 = .ok (.ior, 1) := by decide +kernel
theorem dX12_clause_62 : decode cX12_clause 62 = .ok (.putfield 276, 3) := by decide +kernel
theorem dX12_clause_65 : decode cX12_clause 65 = .ok (.aload_n 0, 1) := by decide +kernel
theorem dX12_clause_66 : decode cX12_clause 66 = .ok (.iload_n 1, 1) := by decide +kernel
theorem dX12_clause_67 : decode cX12_clause 67 = .ok (.putfield 174, 3) := by decide +kernel
theorem dX12_clause_70 : decode cX12_clause 70 = .ok (.aload_n 0, 1) := by decide +kernel
theorem dX12_clause_71 : decode cX12_clause 71 = .ok (.invokevirtual 200, 3) := by decide +kernel
theorem dX12_clause_74 : decode cX12_clause 74 = .ok (.aload_n 0, 1) := by decide +kernel
theorem dX12_clause_75 : decode cX12_clause 75 = .ok (.getfield 164, 3) := by decide +kernel
theorem dX12_clause_78 : decode cX12_clause 78 = .ok (.iconst 1, 1) := by decide +kernel
theorem dX12_clause_79 : decode cX12_clause 79 = .ok (.iadd, 1) := by decide +kernel
theorem dX12_clause_80 : decode cX12_clause 80 = .ok (.iconst 5, 1) := by decide +kernel
theorem dX12_clause_81 : decode cX12_clause 81 = .ok (.iload_n 2, 1) := by decide +kernel
theorem dX12_clause_82 : decode cX12_clause 82 = .ok (.imul, 1) := by decide +kernel
theorem dX12_clause_83 : decode cX12_clause 83 = .ok (.iadd, 1) := by decide +kernel
theorem dX12_clause_84 : decode cX12_clause 84 = .ok (.istore_n 3, 1) := by decide +kernel
theorem dX12_clause_85 : decode cX12_clause 85 = .ok (.aload_n 0, 1) := by decide +kernel
theorem dX12_clause_86 : decode cX12_clause 86 = .ok (.getfield 16, 3) := by decide +kernel
theorem dX12_clause_89 : decode cX12_clause 89 = .ok (.iload_n 3, 1) := by decide +kernel
theorem dX12_clause_90 : decode cX12_clause 90 = .ok (.iload_n 1, 1) := by decide +kernel
theorem dX12_clause_91 : decode cX12_clause 91 = .ok (.iastore, 1) := by decide +kernel
theorem dX12_clause_92 : decode cX12_clause 92 = .ok (.aload_n 0, 1) := by decide +kernel
theorem dX12_clause_93 : decode cX12_clause 93 = .ok (.iload_n 1, 1) := by decide +kernel
theorem dX12_clause_94 : decode cX12_clause 94 = .ok (.iload_n 3, 1) := by decide +kernel
theorem dX12_clause_95 : decode cX12_clause 95 = .ok (.invokevirtual 283, 3) := by decide +kernel
theorem dX12_clause_98 : decode cX12_clause 98 = .ok (.istore 4, 2) := by decide +kernel
theorem dX12_clause_100 : decode cX12_clause 100 = .ok (.iload 4, 2) := by decide +kernel
theorem dX12_clause_102 : decode cX12_clause 102 = .ok (.ifCond .eq 6, 3) := by decide +kernel
theorem dX12_clause_105 : decode cX12_clause 105 = .ok (.iload 4, 2) := by decide +kernel
theorem dX12_clause_107 : decode cX12_clause 107 = .ok (.ireturn, 1) := by decide +kernel
theorem dX12_clause_108 : decode cX12_clause 108 = .ok (.aload_n 0, 1) := by decide +kernel
theorem dX12_clause_109 : decode cX12_clause 109 = .ok (.getfield 16, 3) := by decide +kernel
theorem dX12_clause_112 : decode cX12_clause 112 = .ok (.aload_n 0, 1) := by decide +kernel
theorem dX12_clause_113 : decode cX12_clause 113 = .ok (.getfield 164, 3) := by decide +kernel
theorem dX12_clause_116 : decode cX12_clause 116 = .ok (.dup2, 1) := by decide +kernel
theorem dX12_clause_117 : decode cX12_clause 117 = .ok (.iaload, 1) := by decide +kernel
theorem dX12_clause_118 : decode cX12_clause 118 = .ok (.iconst 1, 1) := by decide +kernel
theorem dX12_clause_119 : decode cX12_clause 119 = .ok (.iadd, 1) := by decide +kernel
theorem dX12_clause_120 : decode cX12_clause 120 = .ok (.iastore, 1) := by decide +kernel
theorem dX12_clause_121 : decode cX12_clause 121 = .ok (.aload_n 0, 1) := by decide +kernel
theorem dX12_clause_122 : decode cX12_clause 122 = .ok (.getfield 126, 3) := by decide +kernel
theorem dX12_clause_125 : decode cX12_clause 125 = .ok (.bipush 59, 2) := by decide +kernel
theorem dX12_clause_127 : decode cX12_clause 127 = .ok (.if_icmp .eq 5, 3) := by decide +kernel
theorem dX12_clause_130 : decode cX12_clause 130 = .ok (.iconst 1, 1) := by decide +kernel
theorem dX12_clause_131 : decode cX12_clause 131 = .ok (.ireturn, 1) := by decide +kernel
theorem dX12_clause_132 : decode cX12_clause 132 = .ok (.aload_n 0, 1) := by decide +kernel
theorem dX12_clause_133 : decode cX12_clause 133 = .ok (.invokevirtual 200, 3) := by decide +kernel
theorem dX12_clause_136 : decode cX12_clause 136 = .ok (.iconst 0, 1) := by decide +kernel
theorem dX12_clause_137 : decode cX12_clause 137 = .ok (.ireturn, 1) := by decide +kernel
theorem dX12_readText_0 : decode cX12_readText 0 = .ok (.aload_n 0, 1) := by decide +kernel
theorem dX12_readText_1 : decode cX12_readText 1 = .ok (.sipush 729, 3) := by decide +kernel
theorem dX12_readText_4 : decode cX12_readText 4 = .ok (.aload_n 0, 1) := by decide +kernel
theorem dX12_readText_5 : decode cX12_readText 5 = .ok (.getfield 7, 3) := by decide +kernel
theorem dX12_readText_8 : decode cX12_readText 8 = .ok (.iconst 2, 1) := by decide +kernel
theorem dX12_readText_9 : decode cX12_readText 9 = .ok (.iaload, 1) := by decide +kernel
theorem dX12_readText_10 : decode cX12_readText 10 = .ok (.imul, 1) := by decide +kernel
theorem dX12_readText_11 : decode cX12_readText 11 = .ok (.putfield 164, 3) := by decide +kernel
theorem dX12_readText_14 : decode cX12_readText 14 = .ok (.aload_n 0, 1) := by decide +kernel
theorem dX12_readText_15 : decode cX12_readText 15 = .ok (.getfield 16, 3) := by decide +kernel
theorem dX12_readText_18 : decode cX12_readText 18 = .ok (.aload_n 0, 1) := by decide +kernel
theorem dX12_readText_19 : decode cX12_readText 19 = .ok (.getfield 164, 3) := by decide +kernel
theorem dX12_readText_22 : decode cX12_readText 22 = .ok (.iconst 0, 1) := by decide +kernel
theorem dX12_readText_23 : decode cX12_readText 23 = .ok (.iastore, 1) := by decide +kernel
theorem dX12_readText_24 : decode cX12_readText 24 = .ok (.aload_n 0, 1) := by decide +kernel
theorem dX12_readText_25 : decode cX12_readText 25 = .ok (.iconst 0, 1) := by decide +kernel
theorem dX12_readText_26 : decode cX12_readText 26 = .ok (.putfield 167, 3) := by decide +kernel
theorem dX12_readText_29 : decode cX12_readText 29 = .ok (.aload_n 0, 1) := by decide +kernel
theorem dX12_readText_30 : decode cX12_readText 30 = .ok (.iconst 0, 1) := by decide +kernel
theorem dX12_readText_31 : decode cX12_readText 31 = .ok (.putfield 276, 3) := by decide +kernel
theorem dX12_readText_34 : decode cX12_readText 34 = .ok (.aload_n 0, 1) := by decide +kernel
theorem dX12_readText_35 : decode cX12_readText 35 = .ok (.iconst 0, 1) := by decide +kernel
theorem dX12_readText_36 : decode cX12_readText 36 = .ok (.putfield 116, 3) := by decide +kernel
theorem dX12_readText_39 : decode cX12_readText 39 = .ok (.aload_n 0, 1) := by decide +kernel
theorem dX12_readText_40 : decode cX12_readText 40 = .ok (.invokevirtual 200, 3) := by decide +kernel
theorem dX12_readText_43 : decode cX12_readText 43 = .ok (.aload_n 0, 1) := by decide +kernel
theorem dX12_readText_44 : decode cX12_readText 44 = .ok (.getfield 126, 3) := by decide +kernel
theorem dX12_readText_47 : decode cX12_readText 47 = .ok (.ifCond .eq 17, 3) := by decide +kernel
theorem dX12_readText_50 : decode cX12_readText 50 = .ok (.aload_n 0, 1) := by decide +kernel
theorem dX12_readText_51 : decode cX12_readText 51 = .ok (.invokevirtual 286, 3) := by decide +kernel
theorem dX12_readText_54 : decode cX12_readText 54 = .ok (.istore_n 1, 1) := by decide +kernel
theorem dX12_readText_55 : decode cX12_readText 55 = .ok (.iload_n 1, 1) := by decide +kernel
theorem dX12_readText_56 : decode cX12_readText 56 = .ok (.ifCond .eq 5, 3) := by decide +kernel
theorem dX12_readText_59 : decode cX12_readText 59 = .ok (.iload_n 1, 1) := by decide +kernel
theorem dX12_readText_60 : decode cX12_readText 60 = .ok (.ireturn, 1) := by decide +kernel
theorem dX12_readText_61 : decode cX12_readText 61 = .ok (.goto (-18), 3) := by decide +kernel
theorem dX12_readText_64 : decode cX12_readText 64 = .ok (.iconst 0, 1) := by decide +kernel
theorem dX12_readText_65 : decode cX12_readText 65 = .ok (.ireturn, 1) := by decide +kernel
theorem dX12_text_0 : decode cX12_text 0 = .ok (.aload_n 0, 1) := by decide +kernel
theorem dX12_text_1 : decode cX12_text 1 = .ok (.getfield 7, 3) := by decide +kernel
theorem dX12_text_4 : decode cX12_text 4 = .ok (.iconst 2, 1) := by decide +kernel
theorem dX12_text_5 : decode cX12_text 5 = .ok (.iaload, 1) := by decide +kernel
theorem dX12_text_6 : decode cX12_text 6 = .ok (.iconst 4, 1) := by decide +kernel
theorem dX12_text_7 : decode cX12_text 7 = .ok (.if_icmp .ne 5, 3) := by decide +kernel
theorem dX12_text_10 : decode cX12_text 10 = .ok (.iconst (-1), 1) := by decide +kernel
theorem dX12_text_11 : decode cX12_text 11 = .ok (.ireturn, 1) := by decide +kernel
theorem dX12_text_12 : decode cX12_text 12 = .ok (.aload_n 0, 1) := by decide +kernel
theorem dX12_text_13 : decode cX12_text 13 = .ok (.aload_n 0, 1) := by decide +kernel
theorem dX12_text_14 : decode cX12_text 14 = .ok (.invokevirtual 289, 3) := by decide +kernel
theorem dX12_text_17 : decode cX12_text 17 = .ok (.putfield 22, 3) := by decide +kernel
theorem dX12_text_20 : decode cX12_text 20 = .ok (.aload_n 0, 1) := by decide +kernel
theorem dX12_text_21 : decode cX12_text 21 = .ok (.aload_n 0, 1) := by decide +kernel
theorem dX12_text_22 : decode cX12_text 22 = .ok (.getfield 22, 3) := by decide +kernel
theorem dX12_text_25 : decode cX12_text 25 = .ok (.ifCond .ne 7, 3) := by decide +kernel
theorem dX12_text_28 : decode cX12_text 28 = .ok (.iconst (-1), 1) := by decide +kernel
theorem dX12_text_29 : decode cX12_text 29 = .ok (.goto 7, 3) := by decide +kernel
theorem dX12_text_32 : decode cX12_text 32 = .ok (.aload_n 0, 1) := by decide +kernel
theorem dX12_text_33 : decode cX12_text 33 = .ok (.getfield 123, 3) := by decide +kernel
theorem dX12_text_36 : decode cX12_text 36 = .ok (.putfield 26, 3) := by decide +kernel
theorem dX12_text_39 : decode cX12_text 39 = .ok (.aload_n 0, 1) := by decide +kernel
theorem dX12_text_40 : decode cX12_text 40 = .ok (.iconst 0, 1) := by decide +kernel
theorem dX12_text_41 : decode cX12_text 41 = .ok (.putfield 109, 3) := by decide +kernel
theorem dX12_text_44 : decode cX12_text 44 = .ok (.aload_n 0, 1) := by decide +kernel
theorem dX12_text_45 : decode cX12_text 45 = .ok (.getfield 22, 3) := by decide +kernel
theorem dX12_text_48 : decode cX12_text 48 = .ok (.ifCond .eq 5, 3) := by decide +kernel
theorem dX12_text_51 : decode cX12_text 51 = .ok (.iconst (-1), 1) := by decide +kernel
theorem dX12_text_52 : decode cX12_text 52 = .ok (.ireturn, 1) := by decide +kernel
theorem dX12_text_53 : decode cX12_text 53 = .ok (.aload_n 0, 1) := by decide +kernel
theorem dX12_text_54 : decode cX12_text 54 = .ok (.getfield 7, 3) := by decide +kernel
theorem dX12_text_57 : decode cX12_text 57 = .ok (.iconst 2, 1) := by decide +kernel
theorem dX12_text_58 : decode cX12_text 58 = .ok (.dup2, 1) := by decide +kernel
theorem dX12_text_59 : decode cX12_text 59 = .ok (.iaload, 1) := by decide +kernel
theorem dX12_text_60 : decode cX12_text 60 = .ok (.iconst 1, 1) := by decide +kernel
theorem dX12_text_61 : decode cX12_text 61 = .ok (.iadd, 1) := by decide +kernel
theorem dX12_text_62 : decode cX12_text 62 = .ok (.iastore, 1) := by decide +kernel
theorem dX12_text_63 : decode cX12_text 63 = .ok (.aload_n 0, 1) := by decide +kernel
theorem dX12_text_64 : decode cX12_text 64 = .ok (.getfield 7, 3) := by decide +kernel
theorem dX12_text_67 : decode cX12_text 67 = .ok (.iconst 2, 1) := by decide +kernel
theorem dX12_text_68 : decode cX12_text 68 = .ok (.iaload, 1) := by decide +kernel
theorem dX12_text_69 : decode cX12_text 69 = .ok (.iconst 1, 1) := by decide +kernel
theorem dX12_text_70 : decode cX12_text 70 = .ok (.isub, 1) := by decide +kernel
theorem dX12_text_71 : decode cX12_text 71 = .ok (.ireturn, 1) := by decide +kernel
theorem dX12_fault_0 : decode cX12_fault 0 = .ok (.iload_n 1, 1) := by decide +kernel
theorem dX12_fault_1 : decode cX12_fault 1 = .ok (.ifCond .ne 10, 3) := by decide +kernel
theorem dX12_fault_4 : decode cX12_fault 4 = .ok (.aload_n 0, 1) := by decide +kernel
theorem dX12_fault_5 : decode cX12_fault 5 = .ok (.getfield 22, 3) := by decide +kernel
theorem dX12_fault_8 : decode cX12_fault 8 = .ok (.goto 16, 3) := by decide +kernel
theorem dX12_fault_11 : decode cX12_fault 11 = .ok (.iload_n 1, 1) := by decide +kernel
theorem dX12_fault_12 : decode cX12_fault 12 = .ok (.iconst 1, 1) := by decide +kernel
theorem dX12_fault_13 : decode cX12_fault 13 = .ok (.if_icmp .ne 10, 3) := by decide +kernel
theorem dX12_fault_16 : decode cX12_fault 16 = .ok (.aload_n 0, 1) := by decide +kernel
theorem dX12_fault_17 : decode cX12_fault 17 = .ok (.getfield 26, 3) := by decide +kernel
theorem dX12_fault_20 : decode cX12_fault 20 = .ok (.goto 4, 3) := by decide +kernel
theorem dX12_fault_23 : decode cX12_fault 23 = .ok (.iconst (-1), 1) := by decide +kernel
theorem dX12_fault_24 : decode cX12_fault 24 = .ok (.ireturn, 1) := by decide +kernel
theorem dX12_by_0 : decode cX12_by 0 = .ok (.iload_n 1, 1) := by decide +kernel
theorem dX12_by_1 : decode cX12_by 1 = .ok (.iconst (-1), 1) := by decide +kernel
theorem dX12_by_2 : decode cX12_by 2 = .ok (.aload_n 0, 1) := by decide +kernel
theorem dX12_by_3 : decode cX12_by 3 = .ok (.getfield 7, 3) := by decide +kernel
theorem dX12_by_6 : decode cX12_by 6 = .ok (.iconst 2, 1) := by decide +kernel
theorem dX12_by_7 : decode cX12_by 7 = .ok (.iaload, 1) := by decide +kernel
theorem dX12_by_8 : decode cX12_by 8 = .ok (.iconst 1, 1) := by decide +kernel
theorem dX12_by_9 : decode cX12_by 9 = .ok (.isub, 1) := by decide +kernel
theorem dX12_by_10 : decode cX12_by 10 = .ok (.invokestatic 90, 3) := by decide +kernel
theorem dX12_by_13 : decode cX12_by 13 = .ok (.ifCond .ne 5, 3) := by decide +kernel
theorem dX12_by_16 : decode cX12_by 16 = .ok (.iconst 0, 1) := by decide +kernel
theorem dX12_by_17 : decode cX12_by 17 = .ok (.ireturn, 1) := by decide +kernel
theorem dX12_by_18 : decode cX12_by 18 = .ok (.aload_n 0, 1) := by decide +kernel
theorem dX12_by_19 : decode cX12_by 19 = .ok (.getfield 7, 3) := by decide +kernel
theorem dX12_by_22 : decode cX12_by 22 = .ok (.iconst 3, 1) := by decide +kernel
theorem dX12_by_23 : decode cX12_by 23 = .ok (.iload_n 1, 1) := by decide +kernel
theorem dX12_by_24 : decode cX12_by 24 = .ok (.iastore, 1) := by decide +kernel
theorem dX12_by_25 : decode cX12_by 25 = .ok (.iconst 1, 1) := by decide +kernel
theorem dX12_by_26 : decode cX12_by 26 = .ok (.ireturn, 1) := by decide +kernel
theorem dX12_clip_0 : decode cX12_clip 0 = .ok (.lload_n 0, 1) := by decide +kernel
theorem dX12_clip_1 : decode cX12_clip 1 = .ok (.ldc2_w 292, 3) := by decide +kernel
theorem dX12_clip_4 : decode cX12_clip 4 = .ok (.lcmp, 1) := by decide +kernel
theorem dX12_clip_5 : decode cX12_clip 5 = .ok (.ifCond .le 9, 3) := by decide +kernel
theorem dX12_clip_8 : decode cX12_clip 8 = .ok (.ldc2_w 292, 3) := by decide +kernel
theorem dX12_clip_11 : decode cX12_clip 11 = .ok (.goto 18, 3) := by decide +kernel
theorem dX12_clip_14 : decode cX12_clip 14 = .ok (.lload_n 0, 1) := by decide +kernel
theorem dX12_clip_15 : decode cX12_clip 15 = .ok (.ldc2_w 294, 3) := by decide +kernel
theorem dX12_clip_18 : decode cX12_clip 18 = .ok (.lcmp, 1) := by decide +kernel
theorem dX12_clip_19 : decode cX12_clip 19 = .ok (.ifCond .ge 9, 3) := by decide +kernel
theorem dX12_clip_22 : decode cX12_clip 22 = .ok (.ldc2_w 294, 3) := by decide +kernel
theorem dX12_clip_25 : decode cX12_clip 25 = .ok (.goto 4, 3) := by decide +kernel
theorem dX12_clip_28 : decode cX12_clip 28 = .ok (.lload_n 0, 1) := by decide +kernel
theorem dX12_clip_29 : decode cX12_clip 29 = .ok (.lreturn, 1) := by decide +kernel
theorem dX12_two_0 : decode cX12_two 0 = .ok (.iload_n 0, 1) := by decide +kernel
theorem dX12_two_1 : decode cX12_two 1 = .ok (.tableswitch 48 5 7 #[27, 34, 41], 27) := by decide +kernel
theorem dX12_two_28 : decode cX12_two 28 = .ok (.lload_n 1, 1) := by decide +kernel
theorem dX12_two_29 : decode cX12_two 29 = .ok (.lload_n 3, 1) := by decide +kernel
theorem dX12_two_30 : decode cX12_two 30 = .ok (.ladd, 1) := by decide +kernel
theorem dX12_two_31 : decode cX12_two 31 = .ok (.invokestatic 296, 3) := by decide +kernel
theorem dX12_two_34 : decode cX12_two 34 = .ok (.lreturn, 1) := by decide +kernel
theorem dX12_two_35 : decode cX12_two 35 = .ok (.lload_n 1, 1) := by decide +kernel
theorem dX12_two_36 : decode cX12_two 36 = .ok (.lload_n 3, 1) := by decide +kernel
theorem dX12_two_37 : decode cX12_two 37 = .ok (.lsub, 1) := by decide +kernel
theorem dX12_two_38 : decode cX12_two 38 = .ok (.invokestatic 296, 3) := by decide +kernel
theorem dX12_two_41 : decode cX12_two 41 = .ok (.lreturn, 1) := by decide +kernel
theorem dX12_two_42 : decode cX12_two 42 = .ok (.lload_n 1, 1) := by decide +kernel
theorem dX12_two_43 : decode cX12_two 43 = .ok (.lload_n 3, 1) := by decide +kernel
theorem dX12_two_44 : decode cX12_two 44 = .ok (.lmul, 1) := by decide +kernel
theorem dX12_two_45 : decode cX12_two 45 = .ok (.invokestatic 296, 3) := by decide +kernel
theorem dX12_two_48 : decode cX12_two 48 = .ok (.lreturn, 1) := by decide +kernel
theorem dX12_two_49 : decode cX12_two 49 = .ok (.lload_n 3, 1) := by decide +kernel
theorem dX12_two_50 : decode cX12_two 50 = .ok (.lconst 0, 1) := by decide +kernel
theorem dX12_two_51 : decode cX12_two 51 = .ok (.lcmp, 1) := by decide +kernel
theorem dX12_two_52 : decode cX12_two 52 = .ok (.ifCond .ne 7, 3) := by decide +kernel
theorem dX12_two_55 : decode cX12_two 55 = .ok (.lconst 0, 1) := by decide +kernel
theorem dX12_two_56 : decode cX12_two 56 = .ok (.goto 9, 3) := by decide +kernel
theorem dX12_two_59 : decode cX12_two 59 = .ok (.lload_n 1, 1) := by decide +kernel
theorem dX12_two_60 : decode cX12_two 60 = .ok (.lload_n 3, 1) := by decide +kernel
theorem dX12_two_61 : decode cX12_two 61 = .ok (.ldiv, 1) := by decide +kernel
theorem dX12_two_62 : decode cX12_two 62 = .ok (.invokestatic 296, 3) := by decide +kernel
theorem dX12_two_65 : decode cX12_two 65 = .ok (.lreturn, 1) := by decide +kernel
theorem dX12_isAsked_0 : decode cX12_isAsked 0 = .ok (.iload_n 0, 1) := by decide +kernel
theorem dX12_isAsked_1 : decode cX12_isAsked 1 = .ok (.bipush 10, 2) := by decide +kernel
theorem dX12_isAsked_3 : decode cX12_isAsked 3 = .ok (.if_icmp .ne 17, 3) := by decide +kernel
theorem dX12_isAsked_6 : decode cX12_isAsked 6 = .ok (.lload_n 1, 1) := by decide +kernel
theorem dX12_isAsked_7 : decode cX12_isAsked 7 = .ok (.lload_n 3, 1) := by decide +kernel
theorem dX12_isAsked_8 : decode cX12_isAsked 8 = .ok (.lcmp, 1) := by decide +kernel
theorem dX12_isAsked_9 : decode cX12_isAsked 9 = .ok (.ifCond .ge 7, 3) := by decide +kernel
theorem dX12_isAsked_12 : decode cX12_isAsked 12 = .ok (.iconst 1, 1) := by decide +kernel
theorem dX12_isAsked_13 : decode cX12_isAsked 13 = .ok (.goto 98, 3) := by decide +kernel
theorem dX12_isAsked_16 : decode cX12_isAsked 16 = .ok (.iconst 0, 1) := by decide +kernel
theorem dX12_isAsked_17 : decode cX12_isAsked 17 = .ok (.goto 94, 3) := by decide +kernel
theorem dX12_isAsked_20 : decode cX12_isAsked 20 = .ok (.iload_n 0, 1) := by decide +kernel
theorem dX12_isAsked_21 : decode cX12_isAsked 21 = .ok (.bipush 11, 2) := by decide +kernel
theorem dX12_isAsked_23 : decode cX12_isAsked 23 = .ok (.if_icmp .ne 17, 3) := by decide +kernel
theorem dX12_isAsked_26 : decode cX12_isAsked 26 = .ok (.lload_n 1, 1) := by decide +kernel
theorem dX12_isAsked_27 : decode cX12_isAsked 27 = .ok (.lload_n 3, 1) := by decide +kernel
theorem dX12_isAsked_28 : decode cX12_isAsked 28 = .ok (.lcmp, 1) := by decide +kernel
theorem dX12_isAsked_29 : decode cX12_isAsked 29 = .ok (.ifCond .gt 7, 3) := by decide +kernel
theorem dX12_isAsked_32 : decode cX12_isAsked 32 = .ok (.iconst 1, 1) := by decide +kernel
theorem dX12_isAsked_33 : decode cX12_isAsked 33 = .ok (.goto 78, 3) := by decide +kernel
theorem dX12_isAsked_36 : decode cX12_isAsked 36 = .ok (.iconst 0, 1) := by decide +kernel
theorem dX12_isAsked_37 : decode cX12_isAsked 37 = .ok (.goto 74, 3) := by decide +kernel
theorem dX12_isAsked_40 : decode cX12_isAsked 40 = .ok (.iload_n 0, 1) := by decide +kernel
theorem dX12_isAsked_41 : decode cX12_isAsked 41 = .ok (.bipush 12, 2) := by decide +kernel
theorem dX12_isAsked_43 : decode cX12_isAsked 43 = .ok (.if_icmp .ne 17, 3) := by decide +kernel
theorem dX12_isAsked_46 : decode cX12_isAsked 46 = .ok (.lload_n 1, 1) := by decide +kernel
theorem dX12_isAsked_47 : decode cX12_isAsked 47 = .ok (.lload_n 3, 1) := by decide +kernel
theorem dX12_isAsked_48 : decode cX12_isAsked 48 = .ok (.lcmp, 1) := by decide +kernel
theorem dX12_isAsked_49 : decode cX12_isAsked 49 = .ok (.ifCond .le 7, 3) := by decide +kernel
theorem dX12_isAsked_52 : decode cX12_isAsked 52 = .ok (.iconst 1, 1) := by decide +kernel
theorem dX12_isAsked_53 : decode cX12_isAsked 53 = .ok (.goto 58, 3) := by decide +kernel
theorem dX12_isAsked_56 : decode cX12_isAsked 56 = .ok (.iconst 0, 1) := by decide +kernel
theorem dX12_isAsked_57 : decode cX12_isAsked 57 = .ok (.goto 54, 3) := by decide +kernel
theorem dX12_isAsked_60 : decode cX12_isAsked 60 = .ok (.iload_n 0, 1) := by decide +kernel
theorem dX12_isAsked_61 : decode cX12_isAsked 61 = .ok (.bipush 13, 2) := by decide +kernel
theorem dX12_isAsked_63 : decode cX12_isAsked 63 = .ok (.if_icmp .ne 17, 3) := by decide +kernel
theorem dX12_isAsked_66 : decode cX12_isAsked 66 = .ok (.lload_n 1, 1) := by decide +kernel
theorem dX12_isAsked_67 : decode cX12_isAsked 67 = .ok (.lload_n 3, 1) := by decide +kernel
theorem dX12_isAsked_68 : decode cX12_isAsked 68 = .ok (.lcmp, 1) := by decide +kernel
theorem dX12_isAsked_69 : decode cX12_isAsked 69 = .ok (.ifCond .lt 7, 3) := by decide +kernel
theorem dX12_isAsked_72 : decode cX12_isAsked 72 = .ok (.iconst 1, 1) := by decide +kernel
theorem dX12_isAsked_73 : decode cX12_isAsked 73 = .ok (.goto 38, 3) := by decide +kernel
theorem dX12_isAsked_76 : decode cX12_isAsked 76 = .ok (.iconst 0, 1) := by decide +kernel
theorem dX12_isAsked_77 : decode cX12_isAsked 77 = .ok (.goto 34, 3) := by decide +kernel
theorem dX12_isAsked_80 : decode cX12_isAsked 80 = .ok (.iload_n 0, 1) := by decide +kernel
theorem dX12_isAsked_81 : decode cX12_isAsked 81 = .ok (.bipush 14, 2) := by decide +kernel
theorem dX12_isAsked_83 : decode cX12_isAsked 83 = .ok (.if_icmp .ne 17, 3) := by decide +kernel
theorem dX12_isAsked_86 : decode cX12_isAsked 86 = .ok (.lload_n 1, 1) := by decide +kernel
theorem dX12_isAsked_87 : decode cX12_isAsked 87 = .ok (.lload_n 3, 1) := by decide +kernel
theorem dX12_isAsked_88 : decode cX12_isAsked 88 = .ok (.lcmp, 1) := by decide +kernel
theorem dX12_isAsked_89 : decode cX12_isAsked 89 = .ok (.ifCond .ne 7, 3) := by decide +kernel
theorem dX12_isAsked_92 : decode cX12_isAsked 92 = .ok (.iconst 1, 1) := by decide +kernel
theorem dX12_isAsked_93 : decode cX12_isAsked 93 = .ok (.goto 18, 3) := by decide +kernel
theorem dX12_isAsked_96 : decode cX12_isAsked 96 = .ok (.iconst 0, 1) := by decide +kernel
theorem dX12_isAsked_97 : decode cX12_isAsked 97 = .ok (.goto 14, 3) := by decide +kernel
theorem dX12_isAsked_100 : decode cX12_isAsked 100 = .ok (.lload_n 1, 1) := by decide +kernel
theorem dX12_isAsked_101 : decode cX12_isAsked 101 = .ok (.lload_n 3, 1) := by decide +kernel
theorem dX12_isAsked_102 : decode cX12_isAsked 102 = .ok (.lcmp, 1) := by decide +kernel
theorem dX12_isAsked_103 : decode cX12_isAsked 103 = .ok (.ifCond .eq 7, 3) := by decide +kernel
theorem dX12_isAsked_106 : decode cX12_isAsked 106 = .ok (.iconst 1, 1) := by decide +kernel
theorem dX12_isAsked_107 : decode cX12_isAsked 107 = .ok (.goto 4, 3) := by decide +kernel
theorem dX12_isAsked_110 : decode cX12_isAsked 110 = .ok (.iconst 0, 1) := by decide +kernel
theorem dX12_isAsked_111 : decode cX12_isAsked 111 = .ok (.ireturn, 1) := by decide +kernel
theorem dX12_ask_0 : decode cX12_ask 0 = .ok (.aload_n 0, 1) := by decide +kernel
theorem dX12_ask_1 : decode cX12_ask 1 = .ok (.iload_n 1, 1) := by decide +kernel
theorem dX12_ask_2 : decode cX12_ask 2 = .ok (.putfield 300, 3) := by decide +kernel
theorem dX12_ask_5 : decode cX12_ask 5 = .ok (.aload_n 0, 1) := by decide +kernel
theorem dX12_ask_6 : decode cX12_ask 6 = .ok (.iload_n 2, 1) := by decide +kernel
theorem dX12_ask_7 : decode cX12_ask 7 = .ok (.putfield 303, 3) := by decide +kernel
theorem dX12_ask_10 : decode cX12_ask 10 = .ok (.aload_n 0, 1) := by decide +kernel
theorem dX12_ask_11 : decode cX12_ask 11 = .ok (.iload_n 3, 1) := by decide +kernel
theorem dX12_ask_12 : decode cX12_ask 12 = .ok (.putfield 306, 3) := by decide +kernel
theorem dX12_ask_15 : decode cX12_ask 15 = .ok (.aload_n 0, 1) := by decide +kernel
theorem dX12_ask_16 : decode cX12_ask 16 = .ok (.iload 4, 2) := by decide +kernel
theorem dX12_ask_18 : decode cX12_ask 18 = .ok (.putfield 309, 3) := by decide +kernel
theorem dX12_ask_21 : decode cX12_ask 21 = .ok (.return_, 1) := by decide +kernel
theorem dX12_named_0 : decode cX12_named 0 = .ok (.iload_n 1, 1) := by decide +kernel
theorem dX12_named_1 : decode cX12_named 1 = .ok (.tableswitch 68 0 8 #[51, 56, 68, 68, 68, 68, 68, 58, 63], 51) := by decide +kernel
theorem dX12_named_52 : decode cX12_named 52 = .ok (.aload_n 0, 1) := by decide +kernel
theorem dX12_named_53 : decode cX12_named 53 = .ok (.getfield 303, 3) := by decide +kernel
theorem dX12_named_56 : decode cX12_named 56 = .ok (.ireturn, 1) := by decide +kernel
theorem dX12_named_57 : decode cX12_named 57 = .ok (.iload_n 2, 1) := by decide +kernel
theorem dX12_named_58 : decode cX12_named 58 = .ok (.ireturn, 1) := by decide +kernel
theorem dX12_named_59 : decode cX12_named 59 = .ok (.aload_n 0, 1) := by decide +kernel
theorem dX12_named_60 : decode cX12_named 60 = .ok (.getfield 306, 3) := by decide +kernel
theorem dX12_named_63 : decode cX12_named 63 = .ok (.ireturn, 1) := by decide +kernel
theorem dX12_named_64 : decode cX12_named 64 = .ok (.aload_n 0, 1) := by decide +kernel
theorem dX12_named_65 : decode cX12_named 65 = .ok (.getfield 309, 3) := by decide +kernel
theorem dX12_named_68 : decode cX12_named 68 = .ok (.ireturn, 1) := by decide +kernel
theorem dX12_named_69 : decode cX12_named 69 = .ok (.aload_n 0, 1) := by decide +kernel
theorem dX12_named_70 : decode cX12_named 70 = .ok (.iload_n 2, 1) := by decide +kernel
theorem dX12_named_71 : decode cX12_named 71 = .ok (.invokevirtual 102, 3) := by decide +kernel
theorem dX12_named_74 : decode cX12_named 74 = .ok (.ifCond .eq 14, 3) := by decide +kernel
theorem dX12_named_77 : decode cX12_named 77 = .ok (.aload_n 0, 1) := by decide +kernel
theorem dX12_named_78 : decode cX12_named 78 = .ok (.iload_n 2, 1) := by decide +kernel
theorem dX12_named_79 : decode cX12_named 79 = .ok (.iload_n 1, 1) := by decide +kernel
theorem dX12_named_80 : decode cX12_named 80 = .ok (.iconst 2, 1) := by decide +kernel
theorem dX12_named_81 : decode cX12_named 81 = .ok (.isub, 1) := by decide +kernel
theorem dX12_named_82 : decode cX12_named 82 = .ok (.invokevirtual 98, 3) := by decide +kernel
theorem dX12_named_85 : decode cX12_named 85 = .ok (.goto 4, 3) := by decide +kernel
theorem dX12_named_88 : decode cX12_named 88 = .ok (.iconst 0, 1) := by decide +kernel
theorem dX12_named_89 : decode cX12_named 89 = .ok (.ireturn, 1) := by decide +kernel
theorem dX12_work_0 : decode cX12_work 0 = .ok (.sipush 729, 3) := by decide +kernel
theorem dX12_work_3 : decode cX12_work 3 = .ok (.aload_n 0, 1) := by decide +kernel
theorem dX12_work_4 : decode cX12_work 4 = .ok (.getfield 7, 3) := by decide +kernel
theorem dX12_work_7 : decode cX12_work 7 = .ok (.iconst 3, 1) := by decide +kernel
theorem dX12_work_8 : decode cX12_work 8 = .ok (.iaload, 1) := by decide +kernel
theorem dX12_work_9 : decode cX12_work 9 = .ok (.imul, 1) := by decide +kernel
theorem dX12_work_10 : decode cX12_work 10 = .ok (.iconst 1, 1) := by decide +kernel
theorem dX12_work_11 : decode cX12_work 11 = .ok (.iadd, 1) := by decide +kernel
theorem dX12_work_12 : decode cX12_work 12 = .ok (.iconst 5, 1) := by decide +kernel
theorem dX12_work_13 : decode cX12_work 13 = .ok (.iload_n 1, 1) := by decide +kernel
theorem dX12_work_14 : decode cX12_work 14 = .ok (.imul, 1) := by decide +kernel
theorem dX12_work_15 : decode cX12_work 15 = .ok (.iadd, 1) := by decide +kernel
theorem dX12_work_16 : decode cX12_work 16 = .ok (.istore_n 2, 1) := by decide +kernel
theorem dX12_work_17 : decode cX12_work 17 = .ok (.sipush 729, 3) := by decide +kernel
theorem dX12_work_20 : decode cX12_work 20 = .ok (.aload_n 0, 1) := by decide +kernel
theorem dX12_work_21 : decode cX12_work 21 = .ok (.getfield 7, 3) := by decide +kernel
theorem dX12_work_24 : decode cX12_work 24 = .ok (.iconst 3, 1) := by decide +kernel
theorem dX12_work_25 : decode cX12_work 25 = .ok (.iaload, 1) := by decide +kernel
theorem dX12_work_26 : decode cX12_work 26 = .ok (.imul, 1) := by decide +kernel
theorem dX12_work_27 : decode cX12_work 27 = .ok (.bipush 121, 2) := by decide +kernel
theorem dX12_work_29 : decode cX12_work 29 = .ok (.iadd, 1) := by decide +kernel
theorem dX12_work_30 : decode cX12_work 30 = .ok (.istore_n 3, 1) := by decide +kernel
theorem dX12_work_31 : decode cX12_work 31 = .ok (.iconst 0, 1) := by decide +kernel
theorem dX12_work_32 : decode cX12_work 32 = .ok (.istore 4, 2) := by decide +kernel
theorem dX12_work_34 : decode cX12_work 34 = .ok (.iconst 0, 1) := by decide +kernel
theorem dX12_work_35 : decode cX12_work 35 = .ok (.istore 5, 2) := by decide +kernel
theorem dX12_work_37 : decode cX12_work 37 = .ok (.aload_n 0, 1) := by decide +kernel
theorem dX12_work_38 : decode cX12_work 38 = .ok (.getfield 16, 3) := by decide +kernel
theorem dX12_work_41 : decode cX12_work 41 = .ok (.iload_n 2, 1) := by decide +kernel
theorem dX12_work_42 : decode cX12_work 42 = .ok (.iconst 1, 1) := by decide +kernel
theorem dX12_work_43 : decode cX12_work 43 = .ok (.iadd, 1) := by decide +kernel
theorem dX12_work_44 : decode cX12_work 44 = .ok (.iaload, 1) := by decide +kernel
theorem dX12_work_45 : decode cX12_work 45 = .ok (.istore 6, 2) := by decide +kernel
theorem dX12_work_47 : decode cX12_work 47 = .ok (.iload 6, 2) := by decide +kernel
theorem dX12_work_49 : decode cX12_work 49 = .ok (.aload_n 0, 1) := by decide +kernel
theorem dX12_work_50 : decode cX12_work 50 = .ok (.getfield 16, 3) := by decide +kernel
theorem dX12_work_53 : decode cX12_work 53 = .ok (.iload_n 2, 1) := by decide +kernel
theorem dX12_work_54 : decode cX12_work 54 = .ok (.iconst 2, 1) := by decide +kernel
theorem dX12_work_55 : decode cX12_work 55 = .ok (.iadd, 1) := by decide +kernel
theorem dX12_work_56 : decode cX12_work 56 = .ok (.iaload, 1) := by decide +kernel
theorem dX12_work_57 : decode cX12_work 57 = .ok (.if_icmp .ge 335, 3) := by decide +kernel
theorem dX12_work_60 : decode cX12_work 60 = .ok (.aload_n 0, 1) := by decide +kernel
theorem dX12_work_61 : decode cX12_work 61 = .ok (.getfield 16, 3) := by decide +kernel
theorem dX12_work_64 : decode cX12_work 64 = .ok (.iload_n 3, 1) := by decide +kernel
theorem dX12_work_65 : decode cX12_work 65 = .ok (.iconst 2, 1) := by decide +kernel
theorem dX12_work_66 : decode cX12_work 66 = .ok (.iload 6, 2) := by decide +kernel
theorem dX12_work_68 : decode cX12_work 68 = .ok (.imul, 1) := by decide +kernel
theorem dX12_work_69 : decode cX12_work 69 = .ok (.iadd, 1) := by decide +kernel
theorem dX12_work_70 : decode cX12_work 70 = .ok (.iaload, 1) := by decide +kernel
theorem dX12_work_71 : decode cX12_work 71 = .ok (.istore 7, 2) := by decide +kernel
theorem dX12_work_73 : decode cX12_work 73 = .ok (.aload_n 0, 1) := by decide +kernel
theorem dX12_work_74 : decode cX12_work 74 = .ok (.getfield 16, 3) := by decide +kernel
theorem dX12_work_77 : decode cX12_work 77 = .ok (.iload_n 3, 1) := by decide +kernel
theorem dX12_work_78 : decode cX12_work 78 = .ok (.iconst 2, 1) := by decide +kernel
theorem dX12_work_79 : decode cX12_work 79 = .ok (.iload 6, 2) := by decide +kernel
theorem dX12_work_81 : decode cX12_work 81 = .ok (.imul, 1) := by decide +kernel
theorem dX12_work_82 : decode cX12_work 82 = .ok (.iadd, 1) := by decide +kernel
theorem dX12_work_83 : decode cX12_work 83 = .ok (.iconst 1, 1) := by decide +kernel
theorem dX12_work_84 : decode cX12_work 84 = .ok (.iadd, 1) := by decide +kernel
theorem dX12_work_85 : decode cX12_work 85 = .ok (.iaload, 1) := by decide +kernel
theorem dX12_work_86 : decode cX12_work 86 = .ok (.istore 8, 2) := by decide +kernel
theorem dX12_work_88 : decode cX12_work 88 = .ok (.iload 7, 2) := by decide +kernel
theorem dX12_work_90 : decode cX12_work 90 = .ok (.iconst 3, 1) := by decide +kernel
theorem dX12_work_91 : decode cX12_work 91 = .ok (.if_icmp .gt 68, 3) := by decide +kernel
theorem dX12_work_94 : decode cX12_work 94 = .ok (.aload_n 0, 1) := by decide +kernel
theorem dX12_work_95 : decode cX12_work 95 = .ok (.getfield 32, 3) := by decide +kernel
theorem dX12_work_98 : decode cX12_work 98 = .ok (.iload 4, 2) := by decide +kernel
theorem dX12_work_100 : decode cX12_work 100 = .ok (.iload 7, 2) := by decide +kernel
theorem dX12_work_102 : decode cX12_work 102 = .ok (.ifCond .ne 9, 3) := by decide +kernel
theorem dX12_work_105 : decode cX12_work 105 = .ok (.iload 8, 2) := by decide +kernel
theorem dX12_work_107 : decode cX12_work 107 = .ok (.i2l, 1) := by decide +kernel
theorem dX12_work_108 : decode cX12_work 108 = .ok (.goto 44, 3) := by decide +kernel
theorem dX12_work_111 : decode cX12_work 111 = .ok (.aload_n 0, 1) := by decide +kernel
theorem dX12_work_112 : decode cX12_work 112 = .ok (.iload 8, 2) := by decide +kernel
theorem dX12_work_114 : decode cX12_work 114 = .ok (.iload 7, 2) := by decide +kernel
theorem dX12_work_116 : decode cX12_work 116 = .ok (.iconst 1, 1) := by decide +kernel
theorem dX12_work_117 : decode cX12_work 117 = .ok (.if_icmp .ne 10, 3) := by decide +kernel
theorem dX12_work_120 : decode cX12_work 120 = .ok (.aload_n 0, 1) := by decide +kernel
theorem dX12_work_121 : decode cX12_work 121 = .ok (.getfield 300, 3) := by decide +kernel
theorem dX12_work_124 : decode cX12_work 124 = .ok (.goto 24, 3) := by decide +kernel
theorem dX12_work_127 : decode cX12_work 127 = .ok (.iload 7, 2) := by decide +kernel
theorem dX12_work_129 : decode cX12_work 129 = .ok (.iconst 2, 1) := by decide +kernel
theorem dX12_work_130 : decode cX12_work 130 = .ok (.if_icmp .ne 12, 3) := by decide +kernel
theorem dX12_work_133 : decode cX12_work 133 = .ok (.aload_n 0, 1) := by decide +kernel
theorem dX12_work_134 : decode cX12_work 134 = .ok (.getfield 300, 3) := by decide +kernel
theorem dX12_work_137 : decode cX12_work 137 = .ok (.iconst 1, 1) := by decide +kernel
theorem dX12_work_138 : decode cX12_work 138 = .ok (.isub, 1) := by decide +kernel
theorem dX12_work_139 : decode cX12_work 139 = .ok (.goto 9, 3) := by decide +kernel
theorem dX12_work_142 : decode cX12_work 142 = .ok (.aload_n 0, 1) := by decide +kernel
theorem dX12_work_143 : decode cX12_work 143 = .ok (.getfield 300, 3) := by decide +kernel
theorem dX12_work_146 : decode cX12_work 146 = .ok (.iconst 1, 1) := by decide +kernel
theorem dX12_work_147 : decode cX12_work 147 = .ok (.iadd, 1) := by decide +kernel
theorem dX12_work_148 : decode cX12_work 148 = .ok (.invokevirtual 312, 3) := by decide +kernel
theorem dX12_work_151 : decode cX12_work 151 = .ok (.i2l, 1) := by decide +kernel
theorem dX12_work_152 : decode cX12_work 152 = .ok (.lastore, 1) := by decide +kernel
theorem dX12_work_153 : decode cX12_work 153 = .ok (.iinc 4 1, 3) := by decide +kernel
theorem dX12_work_156 : decode cX12_work 156 = .ok (.goto 230, 3) := by decide +kernel
theorem dX12_work_159 : decode cX12_work 159 = .ok (.iload 7, 2) := by decide +kernel
theorem dX12_work_161 : decode cX12_work 161 = .ok (.iconst 4, 1) := by decide +kernel
theorem dX12_work_162 : decode cX12_work 162 = .ok (.if_icmp .ne 25, 3) := by decide +kernel
theorem dX12_work_165 : decode cX12_work 165 = .ok (.aload_n 0, 1) := by decide +kernel
theorem dX12_work_166 : decode cX12_work 166 = .ok (.getfield 32, 3) := by decide +kernel
theorem dX12_work_169 : decode cX12_work 169 = .ok (.iload 4, 2) := by decide +kernel
theorem dX12_work_171 : decode cX12_work 171 = .ok (.iconst 1, 1) := by decide +kernel
theorem dX12_work_172 : decode cX12_work 172 = .ok (.isub, 1) := by decide +kernel
theorem dX12_work_173 : decode cX12_work 173 = .ok (.aload_n 0, 1) := by decide +kernel
theorem dX12_work_174 : decode cX12_work 174 = .ok (.getfield 32, 3) := by decide +kernel
theorem dX12_work_177 : decode cX12_work 177 = .ok (.iload 4, 2) := by decide +kernel
theorem dX12_work_179 : decode cX12_work 179 = .ok (.iconst 1, 1) := by decide +kernel
theorem dX12_work_180 : decode cX12_work 180 = .ok (.isub, 1) := by decide +kernel
theorem dX12_work_181 : decode cX12_work 181 = .ok (.laload, 1) := by decide +kernel
theorem dX12_work_182 : decode cX12_work 182 = .ok (.lneg, 1) := by decide +kernel
theorem dX12_work_183 : decode cX12_work 183 = .ok (.lastore, 1) := by decide +kernel
theorem dX12_work_184 : decode cX12_work 184 = .ok (.goto 202, 3) := by decide +kernel
theorem dX12_work_187 : decode cX12_work 187 = .ok (.iload 7, 2) := by decide +kernel
theorem dX12_work_189 : decode cX12_work 189 = .ok (.bipush 10, 2) := by decide +kernel
theorem dX12_work_191 : decode cX12_work 191 = .ok (.if_icmp .ge 39, 3) := by decide +kernel
theorem dX12_work_194 : decode cX12_work 194 = .ok (.iinc 4 (-1), 3) := by decide +kernel
theorem dX12_work_197 : decode cX12_work 197 = .ok (.aload_n 0, 1) := by decide +kernel
theorem dX12_work_198 : decode cX12_work 198 = .ok (.getfield 32, 3) := by decide +kernel
theorem dX12_work_201 : decode cX12_work 201 = .ok (.iload 4, 2) := by decide +kernel
theorem dX12_work_203 : decode cX12_work 203 = .ok (.iconst 1, 1) := by decide +kernel
theorem dX12_work_204 : decode cX12_work 204 = .ok (.isub, 1) := by decide +kernel
theorem dX12_work_205 : decode cX12_work 205 = .ok (.iload 7, 2) := by decide +kernel
theorem dX12_work_207 : decode cX12_work 207 = .ok (.aload_n 0, 1) := by decide +kernel
theorem dX12_work_208 : decode cX12_work 208 = .ok (.getfield 32, 3) := by decide +kernel
theorem dX12_work_211 : decode cX12_work 211 = .ok (.iload 4, 2) := by decide +kernel
theorem dX12_work_213 : decode cX12_work 213 = .ok (.iconst 1, 1) := by decide +kernel
theorem dX12_work_214 : decode cX12_work 214 = .ok (.isub, 1) := by decide +kernel
theorem dX12_work_215 : decode cX12_work 215 = .ok (.laload, 1) := by decide +kernel
theorem dX12_work_216 : decode cX12_work 216 = .ok (.aload_n 0, 1) := by decide +kernel
theorem dX12_work_217 : decode cX12_work 217 = .ok (.getfield 32, 3) := by decide +kernel
theorem dX12_work_220 : decode cX12_work 220 = .ok (.iload 4, 2) := by decide +kernel
theorem dX12_work_222 : decode cX12_work 222 = .ok (.laload, 1) := by decide +kernel
theorem dX12_work_223 : decode cX12_work 223 = .ok (.invokestatic 315, 3) := by decide +kernel
theorem dX12_work_226 : decode cX12_work 226 = .ok (.lastore, 1) := by decide +kernel
theorem dX12_work_227 : decode cX12_work 227 = .ok (.goto 159, 3) := by decide +kernel
theorem dX12_work_230 : decode cX12_work 230 = .ok (.iload 7, 2) := by decide +kernel
theorem dX12_work_232 : decode cX12_work 232 = .ok (.bipush 20, 2) := by decide +kernel
theorem dX12_work_234 : decode cX12_work 234 = .ok (.if_icmp .ge 40, 3) := by decide +kernel
theorem dX12_work_237 : decode cX12_work 237 = .ok (.iinc 4 (-2), 3) := by decide +kernel
theorem dX12_work_240 : decode cX12_work 240 = .ok (.aload_n 0, 1) := by decide +kernel
theorem dX12_work_241 : decode cX12_work 241 = .ok (.getfield 36, 3) := by decide +kernel
theorem dX12_work_244 : decode cX12_work 244 = .ok (.iload 5, 2) := by decide +kernel
theorem dX12_work_246 : decode cX12_work 246 = .ok (.iload 7, 2) := by decide +kernel
theorem dX12_work_248 : decode cX12_work 248 = .ok (.aload_n 0, 1) := by decide +kernel
theorem dX12_work_249 : decode cX12_work 249 = .ok (.getfield 32, 3) := by decide +kernel
theorem dX12_work_252 : decode cX12_work 252 = .ok (.iload 4, 2) := by decide +kernel
theorem dX12_work_254 : decode cX12_work 254 = .ok (.laload, 1) := by decide +kernel
theorem dX12_work_255 : decode cX12_work 255 = .ok (.aload_n 0, 1) := by decide +kernel
theorem dX12_work_256 : decode cX12_work 256 = .ok (.getfield 32, 3) := by decide +kernel
theorem dX12_work_259 : decode cX12_work 259 = .ok (.iload 4, 2) := by decide +kernel
theorem dX12_work_261 : decode cX12_work 261 = .ok (.iconst 1, 1) := by decide +kernel
theorem dX12_work_262 : decode cX12_work 262 = .ok (.iadd, 1) := by decide +kernel
theorem dX12_work_263 : decode cX12_work 263 = .ok (.laload, 1) := by decide +kernel
theorem dX12_work_264 : decode cX12_work 264 = .ok (.invokestatic 319, 3) := by decide +kernel
theorem dX12_work_267 : decode cX12_work 267 = .ok (.bastore, 1) := by decide +kernel
theorem dX12_work_268 : decode cX12_work 268 = .ok (.iinc 5 1, 3) := by decide +kernel
theorem dX12_work_271 : decode cX12_work 271 = .ok (.goto 115, 3) := by decide +kernel
theorem dX12_work_274 : decode cX12_work 274 = .ok (.iload 7, 2) := by decide +kernel
theorem dX12_work_276 : decode cX12_work 276 = .ok (.bipush 20, 2) := by decide +kernel
theorem dX12_work_278 : decode cX12_work 278 = .ok (.if_icmp .ne 32, 3) := by decide +kernel
theorem dX12_work_281 : decode cX12_work 281 = .ok (.aload_n 0, 1) := by decide +kernel
theorem dX12_work_282 : decode cX12_work 282 = .ok (.getfield 36, 3) := by decide +kernel
theorem dX12_work_285 : decode cX12_work 285 = .ok (.iload 5, 2) := by decide +kernel
theorem dX12_work_287 : decode cX12_work 287 = .ok (.iconst 1, 1) := by decide +kernel
theorem dX12_work_288 : decode cX12_work 288 = .ok (.isub, 1) := by decide +kernel
theorem dX12_work_289 : decode cX12_work 289 = .ok (.aload_n 0, 1) := by decide +kernel
theorem dX12_work_290 : decode cX12_work 290 = .ok (.getfield 36, 3) := by decide +kernel
theorem dX12_work_293 : decode cX12_work 293 = .ok (.iload 5, 2) := by decide +kernel
theorem dX12_work_295 : decode cX12_work 295 = .ok (.iconst 1, 1) := by decide +kernel
theorem dX12_work_296 : decode cX12_work 296 = .ok (.isub, 1) := by decide +kernel
theorem dX12_work_297 : decode cX12_work 297 = .ok (.baload, 1) := by decide +kernel
theorem dX12_work_298 : decode cX12_work 298 = .ok (.ifCond .ne 7, 3) := by decide +kernel
theorem dX12_work_301 : decode cX12_work 301 = .ok (.iconst 1, 1) := by decide +kernel
theorem dX12_work_302 : decode cX12_work 302 = .ok (.goto 4, 3) := by decide +kernel
theorem dX12_work_305 : decode cX12_work 305 = .ok (.iconst 0, 1) := by decide +kernel
theorem dX12_work_306 : decode cX12_work 306 = .ok (.bastore, 1) := by decide +kernel
theorem dX12_work_307 : decode cX12_work 307 = .ok (.goto 79, 3) := by decide +kernel
theorem dX12_work_310 : decode cX12_work 310 = .ok (.iinc 5 (-1), 3) := by decide +kernel
theorem dX12_work_313 : decode cX12_work 313 = .ok (.aload_n 0, 1) := by decide +kernel
theorem dX12_work_314 : decode cX12_work 314 = .ok (.getfield 36, 3) := by decide +kernel
theorem dX12_work_317 : decode cX12_work 317 = .ok (.iload 5, 2) := by decide +kernel
theorem dX12_work_319 : decode cX12_work 319 = .ok (.iconst 1, 1) := by decide +kernel
theorem dX12_work_320 : decode cX12_work 320 = .ok (.isub, 1) := by decide +kernel
theorem dX12_work_321 : decode cX12_work 321 = .ok (.iload 7, 2) := by decide +kernel
theorem dX12_work_323 : decode cX12_work 323 = .ok (.bipush 21, 2) := by decide +kernel
theorem dX12_work_325 : decode cX12_work 325 = .ok (.if_icmp .ne 33, 3) := by decide +kernel
theorem dX12_work_328 : decode cX12_work 328 = .ok (.aload_n 0, 1) := by decide +kernel
theorem dX12_work_329 : decode cX12_work 329 = .ok (.getfield 36, 3) := by decide +kernel
theorem dX12_work_332 : decode cX12_work 332 = .ok (.iload 5, 2) := by decide +kernel
theorem dX12_work_334 : decode cX12_work 334 = .ok (.iconst 1, 1) := by decide +kernel
theorem dX12_work_335 : decode cX12_work 335 = .ok (.isub, 1) := by decide +kernel
theorem dX12_work_336 : decode cX12_work 336 = .ok (.baload, 1) := by decide +kernel
theorem dX12_work_337 : decode cX12_work 337 = .ok (.ifCond .eq 17, 3) := by decide +kernel
theorem dX12_work_340 : decode cX12_work 340 = .ok (.aload_n 0, 1) := by decide +kernel
theorem dX12_work_341 : decode cX12_work 341 = .ok (.getfield 36, 3) := by decide +kernel
theorem dX12_work_344 : decode cX12_work 344 = .ok (.iload 5, 2) := by decide +kernel
theorem dX12_work_346 : decode cX12_work 346 = .ok (.baload, 1) := by decide +kernel
theorem dX12_work_347 : decode cX12_work 347 = .ok (.ifCond .eq 7, 3) := by decide +kernel
theorem dX12_work_350 : decode cX12_work 350 = .ok (.iconst 1, 1) := by decide +kernel
theorem dX12_work_351 : decode cX12_work 351 = .ok (.goto 34, 3) := by decide +kernel
theorem dX12_work_354 : decode cX12_work 354 = .ok (.iconst 0, 1) := by decide +kernel
theorem dX12_work_355 : decode cX12_work 355 = .ok (.goto 30, 3) := by decide +kernel
theorem dX12_work_358 : decode cX12_work 358 = .ok (.aload_n 0, 1) := by decide +kernel
theorem dX12_work_359 : decode cX12_work 359 = .ok (.getfield 36, 3) := by decide +kernel
theorem dX12_work_362 : decode cX12_work 362 = .ok (.iload 5, 2) := by decide +kernel
theorem dX12_work_364 : decode cX12_work 364 = .ok (.iconst 1, 1) := by decide +kernel
theorem dX12_work_365 : decode cX12_work 365 = .ok (.isub, 1) := by decide +kernel
theorem dX12_work_366 : decode cX12_work 366 = .ok (.baload, 1) := by decide +kernel
theorem dX12_work_367 : decode cX12_work 367 = .ok (.ifCond .ne 13, 3) := by decide +kernel
theorem dX12_work_370 : decode cX12_work 370 = .ok (.aload_n 0, 1) := by decide +kernel
theorem dX12_work_371 : decode cX12_work 371 = .ok (.getfield 36, 3) := by decide +kernel
theorem dX12_work_374 : decode cX12_work 374 = .ok (.iload 5, 2) := by decide +kernel
theorem dX12_work_376 : decode cX12_work 376 = .ok (.baload, 1) := by decide +kernel
theorem dX12_work_377 : decode cX12_work 377 = .ok (.ifCond .eq 7, 3) := by decide +kernel
theorem dX12_work_380 : decode cX12_work 380 = .ok (.iconst 1, 1) := by decide +kernel
theorem dX12_work_381 : decode cX12_work 381 = .ok (.goto 4, 3) := by decide +kernel
theorem dX12_work_384 : decode cX12_work 384 = .ok (.iconst 0, 1) := by decide +kernel
theorem dX12_work_385 : decode cX12_work 385 = .ok (.bastore, 1) := by decide +kernel
theorem dX12_work_386 : decode cX12_work 386 = .ok (.iinc 6 1, 3) := by decide +kernel
theorem dX12_work_389 : decode cX12_work 389 = .ok (.goto (-342), 3) := by decide +kernel
theorem dX12_work_392 : decode cX12_work 392 = .ok (.return_, 1) := by decide +kernel
theorem dX12_clauseOf_0 : decode cX12_clauseOf 0 = .ok (.iconst 0, 1) := by decide +kernel
theorem dX12_clauseOf_1 : decode cX12_clauseOf 1 = .ok (.istore_n 2, 1) := by decide +kernel
theorem dX12_clauseOf_2 : decode cX12_clauseOf 2 = .ok (.aload_n 0, 1) := by decide +kernel
theorem dX12_clauseOf_3 : decode cX12_clauseOf 3 = .ok (.getfield 7, 3) := by decide +kernel
theorem dX12_clauseOf_6 : decode cX12_clauseOf 6 = .ok (.iconst 3, 1) := by decide +kernel
theorem dX12_clauseOf_7 : decode cX12_clauseOf 7 = .ok (.iaload, 1) := by decide +kernel
theorem dX12_clauseOf_8 : decode cX12_clauseOf 8 = .ok (.ifCond .lt 55, 3) := by decide +kernel
theorem dX12_clauseOf_11 : decode cX12_clauseOf 11 = .ok (.iload_n 2, 1) := by decide +kernel
theorem dX12_clauseOf_12 : decode cX12_clauseOf 12 = .ok (.aload_n 0, 1) := by decide +kernel
theorem dX12_clauseOf_13 : decode cX12_clauseOf 13 = .ok (.getfield 16, 3) := by decide +kernel
theorem dX12_clauseOf_16 : decode cX12_clauseOf 16 = .ok (.sipush 729, 3) := by decide +kernel
theorem dX12_clauseOf_19 : decode cX12_clauseOf 19 = .ok (.aload_n 0, 1) := by decide +kernel
theorem dX12_clauseOf_20 : decode cX12_clauseOf 20 = .ok (.getfield 7, 3) := by decide +kernel
theorem dX12_clauseOf_23 : decode cX12_clauseOf 23 = .ok (.iconst 3, 1) := by decide +kernel
theorem dX12_clauseOf_24 : decode cX12_clauseOf 24 = .ok (.iaload, 1) := by decide +kernel
theorem dX12_clauseOf_25 : decode cX12_clauseOf 25 = .ok (.imul, 1) := by decide +kernel
theorem dX12_clauseOf_26 : decode cX12_clauseOf 26 = .ok (.iaload, 1) := by decide +kernel
theorem dX12_clauseOf_27 : decode cX12_clauseOf 27 = .ok (.if_icmp .ge 36, 3) := by decide +kernel
theorem dX12_clauseOf_30 : decode cX12_clauseOf 30 = .ok (.aload_n 0, 1) := by decide +kernel
theorem dX12_clauseOf_31 : decode cX12_clauseOf 31 = .ok (.getfield 16, 3) := by decide +kernel
theorem dX12_clauseOf_34 : decode cX12_clauseOf 34 = .ok (.sipush 729, 3) := by decide +kernel
theorem dX12_clauseOf_37 : decode cX12_clauseOf 37 = .ok (.aload_n 0, 1) := by decide +kernel
theorem dX12_clauseOf_38 : decode cX12_clauseOf 38 = .ok (.getfield 7, 3) := by decide +kernel
theorem dX12_clauseOf_41 : decode cX12_clauseOf 41 = .ok (.iconst 3, 1) := by decide +kernel
theorem dX12_clauseOf_42 : decode cX12_clauseOf 42 = .ok (.iaload, 1) := by decide +kernel
theorem dX12_clauseOf_43 : decode cX12_clauseOf 43 = .ok (.imul, 1) := by decide +kernel
theorem dX12_clauseOf_44 : decode cX12_clauseOf 44 = .ok (.iconst 1, 1) := by decide +kernel
theorem dX12_clauseOf_45 : decode cX12_clauseOf 45 = .ok (.iadd, 1) := by decide +kernel
theorem dX12_clauseOf_46 : decode cX12_clauseOf 46 = .ok (.iconst 5, 1) := by decide +kernel
theorem dX12_clauseOf_47 : decode cX12_clauseOf 47 = .ok (.iload_n 2, 1) := by decide +kernel
theorem dX12_clauseOf_48 : decode cX12_clauseOf 48 = .ok (.imul, 1) := by decide +kernel
theorem dX12_clauseOf_49 : decode cX12_clauseOf 49 = .ok (.iadd, 1) := by decide +kernel
theorem dX12_clauseOf_50 : decode cX12_clauseOf 50 = .ok (.iaload, 1) := by decide +kernel
theorem dX12_clauseOf_51 : decode cX12_clauseOf 51 = .ok (.iload_n 1, 1) := by decide +kernel
theorem dX12_clauseOf_52 : decode cX12_clauseOf 52 = .ok (.if_icmp .ne 5, 3) := by decide +kernel
theorem dX12_clauseOf_55 : decode cX12_clauseOf 55 = .ok (.iload_n 2, 1) := by decide +kernel
theorem dX12_clauseOf_56 : decode cX12_clauseOf 56 = .ok (.ireturn, 1) := by decide +kernel
theorem dX12_clauseOf_57 : decode cX12_clauseOf 57 = .ok (.iinc 2 1, 3) := by decide +kernel
theorem dX12_clauseOf_60 : decode cX12_clauseOf 60 = .ok (.goto (-58), 3) := by decide +kernel
theorem dX12_clauseOf_63 : decode cX12_clauseOf 63 = .ok (.iconst (-1), 1) := by decide +kernel
theorem dX12_clauseOf_64 : decode cX12_clauseOf 64 = .ok (.ireturn, 1) := by decide +kernel
theorem dX12_says_0 : decode cX12_says 0 = .ok (.aload_n 0, 1) := by decide +kernel
theorem dX12_says_1 : decode cX12_says 1 = .ok (.iload_n 1, 1) := by decide +kernel
theorem dX12_says_2 : decode cX12_says 2 = .ok (.invokevirtual 323, 3) := by decide +kernel
theorem dX12_says_5 : decode cX12_says 5 = .ok (.istore 4, 2) := by decide +kernel
theorem dX12_says_7 : decode cX12_says 7 = .ok (.iload 4, 2) := by decide +kernel
theorem dX12_says_9 : decode cX12_says 9 = .ok (.ifCond .ge 11, 3) := by decide +kernel
theorem dX12_says_12 : decode cX12_says 12 = .ok (.iload_n 2, 1) := by decide +kernel
theorem dX12_says_13 : decode cX12_says 13 = .ok (.i2l, 1) := by decide +kernel
theorem dX12_says_14 : decode cX12_says 14 = .ok (.iconst 0, 1) := by decide +kernel
theorem dX12_says_15 : decode cX12_says 15 = .ok (.iload_n 3, 1) := by decide +kernel
theorem dX12_says_16 : decode cX12_says 16 = .ok (.invokestatic 326, 3) := by decide +kernel
theorem dX12_says_19 : decode cX12_says 19 = .ok (.ireturn, 1) := by decide +kernel
theorem dX12_says_20 : decode cX12_says 20 = .ok (.aload_n 0, 1) := by decide +kernel
theorem dX12_says_21 : decode cX12_says 21 = .ok (.iload 4, 2) := by decide +kernel
theorem dX12_says_23 : decode cX12_says 23 = .ok (.invokevirtual 330, 3) := by decide +kernel
theorem dX12_says_26 : decode cX12_says 26 = .ok (.aload_n 0, 1) := by decide +kernel
theorem dX12_says_27 : decode cX12_says 27 = .ok (.getfield 32, 3) := by decide +kernel
theorem dX12_says_30 : decode cX12_says 30 = .ok (.iconst 0, 1) := by decide +kernel
theorem dX12_says_31 : decode cX12_says 31 = .ok (.laload, 1) := by decide +kernel
theorem dX12_says_32 : decode cX12_says 32 = .ok (.iconst 0, 1) := by decide +kernel
theorem dX12_says_33 : decode cX12_says 33 = .ok (.iload_n 3, 1) := by decide +kernel
theorem dX12_says_34 : decode cX12_says 34 = .ok (.invokestatic 326, 3) := by decide +kernel
theorem dX12_says_37 : decode cX12_says 37 = .ok (.ireturn, 1) := by decide +kernel
theorem dX12_takesOf_0 : decode cX12_takesOf 0 = .ok (.aload_n 0, 1) := by decide +kernel
theorem dX12_takesOf_1 : decode cX12_takesOf 1 = .ok (.iload_n 1, 1) := by decide +kernel
theorem dX12_takesOf_2 : decode cX12_takesOf 2 = .ok (.iload_n 2, 1) := by decide +kernel
theorem dX12_takesOf_3 : decode cX12_takesOf 3 = .ok (.iload_n 3, 1) := by decide +kernel
theorem dX12_takesOf_4 : decode cX12_takesOf 4 = .ok (.iconst 0, 1) := by decide +kernel
theorem dX12_takesOf_5 : decode cX12_takesOf 5 = .ok (.invokevirtual 333, 3) := by decide +kernel
theorem dX12_takesOf_8 : decode cX12_takesOf 8 = .ok (.aload_n 0, 1) := by decide +kernel
theorem dX12_takesOf_9 : decode cX12_takesOf 9 = .ok (.iconst 0, 1) := by decide +kernel
theorem dX12_takesOf_10 : decode cX12_takesOf 10 = .ok (.aload_n 0, 1) := by decide +kernel
theorem dX12_takesOf_11 : decode cX12_takesOf 11 = .ok (.iload_n 1, 1) := by decide +kernel
theorem dX12_takesOf_12 : decode cX12_takesOf 12 = .ok (.iconst 1, 1) := by decide +kernel
theorem dX12_takesOf_13 : decode cX12_takesOf 13 = .ok (.invokevirtual 98, 3) := by decide +kernel
theorem dX12_takesOf_16 : decode cX12_takesOf 16 = .ok (.sipush 9999, 3) := by decide +kernel
theorem dX12_takesOf_19 : decode cX12_takesOf 19 = .ok (.invokevirtual 337, 3) := by decide +kernel
theorem dX12_takesOf_22 : decode cX12_takesOf 22 = .ok (.ireturn, 1) := by decide +kernel
theorem dX12_haulsOf_0 : decode cX12_haulsOf 0 = .ok (.aload_n 0, 1) := by decide +kernel
theorem dX12_haulsOf_1 : decode cX12_haulsOf 1 = .ok (.iload_n 1, 1) := by decide +kernel
theorem dX12_haulsOf_2 : decode cX12_haulsOf 2 = .ok (.aload_n 0, 1) := by decide +kernel
theorem dX12_haulsOf_3 : decode cX12_haulsOf 3 = .ok (.getfield 7, 3) := by decide +kernel
theorem dX12_haulsOf_6 : decode cX12_haulsOf 6 = .ok (.bipush 8, 2) := by decide +kernel
theorem dX12_haulsOf_8 : decode cX12_haulsOf 8 = .ok (.iaload, 1) := by decide +kernel
theorem dX12_haulsOf_9 : decode cX12_haulsOf 9 = .ok (.iload_n 2, 1) := by decide +kernel
theorem dX12_haulsOf_10 : decode cX12_haulsOf 10 = .ok (.iload_n 3, 1) := by decide +kernel
theorem dX12_haulsOf_11 : decode cX12_haulsOf 11 = .ok (.invokevirtual 333, 3) := by decide +kernel
theorem dX12_haulsOf_14 : decode cX12_haulsOf 14 = .ok (.aload_n 0, 1) := by decide +kernel
theorem dX12_haulsOf_15 : decode cX12_haulsOf 15 = .ok (.iconst 1, 1) := by decide +kernel
theorem dX12_haulsOf_16 : decode cX12_haulsOf 16 = .ok (.iload_n 2, 1) := by decide +kernel
theorem dX12_haulsOf_17 : decode cX12_haulsOf 17 = .ok (.iload_n 3, 1) := by decide +kernel
theorem dX12_haulsOf_18 : decode cX12_haulsOf 18 = .ok (.isub, 1) := by decide +kernel
theorem dX12_haulsOf_19 : decode cX12_haulsOf 19 = .ok (.aload_n 0, 1) := by decide +kernel
theorem dX12_haulsOf_20 : decode cX12_haulsOf 20 = .ok (.iload_n 1, 1) := by decide +kernel
theorem dX12_haulsOf_21 : decode cX12_haulsOf 21 = .ok (.iconst 0, 1) := by decide +kernel
theorem dX12_haulsOf_22 : decode cX12_haulsOf 22 = .ok (.invokevirtual 98, 3) := by decide +kernel
theorem dX12_haulsOf_25 : decode cX12_haulsOf 25 = .ok (.imul, 1) := by decide +kernel
theorem dX12_haulsOf_26 : decode cX12_haulsOf 26 = .ok (.sipush 9999, 3) := by decide +kernel
theorem dX12_haulsOf_29 : decode cX12_haulsOf 29 = .ok (.invokevirtual 337, 3) := by decide +kernel
theorem dX12_haulsOf_32 : decode cX12_haulsOf 32 = .ok (.ireturn, 1) := by decide +kernel
theorem dX12_wearsOf_0 : decode cX12_wearsOf 0 = .ok (.aload_n 0, 1) := by decide +kernel
theorem dX12_wearsOf_1 : decode cX12_wearsOf 1 = .ok (.iload_n 1, 1) := by decide +kernel
theorem dX12_wearsOf_2 : decode cX12_wearsOf 2 = .ok (.aload_n 0, 1) := by decide +kernel
theorem dX12_wearsOf_3 : decode cX12_wearsOf 3 = .ok (.getfield 7, 3) := by decide +kernel
theorem dX12_wearsOf_6 : decode cX12_wearsOf 6 = .ok (.bipush 8, 2) := by decide +kernel
theorem dX12_wearsOf_8 : decode cX12_wearsOf 8 = .ok (.iaload, 1) := by decide +kernel
theorem dX12_wearsOf_9 : decode cX12_wearsOf 9 = .ok (.iload_n 2, 1) := by decide +kernel
theorem dX12_wearsOf_10 : decode cX12_wearsOf 10 = .ok (.iconst 0, 1) := by decide +kernel
theorem dX12_wearsOf_11 : decode cX12_wearsOf 11 = .ok (.invokevirtual 333, 3) := by decide +kernel
theorem dX12_wearsOf_14 : decode cX12_wearsOf 14 = .ok (.aload_n 0, 1) := by decide +kernel
theorem dX12_wearsOf_15 : decode cX12_wearsOf 15 = .ok (.iconst 2, 1) := by decide +kernel
theorem dX12_wearsOf_16 : decode cX12_wearsOf 16 = .ok (.iconst 1, 1) := by decide +kernel
theorem dX12_wearsOf_17 : decode cX12_wearsOf 17 = .ok (.bipush 100, 2) := by decide +kernel
theorem dX12_wearsOf_19 : decode cX12_wearsOf 19 = .ok (.invokevirtual 337, 3) := by decide +kernel
theorem dX12_wearsOf_22 : decode cX12_wearsOf 22 = .ok (.ireturn, 1) := by decide +kernel
theorem dX12_flowsOf_0 : decode cX12_flowsOf 0 = .ok (.aload_n 0, 1) := by decide +kernel
theorem dX12_flowsOf_1 : decode cX12_flowsOf 1 = .ok (.iload_n 1, 1) := by decide +kernel
theorem dX12_flowsOf_2 : decode cX12_flowsOf 2 = .ok (.aload_n 0, 1) := by decide +kernel
theorem dX12_flowsOf_3 : decode cX12_flowsOf 3 = .ok (.getfield 7, 3) := by decide +kernel
theorem dX12_flowsOf_6 : decode cX12_flowsOf 6 = .ok (.bipush 8, 2) := by decide +kernel
theorem dX12_flowsOf_8 : decode cX12_flowsOf 8 = .ok (.iaload, 1) := by decide +kernel
theorem dX12_flowsOf_9 : decode cX12_flowsOf 9 = .ok (.iconst 0, 1) := by decide +kernel
theorem dX12_flowsOf_10 : decode cX12_flowsOf 10 = .ok (.iconst 0, 1) := by decide +kernel
theorem dX12_flowsOf_11 : decode cX12_flowsOf 11 = .ok (.invokevirtual 333, 3) := by decide +kernel
theorem dX12_flowsOf_14 : decode cX12_flowsOf 14 = .ok (.aload_n 0, 1) := by decide +kernel
theorem dX12_flowsOf_15 : decode cX12_flowsOf 15 = .ok (.iconst 3, 1) := by decide +kernel
theorem dX12_flowsOf_16 : decode cX12_flowsOf 16 = .ok (.aload_n 0, 1) := by decide +kernel
theorem dX12_flowsOf_17 : decode cX12_flowsOf 17 = .ok (.iload_n 1, 1) := by decide +kernel
theorem dX12_flowsOf_18 : decode cX12_flowsOf 18 = .ok (.iconst 2, 1) := by decide +kernel
theorem dX12_flowsOf_19 : decode cX12_flowsOf 19 = .ok (.invokevirtual 98, 3) := by decide +kernel
theorem dX12_flowsOf_22 : decode cX12_flowsOf 22 = .ok (.bipush 10, 2) := by decide +kernel
theorem dX12_flowsOf_24 : decode cX12_flowsOf 24 = .ok (.aload_n 0, 1) := by decide +kernel
theorem dX12_flowsOf_25 : decode cX12_flowsOf 25 = .ok (.iload_n 1, 1) := by decide +kernel
theorem dX12_flowsOf_26 : decode cX12_flowsOf 26 = .ok (.iconst 1, 1) := by decide +kernel
theorem dX12_flowsOf_27 : decode cX12_flowsOf 27 = .ok (.invokevirtual 98, 3) := by decide +kernel
theorem dX12_flowsOf_30 : decode cX12_flowsOf 30 = .ok (.imul, 1) := by decide +kernel
theorem dX12_flowsOf_31 : decode cX12_flowsOf 31 = .ok (.isub, 1) := by decide +kernel
theorem dX12_flowsOf_32 : decode cX12_flowsOf 32 = .ok (.aload_n 0, 1) := by decide +kernel
theorem dX12_flowsOf_33 : decode cX12_flowsOf 33 = .ok (.iload_n 1, 1) := by decide +kernel
theorem dX12_flowsOf_34 : decode cX12_flowsOf 34 = .ok (.iconst 2, 1) := by decide +kernel
theorem dX12_flowsOf_35 : decode cX12_flowsOf 35 = .ok (.invokevirtual 98, 3) := by decide +kernel
theorem dX12_flowsOf_38 : decode cX12_flowsOf 38 = .ok (.invokevirtual 337, 3) := by decide +kernel
theorem dX12_flowsOf_41 : decode cX12_flowsOf 41 = .ok (.ireturn, 1) := by decide +kernel
theorem dX12_isFalling_0 : decode cX12_isFalling 0 = .ok (.aload_n 0, 1) := by decide +kernel
theorem dX12_isFalling_1 : decode cX12_isFalling 1 = .ok (.iconst 4, 1) := by decide +kernel
theorem dX12_isFalling_2 : decode cX12_isFalling 2 = .ok (.invokevirtual 323, 3) := by decide +kernel
theorem dX12_isFalling_5 : decode cX12_isFalling 5 = .ok (.istore_n 3, 1) := by decide +kernel
theorem dX12_isFalling_6 : decode cX12_isFalling 6 = .ok (.iload_n 3, 1) := by decide +kernel
theorem dX12_isFalling_7 : decode cX12_isFalling 7 = .ok (.ifCond .ge 27, 3) := by decide +kernel
theorem dX12_isFalling_10 : decode cX12_isFalling 10 = .ok (.aload_n 0, 1) := by decide +kernel
theorem dX12_isFalling_11 : decode cX12_isFalling 11 = .ok (.iload_n 1, 1) := by decide +kernel
theorem dX12_isFalling_12 : decode cX12_isFalling 12 = .ok (.iconst 2, 1) := by decide +kernel
theorem dX12_isFalling_13 : decode cX12_isFalling 13 = .ok (.invokevirtual 98, 3) := by decide +kernel
theorem dX12_isFalling_16 : decode cX12_isFalling 16 = .ok (.bipush 10, 2) := by decide +kernel
theorem dX12_isFalling_18 : decode cX12_isFalling 18 = .ok (.aload_n 0, 1) := by decide +kernel
theorem dX12_isFalling_19 : decode cX12_isFalling 19 = .ok (.iload_n 1, 1) := by decide +kernel
theorem dX12_isFalling_20 : decode cX12_isFalling 20 = .ok (.iconst 1, 1) := by decide +kernel
theorem dX12_isFalling_21 : decode cX12_isFalling 21 = .ok (.invokevirtual 98, 3) := by decide +kernel
theorem dX12_isFalling_24 : decode cX12_isFalling 24 = .ok (.imul, 1) := by decide +kernel
theorem dX12_isFalling_25 : decode cX12_isFalling 25 = .ok (.if_icmp .le 7, 3) := by decide +kernel
theorem dX12_isFalling_28 : decode cX12_isFalling 28 = .ok (.iconst 1, 1) := by decide +kernel
theorem dX12_isFalling_29 : decode cX12_isFalling 29 = .ok (.goto 4, 3) := by decide +kernel
theorem dX12_isFalling_32 : decode cX12_isFalling 32 = .ok (.iconst 0, 1) := by decide +kernel
theorem dX12_isFalling_33 : decode cX12_isFalling 33 = .ok (.ireturn, 1) := by decide +kernel
theorem dX12_isFalling_34 : decode cX12_isFalling 34 = .ok (.aload_n 0, 1) := by decide +kernel
theorem dX12_isFalling_35 : decode cX12_isFalling 35 = .ok (.iload_n 1, 1) := by decide +kernel
theorem dX12_isFalling_36 : decode cX12_isFalling 36 = .ok (.aload_n 0, 1) := by decide +kernel
theorem dX12_isFalling_37 : decode cX12_isFalling 37 = .ok (.getfield 7, 3) := by decide +kernel
theorem dX12_isFalling_40 : decode cX12_isFalling 40 = .ok (.bipush 8, 2) := by decide +kernel
theorem dX12_isFalling_42 : decode cX12_isFalling 42 = .ok (.iaload, 1) := by decide +kernel
theorem dX12_isFalling_43 : decode cX12_isFalling 43 = .ok (.iload_n 2, 1) := by decide +kernel
theorem dX12_isFalling_44 : decode cX12_isFalling 44 = .ok (.iconst 0, 1) := by decide +kernel
theorem dX12_isFalling_45 : decode cX12_isFalling 45 = .ok (.invokevirtual 333, 3) := by decide +kernel
theorem dX12_isFalling_48 : decode cX12_isFalling 48 = .ok (.aload_n 0, 1) := by decide +kernel
theorem dX12_isFalling_49 : decode cX12_isFalling 49 = .ok (.iload_n 3, 1) := by decide +kernel
theorem dX12_isFalling_50 : decode cX12_isFalling 50 = .ok (.invokevirtual 330, 3) := by decide +kernel
theorem dX12_isFalling_53 : decode cX12_isFalling 53 = .ok (.aload_n 0, 1) := by decide +kernel
theorem dX12_isFalling_54 : decode cX12_isFalling 54 = .ok (.getfield 36, 3) := by decide +kernel
theorem dX12_isFalling_57 : decode cX12_isFalling 57 = .ok (.iconst 0, 1) := by decide +kernel
theorem dX12_isFalling_58 : decode cX12_isFalling 58 = .ok (.baload, 1) := by decide +kernel
theorem dX12_isFalling_59 : decode cX12_isFalling 59 = .ok (.ireturn, 1) := by decide +kernel
theorem dX12_waiterOn_0 : decode cX12_waiterOn 0 = .ok (.iconst 0, 1) := by decide +kernel
theorem dX12_waiterOn_1 : decode cX12_waiterOn 1 = .ok (.istore_n 3, 1) := by decide +kernel
theorem dX12_waiterOn_2 : decode cX12_waiterOn 2 = .ok (.iload_n 3, 1) := by decide +kernel
theorem dX12_waiterOn_3 : decode cX12_waiterOn 3 = .ok (.aload_n 0, 1) := by decide +kernel
theorem dX12_waiterOn_4 : decode cX12_waiterOn 4 = .ok (.getfield 7, 3) := by decide +kernel
theorem dX12_waiterOn_7 : decode cX12_waiterOn 7 = .ok (.iconst 1, 1) := by decide +kernel
theorem dX12_waiterOn_8 : decode cX12_waiterOn 8 = .ok (.iaload, 1) := by decide +kernel
theorem dX12_waiterOn_9 : decode cX12_waiterOn 9 = .ok (.if_icmp .ge 57, 3) := by decide +kernel
theorem dX12_waiterOn_12 : decode cX12_waiterOn 12 = .ok (.aload_n 0, 1) := by decide +kernel
theorem dX12_waiterOn_13 : decode cX12_waiterOn 13 = .ok (.getfield 40, 3) := by decide +kernel
theorem dX12_waiterOn_16 : decode cX12_waiterOn 16 = .ok (.iload_n 3, 1) := by decide +kernel
theorem dX12_waiterOn_17 : decode cX12_waiterOn 17 = .ok (.baload, 1) := by decide +kernel
theorem dX12_waiterOn_18 : decode cX12_waiterOn 18 = .ok (.ifCond .ne 42, 3) := by decide +kernel
theorem dX12_waiterOn_21 : decode cX12_waiterOn 21 = .ok (.aload_n 0, 1) := by decide +kernel
theorem dX12_waiterOn_22 : decode cX12_waiterOn 22 = .ok (.iload_n 3, 1) := by decide +kernel
theorem dX12_waiterOn_23 : decode cX12_waiterOn 23 = .ok (.iconst 1, 1) := by decide +kernel
theorem dX12_waiterOn_24 : decode cX12_waiterOn 24 = .ok (.invokevirtual 340, 3) := by decide +kernel
theorem dX12_waiterOn_27 : decode cX12_waiterOn 27 = .ok (.iload_n 1, 1) := by decide +kernel
theorem dX12_waiterOn_28 : decode cX12_waiterOn 28 = .ok (.if_icmp .ne 32, 3) := by decide +kernel
theorem dX12_waiterOn_31 : decode cX12_waiterOn 31 = .ok (.iload_n 2, 1) := by decide +kernel
theorem dX12_waiterOn_32 : decode cX12_waiterOn 32 = .ok (.ifCond .eq 16, 3) := by decide +kernel
theorem dX12_waiterOn_35 : decode cX12_waiterOn 35 = .ok (.aload_n 0, 1) := by decide +kernel
theorem dX12_waiterOn_36 : decode cX12_waiterOn 36 = .ok (.iload_n 3, 1) := by decide +kernel
theorem dX12_waiterOn_37 : decode cX12_waiterOn 37 = .ok (.iconst 2, 1) := by decide +kernel
theorem dX12_waiterOn_38 : decode cX12_waiterOn 38 = .ok (.invokevirtual 340, 3) := by decide +kernel
theorem dX12_waiterOn_41 : decode cX12_waiterOn 41 = .ok (.iload_n 1, 1) := by decide +kernel
theorem dX12_waiterOn_42 : decode cX12_waiterOn 42 = .ok (.if_icmp .le 18, 3) := by decide +kernel
theorem dX12_waiterOn_45 : decode cX12_waiterOn 45 = .ok (.goto 13, 3) := by decide +kernel
theorem dX12_waiterOn_48 : decode cX12_waiterOn 48 = .ok (.aload_n 0, 1) := by decide +kernel
theorem dX12_waiterOn_49 : decode cX12_waiterOn 49 = .ok (.iload_n 3, 1) := by decide +kernel
theorem dX12_waiterOn_50 : decode cX12_waiterOn 50 = .ok (.iconst 2, 1) := by decide +kernel
theorem dX12_waiterOn_51 : decode cX12_waiterOn 51 = .ok (.invokevirtual 340, 3) := by decide +kernel
theorem dX12_waiterOn_54 : decode cX12_waiterOn 54 = .ok (.iload_n 1, 1) := by decide +kernel
theorem dX12_waiterOn_55 : decode cX12_waiterOn 55 = .ok (.if_icmp .ge 5, 3) := by decide +kernel
theorem dX12_waiterOn_58 : decode cX12_waiterOn 58 = .ok (.iload_n 3, 1) := by decide +kernel
theorem dX12_waiterOn_59 : decode cX12_waiterOn 59 = .ok (.ireturn, 1) := by decide +kernel
theorem dX12_waiterOn_60 : decode cX12_waiterOn 60 = .ok (.iinc 3 1, 3) := by decide +kernel
theorem dX12_waiterOn_63 : decode cX12_waiterOn 63 = .ok (.goto (-61), 3) := by decide +kernel
theorem dX12_waiterOn_66 : decode cX12_waiterOn 66 = .ok (.iconst (-1), 1) := by decide +kernel
theorem dX12_waiterOn_67 : decode cX12_waiterOn 67 = .ok (.ireturn, 1) := by decide +kernel
theorem dX12_go_0 : decode cX12_go 0 = .ok (.aload_n 0, 1) := by decide +kernel
theorem dX12_go_1 : decode cX12_go 1 = .ok (.getfield 40, 3) := by decide +kernel
theorem dX12_go_4 : decode cX12_go 4 = .ok (.iload_n 1, 1) := by decide +kernel
theorem dX12_go_5 : decode cX12_go 5 = .ok (.iconst 1, 1) := by decide +kernel
theorem dX12_go_6 : decode cX12_go 6 = .ok (.bastore, 1) := by decide +kernel
theorem dX12_go_7 : decode cX12_go 7 = .ok (.aload_n 0, 1) := by decide +kernel
theorem dX12_go_8 : decode cX12_go 8 = .ok (.dup, 1) := by decide +kernel
theorem dX12_go_9 : decode cX12_go 9 = .ok (.getfield 343, 3) := by decide +kernel
theorem dX12_go_12 : decode cX12_go 12 = .ok (.iconst 1, 1) := by decide +kernel
theorem dX12_go_13 : decode cX12_go 13 = .ok (.iadd, 1) := by decide +kernel
theorem dX12_go_14 : decode cX12_go 14 = .ok (.putfield 343, 3) := by decide +kernel
theorem dX12_go_17 : decode cX12_go 17 = .ok (.aload_n 0, 1) := by decide +kernel
theorem dX12_go_18 : decode cX12_go 18 = .ok (.iload_n 1, 1) := by decide +kernel
theorem dX12_go_19 : decode cX12_go 19 = .ok (.iconst 3, 1) := by decide +kernel
theorem dX12_go_20 : decode cX12_go 20 = .ok (.aload_n 0, 1) := by decide +kernel
theorem dX12_go_21 : decode cX12_go 21 = .ok (.iload_n 1, 1) := by decide +kernel
theorem dX12_go_22 : decode cX12_go 22 = .ok (.iconst 3, 1) := by decide +kernel
theorem dX12_go_23 : decode cX12_go 23 = .ok (.invokevirtual 340, 3) := by decide +kernel
theorem dX12_go_26 : decode cX12_go 26 = .ok (.iload_n 3, 1) := by decide +kernel
theorem dX12_go_27 : decode cX12_go 27 = .ok (.iadd, 1) := by decide +kernel
theorem dX12_go_28 : decode cX12_go 28 = .ok (.i2l, 1) := by decide +kernel
theorem dX12_go_29 : decode cX12_go 29 = .ok (.iconst 0, 1) := by decide +kernel
theorem dX12_go_30 : decode cX12_go 30 = .ok (.ldc 135, 2) := by decide +kernel
theorem dX12_go_32 : decode cX12_go 32 = .ok (.invokestatic 326, 3) := by decide +kernel
theorem dX12_go_35 : decode cX12_go 35 = .ok (.invokevirtual 106, 3) := by decide +kernel
theorem dX12_go_38 : decode cX12_go 38 = .ok (.aload_n 0, 1) := by decide +kernel
theorem dX12_go_39 : decode cX12_go 39 = .ok (.iload_n 1, 1) := by decide +kernel
theorem dX12_go_40 : decode cX12_go 40 = .ok (.iconst 1, 1) := by decide +kernel
theorem dX12_go_41 : decode cX12_go 41 = .ok (.iload_n 2, 1) := by decide +kernel
theorem dX12_go_42 : decode cX12_go 42 = .ok (.invokevirtual 106, 3) := by decide +kernel
theorem dX12_go_45 : decode cX12_go 45 = .ok (.aload_n 0, 1) := by decide +kernel
theorem dX12_go_46 : decode cX12_go 46 = .ok (.getfield 43, 3) := by decide +kernel
theorem dX12_go_49 : decode cX12_go 49 = .ok (.ifCond .ne 4, 3) := by decide +kernel
theorem dX12_go_52 : decode cX12_go 52 = .ok (.return_, 1) := by decide +kernel
theorem dX12_go_53 : decode cX12_go 53 = .ok (.aload_n 0, 1) := by decide +kernel
theorem dX12_go_54 : decode cX12_go 54 = .ok (.getfield 7, 3) := by decide +kernel
theorem dX12_go_57 : decode cX12_go 57 = .ok (.sipush 2106, 3) := by decide +kernel
theorem dX12_go_60 : decode cX12_go 60 = .ok (.aload_n 0, 1) := by decide +kernel
theorem dX12_go_61 : decode cX12_go 61 = .ok (.getfield 7, 3) := by decide +kernel
theorem dX12_go_64 : decode cX12_go 64 = .ok (.bipush 12, 2) := by decide +kernel
theorem dX12_go_66 : decode cX12_go 66 = .ok (.iaload, 1) := by decide +kernel
theorem dX12_go_67 : decode cX12_go 67 = .ok (.sipush 8500, 3) := by decide +kernel
theorem dX12_go_70 : decode cX12_go 70 = .ok (.irem, 1) := by decide +kernel
theorem dX12_go_71 : decode cX12_go 71 = .ok (.iadd, 1) := by decide +kernel
theorem dX12_go_72 : decode cX12_go 72 = .ok (.aload_n 0, 1) := by decide +kernel
theorem dX12_go_73 : decode cX12_go 73 = .ok (.getfield 7, 3) := by decide +kernel
theorem dX12_go_76 : decode cX12_go 76 = .ok (.bipush 8, 2) := by decide +kernel
theorem dX12_go_78 : decode cX12_go 78 = .ok (.iaload, 1) := by decide +kernel
theorem dX12_go_79 : decode cX12_go 79 = .ok (.bipush 7, 2) := by decide +kernel
theorem dX12_go_81 : decode cX12_go 81 = .ok (.imul, 1) := by decide +kernel
theorem dX12_go_82 : decode cX12_go 82 = .ok (.iload_n 1, 1) := by decide +kernel
theorem dX12_go_83 : decode cX12_go 83 = .ok (.iadd, 1) := by decide +kernel
theorem dX12_go_84 : decode cX12_go 84 = .ok (.bipush 9, 2) := by decide +kernel
theorem dX12_go_86 : decode cX12_go 86 = .ok (.imul, 1) := by decide +kernel
theorem dX12_go_87 : decode cX12_go 87 = .ok (.iload_n 2, 1) := by decide +kernel
theorem dX12_go_88 : decode cX12_go 88 = .ok (.iadd, 1) := by decide +kernel
theorem dX12_go_89 : decode cX12_go 89 = .ok (.iastore, 1) := by decide +kernel
theorem dX12_go_90 : decode cX12_go 90 = .ok (.aload_n 0, 1) := by decide +kernel
theorem dX12_go_91 : decode cX12_go 91 = .ok (.getfield 7, 3) := by decide +kernel
theorem dX12_go_94 : decode cX12_go 94 = .ok (.bipush 12, 2) := by decide +kernel
theorem dX12_go_96 : decode cX12_go 96 = .ok (.dup2, 1) := by decide +kernel
theorem dX12_go_97 : decode cX12_go 97 = .ok (.iaload, 1) := by decide +kernel
theorem dX12_go_98 : decode cX12_go 98 = .ok (.iconst 1, 1) := by decide +kernel
theorem dX12_go_99 : decode cX12_go 99 = .ok (.iadd, 1) := by decide +kernel
theorem dX12_go_100 : decode cX12_go 100 = .ok (.iastore, 1) := by decide +kernel
theorem dX12_go_101 : decode cX12_go 101 = .ok (.return_, 1) := by decide +kernel
theorem dX12_rope_0 : decode cX12_rope 0 = .ok (.aload_n 0, 1) := by decide +kernel
theorem dX12_rope_1 : decode cX12_rope 1 = .ok (.iload_n 1, 1) := by decide +kernel
theorem dX12_rope_2 : decode cX12_rope 2 = .ok (.iconst 1, 1) := by decide +kernel
theorem dX12_rope_3 : decode cX12_rope 3 = .ok (.invokevirtual 346, 3) := by decide +kernel
theorem dX12_rope_6 : decode cX12_rope 6 = .ok (.istore_n 2, 1) := by decide +kernel
theorem dX12_rope_7 : decode cX12_rope 7 = .ok (.aload_n 0, 1) := by decide +kernel
theorem dX12_rope_8 : decode cX12_rope 8 = .ok (.iload_n 1, 1) := by decide +kernel
theorem dX12_rope_9 : decode cX12_rope 9 = .ok (.iconst 1, 1) := by decide +kernel
theorem dX12_rope_10 : decode cX12_rope 10 = .ok (.iadd, 1) := by decide +kernel
theorem dX12_rope_11 : decode cX12_rope 11 = .ok (.iconst 0, 1) := by decide +kernel
theorem dX12_rope_12 : decode cX12_rope 12 = .ok (.invokevirtual 346, 3) := by decide +kernel
theorem dX12_rope_15 : decode cX12_rope 15 = .ok (.istore_n 3, 1) := by decide +kernel
theorem dX12_rope_16 : decode cX12_rope 16 = .ok (.aload_n 0, 1) := by decide +kernel
theorem dX12_rope_17 : decode cX12_rope 17 = .ok (.iload_n 1, 1) := by decide +kernel
theorem dX12_rope_18 : decode cX12_rope 18 = .ok (.iconst 4, 1) := by decide +kernel
theorem dX12_rope_19 : decode cX12_rope 19 = .ok (.invokevirtual 98, 3) := by decide +kernel
theorem dX12_rope_22 : decode cX12_rope 22 = .ok (.bipush 100, 2) := by decide +kernel
theorem dX12_rope_24 : decode cX12_rope 24 = .ok (.if_icmp .eq 13, 3) := by decide +kernel
theorem dX12_rope_27 : decode cX12_rope 27 = .ok (.iload_n 2, 1) := by decide +kernel
theorem dX12_rope_28 : decode cX12_rope 28 = .ok (.iconst (-1), 1) := by decide +kernel
theorem dX12_rope_29 : decode cX12_rope 29 = .ok (.if_icmp .ne 9, 3) := by decide +kernel
theorem dX12_rope_32 : decode cX12_rope 32 = .ok (.iload_n 3, 1) := by decide +kernel
theorem dX12_rope_33 : decode cX12_rope 33 = .ok (.iconst (-1), 1) := by decide +kernel
theorem dX12_rope_34 : decode cX12_rope 34 = .ok (.if_icmp .ne 4, 3) := by decide +kernel
theorem dX12_rope_37 : decode cX12_rope 37 = .ok (.return_, 1) := by decide +kernel
theorem dX12_rope_38 : decode cX12_rope 38 = .ok (.iload_n 2, 1) := by decide +kernel
theorem dX12_rope_39 : decode cX12_rope 39 = .ok (.iconst (-1), 1) := by decide +kernel
theorem dX12_rope_40 : decode cX12_rope 40 = .ok (.if_icmp .ne 7, 3) := by decide +kernel
theorem dX12_rope_43 : decode cX12_rope 43 = .ok (.iconst 0, 1) := by decide +kernel
theorem dX12_rope_44 : decode cX12_rope 44 = .ok (.goto 9, 3) := by decide +kernel
theorem dX12_rope_47 : decode cX12_rope 47 = .ok (.aload_n 0, 1) := by decide +kernel
theorem dX12_rope_48 : decode cX12_rope 48 = .ok (.iload_n 2, 1) := by decide +kernel
theorem dX12_rope_49 : decode cX12_rope 49 = .ok (.iconst 0, 1) := by decide +kernel
theorem dX12_rope_50 : decode cX12_rope 50 = .ok (.invokevirtual 340, 3) := by decide +kernel
theorem dX12_rope_53 : decode cX12_rope 53 = .ok (.istore 4, 2) := by decide +kernel
theorem dX12_rope_55 : decode cX12_rope 55 = .ok (.iload_n 3, 1) := by decide +kernel
theorem dX12_rope_56 : decode cX12_rope 56 = .ok (.iconst (-1), 1) := by decide +kernel
theorem dX12_rope_57 : decode cX12_rope 57 = .ok (.if_icmp .ne 7, 3) := by decide +kernel
theorem dX12_rope_60 : decode cX12_rope 60 = .ok (.iconst 0, 1) := by decide +kernel
theorem dX12_rope_61 : decode cX12_rope 61 = .ok (.goto 9, 3) := by decide +kernel
theorem dX12_rope_64 : decode cX12_rope 64 = .ok (.aload_n 0, 1) := by decide +kernel
theorem dX12_rope_65 : decode cX12_rope 65 = .ok (.iload_n 3, 1) := by decide +kernel
theorem dX12_rope_66 : decode cX12_rope 66 = .ok (.iconst 0, 1) := by decide +kernel
theorem dX12_rope_67 : decode cX12_rope 67 = .ok (.invokevirtual 340, 3) := by decide +kernel
theorem dX12_rope_70 : decode cX12_rope 70 = .ok (.istore 5, 2) := by decide +kernel
theorem dX12_rope_72 : decode cX12_rope 72 = .ok (.iload_n 2, 1) := by decide +kernel
theorem dX12_rope_73 : decode cX12_rope 73 = .ok (.iconst (-1), 1) := by decide +kernel
theorem dX12_rope_74 : decode cX12_rope 74 = .ok (.if_icmp .ne 7, 3) := by decide +kernel
theorem dX12_rope_77 : decode cX12_rope 77 = .ok (.iconst 0, 1) := by decide +kernel
theorem dX12_rope_78 : decode cX12_rope 78 = .ok (.goto 17, 3) := by decide +kernel
theorem dX12_rope_81 : decode cX12_rope 81 = .ok (.aload_n 0, 1) := by decide +kernel
theorem dX12_rope_82 : decode cX12_rope 82 = .ok (.iload_n 1, 1) := by decide +kernel
theorem dX12_rope_83 : decode cX12_rope 83 = .ok (.aload_n 0, 1) := by decide +kernel
theorem dX12_rope_84 : decode cX12_rope 84 = .ok (.getfield 7, 3) := by decide +kernel
theorem dX12_rope_87 : decode cX12_rope 87 = .ok (.bipush 8, 2) := by decide +kernel
theorem dX12_rope_89 : decode cX12_rope 89 = .ok (.iaload, 1) := by decide +kernel
theorem dX12_rope_90 : decode cX12_rope 90 = .ok (.iload 4, 2) := by decide +kernel
theorem dX12_rope_92 : decode cX12_rope 92 = .ok (.invokevirtual 349, 3) := by decide +kernel
theorem dX12_rope_95 : decode cX12_rope 95 = .ok (.istore 6, 2) := by decide +kernel
theorem dX12_rope_97 : decode cX12_rope 97 = .ok (.iload_n 3, 1) := by decide +kernel
theorem dX12_rope_98 : decode cX12_rope 98 = .ok (.iconst (-1), 1) := by decide +kernel
theorem dX12_rope_99 : decode cX12_rope 99 = .ok (.if_icmp .ne 7, 3) := by decide +kernel
theorem dX12_rope_102 : decode cX12_rope 102 = .ok (.iconst 0, 1) := by decide +kernel
theorem dX12_rope_103 : decode cX12_rope 103 = .ok (.goto 12, 3) := by decide +kernel
theorem dX12_rope_106 : decode cX12_rope 106 = .ok (.aload_n 0, 1) := by decide +kernel
theorem dX12_rope_107 : decode cX12_rope 107 = .ok (.iload_n 1, 1) := by decide +kernel
theorem dX12_rope_108 : decode cX12_rope 108 = .ok (.iload 5, 2) := by decide +kernel
theorem dX12_rope_110 : decode cX12_rope 110 = .ok (.iload 4, 2) := by decide +kernel
theorem dX12_rope_112 : decode cX12_rope 112 = .ok (.invokevirtual 352, 3) := by decide +kernel
theorem dX12_rope_115 : decode cX12_rope 115 = .ok (.istore 7, 2) := by decide +kernel
theorem dX12_rope_117 : decode cX12_rope 117 = .ok (.aload_n 0, 1) := by decide +kernel
theorem dX12_rope_118 : decode cX12_rope 118 = .ok (.iload_n 1, 1) := by decide +kernel
theorem dX12_rope_119 : decode cX12_rope 119 = .ok (.iload 4, 2) := by decide +kernel
theorem dX12_rope_121 : decode cX12_rope 121 = .ok (.iload 5, 2) := by decide +kernel
theorem dX12_rope_123 : decode cX12_rope 123 = .ok (.iadd, 1) := by decide +kernel
theorem dX12_rope_124 : decode cX12_rope 124 = .ok (.invokevirtual 355, 3) := by decide +kernel
theorem dX12_rope_127 : decode cX12_rope 127 = .ok (.istore 8, 2) := by decide +kernel
theorem dX12_rope_129 : decode cX12_rope 129 = .ok (.iload_n 2, 1) := by decide +kernel
theorem dX12_rope_130 : decode cX12_rope 130 = .ok (.iconst (-1), 1) := by decide +kernel
theorem dX12_rope_131 : decode cX12_rope 131 = .ok (.if_icmp .eq 13, 3) := by decide +kernel
theorem dX12_rope_134 : decode cX12_rope 134 = .ok (.aload_n 0, 1) := by decide +kernel
theorem dX12_rope_135 : decode cX12_rope 135 = .ok (.iload_n 2, 1) := by decide +kernel
theorem dX12_rope_136 : decode cX12_rope 136 = .ok (.iload_n 1, 1) := by decide +kernel
theorem dX12_rope_137 : decode cX12_rope 137 = .ok (.iconst 1, 1) := by decide +kernel
theorem dX12_rope_138 : decode cX12_rope 138 = .ok (.iadd, 1) := by decide +kernel
theorem dX12_rope_139 : decode cX12_rope 139 = .ok (.iload 6, 2) := by decide +kernel
theorem dX12_rope_141 : decode cX12_rope 141 = .ok (.invokevirtual 358, 3) := by decide +kernel
theorem dX12_rope_144 : decode cX12_rope 144 = .ok (.iload_n 3, 1) := by decide +kernel
theorem dX12_rope_145 : decode cX12_rope 145 = .ok (.iconst (-1), 1) := by decide +kernel
theorem dX12_rope_146 : decode cX12_rope 146 = .ok (.if_icmp .eq 11, 3) := by decide +kernel
theorem dX12_rope_149 : decode cX12_rope 149 = .ok (.aload_n 0, 1) := by decide +kernel
theorem dX12_rope_150 : decode cX12_rope 150 = .ok (.iload_n 3, 1) := by decide +kernel
theorem dX12_rope_151 : decode cX12_rope 151 = .ok (.iload_n 1, 1) := by decide +kernel
theorem dX12_rope_152 : decode cX12_rope 152 = .ok (.iload 7, 2) := by decide +kernel
theorem dX12_rope_154 : decode cX12_rope 154 = .ok (.invokevirtual 358, 3) := by decide +kernel
theorem dX12_rope_157 : decode cX12_rope 157 = .ok (.aload_n 0, 1) := by decide +kernel
theorem dX12_rope_158 : decode cX12_rope 158 = .ok (.iload_n 1, 1) := by decide +kernel
theorem dX12_rope_159 : decode cX12_rope 159 = .ok (.iconst 4, 1) := by decide +kernel
theorem dX12_rope_160 : decode cX12_rope 160 = .ok (.aload_n 0, 1) := by decide +kernel
theorem dX12_rope_161 : decode cX12_rope 161 = .ok (.iload_n 1, 1) := by decide +kernel
theorem dX12_rope_162 : decode cX12_rope 162 = .ok (.iconst 4, 1) := by decide +kernel
theorem dX12_rope_163 : decode cX12_rope 163 = .ok (.invokevirtual 98, 3) := by decide +kernel
theorem dX12_rope_166 : decode cX12_rope 166 = .ok (.iload 8, 2) := by decide +kernel
theorem dX12_rope_168 : decode cX12_rope 168 = .ok (.iadd, 1) := by decide +kernel
theorem dX12_rope_169 : decode cX12_rope 169 = .ok (.i2l, 1) := by decide +kernel
theorem dX12_rope_170 : decode cX12_rope 170 = .ok (.iconst 0, 1) := by decide +kernel
theorem dX12_rope_171 : decode cX12_rope 171 = .ok (.bipush 100, 2) := by decide +kernel
theorem dX12_rope_173 : decode cX12_rope 173 = .ok (.invokestatic 326, 3) := by decide +kernel
theorem dX12_rope_176 : decode cX12_rope 176 = .ok (.invokevirtual 94, 3) := by decide +kernel
theorem dX12_rope_179 : decode cX12_rope 179 = .ok (.return_, 1) := by decide +kernel
theorem dX12_pour_0 : decode cX12_pour 0 = .ok (.aload_n 0, 1) := by decide +kernel
theorem dX12_pour_1 : decode cX12_pour 1 = .ok (.getfield 7, 3) := by decide +kernel
theorem dX12_pour_4 : decode cX12_pour 4 = .ok (.iconst 0, 1) := by decide +kernel
theorem dX12_pour_5 : decode cX12_pour 5 = .ok (.iaload, 1) := by decide +kernel
theorem dX12_pour_6 : decode cX12_pour 6 = .ok (.istore_n 1, 1) := by decide +kernel
theorem dX12_pour_7 : decode cX12_pour 7 = .ok (.iconst 0, 1) := by decide +kernel
theorem dX12_pour_8 : decode cX12_pour 8 = .ok (.istore_n 2, 1) := by decide +kernel
theorem dX12_pour_9 : decode cX12_pour 9 = .ok (.iload_n 2, 1) := by decide +kernel
theorem dX12_pour_10 : decode cX12_pour 10 = .ok (.iload_n 1, 1) := by decide +kernel
theorem dX12_pour_11 : decode cX12_pour 11 = .ok (.if_icmp .ge 59, 3) := by decide +kernel
theorem dX12_pour_14 : decode cX12_pour 14 = .ok (.aload_n 0, 1) := by decide +kernel
theorem dX12_pour_15 : decode cX12_pour 15 = .ok (.getfield 47, 3) := by decide +kernel
theorem dX12_pour_18 : decode cX12_pour 18 = .ok (.iload_n 2, 1) := by decide +kernel
theorem dX12_pour_19 : decode cX12_pour 19 = .ok (.aload_n 0, 1) := by decide +kernel
theorem dX12_pour_20 : decode cX12_pour 20 = .ok (.iload_n 2, 1) := by decide +kernel
theorem dX12_pour_21 : decode cX12_pour 21 = .ok (.invokevirtual 361, 3) := by decide +kernel
theorem dX12_pour_24 : decode cX12_pour 24 = .ok (.iastore, 1) := by decide +kernel
theorem dX12_pour_25 : decode cX12_pour 25 = .ok (.aload_n 0, 1) := by decide +kernel
theorem dX12_pour_26 : decode cX12_pour 26 = .ok (.getfield 50, 3) := by decide +kernel
theorem dX12_pour_29 : decode cX12_pour 29 = .ok (.iload_n 2, 1) := by decide +kernel
theorem dX12_pour_30 : decode cX12_pour 30 = .ok (.aload_n 0, 1) := by decide +kernel
theorem dX12_pour_31 : decode cX12_pour 31 = .ok (.iload_n 2, 1) := by decide +kernel
theorem dX12_pour_32 : decode cX12_pour 32 = .ok (.iconst 2, 1) := by decide +kernel
theorem dX12_pour_33 : decode cX12_pour 33 = .ok (.invokevirtual 98, 3) := by decide +kernel
theorem dX12_pour_36 : decode cX12_pour 36 = .ok (.ifCond .ne 7, 3) := by decide +kernel
theorem dX12_pour_39 : decode cX12_pour 39 = .ok (.iconst 0, 1) := by decide +kernel
theorem dX12_pour_40 : decode cX12_pour 40 = .ok (.goto 23, 3) := by decide +kernel
theorem dX12_pour_43 : decode cX12_pour 43 = .ok (.aload_n 0, 1) := by decide +kernel
theorem dX12_pour_44 : decode cX12_pour 44 = .ok (.iload_n 2, 1) := by decide +kernel
theorem dX12_pour_45 : decode cX12_pour 45 = .ok (.iconst 3, 1) := by decide +kernel
theorem dX12_pour_46 : decode cX12_pour 46 = .ok (.invokevirtual 98, 3) := by decide +kernel
theorem dX12_pour_49 : decode cX12_pour 49 = .ok (.aload_n 0, 1) := by decide +kernel
theorem dX12_pour_50 : decode cX12_pour 50 = .ok (.getfield 47, 3) := by decide +kernel
theorem dX12_pour_53 : decode cX12_pour 53 = .ok (.iload_n 2, 1) := by decide +kernel
theorem dX12_pour_54 : decode cX12_pour 54 = .ok (.iaload, 1) := by decide +kernel
theorem dX12_pour_55 : decode cX12_pour 55 = .ok (.imul, 1) := by decide +kernel
theorem dX12_pour_56 : decode cX12_pour 56 = .ok (.aload_n 0, 1) := by decide +kernel
theorem dX12_pour_57 : decode cX12_pour 57 = .ok (.iload_n 2, 1) := by decide +kernel
theorem dX12_pour_58 : decode cX12_pour 58 = .ok (.iconst 2, 1) := by decide +kernel
theorem dX12_pour_59 : decode cX12_pour 59 = .ok (.invokevirtual 98, 3) := by decide +kernel
theorem dX12_pour_62 : decode cX12_pour 62 = .ok (.idiv, 1) := by decide +kernel
theorem dX12_pour_63 : decode cX12_pour 63 = .ok (.iastore, 1) := by decide +kernel
theorem dX12_pour_64 : decode cX12_pour 64 = .ok (.iinc 2 1, 3) := by decide +kernel
theorem dX12_pour_67 : decode cX12_pour 67 = .ok (.goto (-58), 3) := by decide +kernel
theorem dX12_pour_70 : decode cX12_pour 70 = .ok (.iconst 0, 1) := by decide +kernel
theorem dX12_pour_71 : decode cX12_pour 71 = .ok (.istore_n 2, 1) := by decide +kernel
theorem dX12_pour_72 : decode cX12_pour 72 = .ok (.iload_n 2, 1) := by decide +kernel
theorem dX12_pour_73 : decode cX12_pour 73 = .ok (.iload_n 1, 1) := by decide +kernel
theorem dX12_pour_74 : decode cX12_pour 74 = .ok (.if_icmp .ge 97, 3) := by decide +kernel
theorem dX12_pour_77 : decode cX12_pour 77 = .ok (.aload_n 0, 1) := by decide +kernel
theorem dX12_pour_78 : decode cX12_pour 78 = .ok (.iload_n 2, 1) := by decide +kernel
theorem dX12_pour_79 : decode cX12_pour 79 = .ok (.iconst 2, 1) := by decide +kernel
theorem dX12_pour_80 : decode cX12_pour 80 = .ok (.aload_n 0, 1) := by decide +kernel
theorem dX12_pour_81 : decode cX12_pour 81 = .ok (.iload_n 2, 1) := by decide +kernel
theorem dX12_pour_82 : decode cX12_pour 82 = .ok (.iconst 2, 1) := by decide +kernel
theorem dX12_pour_83 : decode cX12_pour 83 = .ok (.invokevirtual 98, 3) := by decide +kernel
theorem dX12_pour_86 : decode cX12_pour 86 = .ok (.aload_n 0, 1) := by decide +kernel
theorem dX12_pour_87 : decode cX12_pour 87 = .ok (.getfield 47, 3) := by decide +kernel
theorem dX12_pour_90 : decode cX12_pour 90 = .ok (.iload_n 2, 1) := by decide +kernel
theorem dX12_pour_91 : decode cX12_pour 91 = .ok (.iaload, 1) := by decide +kernel
theorem dX12_pour_92 : decode cX12_pour 92 = .ok (.isub, 1) := by decide +kernel
theorem dX12_pour_93 : decode cX12_pour 93 = .ok (.iload_n 2, 1) := by decide +kernel
theorem dX12_pour_94 : decode cX12_pour 94 = .ok (.ifCond .le 14, 3) := by decide +kernel
theorem dX12_pour_97 : decode cX12_pour 97 = .ok (.aload_n 0, 1) := by decide +kernel
theorem dX12_pour_98 : decode cX12_pour 98 = .ok (.getfield 47, 3) := by decide +kernel
theorem dX12_pour_101 : decode cX12_pour 101 = .ok (.iload_n 2, 1) := by decide +kernel
theorem dX12_pour_102 : decode cX12_pour 102 = .ok (.iconst 1, 1) := by decide +kernel
theorem dX12_pour_103 : decode cX12_pour 103 = .ok (.isub, 1) := by decide +kernel
theorem dX12_pour_104 : decode cX12_pour 104 = .ok (.iaload, 1) := by decide +kernel
theorem dX12_pour_105 : decode cX12_pour 105 = .ok (.goto 4, 3) := by decide +kernel
theorem dX12_pour_108 : decode cX12_pour 108 = .ok (.iconst 0, 1) := by decide +kernel
theorem dX12_pour_109 : decode cX12_pour 109 = .ok (.iadd, 1) := by decide +kernel
theorem dX12_pour_110 : decode cX12_pour 110 = .ok (.i2l, 1) := by decide +kernel
theorem dX12_pour_111 : decode cX12_pour 111 = .ok (.iconst 0, 1) := by decide +kernel
theorem dX12_pour_112 : decode cX12_pour 112 = .ok (.sipush 999, 3) := by decide +kernel
theorem dX12_pour_115 : decode cX12_pour 115 = .ok (.invokestatic 326, 3) := by decide +kernel
theorem dX12_pour_118 : decode cX12_pour 118 = .ok (.invokevirtual 94, 3) := by decide +kernel
theorem dX12_pour_121 : decode cX12_pour 121 = .ok (.aload_n 0, 1) := by decide +kernel
theorem dX12_pour_122 : decode cX12_pour 122 = .ok (.iload_n 2, 1) := by decide +kernel
theorem dX12_pour_123 : decode cX12_pour 123 = .ok (.iconst 3, 1) := by decide +kernel
theorem dX12_pour_124 : decode cX12_pour 124 = .ok (.aload_n 0, 1) := by decide +kernel
theorem dX12_pour_125 : decode cX12_pour 125 = .ok (.iload_n 2, 1) := by decide +kernel
theorem dX12_pour_126 : decode cX12_pour 126 = .ok (.iconst 3, 1) := by decide +kernel
theorem dX12_pour_127 : decode cX12_pour 127 = .ok (.invokevirtual 98, 3) := by decide +kernel
theorem dX12_pour_130 : decode cX12_pour 130 = .ok (.aload_n 0, 1) := by decide +kernel
theorem dX12_pour_131 : decode cX12_pour 131 = .ok (.getfield 50, 3) := by decide +kernel
theorem dX12_pour_134 : decode cX12_pour 134 = .ok (.iload_n 2, 1) := by decide +kernel
theorem dX12_pour_135 : decode cX12_pour 135 = .ok (.iaload, 1) := by decide +kernel
theorem dX12_pour_136 : decode cX12_pour 136 = .ok (.isub, 1) := by decide +kernel
theorem dX12_pour_137 : decode cX12_pour 137 = .ok (.iload_n 2, 1) := by decide +kernel
theorem dX12_pour_138 : decode cX12_pour 138 = .ok (.ifCond .le 14, 3) := by decide +kernel
theorem dX12_pour_141 : decode cX12_pour 141 = .ok (.aload_n 0, 1) := by decide +kernel
theorem dX12_pour_142 : decode cX12_pour 142 = .ok (.getfield 50, 3) := by decide +kernel
theorem dX12_pour_145 : decode cX12_pour 145 = .ok (.iload_n 2, 1) := by decide +kernel
theorem dX12_pour_146 : decode cX12_pour 146 = .ok (.iconst 1, 1) := by decide +kernel
theorem dX12_pour_147 : decode cX12_pour 147 = .ok (.isub, 1) := by decide +kernel
theorem dX12_pour_148 : decode cX12_pour 148 = .ok (.iaload, 1) := by decide +kernel
theorem dX12_pour_149 : decode cX12_pour 149 = .ok (.goto 4, 3) := by decide +kernel
theorem dX12_pour_152 : decode cX12_pour 152 = .ok (.iconst 0, 1) := by decide +kernel
theorem dX12_pour_153 : decode cX12_pour 153 = .ok (.iadd, 1) := by decide +kernel
theorem dX12_pour_154 : decode cX12_pour 154 = .ok (.i2l, 1) := by decide +kernel
theorem dX12_pour_155 : decode cX12_pour 155 = .ok (.iconst 0, 1) := by decide +kernel
theorem dX12_pour_156 : decode cX12_pour 156 = .ok (.sipush 999, 3) := by decide +kernel
theorem dX12_pour_159 : decode cX12_pour 159 = .ok (.invokestatic 326, 3) := by decide +kernel
theorem dX12_pour_162 : decode cX12_pour 162 = .ok (.invokevirtual 94, 3) := by decide +kernel
theorem dX12_pour_165 : decode cX12_pour 165 = .ok (.iinc 2 1, 3) := by decide +kernel
theorem dX12_pour_168 : decode cX12_pour 168 = .ok (.goto (-96), 3) := by decide +kernel
theorem dX12_pour_171 : decode cX12_pour 171 = .ok (.iload_n 1, 1) := by decide +kernel
theorem dX12_pour_172 : decode cX12_pour 172 = .ok (.ifCond .ne 4, 3) := by decide +kernel
theorem dX12_pour_175 : decode cX12_pour 175 = .ok (.return_, 1) := by decide +kernel
theorem dX12_pour_176 : decode cX12_pour 176 = .ok (.aload_n 0, 1) := by decide +kernel
theorem dX12_pour_177 : decode cX12_pour 177 = .ok (.getfield 7, 3) := by decide +kernel
theorem dX12_pour_180 : decode cX12_pour 180 = .ok (.bipush 9, 2) := by decide +kernel
theorem dX12_pour_182 : decode cX12_pour 182 = .ok (.aload_n 0, 1) := by decide +kernel
theorem dX12_pour_183 : decode cX12_pour 183 = .ok (.getfield 7, 3) := by decide +kernel
theorem dX12_pour_186 : decode cX12_pour 186 = .ok (.bipush 9, 2) := by decide +kernel
theorem dX12_pour_188 : decode cX12_pour 188 = .ok (.iaload, 1) := by decide +kernel
theorem dX12_pour_189 : decode cX12_pour 189 = .ok (.aload_n 0, 1) := by decide +kernel
theorem dX12_pour_190 : decode cX12_pour 190 = .ok (.getfield 47, 3) := by decide +kernel
theorem dX12_pour_193 : decode cX12_pour 193 = .ok (.iload_n 1, 1) := by decide +kernel
theorem dX12_pour_194 : decode cX12_pour 194 = .ok (.iconst 1, 1) := by decide +kernel
theorem dX12_pour_195 : decode cX12_pour 195 = .ok (.isub, 1) := by decide +kernel
theorem dX12_pour_196 : decode cX12_pour 196 = .ok (.iaload, 1) := by decide +kernel
theorem dX12_pour_197 : decode cX12_pour 197 = .ok (.iadd, 1) := by decide +kernel
theorem dX12_pour_198 : decode cX12_pour 198 = .ok (.i2l, 1) := by decide +kernel
theorem dX12_pour_199 : decode cX12_pour 199 = .ok (.iconst 0, 1) := by decide +kernel
theorem dX12_pour_200 : decode cX12_pour 200 = .ok (.ldc_w 364, 3) := by decide +kernel
theorem dX12_pour_203 : decode cX12_pour 203 = .ok (.invokestatic 326, 3) := by decide +kernel
theorem dX12_pour_206 : decode cX12_pour 206 = .ok (.iastore, 1) := by decide +kernel
theorem dX12_pour_207 : decode cX12_pour 207 = .ok (.aload_n 0, 1) := by decide +kernel
theorem dX12_pour_208 : decode cX12_pour 208 = .ok (.getfield 7, 3) := by decide +kernel
theorem dX12_pour_211 : decode cX12_pour 211 = .ok (.bipush 10, 2) := by decide +kernel
theorem dX12_pour_213 : decode cX12_pour 213 = .ok (.aload_n 0, 1) := by decide +kernel
theorem dX12_pour_214 : decode cX12_pour 214 = .ok (.getfield 7, 3) := by decide +kernel
theorem dX12_pour_217 : decode cX12_pour 217 = .ok (.bipush 10, 2) := by decide +kernel
theorem dX12_pour_219 : decode cX12_pour 219 = .ok (.iaload, 1) := by decide +kernel
theorem dX12_pour_220 : decode cX12_pour 220 = .ok (.aload_n 0, 1) := by decide +kernel
theorem dX12_pour_221 : decode cX12_pour 221 = .ok (.getfield 50, 3) := by decide +kernel
theorem dX12_pour_224 : decode cX12_pour 224 = .ok (.iload_n 1, 1) := by decide +kernel
theorem dX12_pour_225 : decode cX12_pour 225 = .ok (.iconst 1, 1) := by decide +kernel
theorem dX12_pour_226 : decode cX12_pour 226 = .ok (.isub, 1) := by decide +kernel
theorem dX12_pour_227 : decode cX12_pour 227 = .ok (.iaload, 1) := by decide +kernel
theorem dX12_pour_228 : decode cX12_pour 228 = .ok (.iadd, 1) := by decide +kernel
theorem dX12_pour_229 : decode cX12_pour 229 = .ok (.i2l, 1) := by decide +kernel
theorem dX12_pour_230 : decode cX12_pour 230 = .ok (.iconst 0, 1) := by decide +kernel
theorem dX12_pour_231 : decode cX12_pour 231 = .ok (.ldc_w 364, 3) := by decide +kernel
theorem dX12_pour_234 : decode cX12_pour 234 = .ok (.invokestatic 326, 3) := by decide +kernel
theorem dX12_pour_237 : decode cX12_pour 237 = .ok (.iastore, 1) := by decide +kernel
theorem dX12_pour_238 : decode cX12_pour 238 = .ok (.return_, 1) := by decide +kernel
theorem dX12_pass_0 : decode cX12_pass 0 = .ok (.iconst 0, 1) := by decide +kernel
theorem dX12_pass_1 : decode cX12_pass 1 = .ok (.istore_n 1, 1) := by decide +kernel
theorem dX12_pass_2 : decode cX12_pass 2 = .ok (.iload_n 1, 1) := by decide +kernel
theorem dX12_pass_3 : decode cX12_pass 3 = .ok (.bipush 7, 2) := by decide +kernel
theorem dX12_pass_5 : decode cX12_pass 5 = .ok (.if_icmp .ge 16, 3) := by decide +kernel
theorem dX12_pass_8 : decode cX12_pass 8 = .ok (.aload_n 0, 1) := by decide +kernel
theorem dX12_pass_9 : decode cX12_pass 9 = .ok (.getfield 40, 3) := by decide +kernel
theorem dX12_pass_12 : decode cX12_pass 12 = .ok (.iload_n 1, 1) := by decide +kernel
theorem dX12_pass_13 : decode cX12_pass 13 = .ok (.iconst 0, 1) := by decide +kernel
theorem dX12_pass_14 : decode cX12_pass 14 = .ok (.bastore, 1) := by decide +kernel
theorem dX12_pass_15 : decode cX12_pass 15 = .ok (.iinc 1 1, 3) := by decide +kernel
theorem dX12_pass_18 : decode cX12_pass 18 = .ok (.goto (-16), 3) := by decide +kernel
theorem dX12_pass_21 : decode cX12_pass 21 = .ok (.iconst 0, 1) := by decide +kernel
theorem dX12_pass_22 : decode cX12_pass 22 = .ok (.istore_n 1, 1) := by decide +kernel
theorem dX12_pass_23 : decode cX12_pass 23 = .ok (.iload_n 1, 1) := by decide +kernel
theorem dX12_pass_24 : decode cX12_pass 24 = .ok (.iconst 1, 1) := by decide +kernel
theorem dX12_pass_25 : decode cX12_pass 25 = .ok (.iadd, 1) := by decide +kernel
theorem dX12_pass_26 : decode cX12_pass 26 = .ok (.aload_n 0, 1) := by decide +kernel
theorem dX12_pass_27 : decode cX12_pass 27 = .ok (.getfield 7, 3) := by decide +kernel
theorem dX12_pass_30 : decode cX12_pass 30 = .ok (.iconst 0, 1) := by decide +kernel
theorem dX12_pass_31 : decode cX12_pass 31 = .ok (.iaload, 1) := by decide +kernel
theorem dX12_pass_32 : decode cX12_pass 32 = .ok (.if_icmp .ge 14, 3) := by decide +kernel
theorem dX12_pass_35 : decode cX12_pass 35 = .ok (.aload_n 0, 1) := by decide +kernel
theorem dX12_pass_36 : decode cX12_pass 36 = .ok (.iload_n 1, 1) := by decide +kernel
theorem dX12_pass_37 : decode cX12_pass 37 = .ok (.invokevirtual 365, 3) := by decide +kernel
theorem dX12_pass_40 : decode cX12_pass 40 = .ok (.iinc 1 1, 3) := by decide +kernel
theorem dX12_pass_43 : decode cX12_pass 43 = .ok (.goto (-20), 3) := by decide +kernel
theorem dX12_pass_46 : decode cX12_pass 46 = .ok (.aload_n 0, 1) := by decide +kernel
theorem dX12_pass_47 : decode cX12_pass 47 = .ok (.invokevirtual 368, 3) := by decide +kernel
theorem dX12_pass_50 : decode cX12_pass 50 = .ok (.aload_n 0, 1) := by decide +kernel
theorem dX12_pass_51 : decode cX12_pass 51 = .ok (.getfield 7, 3) := by decide +kernel
theorem dX12_pass_54 : decode cX12_pass 54 = .ok (.bipush 8, 2) := by decide +kernel
theorem dX12_pass_56 : decode cX12_pass 56 = .ok (.dup2, 1) := by decide +kernel
theorem dX12_pass_57 : decode cX12_pass 57 = .ok (.iaload, 1) := by decide +kernel
theorem dX12_pass_58 : decode cX12_pass 58 = .ok (.iconst 1, 1) := by decide +kernel
theorem dX12_pass_59 : decode cX12_pass 59 = .ok (.iadd, 1) := by decide +kernel
theorem dX12_pass_60 : decode cX12_pass 60 = .ok (.iastore, 1) := by decide +kernel
theorem dX12_pass_61 : decode cX12_pass 61 = .ok (.return_, 1) := by decide +kernel
theorem dX12_keep_0 : decode cX12_keep 0 = .ok (.aload_n 0, 1) := by decide +kernel
theorem dX12_keep_1 : decode cX12_keep 1 = .ok (.getfield 7, 3) := by decide +kernel
theorem dX12_keep_4 : decode cX12_keep 4 = .ok (.iconst 4, 1) := by decide +kernel
theorem dX12_keep_5 : decode cX12_keep 5 = .ok (.iaload, 1) := by decide +kernel
theorem dX12_keep_6 : decode cX12_keep 6 = .ok (.bipush 30, 2) := by decide +kernel
theorem dX12_keep_8 : decode cX12_keep 8 = .ok (.if_icmp .ne 48, 3) := by decide +kernel
theorem dX12_keep_11 : decode cX12_keep 11 = .ok (.iconst 0, 1) := by decide +kernel
theorem dX12_keep_12 : decode cX12_keep 12 = .ok (.istore_n 1, 1) := by decide +kernel
theorem dX12_keep_13 : decode cX12_keep 13 = .ok (.iload_n 1, 1) := by decide +kernel
theorem dX12_keep_14 : decode cX12_keep 14 = .ok (.sipush 1856, 3) := by decide +kernel
theorem dX12_keep_17 : decode cX12_keep 17 = .ok (.if_icmp .ge 29, 3) := by decide +kernel
theorem dX12_keep_20 : decode cX12_keep 20 = .ok (.aload_n 0, 1) := by decide +kernel
theorem dX12_keep_21 : decode cX12_keep 21 = .ok (.getfield 7, 3) := by decide +kernel
theorem dX12_keep_24 : decode cX12_keep 24 = .ok (.sipush 186, 3) := by decide +kernel
theorem dX12_keep_27 : decode cX12_keep 27 = .ok (.iload_n 1, 1) := by decide +kernel
theorem dX12_keep_28 : decode cX12_keep 28 = .ok (.iadd, 1) := by decide +kernel
theorem dX12_keep_29 : decode cX12_keep 29 = .ok (.aload_n 0, 1) := by decide +kernel
theorem dX12_keep_30 : decode cX12_keep 30 = .ok (.getfield 7, 3) := by decide +kernel
theorem dX12_keep_33 : decode cX12_keep 33 = .ok (.sipush 250, 3) := by decide +kernel
theorem dX12_keep_36 : decode cX12_keep 36 = .ok (.iload_n 1, 1) := by decide +kernel
theorem dX12_keep_37 : decode cX12_keep 37 = .ok (.iadd, 1) := by decide +kernel
theorem dX12_keep_38 : decode cX12_keep 38 = .ok (.iaload, 1) := by decide +kernel
theorem dX12_keep_39 : decode cX12_keep 39 = .ok (.iastore, 1) := by decide +kernel
theorem dX12_keep_40 : decode cX12_keep 40 = .ok (.iinc 1 1, 3) := by decide +kernel
theorem dX12_keep_43 : decode cX12_keep 43 = .ok (.goto (-30), 3) := by decide +kernel
theorem dX12_keep_46 : decode cX12_keep 46 = .ok (.aload_n 0, 1) := by decide +kernel
theorem dX12_keep_47 : decode cX12_keep 47 = .ok (.getfield 7, 3) := by decide +kernel
theorem dX12_keep_50 : decode cX12_keep 50 = .ok (.iconst 4, 1) := by decide +kernel
theorem dX12_keep_51 : decode cX12_keep 51 = .ok (.dup2, 1) := by decide +kernel
theorem dX12_keep_52 : decode cX12_keep 52 = .ok (.iaload, 1) := by decide +kernel
theorem dX12_keep_53 : decode cX12_keep 53 = .ok (.iconst 1, 1) := by decide +kernel
theorem dX12_keep_54 : decode cX12_keep 54 = .ok (.isub, 1) := by decide +kernel
theorem dX12_keep_55 : decode cX12_keep 55 = .ok (.iastore, 1) := by decide +kernel
theorem dX12_keep_56 : decode cX12_keep 56 = .ok (.sipush 186, 3) := by decide +kernel
theorem dX12_keep_59 : decode cX12_keep 59 = .ok (.bipush 64, 2) := by decide +kernel
theorem dX12_keep_61 : decode cX12_keep 61 = .ok (.aload_n 0, 1) := by decide +kernel
theorem dX12_keep_62 : decode cX12_keep 62 = .ok (.getfield 7, 3) := by decide +kernel
theorem dX12_keep_65 : decode cX12_keep 65 = .ok (.iconst 4, 1) := by decide +kernel
theorem dX12_keep_66 : decode cX12_keep 66 = .ok (.iaload, 1) := by decide +kernel
theorem dX12_keep_67 : decode cX12_keep 67 = .ok (.imul, 1) := by decide +kernel
theorem dX12_keep_68 : decode cX12_keep 68 = .ok (.iadd, 1) := by decide +kernel
theorem dX12_keep_69 : decode cX12_keep 69 = .ok (.istore_n 1, 1) := by decide +kernel
theorem dX12_keep_70 : decode cX12_keep 70 = .ok (.aload_n 0, 1) := by decide +kernel
theorem dX12_keep_71 : decode cX12_keep 71 = .ok (.getfield 7, 3) := by decide +kernel
theorem dX12_keep_74 : decode cX12_keep 74 = .ok (.iload_n 1, 1) := by decide +kernel
theorem dX12_keep_75 : decode cX12_keep 75 = .ok (.aload_n 0, 1) := by decide +kernel
theorem dX12_keep_76 : decode cX12_keep 76 = .ok (.getfield 7, 3) := by decide +kernel
theorem dX12_keep_79 : decode cX12_keep 79 = .ok (.iconst 0, 1) := by decide +kernel
theorem dX12_keep_80 : decode cX12_keep 80 = .ok (.iaload, 1) := by decide +kernel
theorem dX12_keep_81 : decode cX12_keep 81 = .ok (.iastore, 1) := by decide +kernel
theorem dX12_keep_82 : decode cX12_keep 82 = .ok (.aload_n 0, 1) := by decide +kernel
theorem dX12_keep_83 : decode cX12_keep 83 = .ok (.getfield 7, 3) := by decide +kernel
theorem dX12_keep_86 : decode cX12_keep 86 = .ok (.iload_n 1, 1) := by decide +kernel
theorem dX12_keep_87 : decode cX12_keep 87 = .ok (.iconst 1, 1) := by decide +kernel
theorem dX12_keep_88 : decode cX12_keep 88 = .ok (.iadd, 1) := by decide +kernel
theorem dX12_keep_89 : decode cX12_keep 89 = .ok (.aload_n 0, 1) := by decide +kernel
theorem dX12_keep_90 : decode cX12_keep 90 = .ok (.getfield 7, 3) := by decide +kernel
theorem dX12_keep_93 : decode cX12_keep 93 = .ok (.iconst 1, 1) := by decide +kernel
theorem dX12_keep_94 : decode cX12_keep 94 = .ok (.iaload, 1) := by decide +kernel
theorem dX12_keep_95 : decode cX12_keep 95 = .ok (.iastore, 1) := by decide +kernel
theorem dX12_keep_96 : decode cX12_keep 96 = .ok (.iconst 0, 1) := by decide +kernel
theorem dX12_keep_97 : decode cX12_keep 97 = .ok (.istore_n 2, 1) := by decide +kernel
theorem dX12_keep_98 : decode cX12_keep 98 = .ok (.iload_n 2, 1) := by decide +kernel
theorem dX12_keep_99 : decode cX12_keep 99 = .ok (.iconst 5, 1) := by decide +kernel
theorem dX12_keep_100 : decode cX12_keep 100 = .ok (.if_icmp .ge 28, 3) := by decide +kernel
theorem dX12_keep_103 : decode cX12_keep 103 = .ok (.aload_n 0, 1) := by decide +kernel
theorem dX12_keep_104 : decode cX12_keep 104 = .ok (.getfield 7, 3) := by decide +kernel
theorem dX12_keep_107 : decode cX12_keep 107 = .ok (.iload_n 1, 1) := by decide +kernel
theorem dX12_keep_108 : decode cX12_keep 108 = .ok (.iconst 2, 1) := by decide +kernel
theorem dX12_keep_109 : decode cX12_keep 109 = .ok (.iadd, 1) := by decide +kernel
theorem dX12_keep_110 : decode cX12_keep 110 = .ok (.iload_n 2, 1) := by decide +kernel
theorem dX12_keep_111 : decode cX12_keep 111 = .ok (.iadd, 1) := by decide +kernel
theorem dX12_keep_112 : decode cX12_keep 112 = .ok (.aload_n 0, 1) := by decide +kernel
theorem dX12_keep_113 : decode cX12_keep 113 = .ok (.getfield 7, 3) := by decide +kernel
theorem dX12_keep_116 : decode cX12_keep 116 = .ok (.bipush 8, 2) := by decide +kernel
theorem dX12_keep_118 : decode cX12_keep 118 = .ok (.iload_n 2, 1) := by decide +kernel
theorem dX12_keep_119 : decode cX12_keep 119 = .ok (.iadd, 1) := by decide +kernel
theorem dX12_keep_120 : decode cX12_keep 120 = .ok (.iaload, 1) := by decide +kernel
theorem dX12_keep_121 : decode cX12_keep 121 = .ok (.iastore, 1) := by decide +kernel
theorem dX12_keep_122 : decode cX12_keep 122 = .ok (.iinc 2 1, 3) := by decide +kernel
theorem dX12_keep_125 : decode cX12_keep 125 = .ok (.goto (-27), 3) := by decide +kernel
theorem dX12_keep_128 : decode cX12_keep 128 = .ok (.iconst 0, 1) := by decide +kernel
theorem dX12_keep_129 : decode cX12_keep 129 = .ok (.istore_n 2, 1) := by decide +kernel
theorem dX12_keep_130 : decode cX12_keep 130 = .ok (.iload_n 2, 1) := by decide +kernel
theorem dX12_keep_131 : decode cX12_keep 131 = .ok (.bipush 9, 2) := by decide +kernel
theorem dX12_keep_133 : decode cX12_keep 133 = .ok (.if_icmp .ge 45, 3) := by decide +kernel
theorem dX12_keep_136 : decode cX12_keep 136 = .ok (.iconst 0, 1) := by decide +kernel
theorem dX12_keep_137 : decode cX12_keep 137 = .ok (.istore_n 3, 1) := by decide +kernel
theorem dX12_keep_138 : decode cX12_keep 138 = .ok (.iload_n 3, 1) := by decide +kernel
theorem dX12_keep_139 : decode cX12_keep 139 = .ok (.iconst 4, 1) := by decide +kernel
theorem dX12_keep_140 : decode cX12_keep 140 = .ok (.if_icmp .ge 32, 3) := by decide +kernel
theorem dX12_keep_143 : decode cX12_keep 143 = .ok (.aload_n 0, 1) := by decide +kernel
theorem dX12_keep_144 : decode cX12_keep 144 = .ok (.getfield 7, 3) := by decide +kernel
theorem dX12_keep_147 : decode cX12_keep 147 = .ok (.iload_n 1, 1) := by decide +kernel
theorem dX12_keep_148 : decode cX12_keep 148 = .ok (.bipush 7, 2) := by decide +kernel
theorem dX12_keep_150 : decode cX12_keep 150 = .ok (.iadd, 1) := by decide +kernel
theorem dX12_keep_151 : decode cX12_keep 151 = .ok (.iconst 4, 1) := by decide +kernel
theorem dX12_keep_152 : decode cX12_keep 152 = .ok (.iload_n 2, 1) := by decide +kernel
theorem dX12_keep_153 : decode cX12_keep 153 = .ok (.imul, 1) := by decide +kernel
theorem dX12_keep_154 : decode cX12_keep 154 = .ok (.iadd, 1) := by decide +kernel
theorem dX12_keep_155 : decode cX12_keep 155 = .ok (.iload_n 3, 1) := by decide +kernel
theorem dX12_keep_156 : decode cX12_keep 156 = .ok (.iadd, 1) := by decide +kernel
theorem dX12_keep_157 : decode cX12_keep 157 = .ok (.aload_n 0, 1) := by decide +kernel
theorem dX12_keep_158 : decode cX12_keep 158 = .ok (.iload_n 2, 1) := by decide +kernel
theorem dX12_keep_159 : decode cX12_keep 159 = .ok (.iconst 1, 1) := by decide +kernel
theorem dX12_keep_160 : decode cX12_keep 160 = .ok (.iload_n 3, 1) := by decide +kernel
theorem dX12_keep_161 : decode cX12_keep 161 = .ok (.iadd, 1) := by decide +kernel
theorem dX12_keep_162 : decode cX12_keep 162 = .ok (.invokevirtual 98, 3) := by decide +kernel
theorem dX12_keep_165 : decode cX12_keep 165 = .ok (.iastore, 1) := by decide +kernel
theorem dX12_keep_166 : decode cX12_keep 166 = .ok (.iinc 3 1, 3) := by decide +kernel
theorem dX12_keep_169 : decode cX12_keep 169 = .ok (.goto (-31), 3) := by decide +kernel
theorem dX12_keep_172 : decode cX12_keep 172 = .ok (.iinc 2 1, 3) := by decide +kernel
theorem dX12_keep_175 : decode cX12_keep 175 = .ok (.goto (-45), 3) := by decide +kernel
theorem dX12_keep_178 : decode cX12_keep 178 = .ok (.iconst 0, 1) := by decide +kernel
theorem dX12_keep_179 : decode cX12_keep 179 = .ok (.istore_n 2, 1) := by decide +kernel
theorem dX12_keep_180 : decode cX12_keep 180 = .ok (.iload_n 2, 1) := by decide +kernel
theorem dX12_keep_181 : decode cX12_keep 181 = .ok (.bipush 7, 2) := by decide +kernel
theorem dX12_keep_183 : decode cX12_keep 183 = .ok (.if_icmp .ge 45, 3) := by decide +kernel
theorem dX12_keep_186 : decode cX12_keep 186 = .ok (.iconst 0, 1) := by decide +kernel
theorem dX12_keep_187 : decode cX12_keep 187 = .ok (.istore_n 3, 1) := by decide +kernel
theorem dX12_keep_188 : decode cX12_keep 188 = .ok (.iload_n 3, 1) := by decide +kernel
theorem dX12_keep_189 : decode cX12_keep 189 = .ok (.iconst 3, 1) := by decide +kernel
theorem dX12_keep_190 : decode cX12_keep 190 = .ok (.if_icmp .ge 32, 3) := by decide +kernel
theorem dX12_keep_193 : decode cX12_keep 193 = .ok (.aload_n 0, 1) := by decide +kernel
theorem dX12_keep_194 : decode cX12_keep 194 = .ok (.getfield 7, 3) := by decide +kernel
theorem dX12_keep_197 : decode cX12_keep 197 = .ok (.iload_n 1, 1) := by decide +kernel
theorem dX12_keep_198 : decode cX12_keep 198 = .ok (.bipush 43, 2) := by decide +kernel
theorem dX12_keep_200 : decode cX12_keep 200 = .ok (.iadd, 1) := by decide +kernel
theorem dX12_keep_201 : decode cX12_keep 201 = .ok (.iconst 3, 1) := by decide +kernel
theorem dX12_keep_202 : decode cX12_keep 202 = .ok (.iload_n 2, 1) := by decide +kernel
theorem dX12_keep_203 : decode cX12_keep 203 = .ok (.imul, 1) := by decide +kernel
theorem dX12_keep_204 : decode cX12_keep 204 = .ok (.iadd, 1) := by decide +kernel
theorem dX12_keep_205 : decode cX12_keep 205 = .ok (.iload_n 3, 1) := by decide +kernel
theorem dX12_keep_206 : decode cX12_keep 206 = .ok (.iadd, 1) := by decide +kernel
theorem dX12_keep_207 : decode cX12_keep 207 = .ok (.aload_n 0, 1) := by decide +kernel
theorem dX12_keep_208 : decode cX12_keep 208 = .ok (.iload_n 2, 1) := by decide +kernel
theorem dX12_keep_209 : decode cX12_keep 209 = .ok (.iconst 1, 1) := by decide +kernel
theorem dX12_keep_210 : decode cX12_keep 210 = .ok (.iload_n 3, 1) := by decide +kernel
theorem dX12_keep_211 : decode cX12_keep 211 = .ok (.iadd, 1) := by decide +kernel
theorem dX12_keep_212 : decode cX12_keep 212 = .ok (.invokevirtual 340, 3) := by decide +kernel
theorem dX12_keep_215 : decode cX12_keep 215 = .ok (.iastore, 1) := by decide +kernel
theorem dX12_keep_216 : decode cX12_keep 216 = .ok (.iinc 3 1, 3) := by decide +kernel
theorem dX12_keep_219 : decode cX12_keep 219 = .ok (.goto (-31), 3) := by decide +kernel
theorem dX12_keep_222 : decode cX12_keep 222 = .ok (.iinc 2 1, 3) := by decide +kernel
theorem dX12_keep_225 : decode cX12_keep 225 = .ok (.goto (-45), 3) := by decide +kernel
theorem dX12_keep_228 : decode cX12_keep 228 = .ok (.aload_n 0, 1) := by decide +kernel
theorem dX12_keep_229 : decode cX12_keep 229 = .ok (.getfield 7, 3) := by decide +kernel
theorem dX12_keep_232 : decode cX12_keep 232 = .ok (.iconst 4, 1) := by decide +kernel
theorem dX12_keep_233 : decode cX12_keep 233 = .ok (.dup2, 1) := by decide +kernel
theorem dX12_keep_234 : decode cX12_keep 234 = .ok (.iaload, 1) := by decide +kernel
theorem dX12_keep_235 : decode cX12_keep 235 = .ok (.iconst 1, 1) := by decide +kernel
theorem dX12_keep_236 : decode cX12_keep 236 = .ok (.iadd, 1) := by decide +kernel
theorem dX12_keep_237 : decode cX12_keep 237 = .ok (.iastore, 1) := by decide +kernel
theorem dX12_keep_238 : decode cX12_keep 238 = .ok (.return_, 1) := by decide +kernel
theorem dX12_undoStep_0 : decode cX12_undoStep 0 = .ok (.iconst 0, 1) := by decide +kernel
theorem dX12_undoStep_1 : decode cX12_undoStep 1 = .ok (.istore 4, 2) := by decide +kernel
theorem dX12_undoStep_3 : decode cX12_undoStep 3 = .ok (.iload 4, 2) := by decide +kernel
theorem dX12_undoStep_5 : decode cX12_undoStep 5 = .ok (.iconst 3, 1) := by decide +kernel
theorem dX12_undoStep_6 : decode cX12_undoStep 6 = .ok (.if_icmp .ge 50, 3) := by decide +kernel
theorem dX12_undoStep_9 : decode cX12_undoStep 9 = .ok (.aload_n 0, 1) := by decide +kernel
theorem dX12_undoStep_10 : decode cX12_undoStep 10 = .ok (.iload_n 1, 1) := by decide +kernel
theorem dX12_undoStep_11 : decode cX12_undoStep 11 = .ok (.iconst 1, 1) := by decide +kernel
theorem dX12_undoStep_12 : decode cX12_undoStep 12 = .ok (.iload 4, 2) := by decide +kernel
theorem dX12_undoStep_14 : decode cX12_undoStep 14 = .ok (.iadd, 1) := by decide +kernel
theorem dX12_undoStep_15 : decode cX12_undoStep 15 = .ok (.iload_n 3, 1) := by decide +kernel
theorem dX12_undoStep_16 : decode cX12_undoStep 16 = .ok (.ifCond .eq 22, 3) := by decide +kernel
theorem dX12_undoStep_19 : decode cX12_undoStep 19 = .ok (.aload_n 0, 1) := by decide +kernel
theorem dX12_undoStep_20 : decode cX12_undoStep 20 = .ok (.getfield 7, 3) := by decide +kernel
theorem dX12_undoStep_23 : decode cX12_undoStep 23 = .ok (.iload_n 2, 1) := by decide +kernel
theorem dX12_undoStep_24 : decode cX12_undoStep 24 = .ok (.bipush 7, 2) := by decide +kernel
theorem dX12_undoStep_26 : decode cX12_undoStep 26 = .ok (.iadd, 1) := by decide +kernel
theorem dX12_undoStep_27 : decode cX12_undoStep 27 = .ok (.iconst 4, 1) := by decide +kernel
theorem dX12_undoStep_28 : decode cX12_undoStep 28 = .ok (.iload_n 1, 1) := by decide +kernel
theorem dX12_undoStep_29 : decode cX12_undoStep 29 = .ok (.imul, 1) := by decide +kernel
theorem dX12_undoStep_30 : decode cX12_undoStep 30 = .ok (.iadd, 1) := by decide +kernel
theorem dX12_undoStep_31 : decode cX12_undoStep 31 = .ok (.iload 4, 2) := by decide +kernel
theorem dX12_undoStep_33 : decode cX12_undoStep 33 = .ok (.iadd, 1) := by decide +kernel
theorem dX12_undoStep_34 : decode cX12_undoStep 34 = .ok (.iaload, 1) := by decide +kernel
theorem dX12_undoStep_35 : decode cX12_undoStep 35 = .ok (.goto 12, 3) := by decide +kernel
theorem dX12_undoStep_38 : decode cX12_undoStep 38 = .ok (.aload_n 0, 1) := by decide +kernel
theorem dX12_undoStep_39 : decode cX12_undoStep 39 = .ok (.iload_n 1, 1) := by decide +kernel
theorem dX12_undoStep_40 : decode cX12_undoStep 40 = .ok (.iconst 5, 1) := by decide +kernel
theorem dX12_undoStep_41 : decode cX12_undoStep 41 = .ok (.iload 4, 2) := by decide +kernel
theorem dX12_undoStep_43 : decode cX12_undoStep 43 = .ok (.iadd, 1) := by decide +kernel
theorem dX12_undoStep_44 : decode cX12_undoStep 44 = .ok (.invokevirtual 98, 3) := by decide +kernel
theorem dX12_undoStep_47 : decode cX12_undoStep 47 = .ok (.invokevirtual 94, 3) := by decide +kernel
theorem dX12_undoStep_50 : decode cX12_undoStep 50 = .ok (.iinc 4 1, 3) := by decide +kernel
theorem dX12_undoStep_53 : decode cX12_undoStep 53 = .ok (.goto (-50), 3) := by decide +kernel
theorem dX12_undoStep_56 : decode cX12_undoStep 56 = .ok (.aload_n 0, 1) := by decide +kernel
theorem dX12_undoStep_57 : decode cX12_undoStep 57 = .ok (.iload_n 1, 1) := by decide +kernel
theorem dX12_undoStep_58 : decode cX12_undoStep 58 = .ok (.iconst 4, 1) := by decide +kernel
theorem dX12_undoStep_59 : decode cX12_undoStep 59 = .ok (.iload_n 3, 1) := by decide +kernel
theorem dX12_undoStep_60 : decode cX12_undoStep 60 = .ok (.ifCond .eq 19, 3) := by decide +kernel
theorem dX12_undoStep_63 : decode cX12_undoStep 63 = .ok (.aload_n 0, 1) := by decide +kernel
theorem dX12_undoStep_64 : decode cX12_undoStep 64 = .ok (.getfield 7, 3) := by decide +kernel
theorem dX12_undoStep_67 : decode cX12_undoStep 67 = .ok (.iload_n 2, 1) := by decide +kernel
theorem dX12_undoStep_68 : decode cX12_undoStep 68 = .ok (.bipush 10, 2) := by decide +kernel
theorem dX12_undoStep_70 : decode cX12_undoStep 70 = .ok (.iadd, 1) := by decide +kernel
theorem dX12_undoStep_71 : decode cX12_undoStep 71 = .ok (.iconst 4, 1) := by decide +kernel
theorem dX12_undoStep_72 : decode cX12_undoStep 72 = .ok (.iload_n 1, 1) := by decide +kernel
theorem dX12_undoStep_73 : decode cX12_undoStep 73 = .ok (.imul, 1) := by decide +kernel
theorem dX12_undoStep_74 : decode cX12_undoStep 74 = .ok (.iadd, 1) := by decide +kernel
theorem dX12_undoStep_75 : decode cX12_undoStep 75 = .ok (.iaload, 1) := by decide +kernel
theorem dX12_undoStep_76 : decode cX12_undoStep 76 = .ok (.goto 4, 3) := by decide +kernel
theorem dX12_undoStep_79 : decode cX12_undoStep 79 = .ok (.iconst 0, 1) := by decide +kernel
theorem dX12_undoStep_80 : decode cX12_undoStep 80 = .ok (.invokevirtual 94, 3) := by decide +kernel
theorem dX12_undoStep_83 : decode cX12_undoStep 83 = .ok (.return_, 1) := by decide +kernel
theorem dX12_undoShip_0 : decode cX12_undoShip 0 = .ok (.iconst 0, 1) := by decide +kernel
theorem dX12_undoShip_1 : decode cX12_undoShip 1 = .ok (.istore 4, 2) := by decide +kernel
theorem dX12_undoShip_3 : decode cX12_undoShip 3 = .ok (.iload 4, 2) := by decide +kernel
theorem dX12_undoShip_5 : decode cX12_undoShip 5 = .ok (.iconst 2, 1) := by decide +kernel
theorem dX12_undoShip_6 : decode cX12_undoShip 6 = .ok (.if_icmp .ge 50, 3) := by decide +kernel
theorem dX12_undoShip_9 : decode cX12_undoShip 9 = .ok (.aload_n 0, 1) := by decide +kernel
theorem dX12_undoShip_10 : decode cX12_undoShip 10 = .ok (.iload_n 1, 1) := by decide +kernel
theorem dX12_undoShip_11 : decode cX12_undoShip 11 = .ok (.iconst 1, 1) := by decide +kernel
theorem dX12_undoShip_12 : decode cX12_undoShip 12 = .ok (.iload 4, 2) := by decide +kernel
theorem dX12_undoShip_14 : decode cX12_undoShip 14 = .ok (.iadd, 1) := by decide +kernel
theorem dX12_undoShip_15 : decode cX12_undoShip 15 = .ok (.iload_n 3, 1) := by decide +kernel
theorem dX12_undoShip_16 : decode cX12_undoShip 16 = .ok (.ifCond .eq 22, 3) := by decide +kernel
theorem dX12_undoShip_19 : decode cX12_undoShip 19 = .ok (.aload_n 0, 1) := by decide +kernel
theorem dX12_undoShip_20 : decode cX12_undoShip 20 = .ok (.getfield 7, 3) := by decide +kernel
theorem dX12_undoShip_23 : decode cX12_undoShip 23 = .ok (.iload_n 2, 1) := by decide +kernel
theorem dX12_undoShip_24 : decode cX12_undoShip 24 = .ok (.bipush 43, 2) := by decide +kernel
theorem dX12_undoShip_26 : decode cX12_undoShip 26 = .ok (.iadd, 1) := by decide +kernel
theorem dX12_undoShip_27 : decode cX12_undoShip 27 = .ok (.iconst 3, 1) := by decide +kernel
theorem dX12_undoShip_28 : decode cX12_undoShip 28 = .ok (.iload_n 1, 1) := by decide +kernel
theorem dX12_undoShip_29 : decode cX12_undoShip 29 = .ok (.imul, 1) := by decide +kernel
theorem dX12_undoShip_30 : decode cX12_undoShip 30 = .ok (.iadd, 1) := by decide +kernel
theorem dX12_undoShip_31 : decode cX12_undoShip 31 = .ok (.iload 4, 2) := by decide +kernel
theorem dX12_undoShip_33 : decode cX12_undoShip 33 = .ok (.iadd, 1) := by decide +kernel
theorem dX12_undoShip_34 : decode cX12_undoShip 34 = .ok (.iaload, 1) := by decide +kernel
theorem dX12_undoShip_35 : decode cX12_undoShip 35 = .ok (.goto 12, 3) := by decide +kernel
theorem dX12_undoShip_38 : decode cX12_undoShip 38 = .ok (.aload_n 0, 1) := by decide +kernel
theorem dX12_undoShip_39 : decode cX12_undoShip 39 = .ok (.iload_n 1, 1) := by decide +kernel
theorem dX12_undoShip_40 : decode cX12_undoShip 40 = .ok (.iconst 4, 1) := by decide +kernel
theorem dX12_undoShip_41 : decode cX12_undoShip 41 = .ok (.iload 4, 2) := by decide +kernel
theorem dX12_undoShip_43 : decode cX12_undoShip 43 = .ok (.iadd, 1) := by decide +kernel
theorem dX12_undoShip_44 : decode cX12_undoShip 44 = .ok (.invokevirtual 340, 3) := by decide +kernel
theorem dX12_undoShip_47 : decode cX12_undoShip 47 = .ok (.invokevirtual 106, 3) := by decide +kernel
theorem dX12_undoShip_50 : decode cX12_undoShip 50 = .ok (.iinc 4 1, 3) := by decide +kernel
theorem dX12_undoShip_53 : decode cX12_undoShip 53 = .ok (.goto (-50), 3) := by decide +kernel
theorem dX12_undoShip_56 : decode cX12_undoShip 56 = .ok (.aload_n 0, 1) := by decide +kernel
theorem dX12_undoShip_57 : decode cX12_undoShip 57 = .ok (.iload_n 1, 1) := by decide +kernel
theorem dX12_undoShip_58 : decode cX12_undoShip 58 = .ok (.iconst 3, 1) := by decide +kernel
theorem dX12_undoShip_59 : decode cX12_undoShip 59 = .ok (.iload_n 3, 1) := by decide +kernel
theorem dX12_undoShip_60 : decode cX12_undoShip 60 = .ok (.ifCond .eq 19, 3) := by decide +kernel
theorem dX12_undoShip_63 : decode cX12_undoShip 63 = .ok (.aload_n 0, 1) := by decide +kernel
theorem dX12_undoShip_64 : decode cX12_undoShip 64 = .ok (.getfield 7, 3) := by decide +kernel
theorem dX12_undoShip_67 : decode cX12_undoShip 67 = .ok (.iload_n 2, 1) := by decide +kernel
theorem dX12_undoShip_68 : decode cX12_undoShip 68 = .ok (.bipush 45, 2) := by decide +kernel
theorem dX12_undoShip_70 : decode cX12_undoShip 70 = .ok (.iadd, 1) := by decide +kernel
theorem dX12_undoShip_71 : decode cX12_undoShip 71 = .ok (.iconst 3, 1) := by decide +kernel
theorem dX12_undoShip_72 : decode cX12_undoShip 72 = .ok (.iload_n 1, 1) := by decide +kernel
theorem dX12_undoShip_73 : decode cX12_undoShip 73 = .ok (.imul, 1) := by decide +kernel
theorem dX12_undoShip_74 : decode cX12_undoShip 74 = .ok (.iadd, 1) := by decide +kernel
theorem dX12_undoShip_75 : decode cX12_undoShip 75 = .ok (.iaload, 1) := by decide +kernel
theorem dX12_undoShip_76 : decode cX12_undoShip 76 = .ok (.goto 4, 3) := by decide +kernel
theorem dX12_undoShip_79 : decode cX12_undoShip 79 = .ok (.iconst 0, 1) := by decide +kernel
theorem dX12_undoShip_80 : decode cX12_undoShip 80 = .ok (.invokevirtual 106, 3) := by decide +kernel
theorem dX12_undoShip_83 : decode cX12_undoShip 83 = .ok (.return_, 1) := by decide +kernel
theorem dX12_undo_0 : decode cX12_undo 0 = .ok (.aload_n 0, 1) := by decide +kernel
theorem dX12_undo_1 : decode cX12_undo 1 = .ok (.getfield 7, 3) := by decide +kernel
theorem dX12_undo_4 : decode cX12_undo 4 = .ok (.iconst 4, 1) := by decide +kernel
theorem dX12_undo_5 : decode cX12_undo 5 = .ok (.iaload, 1) := by decide +kernel
theorem dX12_undo_6 : decode cX12_undo 6 = .ok (.ifCond .ne 5, 3) := by decide +kernel
theorem dX12_undo_9 : decode cX12_undo 9 = .ok (.iconst (-1), 1) := by decide +kernel
theorem dX12_undo_10 : decode cX12_undo 10 = .ok (.ireturn, 1) := by decide +kernel
theorem dX12_undo_11 : decode cX12_undo 11 = .ok (.aload_n 0, 1) := by decide +kernel
theorem dX12_undo_12 : decode cX12_undo 12 = .ok (.getfield 7, 3) := by decide +kernel
theorem dX12_undo_15 : decode cX12_undo 15 = .ok (.iconst 4, 1) := by decide +kernel
theorem dX12_undo_16 : decode cX12_undo 16 = .ok (.dup2, 1) := by decide +kernel
theorem dX12_undo_17 : decode cX12_undo 17 = .ok (.iaload, 1) := by decide +kernel
theorem dX12_undo_18 : decode cX12_undo 18 = .ok (.iconst 1, 1) := by decide +kernel
theorem dX12_undo_19 : decode cX12_undo 19 = .ok (.isub, 1) := by decide +kernel
theorem dX12_undo_20 : decode cX12_undo 20 = .ok (.iastore, 1) := by decide +kernel
theorem dX12_undo_21 : decode cX12_undo 21 = .ok (.sipush 186, 3) := by decide +kernel
theorem dX12_undo_24 : decode cX12_undo 24 = .ok (.bipush 64, 2) := by decide +kernel
theorem dX12_undo_26 : decode cX12_undo 26 = .ok (.aload_n 0, 1) := by decide +kernel
theorem dX12_undo_27 : decode cX12_undo 27 = .ok (.getfield 7, 3) := by decide +kernel
theorem dX12_undo_30 : decode cX12_undo 30 = .ok (.iconst 4, 1) := by decide +kernel
theorem dX12_undo_31 : decode cX12_undo 31 = .ok (.iaload, 1) := by decide +kernel
theorem dX12_undo_32 : decode cX12_undo 32 = .ok (.imul, 1) := by decide +kernel
theorem dX12_undo_33 : decode cX12_undo 33 = .ok (.iadd, 1) := by decide +kernel
theorem dX12_undo_34 : decode cX12_undo 34 = .ok (.istore_n 1, 1) := by decide +kernel
theorem dX12_undo_35 : decode cX12_undo 35 = .ok (.iconst 0, 1) := by decide +kernel
theorem dX12_undo_36 : decode cX12_undo 36 = .ok (.istore_n 2, 1) := by decide +kernel
theorem dX12_undo_37 : decode cX12_undo 37 = .ok (.iload_n 2, 1) := by decide +kernel
theorem dX12_undo_38 : decode cX12_undo 38 = .ok (.iconst 5, 1) := by decide +kernel
theorem dX12_undo_39 : decode cX12_undo 39 = .ok (.if_icmp .ge 28, 3) := by decide +kernel
theorem dX12_undo_42 : decode cX12_undo 42 = .ok (.aload_n 0, 1) := by decide +kernel
theorem dX12_undo_43 : decode cX12_undo 43 = .ok (.getfield 7, 3) := by decide +kernel
theorem dX12_undo_46 : decode cX12_undo 46 = .ok (.bipush 8, 2) := by decide +kernel
theorem dX12_undo_48 : decode cX12_undo 48 = .ok (.iload_n 2, 1) := by decide +kernel
theorem dX12_undo_49 : decode cX12_undo 49 = .ok (.iadd, 1) := by decide +kernel
theorem dX12_undo_50 : decode cX12_undo 50 = .ok (.aload_n 0, 1) := by decide +kernel
theorem dX12_undo_51 : decode cX12_undo 51 = .ok (.getfield 7, 3) := by decide +kernel
theorem dX12_undo_54 : decode cX12_undo 54 = .ok (.iload_n 1, 1) := by decide +kernel
theorem dX12_undo_55 : decode cX12_undo 55 = .ok (.iconst 2, 1) := by decide +kernel
theorem dX12_undo_56 : decode cX12_undo 56 = .ok (.iadd, 1) := by decide +kernel
theorem dX12_undo_57 : decode cX12_undo 57 = .ok (.iload_n 2, 1) := by decide +kernel
theorem dX12_undo_58 : decode cX12_undo 58 = .ok (.iadd, 1) := by decide +kernel
theorem dX12_undo_59 : decode cX12_undo 59 = .ok (.iaload, 1) := by decide +kernel
theorem dX12_undo_60 : decode cX12_undo 60 = .ok (.iastore, 1) := by decide +kernel
theorem dX12_undo_61 : decode cX12_undo 61 = .ok (.iinc 2 1, 3) := by decide +kernel
theorem dX12_undo_64 : decode cX12_undo 64 = .ok (.goto (-27), 3) := by decide +kernel
theorem dX12_undo_67 : decode cX12_undo 67 = .ok (.iconst 0, 1) := by decide +kernel
theorem dX12_undo_68 : decode cX12_undo 68 = .ok (.istore_n 2, 1) := by decide +kernel
theorem dX12_undo_69 : decode cX12_undo 69 = .ok (.iload_n 2, 1) := by decide +kernel
theorem dX12_undo_70 : decode cX12_undo 70 = .ok (.aload_n 0, 1) := by decide +kernel
theorem dX12_undo_71 : decode cX12_undo 71 = .ok (.getfield 7, 3) := by decide +kernel
theorem dX12_undo_74 : decode cX12_undo 74 = .ok (.iconst 0, 1) := by decide +kernel
theorem dX12_undo_75 : decode cX12_undo 75 = .ok (.iaload, 1) := by decide +kernel
theorem dX12_undo_76 : decode cX12_undo 76 = .ok (.if_icmp .ge 30, 3) := by decide +kernel
theorem dX12_undo_79 : decode cX12_undo 79 = .ok (.aload_n 0, 1) := by decide +kernel
theorem dX12_undo_80 : decode cX12_undo 80 = .ok (.iload_n 2, 1) := by decide +kernel
theorem dX12_undo_81 : decode cX12_undo 81 = .ok (.iload_n 1, 1) := by decide +kernel
theorem dX12_undo_82 : decode cX12_undo 82 = .ok (.iload_n 2, 1) := by decide +kernel
theorem dX12_undo_83 : decode cX12_undo 83 = .ok (.aload_n 0, 1) := by decide +kernel
theorem dX12_undo_84 : decode cX12_undo 84 = .ok (.getfield 7, 3) := by decide +kernel
theorem dX12_undo_87 : decode cX12_undo 87 = .ok (.iload_n 1, 1) := by decide +kernel
theorem dX12_undo_88 : decode cX12_undo 88 = .ok (.iaload, 1) := by decide +kernel
theorem dX12_undo_89 : decode cX12_undo 89 = .ok (.if_icmp .ge 7, 3) := by decide +kernel
theorem dX12_undo_92 : decode cX12_undo 92 = .ok (.iconst 1, 1) := by decide +kernel
theorem dX12_undo_93 : decode cX12_undo 93 = .ok (.goto 4, 3) := by decide +kernel
theorem dX12_undo_96 : decode cX12_undo 96 = .ok (.iconst 0, 1) := by decide +kernel
theorem dX12_undo_97 : decode cX12_undo 97 = .ok (.invokevirtual 371, 3) := by decide +kernel
theorem dX12_undo_100 : decode cX12_undo 100 = .ok (.iinc 2 1, 3) := by decide +kernel
theorem dX12_undo_103 : decode cX12_undo 103 = .ok (.goto (-34), 3) := by decide +kernel
theorem dX12_undo_106 : decode cX12_undo 106 = .ok (.iconst 0, 1) := by decide +kernel
theorem dX12_undo_107 : decode cX12_undo 107 = .ok (.istore_n 2, 1) := by decide +kernel
theorem dX12_undo_108 : decode cX12_undo 108 = .ok (.iload_n 2, 1) := by decide +kernel
theorem dX12_undo_109 : decode cX12_undo 109 = .ok (.aload_n 0, 1) := by decide +kernel
theorem dX12_undo_110 : decode cX12_undo 110 = .ok (.getfield 7, 3) := by decide +kernel
theorem dX12_undo_113 : decode cX12_undo 113 = .ok (.iconst 1, 1) := by decide +kernel
theorem dX12_undo_114 : decode cX12_undo 114 = .ok (.iaload, 1) := by decide +kernel
theorem dX12_undo_115 : decode cX12_undo 115 = .ok (.if_icmp .ge 32, 3) := by decide +kernel
theorem dX12_undo_118 : decode cX12_undo 118 = .ok (.aload_n 0, 1) := by decide +kernel
theorem dX12_undo_119 : decode cX12_undo 119 = .ok (.iload_n 2, 1) := by decide +kernel
theorem dX12_undo_120 : decode cX12_undo 120 = .ok (.iload_n 1, 1) := by decide +kernel
theorem dX12_undo_121 : decode cX12_undo 121 = .ok (.iload_n 2, 1) := by decide +kernel
theorem dX12_undo_122 : decode cX12_undo 122 = .ok (.aload_n 0, 1) := by decide +kernel
theorem dX12_undo_123 : decode cX12_undo 123 = .ok (.getfield 7, 3) := by decide +kernel
theorem dX12_undo_126 : decode cX12_undo 126 = .ok (.iload_n 1, 1) := by decide +kernel
theorem dX12_undo_127 : decode cX12_undo 127 = .ok (.iconst 1, 1) := by decide +kernel
theorem dX12_undo_128 : decode cX12_undo 128 = .ok (.iadd, 1) := by decide +kernel
theorem dX12_undo_129 : decode cX12_undo 129 = .ok (.iaload, 1) := by decide +kernel
theorem dX12_undo_130 : decode cX12_undo 130 = .ok (.if_icmp .ge 7, 3) := by decide +kernel
theorem dX12_undo_133 : decode cX12_undo 133 = .ok (.iconst 1, 1) := by decide +kernel
theorem dX12_undo_134 : decode cX12_undo 134 = .ok (.goto 4, 3) := by decide +kernel
theorem dX12_undo_137 : decode cX12_undo 137 = .ok (.iconst 0, 1) := by decide +kernel
theorem dX12_undo_138 : decode cX12_undo 138 = .ok (.invokevirtual 375, 3) := by decide +kernel
theorem dX12_undo_141 : decode cX12_undo 141 = .ok (.iinc 2 1, 3) := by decide +kernel
theorem dX12_undo_144 : decode cX12_undo 144 = .ok (.goto (-36), 3) := by decide +kernel
theorem dX12_undo_147 : decode cX12_undo 147 = .ok (.aload_n 0, 1) := by decide +kernel
theorem dX12_undo_148 : decode cX12_undo 148 = .ok (.getfield 7, 3) := by decide +kernel
theorem dX12_undo_151 : decode cX12_undo 151 = .ok (.iconst 4, 1) := by decide +kernel
theorem dX12_undo_152 : decode cX12_undo 152 = .ok (.iaload, 1) := by decide +kernel
theorem dX12_undo_153 : decode cX12_undo 153 = .ok (.ireturn, 1) := by decide +kernel
theorem dX12_arePassed_0 : decode cX12_arePassed 0 = .ok (.iconst 0, 1) := by decide +kernel
theorem dX12_arePassed_1 : decode cX12_arePassed 1 = .ok (.istore_n 2, 1) := by decide +kernel
theorem dX12_arePassed_2 : decode cX12_arePassed 2 = .ok (.iload_n 2, 1) := by decide +kernel
theorem dX12_arePassed_3 : decode cX12_arePassed 3 = .ok (.iload_n 1, 1) := by decide +kernel
theorem dX12_arePassed_4 : decode cX12_arePassed 4 = .ok (.if_icmp .ge 32, 3) := by decide +kernel
theorem dX12_arePassed_7 : decode cX12_arePassed 7 = .ok (.aload_n 0, 1) := by decide +kernel
theorem dX12_arePassed_8 : decode cX12_arePassed 8 = .ok (.getfield 7, 3) := by decide +kernel
theorem dX12_arePassed_11 : decode cX12_arePassed 11 = .ok (.bipush 8, 2) := by decide +kernel
theorem dX12_arePassed_13 : decode cX12_arePassed 13 = .ok (.iaload, 1) := by decide +kernel
theorem dX12_arePassed_14 : decode cX12_arePassed 14 = .ok (.sipush 9999, 3) := by decide +kernel
theorem dX12_arePassed_17 : decode cX12_arePassed 17 = .ok (.if_icmp .ne 5, 3) := by decide +kernel
theorem dX12_arePassed_20 : decode cX12_arePassed 20 = .ok (.iconst 0, 1) := by decide +kernel
theorem dX12_arePassed_21 : decode cX12_arePassed 21 = .ok (.ireturn, 1) := by decide +kernel
theorem dX12_arePassed_22 : decode cX12_arePassed 22 = .ok (.aload_n 0, 1) := by decide +kernel
theorem dX12_arePassed_23 : decode cX12_arePassed 23 = .ok (.invokevirtual 378, 3) := by decide +kernel
theorem dX12_arePassed_26 : decode cX12_arePassed 26 = .ok (.aload_n 0, 1) := by decide +kernel
theorem dX12_arePassed_27 : decode cX12_arePassed 27 = .ok (.invokevirtual 381, 3) := by decide +kernel
theorem dX12_arePassed_30 : decode cX12_arePassed 30 = .ok (.iinc 2 1, 3) := by decide +kernel
theorem dX12_arePassed_33 : decode cX12_arePassed 33 = .ok (.goto (-31), 3) := by decide +kernel
theorem dX12_arePassed_36 : decode cX12_arePassed 36 = .ok (.iconst 1, 1) := by decide +kernel
theorem dX12_arePassed_37 : decode cX12_arePassed 37 = .ok (.ireturn, 1) := by decide +kernel
theorem dX12_hour_0 : decode cX12_hour 0 = .ok (.iload_n 1, 1) := by decide +kernel
theorem dX12_hour_1 : decode cX12_hour 1 = .ok (.iconst 1, 1) := by decide +kernel
theorem dX12_hour_2 : decode cX12_hour 2 = .ok (.bipush 60, 2) := by decide +kernel
theorem dX12_hour_4 : decode cX12_hour 4 = .ok (.invokestatic 90, 3) := by decide +kernel
theorem dX12_hour_7 : decode cX12_hour 7 = .ok (.ifCond .eq 18, 3) := by decide +kernel
theorem dX12_hour_10 : decode cX12_hour 10 = .ok (.aload_n 0, 1) := by decide +kernel
theorem dX12_hour_11 : decode cX12_hour 11 = .ok (.getfield 7, 3) := by decide +kernel
theorem dX12_hour_14 : decode cX12_hour 14 = .ok (.bipush 8, 2) := by decide +kernel
theorem dX12_hour_16 : decode cX12_hour 16 = .ok (.iaload, 1) := by decide +kernel
theorem dX12_hour_17 : decode cX12_hour 17 = .ok (.iload_n 1, 1) := by decide +kernel
theorem dX12_hour_18 : decode cX12_hour 18 = .ok (.iadd, 1) := by decide +kernel
theorem dX12_hour_19 : decode cX12_hour 19 = .ok (.sipush 9999, 3) := by decide +kernel
theorem dX12_hour_22 : decode cX12_hour 22 = .ok (.if_icmp .le 5, 3) := by decide +kernel
theorem dX12_hour_25 : decode cX12_hour 25 = .ok (.iconst (-1), 1) := by decide +kernel
theorem dX12_hour_26 : decode cX12_hour 26 = .ok (.ireturn, 1) := by decide +kernel
theorem dX12_hour_27 : decode cX12_hour 27 = .ok (.aload_n 0, 1) := by decide +kernel
theorem dX12_hour_28 : decode cX12_hour 28 = .ok (.iconst 0, 1) := by decide +kernel
theorem dX12_hour_29 : decode cX12_hour 29 = .ok (.putfield 343, 3) := by decide +kernel
theorem dX12_hour_32 : decode cX12_hour 32 = .ok (.aload_n 0, 1) := by decide +kernel
theorem dX12_hour_33 : decode cX12_hour 33 = .ok (.iload_n 1, 1) := by decide +kernel
theorem dX12_hour_34 : decode cX12_hour 34 = .ok (.invokevirtual 384, 3) := by decide +kernel
theorem dX12_hour_37 : decode cX12_hour 37 = .ok (.ifCond .eq 10, 3) := by decide +kernel
theorem dX12_hour_40 : decode cX12_hour 40 = .ok (.aload_n 0, 1) := by decide +kernel
theorem dX12_hour_41 : decode cX12_hour 41 = .ok (.getfield 343, 3) := by decide +kernel
theorem dX12_hour_44 : decode cX12_hour 44 = .ok (.goto 4, 3) := by decide +kernel
theorem dX12_hour_47 : decode cX12_hour 47 = .ok (.iconst (-1), 1) := by decide +kernel
theorem dX12_hour_48 : decode cX12_hour 48 = .ok (.ireturn, 1) := by decide +kernel
theorem dX12_floodNow_0 : decode cX12_floodNow 0 = .ok (.aload_n 0, 1) := by decide +kernel
theorem dX12_floodNow_1 : decode cX12_floodNow 1 = .ok (.iload_n 1, 1) := by decide +kernel
theorem dX12_floodNow_2 : decode cX12_floodNow 2 = .ok (.iconst 2, 1) := by decide +kernel
theorem dX12_floodNow_3 : decode cX12_floodNow 3 = .ok (.aload_n 0, 1) := by decide +kernel
theorem dX12_floodNow_4 : decode cX12_floodNow 4 = .ok (.iload_n 1, 1) := by decide +kernel
theorem dX12_floodNow_5 : decode cX12_floodNow 5 = .ok (.iconst 2, 1) := by decide +kernel
theorem dX12_floodNow_6 : decode cX12_floodNow 6 = .ok (.invokevirtual 98, 3) := by decide +kernel
theorem dX12_floodNow_9 : decode cX12_floodNow 9 = .ok (.iload_n 2, 1) := by decide +kernel
theorem dX12_floodNow_10 : decode cX12_floodNow 10 = .ok (.iadd, 1) := by decide +kernel
theorem dX12_floodNow_11 : decode cX12_floodNow 11 = .ok (.i2l, 1) := by decide +kernel
theorem dX12_floodNow_12 : decode cX12_floodNow 12 = .ok (.iconst 0, 1) := by decide +kernel
theorem dX12_floodNow_13 : decode cX12_floodNow 13 = .ok (.sipush 999, 3) := by decide +kernel
theorem dX12_floodNow_16 : decode cX12_floodNow 16 = .ok (.invokestatic 326, 3) := by decide +kernel
theorem dX12_floodNow_19 : decode cX12_floodNow 19 = .ok (.invokevirtual 94, 3) := by decide +kernel
theorem dX12_floodNow_22 : decode cX12_floodNow 22 = .ok (.return_, 1) := by decide +kernel
theorem dX12_flood_0 : decode cX12_flood 0 = .ok (.aload_n 0, 1) := by decide +kernel
theorem dX12_flood_1 : decode cX12_flood 1 = .ok (.iload_n 1, 1) := by decide +kernel
theorem dX12_flood_2 : decode cX12_flood 2 = .ok (.invokevirtual 102, 3) := by decide +kernel
theorem dX12_flood_5 : decode cX12_flood 5 = .ok (.ifCond .eq 14, 3) := by decide +kernel
theorem dX12_flood_8 : decode cX12_flood 8 = .ok (.iload_n 2, 1) := by decide +kernel
theorem dX12_flood_9 : decode cX12_flood 9 = .ok (.iconst 1, 1) := by decide +kernel
theorem dX12_flood_10 : decode cX12_flood 10 = .ok (.sipush 999, 3) := by decide +kernel
theorem dX12_flood_13 : decode cX12_flood 13 = .ok (.invokestatic 90, 3) := by decide +kernel
theorem dX12_flood_16 : decode cX12_flood 16 = .ok (.ifCond .ne 5, 3) := by decide +kernel
theorem dX12_flood_19 : decode cX12_flood 19 = .ok (.iconst (-1), 1) := by decide +kernel
theorem dX12_flood_20 : decode cX12_flood 20 = .ok (.ireturn, 1) := by decide +kernel
theorem dX12_flood_21 : decode cX12_flood 21 = .ok (.aload_n 0, 1) := by decide +kernel
theorem dX12_flood_22 : decode cX12_flood 22 = .ok (.invokevirtual 378, 3) := by decide +kernel
theorem dX12_flood_25 : decode cX12_flood 25 = .ok (.aload_n 0, 1) := by decide +kernel
theorem dX12_flood_26 : decode cX12_flood 26 = .ok (.iload_n 1, 1) := by decide +kernel
theorem dX12_flood_27 : decode cX12_flood 27 = .ok (.iload_n 2, 1) := by decide +kernel
theorem dX12_flood_28 : decode cX12_flood 28 = .ok (.invokevirtual 387, 3) := by decide +kernel
theorem dX12_flood_31 : decode cX12_flood 31 = .ok (.aload_n 0, 1) := by decide +kernel
theorem dX12_flood_32 : decode cX12_flood 32 = .ok (.iload_n 1, 1) := by decide +kernel
theorem dX12_flood_33 : decode cX12_flood 33 = .ok (.iconst 2, 1) := by decide +kernel
theorem dX12_flood_34 : decode cX12_flood 34 = .ok (.invokevirtual 98, 3) := by decide +kernel
theorem dX12_flood_37 : decode cX12_flood 37 = .ok (.ireturn, 1) := by decide +kernel
theorem dX12_raise_0 : decode cX12_raise 0 = .ok (.aload_n 0, 1) := by decide +kernel
theorem dX12_raise_1 : decode cX12_raise 1 = .ok (.iload_n 1, 1) := by decide +kernel
theorem dX12_raise_2 : decode cX12_raise 2 = .ok (.invokevirtual 102, 3) := by decide +kernel
theorem dX12_raise_5 : decode cX12_raise 5 = .ok (.ifCond .eq 23, 3) := by decide +kernel
theorem dX12_raise_8 : decode cX12_raise 8 = .ok (.iload_n 2, 1) := by decide +kernel
theorem dX12_raise_9 : decode cX12_raise 9 = .ok (.iconst 0, 1) := by decide +kernel
theorem dX12_raise_10 : decode cX12_raise 10 = .ok (.bipush 99, 2) := by decide +kernel
theorem dX12_raise_12 : decode cX12_raise 12 = .ok (.invokestatic 90, 3) := by decide +kernel
theorem dX12_raise_15 : decode cX12_raise 15 = .ok (.ifCond .eq 13, 3) := by decide +kernel
theorem dX12_raise_18 : decode cX12_raise 18 = .ok (.aload_n 0, 1) := by decide +kernel
theorem dX12_raise_19 : decode cX12_raise 19 = .ok (.iload_n 1, 1) := by decide +kernel
theorem dX12_raise_20 : decode cX12_raise 20 = .ok (.iconst 1, 1) := by decide +kernel
theorem dX12_raise_21 : decode cX12_raise 21 = .ok (.invokevirtual 98, 3) := by decide +kernel
theorem dX12_raise_24 : decode cX12_raise 24 = .ok (.iload_n 2, 1) := by decide +kernel
theorem dX12_raise_25 : decode cX12_raise 25 = .ok (.if_icmp .ne 5, 3) := by decide +kernel
theorem dX12_raise_28 : decode cX12_raise 28 = .ok (.iconst 0, 1) := by decide +kernel
theorem dX12_raise_29 : decode cX12_raise 29 = .ok (.ireturn, 1) := by decide +kernel
theorem dX12_raise_30 : decode cX12_raise 30 = .ok (.aload_n 0, 1) := by decide +kernel
theorem dX12_raise_31 : decode cX12_raise 31 = .ok (.invokevirtual 378, 3) := by decide +kernel
theorem dX12_raise_34 : decode cX12_raise 34 = .ok (.aload_n 0, 1) := by decide +kernel
theorem dX12_raise_35 : decode cX12_raise 35 = .ok (.iload_n 1, 1) := by decide +kernel
theorem dX12_raise_36 : decode cX12_raise 36 = .ok (.iconst 1, 1) := by decide +kernel
theorem dX12_raise_37 : decode cX12_raise 37 = .ok (.iload_n 2, 1) := by decide +kernel
theorem dX12_raise_38 : decode cX12_raise 38 = .ok (.invokevirtual 94, 3) := by decide +kernel
theorem dX12_raise_41 : decode cX12_raise 41 = .ok (.iconst 1, 1) := by decide +kernel
theorem dX12_raise_42 : decode cX12_raise 42 = .ok (.ireturn, 1) := by decide +kernel
theorem dX12_mend_0 : decode cX12_mend 0 = .ok (.aload_n 0, 1) := by decide +kernel
theorem dX12_mend_1 : decode cX12_mend 1 = .ok (.iload_n 1, 1) := by decide +kernel
theorem dX12_mend_2 : decode cX12_mend 2 = .ok (.invokevirtual 390, 3) := by decide +kernel
theorem dX12_mend_5 : decode cX12_mend 5 = .ok (.ifCond .ne 5, 3) := by decide +kernel
theorem dX12_mend_8 : decode cX12_mend 8 = .ok (.iconst (-1), 1) := by decide +kernel
theorem dX12_mend_9 : decode cX12_mend 9 = .ok (.ireturn, 1) := by decide +kernel
theorem dX12_mend_10 : decode cX12_mend 10 = .ok (.aload_n 0, 1) := by decide +kernel
theorem dX12_mend_11 : decode cX12_mend 11 = .ok (.invokevirtual 378, 3) := by decide +kernel
theorem dX12_mend_14 : decode cX12_mend 14 = .ok (.aload_n 0, 1) := by decide +kernel
theorem dX12_mend_15 : decode cX12_mend 15 = .ok (.iload_n 1, 1) := by decide +kernel
theorem dX12_mend_16 : decode cX12_mend 16 = .ok (.iconst 4, 1) := by decide +kernel
theorem dX12_mend_17 : decode cX12_mend 17 = .ok (.invokevirtual 98, 3) := by decide +kernel
theorem dX12_mend_20 : decode cX12_mend 20 = .ok (.istore_n 2, 1) := by decide +kernel
theorem dX12_mend_21 : decode cX12_mend 21 = .ok (.aload_n 0, 1) := by decide +kernel
theorem dX12_mend_22 : decode cX12_mend 22 = .ok (.iload_n 1, 1) := by decide +kernel
theorem dX12_mend_23 : decode cX12_mend 23 = .ok (.iconst 4, 1) := by decide +kernel
theorem dX12_mend_24 : decode cX12_mend 24 = .ok (.iconst 0, 1) := by decide +kernel
theorem dX12_mend_25 : decode cX12_mend 25 = .ok (.invokevirtual 94, 3) := by decide +kernel
theorem dX12_mend_28 : decode cX12_mend 28 = .ok (.iload_n 2, 1) := by decide +kernel
theorem dX12_mend_29 : decode cX12_mend 29 = .ok (.ireturn, 1) := by decide +kernel
theorem dX12_bind_0 : decode cX12_bind 0 = .ok (.aload_n 0, 1) := by decide +kernel
theorem dX12_bind_1 : decode cX12_bind 1 = .ok (.iload_n 1, 1) := by decide +kernel
theorem dX12_bind_2 : decode cX12_bind 2 = .ok (.invokevirtual 393, 3) := by decide +kernel
theorem dX12_bind_5 : decode cX12_bind 5 = .ok (.ifCond .eq 21, 3) := by decide +kernel
theorem dX12_bind_8 : decode cX12_bind 8 = .ok (.aload_n 0, 1) := by decide +kernel
theorem dX12_bind_9 : decode cX12_bind 9 = .ok (.iload_n 2, 1) := by decide +kernel
theorem dX12_bind_10 : decode cX12_bind 10 = .ok (.invokevirtual 102, 3) := by decide +kernel
theorem dX12_bind_13 : decode cX12_bind 13 = .ok (.ifCond .eq 13, 3) := by decide +kernel
theorem dX12_bind_16 : decode cX12_bind 16 = .ok (.aload_n 0, 1) := by decide +kernel
theorem dX12_bind_17 : decode cX12_bind 17 = .ok (.iload_n 1, 1) := by decide +kernel
theorem dX12_bind_18 : decode cX12_bind 18 = .ok (.iconst 2, 1) := by decide +kernel
theorem dX12_bind_19 : decode cX12_bind 19 = .ok (.invokevirtual 340, 3) := by decide +kernel
theorem dX12_bind_22 : decode cX12_bind 22 = .ok (.iload_n 2, 1) := by decide +kernel
theorem dX12_bind_23 : decode cX12_bind 23 = .ok (.if_icmp .ne 5, 3) := by decide +kernel
theorem dX12_bind_26 : decode cX12_bind 26 = .ok (.iconst 0, 1) := by decide +kernel
theorem dX12_bind_27 : decode cX12_bind 27 = .ok (.ireturn, 1) := by decide +kernel
theorem dX12_bind_28 : decode cX12_bind 28 = .ok (.aload_n 0, 1) := by decide +kernel
theorem dX12_bind_29 : decode cX12_bind 29 = .ok (.invokevirtual 378, 3) := by decide +kernel
theorem dX12_bind_32 : decode cX12_bind 32 = .ok (.aload_n 0, 1) := by decide +kernel
theorem dX12_bind_33 : decode cX12_bind 33 = .ok (.iload_n 1, 1) := by decide +kernel
theorem dX12_bind_34 : decode cX12_bind 34 = .ok (.iconst 2, 1) := by decide +kernel
theorem dX12_bind_35 : decode cX12_bind 35 = .ok (.iload_n 2, 1) := by decide +kernel
theorem dX12_bind_36 : decode cX12_bind 36 = .ok (.invokevirtual 106, 3) := by decide +kernel
theorem dX12_bind_39 : decode cX12_bind 39 = .ok (.iconst 1, 1) := by decide +kernel
theorem dX12_bind_40 : decode cX12_bind 40 = .ok (.ireturn, 1) := by decide +kernel
theorem dX12_isPlayed_0 : decode cX12_isPlayed 0 = .ok (.aload_n 0, 1) := by decide +kernel
theorem dX12_isPlayed_1 : decode cX12_isPlayed 1 = .ok (.getfield 16, 3) := by decide +kernel
theorem dX12_isPlayed_4 : decode cX12_isPlayed 4 = .ok (.iload_n 1, 1) := by decide +kernel
theorem dX12_isPlayed_5 : decode cX12_isPlayed 5 = .ok (.iconst 1, 1) := by decide +kernel
theorem dX12_isPlayed_6 : decode cX12_isPlayed 6 = .ok (.iadd, 1) := by decide +kernel
theorem dX12_isPlayed_7 : decode cX12_isPlayed 7 = .ok (.iaload, 1) := by decide +kernel
theorem dX12_isPlayed_8 : decode cX12_isPlayed 8 = .ok (.istore_n 2, 1) := by decide +kernel
theorem dX12_isPlayed_9 : decode cX12_isPlayed 9 = .ok (.aload_n 0, 1) := by decide +kernel
theorem dX12_isPlayed_10 : decode cX12_isPlayed 10 = .ok (.getfield 16, 3) := by decide +kernel
theorem dX12_isPlayed_13 : decode cX12_isPlayed 13 = .ok (.iload_n 1, 1) := by decide +kernel
theorem dX12_isPlayed_14 : decode cX12_isPlayed 14 = .ok (.iconst 2, 1) := by decide +kernel
theorem dX12_isPlayed_15 : decode cX12_isPlayed 15 = .ok (.iadd, 1) := by decide +kernel
theorem dX12_isPlayed_16 : decode cX12_isPlayed 16 = .ok (.iaload, 1) := by decide +kernel
theorem dX12_isPlayed_17 : decode cX12_isPlayed 17 = .ok (.istore_n 3, 1) := by decide +kernel
theorem dX12_isPlayed_18 : decode cX12_isPlayed 18 = .ok (.aload_n 0, 1) := by decide +kernel
theorem dX12_isPlayed_19 : decode cX12_isPlayed 19 = .ok (.getfield 16, 3) := by decide +kernel
theorem dX12_isPlayed_22 : decode cX12_isPlayed 22 = .ok (.iload_n 1, 1) := by decide +kernel
theorem dX12_isPlayed_23 : decode cX12_isPlayed 23 = .ok (.iaload, 1) := by decide +kernel
theorem dX12_isPlayed_24 : decode cX12_isPlayed 24 = .ok (.tableswitch 147 5 11 #[44, 75, 98, 104, 119, 126, 140], 44) := by decide +kernel
theorem dX12_isPlayed_68 : decode cX12_isPlayed 68 = .ok (.aload_n 0, 1) := by decide +kernel
theorem dX12_isPlayed_69 : decode cX12_isPlayed 69 = .ok (.iload_n 2, 1) := by decide +kernel
theorem dX12_isPlayed_70 : decode cX12_isPlayed 70 = .ok (.iload_n 3, 1) := by decide +kernel
theorem dX12_isPlayed_71 : decode cX12_isPlayed 71 = .ok (.aload_n 0, 1) := by decide +kernel
theorem dX12_isPlayed_72 : decode cX12_isPlayed 72 = .ok (.getfield 16, 3) := by decide +kernel
theorem dX12_isPlayed_75 : decode cX12_isPlayed 75 = .ok (.iload_n 1, 1) := by decide +kernel
theorem dX12_isPlayed_76 : decode cX12_isPlayed 76 = .ok (.iconst 3, 1) := by decide +kernel
theorem dX12_isPlayed_77 : decode cX12_isPlayed 77 = .ok (.iadd, 1) := by decide +kernel
theorem dX12_isPlayed_78 : decode cX12_isPlayed 78 = .ok (.iaload, 1) := by decide +kernel
theorem dX12_isPlayed_79 : decode cX12_isPlayed 79 = .ok (.aload_n 0, 1) := by decide +kernel
theorem dX12_isPlayed_80 : decode cX12_isPlayed 80 = .ok (.getfield 16, 3) := by decide +kernel
theorem dX12_isPlayed_83 : decode cX12_isPlayed 83 = .ok (.iload_n 1, 1) := by decide +kernel
theorem dX12_isPlayed_84 : decode cX12_isPlayed 84 = .ok (.iconst 4, 1) := by decide +kernel
theorem dX12_isPlayed_85 : decode cX12_isPlayed 85 = .ok (.iadd, 1) := by decide +kernel
theorem dX12_isPlayed_86 : decode cX12_isPlayed 86 = .ok (.iaload, 1) := by decide +kernel
theorem dX12_isPlayed_87 : decode cX12_isPlayed 87 = .ok (.invokevirtual 396, 3) := by decide +kernel
theorem dX12_isPlayed_90 : decode cX12_isPlayed 90 = .ok (.ifCond .lt 7, 3) := by decide +kernel
theorem dX12_isPlayed_93 : decode cX12_isPlayed 93 = .ok (.iconst 1, 1) := by decide +kernel
theorem dX12_isPlayed_94 : decode cX12_isPlayed 94 = .ok (.goto 4, 3) := by decide +kernel
theorem dX12_isPlayed_97 : decode cX12_isPlayed 97 = .ok (.iconst 0, 1) := by decide +kernel
theorem dX12_isPlayed_98 : decode cX12_isPlayed 98 = .ok (.ireturn, 1) := by decide +kernel
theorem dX12_isPlayed_99 : decode cX12_isPlayed 99 = .ok (.aload_n 0, 1) := by decide +kernel
theorem dX12_isPlayed_100 : decode cX12_isPlayed 100 = .ok (.iload_n 2, 1) := by decide +kernel
theorem dX12_isPlayed_101 : decode cX12_isPlayed 101 = .ok (.iload_n 3, 1) := by decide +kernel
theorem dX12_isPlayed_102 : decode cX12_isPlayed 102 = .ok (.aload_n 0, 1) := by decide +kernel
theorem dX12_isPlayed_103 : decode cX12_isPlayed 103 = .ok (.getfield 16, 3) := by decide +kernel
theorem dX12_isPlayed_106 : decode cX12_isPlayed 106 = .ok (.iload_n 1, 1) := by decide +kernel
theorem dX12_isPlayed_107 : decode cX12_isPlayed 107 = .ok (.iconst 3, 1) := by decide +kernel
theorem dX12_isPlayed_108 : decode cX12_isPlayed 108 = .ok (.iadd, 1) := by decide +kernel
theorem dX12_isPlayed_109 : decode cX12_isPlayed 109 = .ok (.iaload, 1) := by decide +kernel
theorem dX12_isPlayed_110 : decode cX12_isPlayed 110 = .ok (.invokevirtual 400, 3) := by decide +kernel
theorem dX12_isPlayed_113 : decode cX12_isPlayed 113 = .ok (.ifCond .lt 7, 3) := by decide +kernel
theorem dX12_isPlayed_116 : decode cX12_isPlayed 116 = .ok (.iconst 1, 1) := by decide +kernel
theorem dX12_isPlayed_117 : decode cX12_isPlayed 117 = .ok (.goto 4, 3) := by decide +kernel
theorem dX12_isPlayed_120 : decode cX12_isPlayed 120 = .ok (.iconst 0, 1) := by decide +kernel
theorem dX12_isPlayed_121 : decode cX12_isPlayed 121 = .ok (.ireturn, 1) := by decide +kernel
theorem dX12_isPlayed_122 : decode cX12_isPlayed 122 = .ok (.aload_n 0, 1) := by decide +kernel
theorem dX12_isPlayed_123 : decode cX12_isPlayed 123 = .ok (.iload_n 2, 1) := by decide +kernel
theorem dX12_isPlayed_124 : decode cX12_isPlayed 124 = .ok (.invokevirtual 384, 3) := by decide +kernel
theorem dX12_isPlayed_127 : decode cX12_isPlayed 127 = .ok (.ireturn, 1) := by decide +kernel
theorem dX12_isPlayed_128 : decode cX12_isPlayed 128 = .ok (.aload_n 0, 1) := by decide +kernel
theorem dX12_isPlayed_129 : decode cX12_isPlayed 129 = .ok (.iload_n 2, 1) := by decide +kernel
theorem dX12_isPlayed_130 : decode cX12_isPlayed 130 = .ok (.iload_n 3, 1) := by decide +kernel
theorem dX12_isPlayed_131 : decode cX12_isPlayed 131 = .ok (.invokevirtual 403, 3) := by decide +kernel
theorem dX12_isPlayed_134 : decode cX12_isPlayed 134 = .ok (.ifCond .lt 7, 3) := by decide +kernel
theorem dX12_isPlayed_137 : decode cX12_isPlayed 137 = .ok (.iconst 1, 1) := by decide +kernel
theorem dX12_isPlayed_138 : decode cX12_isPlayed 138 = .ok (.goto 4, 3) := by decide +kernel
theorem dX12_isPlayed_141 : decode cX12_isPlayed 141 = .ok (.iconst 0, 1) := by decide +kernel
theorem dX12_isPlayed_142 : decode cX12_isPlayed 142 = .ok (.ireturn, 1) := by decide +kernel
theorem dX12_isPlayed_143 : decode cX12_isPlayed 143 = .ok (.aload_n 0, 1) := by decide +kernel
theorem dX12_isPlayed_144 : decode cX12_isPlayed 144 = .ok (.iload_n 2, 1) := by decide +kernel
theorem dX12_isPlayed_145 : decode cX12_isPlayed 145 = .ok (.iload_n 3, 1) := by decide +kernel
theorem dX12_isPlayed_146 : decode cX12_isPlayed 146 = .ok (.invokevirtual 406, 3) := by decide +kernel
theorem dX12_isPlayed_149 : decode cX12_isPlayed 149 = .ok (.ireturn, 1) := by decide +kernel
theorem dX12_isPlayed_150 : decode cX12_isPlayed 150 = .ok (.aload_n 0, 1) := by decide +kernel
theorem dX12_isPlayed_151 : decode cX12_isPlayed 151 = .ok (.iload_n 2, 1) := by decide +kernel
theorem dX12_isPlayed_152 : decode cX12_isPlayed 152 = .ok (.invokevirtual 409, 3) := by decide +kernel
theorem dX12_isPlayed_155 : decode cX12_isPlayed 155 = .ok (.ifCond .lt 7, 3) := by decide +kernel
theorem dX12_isPlayed_158 : decode cX12_isPlayed 158 = .ok (.iconst 1, 1) := by decide +kernel
theorem dX12_isPlayed_159 : decode cX12_isPlayed 159 = .ok (.goto 4, 3) := by decide +kernel
theorem dX12_isPlayed_162 : decode cX12_isPlayed 162 = .ok (.iconst 0, 1) := by decide +kernel
theorem dX12_isPlayed_163 : decode cX12_isPlayed 163 = .ok (.ireturn, 1) := by decide +kernel
theorem dX12_isPlayed_164 : decode cX12_isPlayed 164 = .ok (.aload_n 0, 1) := by decide +kernel
theorem dX12_isPlayed_165 : decode cX12_isPlayed 165 = .ok (.iload_n 2, 1) := by decide +kernel
theorem dX12_isPlayed_166 : decode cX12_isPlayed 166 = .ok (.iload_n 3, 1) := by decide +kernel
theorem dX12_isPlayed_167 : decode cX12_isPlayed 167 = .ok (.invokevirtual 412, 3) := by decide +kernel
theorem dX12_isPlayed_170 : decode cX12_isPlayed 170 = .ok (.ireturn, 1) := by decide +kernel
theorem dX12_isPlayed_171 : decode cX12_isPlayed 171 = .ok (.iconst 1, 1) := by decide +kernel
theorem dX12_isPlayed_172 : decode cX12_isPlayed 172 = .ok (.ireturn, 1) := by decide +kernel
theorem dX12_played_0 : decode cX12_played 0 = .ok (.iload_n 1, 1) := by decide +kernel
theorem dX12_played_1 : decode cX12_played 1 = .ok (.iconst 0, 1) := by decide +kernel
theorem dX12_played_2 : decode cX12_played 2 = .ok (.aload_n 0, 1) := by decide +kernel
theorem dX12_played_3 : decode cX12_played 3 = .ok (.getfield 7, 3) := by decide +kernel
theorem dX12_played_6 : decode cX12_played 6 = .ok (.iconst 2, 1) := by decide +kernel
theorem dX12_played_7 : decode cX12_played 7 = .ok (.iaload, 1) := by decide +kernel
theorem dX12_played_8 : decode cX12_played 8 = .ok (.iconst 1, 1) := by decide +kernel
theorem dX12_played_9 : decode cX12_played 9 = .ok (.isub, 1) := by decide +kernel
theorem dX12_played_10 : decode cX12_played 10 = .ok (.invokestatic 90, 3) := by decide +kernel
theorem dX12_played_13 : decode cX12_played 13 = .ok (.ifCond .ne 6, 3) := by decide +kernel
theorem dX12_played_16 : decode cX12_played 16 = .ok (.bipush (-2), 2) := by decide +kernel
theorem dX12_played_18 : decode cX12_played 18 = .ok (.ireturn, 1) := by decide +kernel
theorem dX12_played_19 : decode cX12_played 19 = .ok (.iconst 0, 1) := by decide +kernel
theorem dX12_played_20 : decode cX12_played 20 = .ok (.istore_n 2, 1) := by decide +kernel
theorem dX12_played_21 : decode cX12_played 21 = .ok (.iload_n 2, 1) := by decide +kernel
theorem dX12_played_22 : decode cX12_played 22 = .ok (.aload_n 0, 1) := by decide +kernel
theorem dX12_played_23 : decode cX12_played 23 = .ok (.getfield 16, 3) := by decide +kernel
theorem dX12_played_26 : decode cX12_played 26 = .ok (.sipush 729, 3) := by decide +kernel
theorem dX12_played_29 : decode cX12_played 29 = .ok (.iload_n 1, 1) := by decide +kernel
theorem dX12_played_30 : decode cX12_played 30 = .ok (.imul, 1) := by decide +kernel
theorem dX12_played_31 : decode cX12_played 31 = .ok (.iaload, 1) := by decide +kernel
theorem dX12_played_32 : decode cX12_played 32 = .ok (.if_icmp .ge 29, 3) := by decide +kernel
theorem dX12_played_35 : decode cX12_played 35 = .ok (.aload_n 0, 1) := by decide +kernel
theorem dX12_played_36 : decode cX12_played 36 = .ok (.sipush 729, 3) := by decide +kernel
theorem dX12_played_39 : decode cX12_played 39 = .ok (.iload_n 1, 1) := by decide +kernel
theorem dX12_played_40 : decode cX12_played 40 = .ok (.imul, 1) := by decide +kernel
theorem dX12_played_41 : decode cX12_played 41 = .ok (.iconst 1, 1) := by decide +kernel
theorem dX12_played_42 : decode cX12_played 42 = .ok (.iadd, 1) := by decide +kernel
theorem dX12_played_43 : decode cX12_played 43 = .ok (.iconst 5, 1) := by decide +kernel
theorem dX12_played_44 : decode cX12_played 44 = .ok (.iload_n 2, 1) := by decide +kernel
theorem dX12_played_45 : decode cX12_played 45 = .ok (.imul, 1) := by decide +kernel
theorem dX12_played_46 : decode cX12_played 46 = .ok (.iadd, 1) := by decide +kernel
theorem dX12_played_47 : decode cX12_played 47 = .ok (.invokevirtual 415, 3) := by decide +kernel
theorem dX12_played_50 : decode cX12_played 50 = .ok (.ifCond .ne 5, 3) := by decide +kernel
theorem dX12_played_53 : decode cX12_played 53 = .ok (.iload_n 2, 1) := by decide +kernel
theorem dX12_played_54 : decode cX12_played 54 = .ok (.ireturn, 1) := by decide +kernel
theorem dX12_played_55 : decode cX12_played 55 = .ok (.iinc 2 1, 3) := by decide +kernel
theorem dX12_played_58 : decode cX12_played 58 = .ok (.goto (-37), 3) := by decide +kernel
theorem dX12_played_61 : decode cX12_played 61 = .ok (.iconst (-1), 1) := by decide +kernel
theorem dX12_played_62 : decode cX12_played 62 = .ok (.ireturn, 1) := by decide +kernel
theorem dX12_happens_0 : decode cX12_happens 0 = .ok (.iload_n 1, 1) := by decide +kernel
theorem dX12_happens_1 : decode cX12_happens 1 = .ok (.aload_n 0, 1) := by decide +kernel
theorem dX12_happens_2 : decode cX12_happens 2 = .ok (.getfield 7, 3) := by decide +kernel
theorem dX12_happens_5 : decode cX12_happens 5 = .ok (.iconst 0, 1) := by decide +kernel
theorem dX12_happens_6 : decode cX12_happens 6 = .ok (.iaload, 1) := by decide +kernel
theorem dX12_happens_7 : decode cX12_happens 7 = .ok (.irem, 1) := by decide +kernel
theorem dX12_happens_8 : decode cX12_happens 8 = .ok (.istore_n 2, 1) := by decide +kernel
theorem dX12_happens_9 : decode cX12_happens 9 = .ok (.iload_n 1, 1) := by decide +kernel
theorem dX12_happens_10 : decode cX12_happens 10 = .ok (.bipush 6, 2) := by decide +kernel
theorem dX12_happens_12 : decode cX12_happens 12 = .ok (.irem, 1) := by decide +kernel
theorem dX12_happens_13 : decode cX12_happens 13 = .ok (.tableswitch 86 0 3 #[31, 46, 59, 69], 31) := by decide +kernel
theorem dX12_happens_44 : decode cX12_happens 44 = .ok (.aload_n 0, 1) := by decide +kernel
theorem dX12_happens_45 : decode cX12_happens 45 = .ok (.iload_n 2, 1) := by decide +kernel
theorem dX12_happens_46 : decode cX12_happens 46 = .ok (.iconst 1, 1) := by decide +kernel
theorem dX12_happens_47 : decode cX12_happens 47 = .ok (.iload_n 1, 1) := by decide +kernel
theorem dX12_happens_48 : decode cX12_happens 48 = .ok (.sipush 200, 3) := by decide +kernel
theorem dX12_happens_51 : decode cX12_happens 51 = .ok (.irem, 1) := by decide +kernel
theorem dX12_happens_52 : decode cX12_happens 52 = .ok (.iadd, 1) := by decide +kernel
theorem dX12_happens_53 : decode cX12_happens 53 = .ok (.invokevirtual 387, 3) := by decide +kernel
theorem dX12_happens_56 : decode cX12_happens 56 = .ok (.goto 60, 3) := by decide +kernel
theorem dX12_happens_59 : decode cX12_happens 59 = .ok (.aload_n 0, 1) := by decide +kernel
theorem dX12_happens_60 : decode cX12_happens 60 = .ok (.iload_n 2, 1) := by decide +kernel
theorem dX12_happens_61 : decode cX12_happens 61 = .ok (.iconst 1, 1) := by decide +kernel
theorem dX12_happens_62 : decode cX12_happens 62 = .ok (.iload_n 1, 1) := by decide +kernel
theorem dX12_happens_63 : decode cX12_happens 63 = .ok (.bipush 30, 2) := by decide +kernel
theorem dX12_happens_65 : decode cX12_happens 65 = .ok (.irem, 1) := by decide +kernel
theorem dX12_happens_66 : decode cX12_happens 66 = .ok (.invokevirtual 94, 3) := by decide +kernel
theorem dX12_happens_69 : decode cX12_happens 69 = .ok (.goto 47, 3) := by decide +kernel
theorem dX12_happens_72 : decode cX12_happens 72 = .ok (.aload_n 0, 1) := by decide +kernel
theorem dX12_happens_73 : decode cX12_happens 73 = .ok (.iload_n 2, 1) := by decide +kernel
theorem dX12_happens_74 : decode cX12_happens 74 = .ok (.iconst 4, 1) := by decide +kernel
theorem dX12_happens_75 : decode cX12_happens 75 = .ok (.iconst 0, 1) := by decide +kernel
theorem dX12_happens_76 : decode cX12_happens 76 = .ok (.invokevirtual 94, 3) := by decide +kernel
theorem dX12_happens_79 : decode cX12_happens 79 = .ok (.goto 37, 3) := by decide +kernel
theorem dX12_happens_82 : decode cX12_happens 82 = .ok (.aload_n 0, 1) := by decide +kernel
theorem dX12_happens_83 : decode cX12_happens 83 = .ok (.iload_n 1, 1) := by decide +kernel
theorem dX12_happens_84 : decode cX12_happens 84 = .ok (.aload_n 0, 1) := by decide +kernel
theorem dX12_happens_85 : decode cX12_happens 85 = .ok (.getfield 7, 3) := by decide +kernel
theorem dX12_happens_88 : decode cX12_happens 88 = .ok (.iconst 1, 1) := by decide +kernel
theorem dX12_happens_89 : decode cX12_happens 89 = .ok (.iaload, 1) := by decide +kernel
theorem dX12_happens_90 : decode cX12_happens 90 = .ok (.irem, 1) := by decide +kernel
theorem dX12_happens_91 : decode cX12_happens 91 = .ok (.iconst 2, 1) := by decide +kernel
theorem dX12_happens_92 : decode cX12_happens 92 = .ok (.iload_n 2, 1) := by decide +kernel
theorem dX12_happens_93 : decode cX12_happens 93 = .ok (.invokevirtual 106, 3) := by decide +kernel
theorem dX12_happens_96 : decode cX12_happens 96 = .ok (.goto 20, 3) := by decide +kernel
theorem dX12_happens_99 : decode cX12_happens 99 = .ok (.aload_n 0, 1) := by decide +kernel
theorem dX12_happens_100 : decode cX12_happens 100 = .ok (.getfield 7, 3) := by decide +kernel
theorem dX12_happens_103 : decode cX12_happens 103 = .ok (.bipush 8, 2) := by decide +kernel
theorem dX12_happens_105 : decode cX12_happens 105 = .ok (.iaload, 1) := by decide +kernel
theorem dX12_happens_106 : decode cX12_happens 106 = .ok (.sipush 9999, 3) := by decide +kernel
theorem dX12_happens_109 : decode cX12_happens 109 = .ok (.if_icmp .ge 7, 3) := by decide +kernel
theorem dX12_happens_112 : decode cX12_happens 112 = .ok (.aload_n 0, 1) := by decide +kernel
theorem dX12_happens_113 : decode cX12_happens 113 = .ok (.invokevirtual 381, 3) := by decide +kernel
theorem dX12_happens_116 : decode cX12_happens 116 = .ok (.return_, 1) := by decide +kernel
theorem dX12_centuries_0 : decode cX12_centuries 0 = .ok (.iload_n 1, 1) := by decide +kernel
theorem dX12_centuries_1 : decode cX12_centuries 1 = .ok (.iconst 0, 1) := by decide +kernel
theorem dX12_centuries_2 : decode cX12_centuries 2 = .ok (.sipush 9999, 3) := by decide +kernel
theorem dX12_centuries_5 : decode cX12_centuries 5 = .ok (.invokestatic 90, 3) := by decide +kernel
theorem dX12_centuries_8 : decode cX12_centuries 8 = .ok (.ifCond .eq 31, 3) := by decide +kernel
theorem dX12_centuries_11 : decode cX12_centuries 11 = .ok (.iload_n 2, 1) := by decide +kernel
theorem dX12_centuries_12 : decode cX12_centuries 12 = .ok (.iconst 1, 1) := by decide +kernel
theorem dX12_centuries_13 : decode cX12_centuries 13 = .ok (.bipush 40, 2) := by decide +kernel
theorem dX12_centuries_15 : decode cX12_centuries 15 = .ok (.invokestatic 90, 3) := by decide +kernel
theorem dX12_centuries_18 : decode cX12_centuries 18 = .ok (.ifCond .eq 21, 3) := by decide +kernel
theorem dX12_centuries_21 : decode cX12_centuries 21 = .ok (.aload_n 0, 1) := by decide +kernel
theorem dX12_centuries_22 : decode cX12_centuries 22 = .ok (.getfield 7, 3) := by decide +kernel
theorem dX12_centuries_25 : decode cX12_centuries 25 = .ok (.iconst 0, 1) := by decide +kernel
theorem dX12_centuries_26 : decode cX12_centuries 26 = .ok (.iaload, 1) := by decide +kernel
theorem dX12_centuries_27 : decode cX12_centuries 27 = .ok (.ifCond .eq 12, 3) := by decide +kernel
theorem dX12_centuries_30 : decode cX12_centuries 30 = .ok (.aload_n 0, 1) := by decide +kernel
theorem dX12_centuries_31 : decode cX12_centuries 31 = .ok (.getfield 7, 3) := by decide +kernel
theorem dX12_centuries_34 : decode cX12_centuries 34 = .ok (.iconst 1, 1) := by decide +kernel
theorem dX12_centuries_35 : decode cX12_centuries 35 = .ok (.iaload, 1) := by decide +kernel
theorem dX12_centuries_36 : decode cX12_centuries 36 = .ok (.ifCond .ne 5, 3) := by decide +kernel
theorem dX12_centuries_39 : decode cX12_centuries 39 = .ok (.iconst (-1), 1) := by decide +kernel
theorem dX12_centuries_40 : decode cX12_centuries 40 = .ok (.ireturn, 1) := by decide +kernel
theorem dX12_centuries_41 : decode cX12_centuries 41 = .ok (.aload_n 0, 1) := by decide +kernel
theorem dX12_centuries_42 : decode cX12_centuries 42 = .ok (.invokevirtual 378, 3) := by decide +kernel
theorem dX12_centuries_45 : decode cX12_centuries 45 = .ok (.aload_n 0, 1) := by decide +kernel
theorem dX12_centuries_46 : decode cX12_centuries 46 = .ok (.getfield 7, 3) := by decide +kernel
theorem dX12_centuries_49 : decode cX12_centuries 49 = .ok (.bipush 11, 2) := by decide +kernel
theorem dX12_centuries_51 : decode cX12_centuries 51 = .ok (.iload_n 1, 1) := by decide +kernel
theorem dX12_centuries_52 : decode cX12_centuries 52 = .ok (.iconst 2, 1) := by decide +kernel
theorem dX12_centuries_53 : decode cX12_centuries 53 = .ok (.imul, 1) := by decide +kernel
theorem dX12_centuries_54 : decode cX12_centuries 54 = .ok (.bipush 83, 2) := by decide +kernel
theorem dX12_centuries_56 : decode cX12_centuries 56 = .ok (.iadd, 1) := by decide +kernel
theorem dX12_centuries_57 : decode cX12_centuries 57 = .ok (.iastore, 1) := by decide +kernel
theorem dX12_centuries_58 : decode cX12_centuries 58 = .ok (.iconst 0, 1) := by decide +kernel
theorem dX12_centuries_59 : decode cX12_centuries 59 = .ok (.istore_n 3, 1) := by decide +kernel
theorem dX12_centuries_60 : decode cX12_centuries 60 = .ok (.iload_n 3, 1) := by decide +kernel
theorem dX12_centuries_61 : decode cX12_centuries 61 = .ok (.iload_n 2, 1) := by decide +kernel
theorem dX12_centuries_62 : decode cX12_centuries 62 = .ok (.if_icmp .ge 45, 3) := by decide +kernel
theorem dX12_centuries_65 : decode cX12_centuries 65 = .ok (.aload_n 0, 1) := by decide +kernel
theorem dX12_centuries_66 : decode cX12_centuries 66 = .ok (.getfield 7, 3) := by decide +kernel
theorem dX12_centuries_69 : decode cX12_centuries 69 = .ok (.bipush 11, 2) := by decide +kernel
theorem dX12_centuries_71 : decode cX12_centuries 71 = .ok (.iaload, 1) := by decide +kernel
theorem dX12_centuries_72 : decode cX12_centuries 72 = .ok (.istore 4, 2) := by decide +kernel
theorem dX12_centuries_74 : decode cX12_centuries 74 = .ok (.aload_n 0, 1) := by decide +kernel
theorem dX12_centuries_75 : decode cX12_centuries 75 = .ok (.getfield 7, 3) := by decide +kernel
theorem dX12_centuries_78 : decode cX12_centuries 78 = .ok (.bipush 11, 2) := by decide +kernel
theorem dX12_centuries_80 : decode cX12_centuries 80 = .ok (.iload 4, 2) := by decide +kernel
theorem dX12_centuries_82 : decode cX12_centuries 82 = .ok (.sipush 293, 3) := by decide +kernel
theorem dX12_centuries_85 : decode cX12_centuries 85 = .ok (.imul, 1) := by decide +kernel
theorem dX12_centuries_86 : decode cX12_centuries 86 = .ok (.sipush 191, 3) := by decide +kernel
theorem dX12_centuries_89 : decode cX12_centuries 89 = .ok (.iadd, 1) := by decide +kernel
theorem dX12_centuries_90 : decode cX12_centuries 90 = .ok (.sipush 30313, 3) := by decide +kernel
theorem dX12_centuries_93 : decode cX12_centuries 93 = .ok (.irem, 1) := by decide +kernel
theorem dX12_centuries_94 : decode cX12_centuries 94 = .ok (.iastore, 1) := by decide +kernel
theorem dX12_centuries_95 : decode cX12_centuries 95 = .ok (.aload_n 0, 1) := by decide +kernel
theorem dX12_centuries_96 : decode cX12_centuries 96 = .ok (.iload 4, 2) := by decide +kernel
theorem dX12_centuries_98 : decode cX12_centuries 98 = .ok (.invokevirtual 418, 3) := by decide +kernel
theorem dX12_centuries_101 : decode cX12_centuries 101 = .ok (.iinc 3 1, 3) := by decide +kernel
theorem dX12_centuries_104 : decode cX12_centuries 104 = .ok (.goto (-44), 3) := by decide +kernel
theorem dX12_centuries_107 : decode cX12_centuries 107 = .ok (.aload_n 0, 1) := by decide +kernel
theorem dX12_centuries_108 : decode cX12_centuries 108 = .ok (.getfield 7, 3) := by decide +kernel
theorem dX12_centuries_111 : decode cX12_centuries 111 = .ok (.bipush 8, 2) := by decide +kernel
theorem dX12_centuries_113 : decode cX12_centuries 113 = .ok (.iaload, 1) := by decide +kernel
theorem dX12_centuries_114 : decode cX12_centuries 114 = .ok (.ireturn, 1) := by decide +kernel
theorem dX12_shipsOn_0 : decode cX12_shipsOn 0 = .ok (.iconst 0, 1) := by decide +kernel
theorem dX12_shipsOn_1 : decode cX12_shipsOn 1 = .ok (.istore_n 2, 1) := by decide +kernel
theorem dX12_shipsOn_2 : decode cX12_shipsOn 2 = .ok (.iconst 0, 1) := by decide +kernel
theorem dX12_shipsOn_3 : decode cX12_shipsOn 3 = .ok (.istore_n 3, 1) := by decide +kernel
theorem dX12_shipsOn_4 : decode cX12_shipsOn 4 = .ok (.iload_n 3, 1) := by decide +kernel
theorem dX12_shipsOn_5 : decode cX12_shipsOn 5 = .ok (.aload_n 0, 1) := by decide +kernel
theorem dX12_shipsOn_6 : decode cX12_shipsOn 6 = .ok (.getfield 7, 3) := by decide +kernel
theorem dX12_shipsOn_9 : decode cX12_shipsOn 9 = .ok (.iconst 1, 1) := by decide +kernel
theorem dX12_shipsOn_10 : decode cX12_shipsOn 10 = .ok (.iaload, 1) := by decide +kernel
theorem dX12_shipsOn_11 : decode cX12_shipsOn 11 = .ok (.if_icmp .ge 29, 3) := by decide +kernel
theorem dX12_shipsOn_14 : decode cX12_shipsOn 14 = .ok (.iload_n 2, 1) := by decide +kernel
theorem dX12_shipsOn_15 : decode cX12_shipsOn 15 = .ok (.aload_n 0, 1) := by decide +kernel
theorem dX12_shipsOn_16 : decode cX12_shipsOn 16 = .ok (.iload_n 3, 1) := by decide +kernel
theorem dX12_shipsOn_17 : decode cX12_shipsOn 17 = .ok (.iconst 1, 1) := by decide +kernel
theorem dX12_shipsOn_18 : decode cX12_shipsOn 18 = .ok (.invokevirtual 340, 3) := by decide +kernel
theorem dX12_shipsOn_21 : decode cX12_shipsOn 21 = .ok (.iload_n 1, 1) := by decide +kernel
theorem dX12_shipsOn_22 : decode cX12_shipsOn 22 = .ok (.if_icmp .ne 9, 3) := by decide +kernel
theorem dX12_shipsOn_25 : decode cX12_shipsOn 25 = .ok (.iconst 1, 1) := by decide +kernel
theorem dX12_shipsOn_26 : decode cX12_shipsOn 26 = .ok (.iload_n 3, 1) := by decide +kernel
theorem dX12_shipsOn_27 : decode cX12_shipsOn 27 = .ok (.ishl, 1) := by decide +kernel
theorem dX12_shipsOn_28 : decode cX12_shipsOn 28 = .ok (.goto 4, 3) := by decide +kernel
theorem dX12_shipsOn_31 : decode cX12_shipsOn 31 = .ok (.iconst 0, 1) := by decide +kernel
theorem dX12_shipsOn_32 : decode cX12_shipsOn 32 = .ok (.ior, 1) := by decide +kernel
theorem dX12_shipsOn_33 : decode cX12_shipsOn 33 = .ok (.istore_n 2, 1) := by decide +kernel
theorem dX12_shipsOn_34 : decode cX12_shipsOn 34 = .ok (.iinc 3 1, 3) := by decide +kernel
theorem dX12_shipsOn_37 : decode cX12_shipsOn 37 = .ok (.goto (-33), 3) := by decide +kernel
theorem dX12_shipsOn_40 : decode cX12_shipsOn 40 = .ok (.iload_n 2, 1) := by decide +kernel
theorem dX12_shipsOn_41 : decode cX12_shipsOn 41 = .ok (.ireturn, 1) := by decide +kernel
theorem dX12_ofStep_0 : decode cX12_ofStep 0 = .ok (.aload_n 0, 1) := by decide +kernel
theorem dX12_ofStep_1 : decode cX12_ofStep 1 = .ok (.iload_n 1, 1) := by decide +kernel
theorem dX12_ofStep_2 : decode cX12_ofStep 2 = .ok (.invokevirtual 102, 3) := by decide +kernel
theorem dX12_ofStep_5 : decode cX12_ofStep 5 = .ok (.ifCond .eq 13, 3) := by decide +kernel
theorem dX12_ofStep_8 : decode cX12_ofStep 8 = .ok (.iload_n 2, 1) := by decide +kernel
theorem dX12_ofStep_9 : decode cX12_ofStep 9 = .ok (.iconst 0, 1) := by decide +kernel
theorem dX12_ofStep_10 : decode cX12_ofStep 10 = .ok (.bipush 6, 2) := by decide +kernel
theorem dX12_ofStep_12 : decode cX12_ofStep 12 = .ok (.invokestatic 90, 3) := by decide +kernel
theorem dX12_ofStep_15 : decode cX12_ofStep 15 = .ok (.ifCond .ne 5, 3) := by decide +kernel
theorem dX12_ofStep_18 : decode cX12_ofStep 18 = .ok (.iconst (-1), 1) := by decide +kernel
theorem dX12_ofStep_19 : decode cX12_ofStep 19 = .ok (.ireturn, 1) := by decide +kernel
theorem dX12_ofStep_20 : decode cX12_ofStep 20 = .ok (.iload_n 2, 1) := by decide +kernel
theorem dX12_ofStep_21 : decode cX12_ofStep 21 = .ok (.iconst 5, 1) := by decide +kernel
theorem dX12_ofStep_22 : decode cX12_ofStep 22 = .ok (.if_icmp .ne 11, 3) := by decide +kernel
theorem dX12_ofStep_25 : decode cX12_ofStep 25 = .ok (.aload_n 0, 1) := by decide +kernel
theorem dX12_ofStep_26 : decode cX12_ofStep 26 = .ok (.iload_n 1, 1) := by decide +kernel
theorem dX12_ofStep_27 : decode cX12_ofStep 27 = .ok (.invokevirtual 421, 3) := by decide +kernel
theorem dX12_ofStep_30 : decode cX12_ofStep 30 = .ok (.goto 23, 3) := by decide +kernel
theorem dX12_ofStep_33 : decode cX12_ofStep 33 = .ok (.iload_n 2, 1) := by decide +kernel
theorem dX12_ofStep_34 : decode cX12_ofStep 34 = .ok (.bipush 6, 2) := by decide +kernel
theorem dX12_ofStep_36 : decode cX12_ofStep 36 = .ok (.if_icmp .ne 11, 3) := by decide +kernel
theorem dX12_ofStep_39 : decode cX12_ofStep 39 = .ok (.aload_n 0, 1) := by decide +kernel
theorem dX12_ofStep_40 : decode cX12_ofStep 40 = .ok (.iload_n 1, 1) := by decide +kernel
theorem dX12_ofStep_41 : decode cX12_ofStep 41 = .ok (.invokevirtual 361, 3) := by decide +kernel
theorem dX12_ofStep_44 : decode cX12_ofStep 44 = .ok (.goto 9, 3) := by decide +kernel
theorem dX12_ofStep_47 : decode cX12_ofStep 47 = .ok (.aload_n 0, 1) := by decide +kernel
theorem dX12_ofStep_48 : decode cX12_ofStep 48 = .ok (.iload_n 1, 1) := by decide +kernel
theorem dX12_ofStep_49 : decode cX12_ofStep 49 = .ok (.iload_n 2, 1) := by decide +kernel
theorem dX12_ofStep_50 : decode cX12_ofStep 50 = .ok (.invokevirtual 98, 3) := by decide +kernel
theorem dX12_ofStep_53 : decode cX12_ofStep 53 = .ok (.ireturn, 1) := by decide +kernel
theorem dX12_ofShip_0 : decode cX12_ofShip 0 = .ok (.aload_n 0, 1) := by decide +kernel
theorem dX12_ofShip_1 : decode cX12_ofShip 1 = .ok (.iload_n 1, 1) := by decide +kernel
theorem dX12_ofShip_2 : decode cX12_ofShip 2 = .ok (.invokevirtual 393, 3) := by decide +kernel
theorem dX12_ofShip_5 : decode cX12_ofShip 5 = .ok (.ifCond .eq 21, 3) := by decide +kernel
theorem dX12_ofShip_8 : decode cX12_ofShip 8 = .ok (.iload_n 2, 1) := by decide +kernel
theorem dX12_ofShip_9 : decode cX12_ofShip 9 = .ok (.iconst 0, 1) := by decide +kernel
theorem dX12_ofShip_10 : decode cX12_ofShip 10 = .ok (.iconst 3, 1) := by decide +kernel
theorem dX12_ofShip_11 : decode cX12_ofShip 11 = .ok (.invokestatic 90, 3) := by decide +kernel
theorem dX12_ofShip_14 : decode cX12_ofShip 14 = .ok (.ifCond .eq 12, 3) := by decide +kernel
theorem dX12_ofShip_17 : decode cX12_ofShip 17 = .ok (.aload_n 0, 1) := by decide +kernel
theorem dX12_ofShip_18 : decode cX12_ofShip 18 = .ok (.iload_n 1, 1) := by decide +kernel
theorem dX12_ofShip_19 : decode cX12_ofShip 19 = .ok (.iload_n 2, 1) := by decide +kernel
theorem dX12_ofShip_20 : decode cX12_ofShip 20 = .ok (.invokevirtual 340, 3) := by decide +kernel
theorem dX12_ofShip_23 : decode cX12_ofShip 23 = .ok (.goto 4, 3) := by decide +kernel
theorem dX12_ofShip_26 : decode cX12_ofShip 26 = .ok (.iconst (-1), 1) := by decide +kernel
theorem dX12_ofShip_27 : decode cX12_ofShip 27 = .ok (.ireturn, 1) := by decide +kernel
theorem dX12_is_0 : decode cX12_is 0 = .ok (.iload_n 1, 1) := by decide +kernel
theorem dX12_is_1 : decode cX12_is 1 = .ok (.iconst 0, 1) := by decide +kernel
theorem dX12_is_2 : decode cX12_is 2 = .ok (.iconst 3, 1) := by decide +kernel
theorem dX12_is_3 : decode cX12_is 3 = .ok (.invokestatic 90, 3) := by decide +kernel
theorem dX12_is_6 : decode cX12_is 6 = .ok (.ifCond .eq 15, 3) := by decide +kernel
theorem dX12_is_9 : decode cX12_is 9 = .ok (.aload_n 0, 1) := by decide +kernel
theorem dX12_is_10 : decode cX12_is 10 = .ok (.getfield 7, 3) := by decide +kernel
theorem dX12_is_13 : decode cX12_is 13 = .ok (.bipush 8, 2) := by decide +kernel
theorem dX12_is_15 : decode cX12_is 15 = .ok (.iload_n 1, 1) := by decide +kernel
theorem dX12_is_16 : decode cX12_is 16 = .ok (.iadd, 1) := by decide +kernel
theorem dX12_is_17 : decode cX12_is 17 = .ok (.iaload, 1) := by decide +kernel
theorem dX12_is_18 : decode cX12_is 18 = .ok (.goto 5, 3) := by decide +kernel
theorem dX12_is_21 : decode cX12_is 21 = .ok (.bipush (-2), 2) := by decide +kernel
theorem dX12_is_23 : decode cX12_is 23 = .ok (.ireturn, 1) := by decide +kernel
theorem dX12_shown_0 : decode cX12_shown 0 = .ok (.aload_n 0, 1) := by decide +kernel
theorem dX12_shown_1 : decode cX12_shown 1 = .ok (.getfield 7, 3) := by decide +kernel
theorem dX12_shown_4 : decode cX12_shown 4 = .ok (.bipush 12, 2) := by decide +kernel
theorem dX12_shown_6 : decode cX12_shown 6 = .ok (.iaload, 1) := by decide +kernel
theorem dX12_shown_7 : decode cX12_shown 7 = .ok (.bipush 40, 2) := by decide +kernel
theorem dX12_shown_9 : decode cX12_shown 9 = .ok (.if_icmp .ge 13, 3) := by decide +kernel
theorem dX12_shown_12 : decode cX12_shown 12 = .ok (.aload_n 0, 1) := by decide +kernel
theorem dX12_shown_13 : decode cX12_shown 13 = .ok (.getfield 7, 3) := by decide +kernel
theorem dX12_shown_16 : decode cX12_shown 16 = .ok (.bipush 12, 2) := by decide +kernel
theorem dX12_shown_18 : decode cX12_shown 18 = .ok (.iaload, 1) := by decide +kernel
theorem dX12_shown_19 : decode cX12_shown 19 = .ok (.goto 5, 3) := by decide +kernel
theorem dX12_shown_22 : decode cX12_shown 22 = .ok (.bipush 40, 2) := by decide +kernel
theorem dX12_shown_24 : decode cX12_shown 24 = .ok (.ireturn, 1) := by decide +kernel
theorem dX12_book_0 : decode cX12_book 0 = .ok (.iload_n 1, 1) := by decide +kernel
theorem dX12_book_1 : decode cX12_book 1 = .ok (.iconst (-1), 1) := by decide +kernel
theorem dX12_book_2 : decode cX12_book 2 = .ok (.if_icmp .ne 8, 3) := by decide +kernel
theorem dX12_book_5 : decode cX12_book 5 = .ok (.aload_n 0, 1) := by decide +kernel
theorem dX12_book_6 : decode cX12_book 6 = .ok (.invokevirtual 424, 3) := by decide +kernel
theorem dX12_book_9 : decode cX12_book 9 = .ok (.ireturn, 1) := by decide +kernel
theorem dX12_book_10 : decode cX12_book 10 = .ok (.iload_n 1, 1) := by decide +kernel
theorem dX12_book_11 : decode cX12_book 11 = .ok (.iconst 0, 1) := by decide +kernel
theorem dX12_book_12 : decode cX12_book 12 = .ok (.aload_n 0, 1) := by decide +kernel
theorem dX12_book_13 : decode cX12_book 13 = .ok (.invokevirtual 424, 3) := by decide +kernel
theorem dX12_book_16 : decode cX12_book 16 = .ok (.iconst 1, 1) := by decide +kernel
theorem dX12_book_17 : decode cX12_book 17 = .ok (.isub, 1) := by decide +kernel
theorem dX12_book_18 : decode cX12_book 18 = .ok (.invokestatic 90, 3) := by decide +kernel
theorem dX12_book_21 : decode cX12_book 21 = .ok (.ifCond .ne 6, 3) := by decide +kernel
theorem dX12_book_24 : decode cX12_book 24 = .ok (.bipush (-2), 2) := by decide +kernel
theorem dX12_book_26 : decode cX12_book 26 = .ok (.ireturn, 1) := by decide +kernel
theorem dX12_book_27 : decode cX12_book 27 = .ok (.aload_n 0, 1) := by decide +kernel
theorem dX12_book_28 : decode cX12_book 28 = .ok (.getfield 7, 3) := by decide +kernel
theorem dX12_book_31 : decode cX12_book 31 = .ok (.sipush 2106, 3) := by decide +kernel
theorem dX12_book_34 : decode cX12_book 34 = .ok (.aload_n 0, 1) := by decide +kernel
theorem dX12_book_35 : decode cX12_book 35 = .ok (.getfield 7, 3) := by decide +kernel
theorem dX12_book_38 : decode cX12_book 38 = .ok (.bipush 12, 2) := by decide +kernel
theorem dX12_book_40 : decode cX12_book 40 = .ok (.iaload, 1) := by decide +kernel
theorem dX12_book_41 : decode cX12_book 41 = .ok (.aload_n 0, 1) := by decide +kernel
theorem dX12_book_42 : decode cX12_book 42 = .ok (.invokevirtual 424, 3) := by decide +kernel
theorem dX12_book_45 : decode cX12_book 45 = .ok (.isub, 1) := by decide +kernel
theorem dX12_book_46 : decode cX12_book 46 = .ok (.iload_n 1, 1) := by decide +kernel
theorem dX12_book_47 : decode cX12_book 47 = .ok (.iadd, 1) := by decide +kernel
theorem dX12_book_48 : decode cX12_book 48 = .ok (.sipush 8500, 3) := by decide +kernel
theorem dX12_book_51 : decode cX12_book 51 = .ok (.irem, 1) := by decide +kernel
theorem dX12_book_52 : decode cX12_book 52 = .ok (.iadd, 1) := by decide +kernel
theorem dX12_book_53 : decode cX12_book 53 = .ok (.iaload, 1) := by decide +kernel
theorem dX12_book_54 : decode cX12_book 54 = .ok (.istore_n 3, 1) := by decide +kernel
theorem dX12_book_55 : decode cX12_book 55 = .ok (.iload_n 2, 1) := by decide +kernel
theorem dX12_book_56 : decode cX12_book 56 = .ok (.ifCond .ne 10, 3) := by decide +kernel
theorem dX12_book_59 : decode cX12_book 59 = .ok (.iload_n 3, 1) := by decide +kernel
theorem dX12_book_60 : decode cX12_book 60 = .ok (.bipush 63, 2) := by decide +kernel
theorem dX12_book_62 : decode cX12_book 62 = .ok (.idiv, 1) := by decide +kernel
theorem dX12_book_63 : decode cX12_book 63 = .ok (.goto 32, 3) := by decide +kernel
theorem dX12_book_66 : decode cX12_book 66 = .ok (.iload_n 2, 1) := by decide +kernel
theorem dX12_book_67 : decode cX12_book 67 = .ok (.iconst 1, 1) := by decide +kernel
theorem dX12_book_68 : decode cX12_book 68 = .ok (.if_icmp .ne 13, 3) := by decide +kernel
theorem dX12_book_71 : decode cX12_book 71 = .ok (.iload_n 3, 1) := by decide +kernel
theorem dX12_book_72 : decode cX12_book 72 = .ok (.bipush 9, 2) := by decide +kernel
theorem dX12_book_74 : decode cX12_book 74 = .ok (.idiv, 1) := by decide +kernel
theorem dX12_book_75 : decode cX12_book 75 = .ok (.bipush 7, 2) := by decide +kernel
theorem dX12_book_77 : decode cX12_book 77 = .ok (.irem, 1) := by decide +kernel
theorem dX12_book_78 : decode cX12_book 78 = .ok (.goto 17, 3) := by decide +kernel
theorem dX12_book_81 : decode cX12_book 81 = .ok (.iload_n 2, 1) := by decide +kernel
theorem dX12_book_82 : decode cX12_book 82 = .ok (.iconst 2, 1) := by decide +kernel
theorem dX12_book_83 : decode cX12_book 83 = .ok (.if_icmp .ne 10, 3) := by decide +kernel
theorem dX12_book_86 : decode cX12_book 86 = .ok (.iload_n 3, 1) := by decide +kernel
theorem dX12_book_87 : decode cX12_book 87 = .ok (.bipush 9, 2) := by decide +kernel
theorem dX12_book_89 : decode cX12_book 89 = .ok (.irem, 1) := by decide +kernel
theorem dX12_book_90 : decode cX12_book 90 = .ok (.goto 5, 3) := by decide +kernel
theorem dX12_book_93 : decode cX12_book 93 = .ok (.bipush (-2), 2) := by decide +kernel
theorem dX12_book_95 : decode cX12_book 95 = .ok (.ireturn, 1) := by decide +kernel
theorem dX12_waiting_0 : decode cX12_waiting 0 = .ok (.aload_n 0, 1) := by decide +kernel
theorem dX12_waiting_1 : decode cX12_waiting 1 = .ok (.iload_n 1, 1) := by decide +kernel
theorem dX12_waiting_2 : decode cX12_waiting 2 = .ok (.invokevirtual 102, 3) := by decide +kernel
theorem dX12_waiting_5 : decode cX12_waiting 5 = .ok (.ifCond .ne 5, 3) := by decide +kernel
theorem dX12_waiting_8 : decode cX12_waiting 8 = .ok (.iconst (-1), 1) := by decide +kernel
theorem dX12_waiting_9 : decode cX12_waiting 9 = .ok (.ireturn, 1) := by decide +kernel
theorem dX12_waiting_10 : decode cX12_waiting 10 = .ok (.iconst 0, 1) := by decide +kernel
theorem dX12_waiting_11 : decode cX12_waiting 11 = .ok (.istore_n 3, 1) := by decide +kernel
theorem dX12_waiting_12 : decode cX12_waiting 12 = .ok (.iconst 0, 1) := by decide +kernel
theorem dX12_waiting_13 : decode cX12_waiting 13 = .ok (.istore 4, 2) := by decide +kernel
theorem dX12_waiting_15 : decode cX12_waiting 15 = .ok (.iload 4, 2) := by decide +kernel
theorem dX12_waiting_17 : decode cX12_waiting 17 = .ok (.aload_n 0, 1) := by decide +kernel
theorem dX12_waiting_18 : decode cX12_waiting 18 = .ok (.getfield 7, 3) := by decide +kernel
theorem dX12_waiting_21 : decode cX12_waiting 21 = .ok (.iconst 1, 1) := by decide +kernel
theorem dX12_waiting_22 : decode cX12_waiting 22 = .ok (.iaload, 1) := by decide +kernel
theorem dX12_waiting_23 : decode cX12_waiting 23 = .ok (.if_icmp .ge 60, 3) := by decide +kernel
theorem dX12_waiting_26 : decode cX12_waiting 26 = .ok (.iload_n 3, 1) := by decide +kernel
theorem dX12_waiting_27 : decode cX12_waiting 27 = .ok (.aload_n 0, 1) := by decide +kernel
theorem dX12_waiting_28 : decode cX12_waiting 28 = .ok (.iload 4, 2) := by decide +kernel
theorem dX12_waiting_30 : decode cX12_waiting 30 = .ok (.iconst 1, 1) := by decide +kernel
theorem dX12_waiting_31 : decode cX12_waiting 31 = .ok (.invokevirtual 340, 3) := by decide +kernel
theorem dX12_waiting_34 : decode cX12_waiting 34 = .ok (.iload_n 1, 1) := by decide +kernel
theorem dX12_waiting_35 : decode cX12_waiting 35 = .ok (.if_icmp .ne 39, 3) := by decide +kernel
theorem dX12_waiting_38 : decode cX12_waiting 38 = .ok (.iload_n 2, 1) := by decide +kernel
theorem dX12_waiting_39 : decode cX12_waiting 39 = .ok (.ifCond .eq 17, 3) := by decide +kernel
theorem dX12_waiting_42 : decode cX12_waiting 42 = .ok (.aload_n 0, 1) := by decide +kernel
theorem dX12_waiting_43 : decode cX12_waiting 43 = .ok (.iload 4, 2) := by decide +kernel
theorem dX12_waiting_45 : decode cX12_waiting 45 = .ok (.iconst 2, 1) := by decide +kernel
theorem dX12_waiting_46 : decode cX12_waiting 46 = .ok (.invokevirtual 340, 3) := by decide +kernel
theorem dX12_waiting_49 : decode cX12_waiting 49 = .ok (.iload_n 1, 1) := by decide +kernel
theorem dX12_waiting_50 : decode cX12_waiting 50 = .ok (.if_icmp .le 24, 3) := by decide +kernel
theorem dX12_waiting_53 : decode cX12_waiting 53 = .ok (.goto 14, 3) := by decide +kernel
theorem dX12_waiting_56 : decode cX12_waiting 56 = .ok (.aload_n 0, 1) := by decide +kernel
theorem dX12_waiting_57 : decode cX12_waiting 57 = .ok (.iload 4, 2) := by decide +kernel
theorem dX12_waiting_59 : decode cX12_waiting 59 = .ok (.iconst 2, 1) := by decide +kernel
theorem dX12_waiting_60 : decode cX12_waiting 60 = .ok (.invokevirtual 340, 3) := by decide +kernel
theorem dX12_waiting_63 : decode cX12_waiting 63 = .ok (.iload_n 1, 1) := by decide +kernel
theorem dX12_waiting_64 : decode cX12_waiting 64 = .ok (.if_icmp .ge 10, 3) := by decide +kernel
theorem dX12_waiting_67 : decode cX12_waiting 67 = .ok (.iconst 1, 1) := by decide +kernel
theorem dX12_waiting_68 : decode cX12_waiting 68 = .ok (.iload 4, 2) := by decide +kernel
theorem dX12_waiting_70 : decode cX12_waiting 70 = .ok (.ishl, 1) := by decide +kernel
theorem dX12_waiting_71 : decode cX12_waiting 71 = .ok (.goto 4, 3) := by decide +kernel
theorem dX12_waiting_74 : decode cX12_waiting 74 = .ok (.iconst 0, 1) := by decide +kernel
theorem dX12_waiting_75 : decode cX12_waiting 75 = .ok (.ior, 1) := by decide +kernel
theorem dX12_waiting_76 : decode cX12_waiting 76 = .ok (.istore_n 3, 1) := by decide +kernel
theorem dX12_waiting_77 : decode cX12_waiting 77 = .ok (.iinc 4 1, 3) := by decide +kernel
theorem dX12_waiting_80 : decode cX12_waiting 80 = .ok (.goto (-65), 3) := by decide +kernel
theorem dX12_waiting_83 : decode cX12_waiting 83 = .ok (.iload_n 3, 1) := by decide +kernel
theorem dX12_waiting_84 : decode cX12_waiting 84 = .ok (.ireturn, 1) := by decide +kernel
theorem dX12_begin_0 : decode cX12_begin 0 = .ok (.bipush 8, 2) := by decide +kernel
theorem dX12_begin_2 : decode cX12_begin 2 = .ok (.istore_n 1, 1) := by decide +kernel
theorem dX12_begin_3 : decode cX12_begin 3 = .ok (.iload_n 1, 1) := by decide +kernel
theorem dX12_begin_4 : decode cX12_begin 4 = .ok (.sipush 130, 3) := by decide +kernel
theorem dX12_begin_7 : decode cX12_begin 7 = .ok (.if_icmp .ge 21, 3) := by decide +kernel
theorem dX12_begin_10 : decode cX12_begin 10 = .ok (.aload_n 0, 1) := by decide +kernel
theorem dX12_begin_11 : decode cX12_begin 11 = .ok (.getfield 53, 3) := by decide +kernel
theorem dX12_begin_14 : decode cX12_begin 14 = .ok (.iload_n 1, 1) := by decide +kernel
theorem dX12_begin_15 : decode cX12_begin 15 = .ok (.aload_n 0, 1) := by decide +kernel
theorem dX12_begin_16 : decode cX12_begin 16 = .ok (.getfield 7, 3) := by decide +kernel
theorem dX12_begin_19 : decode cX12_begin 19 = .ok (.iload_n 1, 1) := by decide +kernel
theorem dX12_begin_20 : decode cX12_begin 20 = .ok (.iaload, 1) := by decide +kernel
theorem dX12_begin_21 : decode cX12_begin 21 = .ok (.iastore, 1) := by decide +kernel
theorem dX12_begin_22 : decode cX12_begin 22 = .ok (.iinc 1 1, 3) := by decide +kernel
theorem dX12_begin_25 : decode cX12_begin 25 = .ok (.goto (-22), 3) := by decide +kernel
theorem dX12_begin_28 : decode cX12_begin 28 = .ok (.aload_n 0, 1) := by decide +kernel
theorem dX12_begin_29 : decode cX12_begin 29 = .ok (.iconst 0, 1) := by decide +kernel
theorem dX12_begin_30 : decode cX12_begin 30 = .ok (.putfield 43, 3) := by decide +kernel
theorem dX12_begin_33 : decode cX12_begin 33 = .ok (.return_, 1) := by decide +kernel
theorem dX12_putBack_0 : decode cX12_putBack 0 = .ok (.bipush 8, 2) := by decide +kernel
theorem dX12_putBack_2 : decode cX12_putBack 2 = .ok (.istore_n 1, 1) := by decide +kernel
theorem dX12_putBack_3 : decode cX12_putBack 3 = .ok (.iload_n 1, 1) := by decide +kernel
theorem dX12_putBack_4 : decode cX12_putBack 4 = .ok (.sipush 130, 3) := by decide +kernel
theorem dX12_putBack_7 : decode cX12_putBack 7 = .ok (.if_icmp .ge 21, 3) := by decide +kernel
theorem dX12_putBack_10 : decode cX12_putBack 10 = .ok (.aload_n 0, 1) := by decide +kernel
theorem dX12_putBack_11 : decode cX12_putBack 11 = .ok (.getfield 7, 3) := by decide +kernel
theorem dX12_putBack_14 : decode cX12_putBack 14 = .ok (.iload_n 1, 1) := by decide +kernel
theorem dX12_putBack_15 : decode cX12_putBack 15 = .ok (.aload_n 0, 1) := by decide +kernel
theorem dX12_putBack_16 : decode cX12_putBack 16 = .ok (.getfield 53, 3) := by decide +kernel
theorem dX12_putBack_19 : decode cX12_putBack 19 = .ok (.iload_n 1, 1) := by decide +kernel
theorem dX12_putBack_20 : decode cX12_putBack 20 = .ok (.iaload, 1) := by decide +kernel
theorem dX12_putBack_21 : decode cX12_putBack 21 = .ok (.iastore, 1) := by decide +kernel
theorem dX12_putBack_22 : decode cX12_putBack 22 = .ok (.iinc 1 1, 3) := by decide +kernel
theorem dX12_putBack_25 : decode cX12_putBack 25 = .ok (.goto (-22), 3) := by decide +kernel
theorem dX12_putBack_28 : decode cX12_putBack 28 = .ok (.aload_n 0, 1) := by decide +kernel
theorem dX12_putBack_29 : decode cX12_putBack 29 = .ok (.iconst 1, 1) := by decide +kernel
theorem dX12_putBack_30 : decode cX12_putBack 30 = .ok (.putfield 43, 3) := by decide +kernel
theorem dX12_putBack_33 : decode cX12_putBack 33 = .ok (.return_, 1) := by decide +kernel
theorem dX12_behindHours_0 : decode cX12_behindHours 0 = .ok (.aload_n 0, 1) := by decide +kernel
theorem dX12_behindHours_1 : decode cX12_behindHours 1 = .ok (.invokevirtual 427, 3) := by decide +kernel
theorem dX12_behindHours_4 : decode cX12_behindHours 4 = .ok (.iconst 0, 1) := by decide +kernel
theorem dX12_behindHours_5 : decode cX12_behindHours 5 = .ok (.istore_n 3, 1) := by decide +kernel
theorem dX12_behindHours_6 : decode cX12_behindHours 6 = .ok (.iload_n 3, 1) := by decide +kernel
theorem dX12_behindHours_7 : decode cX12_behindHours 7 = .ok (.iload_n 1, 1) := by decide +kernel
theorem dX12_behindHours_8 : decode cX12_behindHours 8 = .ok (.if_icmp .ge 13, 3) := by decide +kernel
theorem dX12_behindHours_11 : decode cX12_behindHours 11 = .ok (.aload_n 0, 1) := by decide +kernel
theorem dX12_behindHours_12 : decode cX12_behindHours 12 = .ok (.invokevirtual 381, 3) := by decide +kernel
theorem dX12_behindHours_15 : decode cX12_behindHours 15 = .ok (.iinc 3 1, 3) := by decide +kernel
theorem dX12_behindHours_18 : decode cX12_behindHours 18 = .ok (.goto (-12), 3) := by decide +kernel
theorem dX12_behindHours_21 : decode cX12_behindHours 21 = .ok (.aload_n 0, 1) := by decide +kernel
theorem dX12_behindHours_22 : decode cX12_behindHours 22 = .ok (.getfield 7, 3) := by decide +kernel
theorem dX12_behindHours_25 : decode cX12_behindHours 25 = .ok (.iload_n 2, 1) := by decide +kernel
theorem dX12_behindHours_26 : decode cX12_behindHours 26 = .ok (.iaload, 1) := by decide +kernel
theorem dX12_behindHours_27 : decode cX12_behindHours 27 = .ok (.istore_n 3, 1) := by decide +kernel
theorem dX12_behindHours_28 : decode cX12_behindHours 28 = .ok (.aload_n 0, 1) := by decide +kernel
theorem dX12_behindHours_29 : decode cX12_behindHours 29 = .ok (.invokevirtual 430, 3) := by decide +kernel
theorem dX12_behindHours_32 : decode cX12_behindHours 32 = .ok (.iload_n 3, 1) := by decide +kernel
theorem dX12_behindHours_33 : decode cX12_behindHours 33 = .ok (.ireturn, 1) := by decide +kernel
theorem dX12_foretoldShip_0 : decode cX12_foretoldShip 0 = .ok (.iload_n 1, 1) := by decide +kernel
theorem dX12_foretoldShip_1 : decode cX12_foretoldShip 1 = .ok (.iconst 1, 1) := by decide +kernel
theorem dX12_foretoldShip_2 : decode cX12_foretoldShip 2 = .ok (.bipush 60, 2) := by decide +kernel
theorem dX12_foretoldShip_4 : decode cX12_foretoldShip 4 = .ok (.invokestatic 90, 3) := by decide +kernel
theorem dX12_foretoldShip_7 : decode cX12_foretoldShip 7 = .ok (.ifCond .eq 45, 3) := by decide +kernel
theorem dX12_foretoldShip_10 : decode cX12_foretoldShip 10 = .ok (.aload_n 0, 1) := by decide +kernel
theorem dX12_foretoldShip_11 : decode cX12_foretoldShip 11 = .ok (.iload_n 2, 1) := by decide +kernel
theorem dX12_foretoldShip_12 : decode cX12_foretoldShip 12 = .ok (.invokevirtual 393, 3) := by decide +kernel
theorem dX12_foretoldShip_15 : decode cX12_foretoldShip 15 = .ok (.ifCond .eq 37, 3) := by decide +kernel
theorem dX12_foretoldShip_18 : decode cX12_foretoldShip 18 = .ok (.iload_n 3, 1) := by decide +kernel
theorem dX12_foretoldShip_19 : decode cX12_foretoldShip 19 = .ok (.iconst 0, 1) := by decide +kernel
theorem dX12_foretoldShip_20 : decode cX12_foretoldShip 20 = .ok (.iconst 1, 1) := by decide +kernel
theorem dX12_foretoldShip_21 : decode cX12_foretoldShip 21 = .ok (.invokestatic 90, 3) := by decide +kernel
theorem dX12_foretoldShip_24 : decode cX12_foretoldShip 24 = .ok (.ifCond .eq 28, 3) := by decide +kernel
theorem dX12_foretoldShip_27 : decode cX12_foretoldShip 27 = .ok (.aload_n 0, 1) := by decide +kernel
theorem dX12_foretoldShip_28 : decode cX12_foretoldShip 28 = .ok (.iload_n 1, 1) := by decide +kernel
theorem dX12_foretoldShip_29 : decode cX12_foretoldShip 29 = .ok (.bipush 88, 2) := by decide +kernel
theorem dX12_foretoldShip_31 : decode cX12_foretoldShip 31 = .ok (.bipush 6, 2) := by decide +kernel
theorem dX12_foretoldShip_33 : decode cX12_foretoldShip 33 = .ok (.iload_n 2, 1) := by decide +kernel
theorem dX12_foretoldShip_34 : decode cX12_foretoldShip 34 = .ok (.imul, 1) := by decide +kernel
theorem dX12_foretoldShip_35 : decode cX12_foretoldShip 35 = .ok (.iadd, 1) := by decide +kernel
theorem dX12_foretoldShip_36 : decode cX12_foretoldShip 36 = .ok (.iload_n 3, 1) := by decide +kernel
theorem dX12_foretoldShip_37 : decode cX12_foretoldShip 37 = .ok (.ifCond .ne 7, 3) := by decide +kernel
theorem dX12_foretoldShip_40 : decode cX12_foretoldShip 40 = .ok (.iconst 1, 1) := by decide +kernel
theorem dX12_foretoldShip_41 : decode cX12_foretoldShip 41 = .ok (.goto 4, 3) := by decide +kernel
theorem dX12_foretoldShip_44 : decode cX12_foretoldShip 44 = .ok (.iconst 3, 1) := by decide +kernel
theorem dX12_foretoldShip_45 : decode cX12_foretoldShip 45 = .ok (.iadd, 1) := by decide +kernel
theorem dX12_foretoldShip_46 : decode cX12_foretoldShip 46 = .ok (.invokevirtual 433, 3) := by decide +kernel
theorem dX12_foretoldShip_49 : decode cX12_foretoldShip 49 = .ok (.goto 4, 3) := by decide +kernel
theorem dX12_foretoldShip_52 : decode cX12_foretoldShip 52 = .ok (.iconst (-1), 1) := by decide +kernel
theorem dX12_foretoldShip_53 : decode cX12_foretoldShip 53 = .ok (.ireturn, 1) := by decide +kernel
theorem dX12_foretoldStep_0 : decode cX12_foretoldStep 0 = .ok (.iload_n 1, 1) := by decide +kernel
theorem dX12_foretoldStep_1 : decode cX12_foretoldStep 1 = .ok (.iconst 1, 1) := by decide +kernel
theorem dX12_foretoldStep_2 : decode cX12_foretoldStep 2 = .ok (.bipush 60, 2) := by decide +kernel
theorem dX12_foretoldStep_4 : decode cX12_foretoldStep 4 = .ok (.invokestatic 90, 3) := by decide +kernel
theorem dX12_foretoldStep_7 : decode cX12_foretoldStep 7 = .ok (.ifCond .eq 39, 3) := by decide +kernel
theorem dX12_foretoldStep_10 : decode cX12_foretoldStep 10 = .ok (.aload_n 0, 1) := by decide +kernel
theorem dX12_foretoldStep_11 : decode cX12_foretoldStep 11 = .ok (.iload_n 2, 1) := by decide +kernel
theorem dX12_foretoldStep_12 : decode cX12_foretoldStep 12 = .ok (.invokevirtual 102, 3) := by decide +kernel
theorem dX12_foretoldStep_15 : decode cX12_foretoldStep 15 = .ok (.ifCond .eq 31, 3) := by decide +kernel
theorem dX12_foretoldStep_18 : decode cX12_foretoldStep 18 = .ok (.iload_n 3, 1) := by decide +kernel
theorem dX12_foretoldStep_19 : decode cX12_foretoldStep 19 = .ok (.iconst 0, 1) := by decide +kernel
theorem dX12_foretoldStep_20 : decode cX12_foretoldStep 20 = .ok (.iconst 1, 1) := by decide +kernel
theorem dX12_foretoldStep_21 : decode cX12_foretoldStep 21 = .ok (.invokestatic 90, 3) := by decide +kernel
theorem dX12_foretoldStep_24 : decode cX12_foretoldStep 24 = .ok (.ifCond .eq 22, 3) := by decide +kernel
theorem dX12_foretoldStep_27 : decode cX12_foretoldStep 27 = .ok (.aload_n 0, 1) := by decide +kernel
theorem dX12_foretoldStep_28 : decode cX12_foretoldStep 28 = .ok (.iload_n 1, 1) := by decide +kernel
theorem dX12_foretoldStep_29 : decode cX12_foretoldStep 29 = .ok (.bipush 16, 2) := by decide +kernel
theorem dX12_foretoldStep_31 : decode cX12_foretoldStep 31 = .ok (.bipush 8, 2) := by decide +kernel
theorem dX12_foretoldStep_33 : decode cX12_foretoldStep 33 = .ok (.iload_n 2, 1) := by decide +kernel
theorem dX12_foretoldStep_34 : decode cX12_foretoldStep 34 = .ok (.imul, 1) := by decide +kernel
theorem dX12_foretoldStep_35 : decode cX12_foretoldStep 35 = .ok (.iadd, 1) := by decide +kernel
theorem dX12_foretoldStep_36 : decode cX12_foretoldStep 36 = .ok (.iconst 2, 1) := by decide +kernel
theorem dX12_foretoldStep_37 : decode cX12_foretoldStep 37 = .ok (.iadd, 1) := by decide +kernel
theorem dX12_foretoldStep_38 : decode cX12_foretoldStep 38 = .ok (.iload_n 3, 1) := by decide +kernel
theorem dX12_foretoldStep_39 : decode cX12_foretoldStep 39 = .ok (.iadd, 1) := by decide +kernel
theorem dX12_foretoldStep_40 : decode cX12_foretoldStep 40 = .ok (.invokevirtual 433, 3) := by decide +kernel
theorem dX12_foretoldStep_43 : decode cX12_foretoldStep 43 = .ok (.goto 4, 3) := by decide +kernel
theorem dX12_foretoldStep_46 : decode cX12_foretoldStep 46 = .ok (.iconst (-1), 1) := by decide +kernel
theorem dX12_foretoldStep_47 : decode cX12_foretoldStep 47 = .ok (.ireturn, 1) := by decide +kernel
theorem dX12_comes_0 : decode cX12_comes 0 = .ok (.aload_n 0, 1) := by decide +kernel
theorem dX12_comes_1 : decode cX12_comes 1 = .ok (.iload_n 1, 1) := by decide +kernel
theorem dX12_comes_2 : decode cX12_comes 2 = .ok (.invokevirtual 393, 3) := by decide +kernel
theorem dX12_comes_5 : decode cX12_comes 5 = .ok (.ifCond .ne 5, 3) := by decide +kernel
theorem dX12_comes_8 : decode cX12_comes 8 = .ok (.iconst (-1), 1) := by decide +kernel
theorem dX12_comes_9 : decode cX12_comes 9 = .ok (.ireturn, 1) := by decide +kernel
theorem dX12_comes_10 : decode cX12_comes 10 = .ok (.aload_n 0, 1) := by decide +kernel
theorem dX12_comes_11 : decode cX12_comes 11 = .ok (.invokevirtual 427, 3) := by decide +kernel
theorem dX12_comes_14 : decode cX12_comes 14 = .ok (.iconst (-1), 1) := by decide +kernel
theorem dX12_comes_15 : decode cX12_comes 15 = .ok (.istore_n 2, 1) := by decide +kernel
theorem dX12_comes_16 : decode cX12_comes 16 = .ok (.iconst 0, 1) := by decide +kernel
theorem dX12_comes_17 : decode cX12_comes 17 = .ok (.istore_n 3, 1) := by decide +kernel
theorem dX12_comes_18 : decode cX12_comes 18 = .ok (.iload_n 3, 1) := by decide +kernel
theorem dX12_comes_19 : decode cX12_comes 19 = .ok (.bipush 60, 2) := by decide +kernel
theorem dX12_comes_21 : decode cX12_comes 21 = .ok (.if_icmp .gt 35, 3) := by decide +kernel
theorem dX12_comes_24 : decode cX12_comes 24 = .ok (.iload_n 2, 1) := by decide +kernel
theorem dX12_comes_25 : decode cX12_comes 25 = .ok (.iconst (-1), 1) := by decide +kernel
theorem dX12_comes_26 : decode cX12_comes 26 = .ok (.if_icmp .ne 30, 3) := by decide +kernel
theorem dX12_comes_29 : decode cX12_comes 29 = .ok (.aload_n 0, 1) := by decide +kernel
theorem dX12_comes_30 : decode cX12_comes 30 = .ok (.iload_n 1, 1) := by decide +kernel
theorem dX12_comes_31 : decode cX12_comes 31 = .ok (.iconst 1, 1) := by decide +kernel
theorem dX12_comes_32 : decode cX12_comes 32 = .ok (.invokevirtual 340, 3) := by decide +kernel
theorem dX12_comes_35 : decode cX12_comes 35 = .ok (.aload_n 0, 1) := by decide +kernel
theorem dX12_comes_36 : decode cX12_comes 36 = .ok (.iload_n 1, 1) := by decide +kernel
theorem dX12_comes_37 : decode cX12_comes 37 = .ok (.iconst 2, 1) := by decide +kernel
theorem dX12_comes_38 : decode cX12_comes 38 = .ok (.invokevirtual 340, 3) := by decide +kernel
theorem dX12_comes_41 : decode cX12_comes 41 = .ok (.if_icmp .ne 5, 3) := by decide +kernel
theorem dX12_comes_44 : decode cX12_comes 44 = .ok (.iload_n 3, 1) := by decide +kernel
theorem dX12_comes_45 : decode cX12_comes 45 = .ok (.istore_n 2, 1) := by decide +kernel
theorem dX12_comes_46 : decode cX12_comes 46 = .ok (.aload_n 0, 1) := by decide +kernel
theorem dX12_comes_47 : decode cX12_comes 47 = .ok (.invokevirtual 381, 3) := by decide +kernel
theorem dX12_comes_50 : decode cX12_comes 50 = .ok (.iinc 3 1, 3) := by decide +kernel
theorem dX12_comes_53 : decode cX12_comes 53 = .ok (.goto (-35), 3) := by decide +kernel
theorem dX12_comes_56 : decode cX12_comes 56 = .ok (.aload_n 0, 1) := by decide +kernel
theorem dX12_comes_57 : decode cX12_comes 57 = .ok (.invokevirtual 430, 3) := by decide +kernel
theorem dX12_comes_60 : decode cX12_comes 60 = .ok (.iload_n 2, 1) := by decide +kernel
theorem dX12_comes_61 : decode cX12_comes 61 = .ok (.ireturn, 1) := by decide +kernel
theorem dX12_leastBy_0 : decode cX12_leastBy 0 = .ok (.iconst 0, 1) := by decide +kernel
theorem dX12_leastBy_1 : decode cX12_leastBy 1 = .ok (.istore_n 3, 1) := by decide +kernel
theorem dX12_leastBy_2 : decode cX12_leastBy 2 = .ok (.iload_n 3, 1) := by decide +kernel
theorem dX12_leastBy_3 : decode cX12_leastBy 3 = .ok (.bipush 49, 2) := by decide +kernel
theorem dX12_leastBy_5 : decode cX12_leastBy 5 = .ok (.if_icmp .ge 48, 3) := by decide +kernel
theorem dX12_leastBy_8 : decode cX12_leastBy 8 = .ok (.aload_n 0, 1) := by decide +kernel
theorem dX12_leastBy_9 : decode cX12_leastBy 9 = .ok (.getfield 59, 3) := by decide +kernel
theorem dX12_leastBy_12 : decode cX12_leastBy 12 = .ok (.bipush 49, 2) := by decide +kernel
theorem dX12_leastBy_14 : decode cX12_leastBy 14 = .ok (.iload_n 1, 1) := by decide +kernel
theorem dX12_leastBy_15 : decode cX12_leastBy 15 = .ok (.iconst 1, 1) := by decide +kernel
theorem dX12_leastBy_16 : decode cX12_leastBy 16 = .ok (.isub, 1) := by decide +kernel
theorem dX12_leastBy_17 : decode cX12_leastBy 17 = .ok (.imul, 1) := by decide +kernel
theorem dX12_leastBy_18 : decode cX12_leastBy 18 = .ok (.iload_n 3, 1) := by decide +kernel
theorem dX12_leastBy_19 : decode cX12_leastBy 19 = .ok (.iadd, 1) := by decide +kernel
theorem dX12_leastBy_20 : decode cX12_leastBy 20 = .ok (.iload_n 3, 1) := by decide +kernel
theorem dX12_leastBy_21 : decode cX12_leastBy 21 = .ok (.iload_n 2, 1) := by decide +kernel
theorem dX12_leastBy_22 : decode cX12_leastBy 22 = .ok (.if_icmp .ge 21, 3) := by decide +kernel
theorem dX12_leastBy_25 : decode cX12_leastBy 25 = .ok (.aload_n 0, 1) := by decide +kernel
theorem dX12_leastBy_26 : decode cX12_leastBy 26 = .ok (.getfield 56, 3) := by decide +kernel
theorem dX12_leastBy_29 : decode cX12_leastBy 29 = .ok (.bipush 48, 2) := by decide +kernel
theorem dX12_leastBy_31 : decode cX12_leastBy 31 = .ok (.iload_n 1, 1) := by decide +kernel
theorem dX12_leastBy_32 : decode cX12_leastBy 32 = .ok (.iconst 1, 1) := by decide +kernel
theorem dX12_leastBy_33 : decode cX12_leastBy 33 = .ok (.isub, 1) := by decide +kernel
theorem dX12_leastBy_34 : decode cX12_leastBy 34 = .ok (.imul, 1) := by decide +kernel
theorem dX12_leastBy_35 : decode cX12_leastBy 35 = .ok (.iload_n 2, 1) := by decide +kernel
theorem dX12_leastBy_36 : decode cX12_leastBy 36 = .ok (.iadd, 1) := by decide +kernel
theorem dX12_leastBy_37 : decode cX12_leastBy 37 = .ok (.iconst 1, 1) := by decide +kernel
theorem dX12_leastBy_38 : decode cX12_leastBy 38 = .ok (.isub, 1) := by decide +kernel
theorem dX12_leastBy_39 : decode cX12_leastBy 39 = .ok (.iaload, 1) := by decide +kernel
theorem dX12_leastBy_40 : decode cX12_leastBy 40 = .ok (.goto 6, 3) := by decide +kernel
theorem dX12_leastBy_43 : decode cX12_leastBy 43 = .ok (.ldc_w 436, 3) := by decide +kernel
theorem dX12_leastBy_46 : decode cX12_leastBy 46 = .ok (.iastore, 1) := by decide +kernel
theorem dX12_leastBy_47 : decode cX12_leastBy 47 = .ok (.iinc 3 1, 3) := by decide +kernel
theorem dX12_leastBy_50 : decode cX12_leastBy 50 = .ok (.goto (-48), 3) := by decide +kernel
theorem dX12_leastBy_53 : decode cX12_leastBy 53 = .ok (.iload_n 1, 1) := by decide +kernel
theorem dX12_leastBy_54 : decode cX12_leastBy 54 = .ok (.iconst 2, 1) := by decide +kernel
theorem dX12_leastBy_55 : decode cX12_leastBy 55 = .ok (.isub, 1) := by decide +kernel
theorem dX12_leastBy_56 : decode cX12_leastBy 56 = .ok (.istore_n 3, 1) := by decide +kernel
theorem dX12_leastBy_57 : decode cX12_leastBy 57 = .ok (.iload_n 3, 1) := by decide +kernel
theorem dX12_leastBy_58 : decode cX12_leastBy 58 = .ok (.ifCond .lt 120, 3) := by decide +kernel
theorem dX12_leastBy_61 : decode cX12_leastBy 61 = .ok (.aload_n 0, 1) := by decide +kernel
theorem dX12_leastBy_62 : decode cX12_leastBy 62 = .ok (.getfield 59, 3) := by decide +kernel
theorem dX12_leastBy_65 : decode cX12_leastBy 65 = .ok (.bipush 49, 2) := by decide +kernel
theorem dX12_leastBy_67 : decode cX12_leastBy 67 = .ok (.iload_n 3, 1) := by decide +kernel
theorem dX12_leastBy_68 : decode cX12_leastBy 68 = .ok (.imul, 1) := by decide +kernel
theorem dX12_leastBy_69 : decode cX12_leastBy 69 = .ok (.bipush 48, 2) := by decide +kernel
theorem dX12_leastBy_71 : decode cX12_leastBy 71 = .ok (.iadd, 1) := by decide +kernel
theorem dX12_leastBy_72 : decode cX12_leastBy 72 = .ok (.ldc_w 436, 3) := by decide +kernel
theorem dX12_leastBy_75 : decode cX12_leastBy 75 = .ok (.iastore, 1) := by decide +kernel
theorem dX12_leastBy_76 : decode cX12_leastBy 76 = .ok (.bipush 47, 2) := by decide +kernel
theorem dX12_leastBy_78 : decode cX12_leastBy 78 = .ok (.istore 4, 2) := by decide +kernel
theorem dX12_leastBy_80 : decode cX12_leastBy 80 = .ok (.iload 4, 2) := by decide +kernel
theorem dX12_leastBy_82 : decode cX12_leastBy 82 = .ok (.ifCond .lt 90, 3) := by decide +kernel
theorem dX12_leastBy_85 : decode cX12_leastBy 85 = .ok (.aload_n 0, 1) := by decide +kernel
theorem dX12_leastBy_86 : decode cX12_leastBy 86 = .ok (.getfield 56, 3) := by decide +kernel
theorem dX12_leastBy_89 : decode cX12_leastBy 89 = .ok (.bipush 48, 2) := by decide +kernel
theorem dX12_leastBy_91 : decode cX12_leastBy 91 = .ok (.iload_n 3, 1) := by decide +kernel
theorem dX12_leastBy_92 : decode cX12_leastBy 92 = .ok (.imul, 1) := by decide +kernel
theorem dX12_leastBy_93 : decode cX12_leastBy 93 = .ok (.iload 4, 2) := by decide +kernel
theorem dX12_leastBy_95 : decode cX12_leastBy 95 = .ok (.iadd, 1) := by decide +kernel
theorem dX12_leastBy_96 : decode cX12_leastBy 96 = .ok (.iaload, 1) := by decide +kernel
theorem dX12_leastBy_97 : decode cX12_leastBy 97 = .ok (.aload_n 0, 1) := by decide +kernel
theorem dX12_leastBy_98 : decode cX12_leastBy 98 = .ok (.getfield 59, 3) := by decide +kernel
theorem dX12_leastBy_101 : decode cX12_leastBy 101 = .ok (.bipush 49, 2) := by decide +kernel
theorem dX12_leastBy_103 : decode cX12_leastBy 103 = .ok (.iload_n 3, 1) := by decide +kernel
theorem dX12_leastBy_104 : decode cX12_leastBy 104 = .ok (.iconst 1, 1) := by decide +kernel
theorem dX12_leastBy_105 : decode cX12_leastBy 105 = .ok (.iadd, 1) := by decide +kernel
theorem dX12_leastBy_106 : decode cX12_leastBy 106 = .ok (.imul, 1) := by decide +kernel
theorem dX12_leastBy_107 : decode cX12_leastBy 107 = .ok (.iload 4, 2) := by decide +kernel
theorem dX12_leastBy_109 : decode cX12_leastBy 109 = .ok (.iadd, 1) := by decide +kernel
theorem dX12_leastBy_110 : decode cX12_leastBy 110 = .ok (.iconst 1, 1) := by decide +kernel
theorem dX12_leastBy_111 : decode cX12_leastBy 111 = .ok (.iadd, 1) := by decide +kernel
theorem dX12_leastBy_112 : decode cX12_leastBy 112 = .ok (.iaload, 1) := by decide +kernel
theorem dX12_leastBy_113 : decode cX12_leastBy 113 = .ok (.iadd, 1) := by decide +kernel
theorem dX12_leastBy_114 : decode cX12_leastBy 114 = .ok (.istore 5, 2) := by decide +kernel
theorem dX12_leastBy_116 : decode cX12_leastBy 116 = .ok (.aload_n 0, 1) := by decide +kernel
theorem dX12_leastBy_117 : decode cX12_leastBy 117 = .ok (.getfield 59, 3) := by decide +kernel
theorem dX12_leastBy_120 : decode cX12_leastBy 120 = .ok (.bipush 49, 2) := by decide +kernel
theorem dX12_leastBy_122 : decode cX12_leastBy 122 = .ok (.iload_n 3, 1) := by decide +kernel
theorem dX12_leastBy_123 : decode cX12_leastBy 123 = .ok (.imul, 1) := by decide +kernel
theorem dX12_leastBy_124 : decode cX12_leastBy 124 = .ok (.iload 4, 2) := by decide +kernel
theorem dX12_leastBy_126 : decode cX12_leastBy 126 = .ok (.iadd, 1) := by decide +kernel
theorem dX12_leastBy_127 : decode cX12_leastBy 127 = .ok (.iload 5, 2) := by decide +kernel
theorem dX12_leastBy_129 : decode cX12_leastBy 129 = .ok (.aload_n 0, 1) := by decide +kernel
theorem dX12_leastBy_130 : decode cX12_leastBy 130 = .ok (.getfield 59, 3) := by decide +kernel
theorem dX12_leastBy_133 : decode cX12_leastBy 133 = .ok (.bipush 49, 2) := by decide +kernel
theorem dX12_leastBy_135 : decode cX12_leastBy 135 = .ok (.iload_n 3, 1) := by decide +kernel
theorem dX12_leastBy_136 : decode cX12_leastBy 136 = .ok (.imul, 1) := by decide +kernel
theorem dX12_leastBy_137 : decode cX12_leastBy 137 = .ok (.iload 4, 2) := by decide +kernel
theorem dX12_leastBy_139 : decode cX12_leastBy 139 = .ok (.iadd, 1) := by decide +kernel
theorem dX12_leastBy_140 : decode cX12_leastBy 140 = .ok (.iconst 1, 1) := by decide +kernel
theorem dX12_leastBy_141 : decode cX12_leastBy 141 = .ok (.iadd, 1) := by decide +kernel
theorem dX12_leastBy_142 : decode cX12_leastBy 142 = .ok (.iaload, 1) := by decide +kernel
theorem dX12_leastBy_143 : decode cX12_leastBy 143 = .ok (.if_icmp .ge 8, 3) := by decide +kernel
theorem dX12_leastBy_146 : decode cX12_leastBy 146 = .ok (.iload 5, 2) := by decide +kernel
theorem dX12_leastBy_148 : decode cX12_leastBy 148 = .ok (.goto 17, 3) := by decide +kernel
theorem dX12_leastBy_151 : decode cX12_leastBy 151 = .ok (.aload_n 0, 1) := by decide +kernel
theorem dX12_leastBy_152 : decode cX12_leastBy 152 = .ok (.getfield 59, 3) := by decide +kernel
theorem dX12_leastBy_155 : decode cX12_leastBy 155 = .ok (.bipush 49, 2) := by decide +kernel
theorem dX12_leastBy_157 : decode cX12_leastBy 157 = .ok (.iload_n 3, 1) := by decide +kernel
theorem dX12_leastBy_158 : decode cX12_leastBy 158 = .ok (.imul, 1) := by decide +kernel
theorem dX12_leastBy_159 : decode cX12_leastBy 159 = .ok (.iload 4, 2) := by decide +kernel
theorem dX12_leastBy_161 : decode cX12_leastBy 161 = .ok (.iadd, 1) := by decide +kernel
theorem dX12_leastBy_162 : decode cX12_leastBy 162 = .ok (.iconst 1, 1) := by decide +kernel
theorem dX12_leastBy_163 : decode cX12_leastBy 163 = .ok (.iadd, 1) := by decide +kernel
theorem dX12_leastBy_164 : decode cX12_leastBy 164 = .ok (.iaload, 1) := by decide +kernel
theorem dX12_leastBy_165 : decode cX12_leastBy 165 = .ok (.iastore, 1) := by decide +kernel
theorem dX12_leastBy_166 : decode cX12_leastBy 166 = .ok (.iinc 4 (-1), 3) := by decide +kernel
theorem dX12_leastBy_169 : decode cX12_leastBy 169 = .ok (.goto (-89), 3) := by decide +kernel
theorem dX12_leastBy_172 : decode cX12_leastBy 172 = .ok (.iinc 3 (-1), 3) := by decide +kernel
theorem dX12_leastBy_175 : decode cX12_leastBy 175 = .ok (.goto (-118), 3) := by decide +kernel
theorem dX12_leastBy_178 : decode cX12_leastBy 178 = .ok (.aload_n 0, 1) := by decide +kernel
theorem dX12_leastBy_179 : decode cX12_leastBy 179 = .ok (.getfield 59, 3) := by decide +kernel
theorem dX12_leastBy_182 : decode cX12_leastBy 182 = .ok (.iconst 0, 1) := by decide +kernel
theorem dX12_leastBy_183 : decode cX12_leastBy 183 = .ok (.iaload, 1) := by decide +kernel
theorem dX12_leastBy_184 : decode cX12_leastBy 184 = .ok (.ireturn, 1) := by decide +kernel
theorem dX12_findGoes_0 : decode cX12_findGoes 0 = .ok (.iconst 0, 1) := by decide +kernel
theorem dX12_findGoes_1 : decode cX12_findGoes 1 = .ok (.istore_n 3, 1) := by decide +kernel
theorem dX12_findGoes_2 : decode cX12_findGoes 2 = .ok (.iconst 0, 1) := by decide +kernel
theorem dX12_findGoes_3 : decode cX12_findGoes 3 = .ok (.istore 4, 2) := by decide +kernel
theorem dX12_findGoes_5 : decode cX12_findGoes 5 = .ok (.iload 4, 2) := by decide +kernel
theorem dX12_findGoes_7 : decode cX12_findGoes 7 = .ok (.iload_n 1, 1) := by decide +kernel
theorem dX12_findGoes_8 : decode cX12_findGoes 8 = .ok (.iconst 1, 1) := by decide +kernel
theorem dX12_findGoes_9 : decode cX12_findGoes 9 = .ok (.isub, 1) := by decide +kernel
theorem dX12_findGoes_10 : decode cX12_findGoes 10 = .ok (.if_icmp .ge 74, 3) := by decide +kernel
theorem dX12_findGoes_13 : decode cX12_findGoes 13 = .ok (.aload_n 0, 1) := by decide +kernel
theorem dX12_findGoes_14 : decode cX12_findGoes 14 = .ok (.getfield 59, 3) := by decide +kernel
theorem dX12_findGoes_17 : decode cX12_findGoes 17 = .ok (.bipush 49, 2) := by decide +kernel
theorem dX12_findGoes_19 : decode cX12_findGoes 19 = .ok (.iload 4, 2) := by decide +kernel
theorem dX12_findGoes_21 : decode cX12_findGoes 21 = .ok (.imul, 1) := by decide +kernel
theorem dX12_findGoes_22 : decode cX12_findGoes 22 = .ok (.iload_n 3, 1) := by decide +kernel
theorem dX12_findGoes_23 : decode cX12_findGoes 23 = .ok (.iadd, 1) := by decide +kernel
theorem dX12_findGoes_24 : decode cX12_findGoes 24 = .ok (.iaload, 1) := by decide +kernel
theorem dX12_findGoes_25 : decode cX12_findGoes 25 = .ok (.istore 5, 2) := by decide +kernel
theorem dX12_findGoes_27 : decode cX12_findGoes 27 = .ok (.aload_n 0, 1) := by decide +kernel
theorem dX12_findGoes_28 : decode cX12_findGoes 28 = .ok (.getfield 56, 3) := by decide +kernel
theorem dX12_findGoes_31 : decode cX12_findGoes 31 = .ok (.bipush 48, 2) := by decide +kernel
theorem dX12_findGoes_33 : decode cX12_findGoes 33 = .ok (.iload 4, 2) := by decide +kernel
theorem dX12_findGoes_35 : decode cX12_findGoes 35 = .ok (.imul, 1) := by decide +kernel
theorem dX12_findGoes_36 : decode cX12_findGoes 36 = .ok (.iload_n 3, 1) := by decide +kernel
theorem dX12_findGoes_37 : decode cX12_findGoes 37 = .ok (.iadd, 1) := by decide +kernel
theorem dX12_findGoes_38 : decode cX12_findGoes 38 = .ok (.iaload, 1) := by decide +kernel
theorem dX12_findGoes_39 : decode cX12_findGoes 39 = .ok (.aload_n 0, 1) := by decide +kernel
theorem dX12_findGoes_40 : decode cX12_findGoes 40 = .ok (.getfield 59, 3) := by decide +kernel
theorem dX12_findGoes_43 : decode cX12_findGoes 43 = .ok (.bipush 49, 2) := by decide +kernel
theorem dX12_findGoes_45 : decode cX12_findGoes 45 = .ok (.iload 4, 2) := by decide +kernel
theorem dX12_findGoes_47 : decode cX12_findGoes 47 = .ok (.iconst 1, 1) := by decide +kernel
theorem dX12_findGoes_48 : decode cX12_findGoes 48 = .ok (.iadd, 1) := by decide +kernel
theorem dX12_findGoes_49 : decode cX12_findGoes 49 = .ok (.imul, 1) := by decide +kernel
theorem dX12_findGoes_50 : decode cX12_findGoes 50 = .ok (.iload_n 3, 1) := by decide +kernel
theorem dX12_findGoes_51 : decode cX12_findGoes 51 = .ok (.iadd, 1) := by decide +kernel
theorem dX12_findGoes_52 : decode cX12_findGoes 52 = .ok (.iconst 1, 1) := by decide +kernel
theorem dX12_findGoes_53 : decode cX12_findGoes 53 = .ok (.iadd, 1) := by decide +kernel
theorem dX12_findGoes_54 : decode cX12_findGoes 54 = .ok (.iaload, 1) := by decide +kernel
theorem dX12_findGoes_55 : decode cX12_findGoes 55 = .ok (.iadd, 1) := by decide +kernel
theorem dX12_findGoes_56 : decode cX12_findGoes 56 = .ok (.iload 5, 2) := by decide +kernel
theorem dX12_findGoes_58 : decode cX12_findGoes 58 = .ok (.if_icmp .eq 9, 3) := by decide +kernel
theorem dX12_findGoes_61 : decode cX12_findGoes 61 = .ok (.iinc 3 1, 3) := by decide +kernel
theorem dX12_findGoes_64 : decode cX12_findGoes 64 = .ok (.goto (-37), 3) := by decide +kernel
theorem dX12_findGoes_67 : decode cX12_findGoes 67 = .ok (.aload_n 0, 1) := by decide +kernel
theorem dX12_findGoes_68 : decode cX12_findGoes 68 = .ok (.getfield 62, 3) := by decide +kernel
theorem dX12_findGoes_71 : decode cX12_findGoes 71 = .ok (.iload 4, 2) := by decide +kernel
theorem dX12_findGoes_73 : decode cX12_findGoes 73 = .ok (.iload_n 3, 1) := by decide +kernel
theorem dX12_findGoes_74 : decode cX12_findGoes 74 = .ok (.iastore, 1) := by decide +kernel
theorem dX12_findGoes_75 : decode cX12_findGoes 75 = .ok (.iinc 3 1, 3) := by decide +kernel
theorem dX12_findGoes_78 : decode cX12_findGoes 78 = .ok (.iinc 4 1, 3) := by decide +kernel
theorem dX12_findGoes_81 : decode cX12_findGoes 81 = .ok (.goto (-76), 3) := by decide +kernel
theorem dX12_findGoes_84 : decode cX12_findGoes 84 = .ok (.aload_n 0, 1) := by decide +kernel
theorem dX12_findGoes_85 : decode cX12_findGoes 85 = .ok (.getfield 62, 3) := by decide +kernel
theorem dX12_findGoes_88 : decode cX12_findGoes 88 = .ok (.iload_n 1, 1) := by decide +kernel
theorem dX12_findGoes_89 : decode cX12_findGoes 89 = .ok (.iconst 1, 1) := by decide +kernel
theorem dX12_findGoes_90 : decode cX12_findGoes 90 = .ok (.isub, 1) := by decide +kernel
theorem dX12_findGoes_91 : decode cX12_findGoes 91 = .ok (.iload_n 2, 1) := by decide +kernel
theorem dX12_findGoes_92 : decode cX12_findGoes 92 = .ok (.iconst 1, 1) := by decide +kernel
theorem dX12_findGoes_93 : decode cX12_findGoes 93 = .ok (.isub, 1) := by decide +kernel
theorem dX12_findGoes_94 : decode cX12_findGoes 94 = .ok (.iastore, 1) := by decide +kernel
theorem dX12_findGoes_95 : decode cX12_findGoes 95 = .ok (.return_, 1) := by decide +kernel
theorem dX12_voyage_0 : decode cX12_voyage 0 = .ok (.iload_n 1, 1) := by decide +kernel
theorem dX12_voyage_1 : decode cX12_voyage 1 = .ok (.iconst 1, 1) := by decide +kernel
theorem dX12_voyage_2 : decode cX12_voyage 2 = .ok (.bipush 99, 2) := by decide +kernel
theorem dX12_voyage_4 : decode cX12_voyage 4 = .ok (.invokestatic 90, 3) := by decide +kernel
theorem dX12_voyage_7 : decode cX12_voyage 7 = .ok (.ifCond .eq 35, 3) := by decide +kernel
theorem dX12_voyage_10 : decode cX12_voyage 10 = .ok (.aload_n 0, 1) := by decide +kernel
theorem dX12_voyage_11 : decode cX12_voyage 11 = .ok (.iload_n 2, 1) := by decide +kernel
theorem dX12_voyage_12 : decode cX12_voyage 12 = .ok (.invokevirtual 102, 3) := by decide +kernel
theorem dX12_voyage_15 : decode cX12_voyage 15 = .ok (.ifCond .eq 27, 3) := by decide +kernel
theorem dX12_voyage_18 : decode cX12_voyage 18 = .ok (.aload_n 0, 1) := by decide +kernel
theorem dX12_voyage_19 : decode cX12_voyage 19 = .ok (.iload_n 3, 1) := by decide +kernel
theorem dX12_voyage_20 : decode cX12_voyage 20 = .ok (.invokevirtual 102, 3) := by decide +kernel
theorem dX12_voyage_23 : decode cX12_voyage 23 = .ok (.ifCond .eq 19, 3) := by decide +kernel
theorem dX12_voyage_26 : decode cX12_voyage 26 = .ok (.iload_n 2, 1) := by decide +kernel
theorem dX12_voyage_27 : decode cX12_voyage 27 = .ok (.iload_n 3, 1) := by decide +kernel
theorem dX12_voyage_28 : decode cX12_voyage 28 = .ok (.if_icmp .ge 14, 3) := by decide +kernel
theorem dX12_voyage_31 : decode cX12_voyage 31 = .ok (.iload 4, 2) := by decide +kernel
theorem dX12_voyage_33 : decode cX12_voyage 33 = .ok (.iconst 1, 1) := by decide +kernel
theorem dX12_voyage_34 : decode cX12_voyage 34 = .ok (.bipush 48, 2) := by decide +kernel
theorem dX12_voyage_36 : decode cX12_voyage 36 = .ok (.invokestatic 90, 3) := by decide +kernel
theorem dX12_voyage_39 : decode cX12_voyage 39 = .ok (.ifCond .ne 6, 3) := by decide +kernel
theorem dX12_voyage_42 : decode cX12_voyage 42 = .ok (.bipush (-100), 2) := by decide +kernel
theorem dX12_voyage_44 : decode cX12_voyage 44 = .ok (.ireturn, 1) := by decide +kernel
theorem dX12_voyage_45 : decode cX12_voyage 45 = .ok (.iload_n 3, 1) := by decide +kernel
theorem dX12_voyage_46 : decode cX12_voyage 46 = .ok (.iload_n 2, 1) := by decide +kernel
theorem dX12_voyage_47 : decode cX12_voyage 47 = .ok (.isub, 1) := by decide +kernel
theorem dX12_voyage_48 : decode cX12_voyage 48 = .ok (.istore 6, 2) := by decide +kernel
theorem dX12_voyage_50 : decode cX12_voyage 50 = .ok (.iload 5, 2) := by decide +kernel
theorem dX12_voyage_52 : decode cX12_voyage 52 = .ok (.bipush (-2), 2) := by decide +kernel
theorem dX12_voyage_54 : decode cX12_voyage 54 = .ok (.if_icmp .lt 17, 3) := by decide +kernel
theorem dX12_voyage_57 : decode cX12_voyage 57 = .ok (.iload 5, 2) := by decide +kernel
theorem dX12_voyage_59 : decode cX12_voyage 59 = .ok (.iload 6, 2) := by decide +kernel
theorem dX12_voyage_61 : decode cX12_voyage 61 = .ok (.if_icmp .ge 10, 3) := by decide +kernel
theorem dX12_voyage_64 : decode cX12_voyage 64 = .ok (.iload 4, 2) := by decide +kernel
theorem dX12_voyage_66 : decode cX12_voyage 66 = .ok (.iload 6, 2) := by decide +kernel
theorem dX12_voyage_68 : decode cX12_voyage 68 = .ok (.if_icmp .ge 6, 3) := by decide +kernel
theorem dX12_voyage_71 : decode cX12_voyage 71 = .ok (.bipush (-100), 2) := by decide +kernel
theorem dX12_voyage_73 : decode cX12_voyage 73 = .ok (.ireturn, 1) := by decide +kernel
theorem dX12_voyage_74 : decode cX12_voyage 74 = .ok (.iconst 0, 1) := by decide +kernel
theorem dX12_voyage_75 : decode cX12_voyage 75 = .ok (.istore 7, 2) := by decide +kernel
theorem dX12_voyage_77 : decode cX12_voyage 77 = .ok (.iload 7, 2) := by decide +kernel
theorem dX12_voyage_79 : decode cX12_voyage 79 = .ok (.iload 6, 2) := by decide +kernel
theorem dX12_voyage_81 : decode cX12_voyage 81 = .ok (.if_icmp .ge 57, 3) := by decide +kernel
theorem dX12_voyage_84 : decode cX12_voyage 84 = .ok (.iconst 0, 1) := by decide +kernel
theorem dX12_voyage_85 : decode cX12_voyage 85 = .ok (.istore 8, 2) := by decide +kernel
theorem dX12_voyage_87 : decode cX12_voyage 87 = .ok (.iload 8, 2) := by decide +kernel
theorem dX12_voyage_89 : decode cX12_voyage 89 = .ok (.bipush 48, 2) := by decide +kernel
theorem dX12_voyage_91 : decode cX12_voyage 91 = .ok (.if_icmp .ge 41, 3) := by decide +kernel
theorem dX12_voyage_94 : decode cX12_voyage 94 = .ok (.aload_n 0, 1) := by decide +kernel
theorem dX12_voyage_95 : decode cX12_voyage 95 = .ok (.getfield 56, 3) := by decide +kernel
theorem dX12_voyage_98 : decode cX12_voyage 98 = .ok (.bipush 48, 2) := by decide +kernel
theorem dX12_voyage_100 : decode cX12_voyage 100 = .ok (.iload 7, 2) := by decide +kernel
theorem dX12_voyage_102 : decode cX12_voyage 102 = .ok (.imul, 1) := by decide +kernel
theorem dX12_voyage_103 : decode cX12_voyage 103 = .ok (.iload 8, 2) := by decide +kernel
theorem dX12_voyage_105 : decode cX12_voyage 105 = .ok (.iadd, 1) := by decide +kernel
theorem dX12_voyage_106 : decode cX12_voyage 106 = .ok (.aload_n 0, 1) := by decide +kernel
theorem dX12_voyage_107 : decode cX12_voyage 107 = .ok (.iload_n 2, 1) := by decide +kernel
theorem dX12_voyage_108 : decode cX12_voyage 108 = .ok (.iload 7, 2) := by decide +kernel
theorem dX12_voyage_110 : decode cX12_voyage 110 = .ok (.iadd, 1) := by decide +kernel
theorem dX12_voyage_111 : decode cX12_voyage 111 = .ok (.aload_n 0, 1) := by decide +kernel
theorem dX12_voyage_112 : decode cX12_voyage 112 = .ok (.getfield 7, 3) := by decide +kernel
theorem dX12_voyage_115 : decode cX12_voyage 115 = .ok (.bipush 8, 2) := by decide +kernel
theorem dX12_voyage_117 : decode cX12_voyage 117 = .ok (.iaload, 1) := by decide +kernel
theorem dX12_voyage_118 : decode cX12_voyage 118 = .ok (.iload 8, 2) := by decide +kernel
theorem dX12_voyage_120 : decode cX12_voyage 120 = .ok (.iadd, 1) := by decide +kernel
theorem dX12_voyage_121 : decode cX12_voyage 121 = .ok (.iload_n 1, 1) := by decide +kernel
theorem dX12_voyage_122 : decode cX12_voyage 122 = .ok (.invokevirtual 349, 3) := by decide +kernel
theorem dX12_voyage_125 : decode cX12_voyage 125 = .ok (.iastore, 1) := by decide +kernel
theorem dX12_voyage_126 : decode cX12_voyage 126 = .ok (.iinc 8 1, 3) := by decide +kernel
theorem dX12_voyage_129 : decode cX12_voyage 129 = .ok (.goto (-42), 3) := by decide +kernel
theorem dX12_voyage_132 : decode cX12_voyage 132 = .ok (.iinc 7 1, 3) := by decide +kernel
theorem dX12_voyage_135 : decode cX12_voyage 135 = .ok (.goto (-58), 3) := by decide +kernel
theorem dX12_voyage_138 : decode cX12_voyage 138 = .ok (.iload 6, 2) := by decide +kernel
theorem dX12_voyage_140 : decode cX12_voyage 140 = .ok (.istore 7, 2) := by decide +kernel
theorem dX12_voyage_142 : decode cX12_voyage 142 = .ok (.aload_n 0, 1) := by decide +kernel
theorem dX12_voyage_143 : decode cX12_voyage 143 = .ok (.iload 6, 2) := by decide +kernel
theorem dX12_voyage_145 : decode cX12_voyage 145 = .ok (.iload 6, 2) := by decide +kernel
theorem dX12_voyage_147 : decode cX12_voyage 147 = .ok (.invokevirtual 437, 3) := by decide +kernel
theorem dX12_voyage_150 : decode cX12_voyage 150 = .ok (.istore 8, 2) := by decide +kernel
theorem dX12_voyage_152 : decode cX12_voyage 152 = .ok (.iload 6, 2) := by decide +kernel
theorem dX12_voyage_154 : decode cX12_voyage 154 = .ok (.iconst 1, 1) := by decide +kernel
theorem dX12_voyage_155 : decode cX12_voyage 155 = .ok (.iadd, 1) := by decide +kernel
theorem dX12_voyage_156 : decode cX12_voyage 156 = .ok (.istore 9, 2) := by decide +kernel
theorem dX12_voyage_158 : decode cX12_voyage 158 = .ok (.iload 9, 2) := by decide +kernel
theorem dX12_voyage_160 : decode cX12_voyage 160 = .ok (.iload 4, 2) := by decide +kernel
theorem dX12_voyage_162 : decode cX12_voyage 162 = .ok (.if_icmp .gt 37, 3) := by decide +kernel
theorem dX12_voyage_165 : decode cX12_voyage 165 = .ok (.aload_n 0, 1) := by decide +kernel
theorem dX12_voyage_166 : decode cX12_voyage 166 = .ok (.iload 6, 2) := by decide +kernel
theorem dX12_voyage_168 : decode cX12_voyage 168 = .ok (.iload 9, 2) := by decide +kernel
theorem dX12_voyage_170 : decode cX12_voyage 170 = .ok (.invokevirtual 437, 3) := by decide +kernel
theorem dX12_voyage_173 : decode cX12_voyage 173 = .ok (.istore 10, 2) := by decide +kernel
theorem dX12_voyage_175 : decode cX12_voyage 175 = .ok (.iload 10, 2) := by decide +kernel
theorem dX12_voyage_177 : decode cX12_voyage 177 = .ok (.iload 8, 2) := by decide +kernel
theorem dX12_voyage_179 : decode cX12_voyage 179 = .ok (.if_icmp .lt 6, 3) := by decide +kernel
theorem dX12_voyage_182 : decode cX12_voyage 182 = .ok (.goto 11, 3) := by decide +kernel
theorem dX12_voyage_185 : decode cX12_voyage 185 = .ok (.iload 10, 2) := by decide +kernel
theorem dX12_voyage_187 : decode cX12_voyage 187 = .ok (.istore 8, 2) := by decide +kernel
theorem dX12_voyage_189 : decode cX12_voyage 189 = .ok (.iload 9, 2) := by decide +kernel
theorem dX12_voyage_191 : decode cX12_voyage 191 = .ok (.istore 7, 2) := by decide +kernel
theorem dX12_voyage_193 : decode cX12_voyage 193 = .ok (.iinc 9 1, 3) := by decide +kernel
theorem dX12_voyage_196 : decode cX12_voyage 196 = .ok (.goto (-38), 3) := by decide +kernel
theorem dX12_voyage_199 : decode cX12_voyage 199 = .ok (.aload_n 0, 1) := by decide +kernel
theorem dX12_voyage_200 : decode cX12_voyage 200 = .ok (.iload 6, 2) := by decide +kernel
theorem dX12_voyage_202 : decode cX12_voyage 202 = .ok (.iload 7, 2) := by decide +kernel
theorem dX12_voyage_204 : decode cX12_voyage 204 = .ok (.invokevirtual 437, 3) := by decide +kernel
theorem dX12_voyage_207 : decode cX12_voyage 207 = .ok (.pop, 1) := by decide +kernel
theorem dX12_voyage_208 : decode cX12_voyage 208 = .ok (.aload_n 0, 1) := by decide +kernel
theorem dX12_voyage_209 : decode cX12_voyage 209 = .ok (.iload 6, 2) := by decide +kernel
theorem dX12_voyage_211 : decode cX12_voyage 211 = .ok (.iload 7, 2) := by decide +kernel
theorem dX12_voyage_213 : decode cX12_voyage 213 = .ok (.invokevirtual 440, 3) := by decide +kernel
theorem dX12_voyage_216 : decode cX12_voyage 216 = .ok (.iload 5, 2) := by decide +kernel
theorem dX12_voyage_218 : decode cX12_voyage 218 = .ok (.bipush (-2), 2) := by decide +kernel
theorem dX12_voyage_220 : decode cX12_voyage 220 = .ok (.if_icmp .ne 8, 3) := by decide +kernel
theorem dX12_voyage_223 : decode cX12_voyage 223 = .ok (.iload 8, 2) := by decide +kernel
theorem dX12_voyage_225 : decode cX12_voyage 225 = .ok (.goto 21, 3) := by decide +kernel
theorem dX12_voyage_228 : decode cX12_voyage 228 = .ok (.iload 5, 2) := by decide +kernel
theorem dX12_voyage_230 : decode cX12_voyage 230 = .ok (.iconst (-1), 1) := by decide +kernel
theorem dX12_voyage_231 : decode cX12_voyage 231 = .ok (.if_icmp .ne 8, 3) := by decide +kernel
theorem dX12_voyage_234 : decode cX12_voyage 234 = .ok (.iload 7, 2) := by decide +kernel
theorem dX12_voyage_236 : decode cX12_voyage 236 = .ok (.goto 10, 3) := by decide +kernel
theorem dX12_voyage_239 : decode cX12_voyage 239 = .ok (.aload_n 0, 1) := by decide +kernel
theorem dX12_voyage_240 : decode cX12_voyage 240 = .ok (.getfield 62, 3) := by decide +kernel
theorem dX12_voyage_243 : decode cX12_voyage 243 = .ok (.iload 5, 2) := by decide +kernel
theorem dX12_voyage_245 : decode cX12_voyage 245 = .ok (.iaload, 1) := by decide +kernel
theorem dX12_voyage_246 : decode cX12_voyage 246 = .ok (.ireturn, 1) := by decide +kernel
theorem dX12_layOut_0 : decode cX12_layOut 0 = .ok (.iconst 0, 1) := by decide +kernel
theorem dX12_layOut_1 : decode cX12_layOut 1 = .ok (.istore_n 2, 1) := by decide +kernel
theorem dX12_layOut_2 : decode cX12_layOut 2 = .ok (.iconst 0, 1) := by decide +kernel
theorem dX12_layOut_3 : decode cX12_layOut 3 = .ok (.istore_n 3, 1) := by decide +kernel
theorem dX12_layOut_4 : decode cX12_layOut 4 = .ok (.iload_n 3, 1) := by decide +kernel
theorem dX12_layOut_5 : decode cX12_layOut 5 = .ok (.bipush 7, 2) := by decide +kernel
theorem dX12_layOut_7 : decode cX12_layOut 7 = .ok (.if_icmp .ge 27, 3) := by decide +kernel
theorem dX12_layOut_10 : decode cX12_layOut 10 = .ok (.iload_n 0, 1) := by decide +kernel
theorem dX12_layOut_11 : decode cX12_layOut 11 = .ok (.iload_n 3, 1) := by decide +kernel
theorem dX12_layOut_12 : decode cX12_layOut 12 = .ok (.invokestatic 279, 3) := by decide +kernel
theorem dX12_layOut_15 : decode cX12_layOut 15 = .ok (.ifCond .ne 6, 3) := by decide +kernel
theorem dX12_layOut_18 : decode cX12_layOut 18 = .ok (.goto 10, 3) := by decide +kernel
theorem dX12_layOut_21 : decode cX12_layOut 21 = .ok (.aload_n 1, 1) := by decide +kernel
theorem dX12_layOut_22 : decode cX12_layOut 22 = .ok (.iload_n 2, 1) := by decide +kernel
theorem dX12_layOut_23 : decode cX12_layOut 23 = .ok (.iload_n 3, 1) := by decide +kernel
theorem dX12_layOut_24 : decode cX12_layOut 24 = .ok (.iastore, 1) := by decide +kernel
theorem dX12_layOut_25 : decode cX12_layOut 25 = .ok (.iinc 2 1, 3) := by decide +kernel
theorem dX12_layOut_28 : decode cX12_layOut 28 = .ok (.iinc 3 1, 3) := by decide +kernel
theorem dX12_layOut_31 : decode cX12_layOut 31 = .ok (.goto (-27), 3) := by decide +kernel
theorem dX12_layOut_34 : decode cX12_layOut 34 = .ok (.iload_n 2, 1) := by decide +kernel
theorem dX12_layOut_35 : decode cX12_layOut 35 = .ok (.ireturn, 1) := by decide +kernel
theorem dX12_hauledBy_0 : decode cX12_hauledBy 0 = .ok (.iload_n 2, 1) := by decide +kernel
theorem dX12_hauledBy_1 : decode cX12_hauledBy 1 = .ok (.istore 5, 2) := by decide +kernel
theorem dX12_hauledBy_3 : decode cX12_hauledBy 3 = .ok (.iconst 0, 1) := by decide +kernel
theorem dX12_hauledBy_4 : decode cX12_hauledBy 4 = .ok (.istore 6, 2) := by decide +kernel
theorem dX12_hauledBy_6 : decode cX12_hauledBy 6 = .ok (.iconst 0, 1) := by decide +kernel
theorem dX12_hauledBy_7 : decode cX12_hauledBy 7 = .ok (.istore 7, 2) := by decide +kernel
theorem dX12_hauledBy_9 : decode cX12_hauledBy 9 = .ok (.iload_n 3, 1) := by decide +kernel
theorem dX12_hauledBy_10 : decode cX12_hauledBy 10 = .ok (.iconst 1, 1) := by decide +kernel
theorem dX12_hauledBy_11 : decode cX12_hauledBy 11 = .ok (.isub, 1) := by decide +kernel
theorem dX12_hauledBy_12 : decode cX12_hauledBy 12 = .ok (.istore 8, 2) := by decide +kernel
theorem dX12_hauledBy_14 : decode cX12_hauledBy 14 = .ok (.iload 8, 2) := by decide +kernel
theorem dX12_hauledBy_16 : decode cX12_hauledBy 16 = .ok (.ifCond .lt 116, 3) := by decide +kernel
theorem dX12_hauledBy_19 : decode cX12_hauledBy 19 = .ok (.iload 5, 2) := by decide +kernel
theorem dX12_hauledBy_21 : decode cX12_hauledBy 21 = .ok (.iload 4, 2) := by decide +kernel
theorem dX12_hauledBy_23 : decode cX12_hauledBy 23 = .ok (.iconst 1, 1) := by decide +kernel
theorem dX12_hauledBy_24 : decode cX12_hauledBy 24 = .ok (.iadd, 1) := by decide +kernel
theorem dX12_hauledBy_25 : decode cX12_hauledBy 25 = .ok (.irem, 1) := by decide +kernel
theorem dX12_hauledBy_26 : decode cX12_hauledBy 26 = .ok (.istore 9, 2) := by decide +kernel
theorem dX12_hauledBy_28 : decode cX12_hauledBy 28 = .ok (.iload 5, 2) := by decide +kernel
theorem dX12_hauledBy_30 : decode cX12_hauledBy 30 = .ok (.iload 4, 2) := by decide +kernel
theorem dX12_hauledBy_32 : decode cX12_hauledBy 32 = .ok (.iconst 1, 1) := by decide +kernel
theorem dX12_hauledBy_33 : decode cX12_hauledBy 33 = .ok (.iadd, 1) := by decide +kernel
theorem dX12_hauledBy_34 : decode cX12_hauledBy 34 = .ok (.idiv, 1) := by decide +kernel
theorem dX12_hauledBy_35 : decode cX12_hauledBy 35 = .ok (.istore 5, 2) := by decide +kernel
theorem dX12_hauledBy_37 : decode cX12_hauledBy 37 = .ok (.aload_n 0, 1) := by decide +kernel
theorem dX12_hauledBy_38 : decode cX12_hauledBy 38 = .ok (.getfield 71, 3) := by decide +kernel
theorem dX12_hauledBy_41 : decode cX12_hauledBy 41 = .ok (.iload 8, 2) := by decide +kernel
theorem dX12_hauledBy_43 : decode cX12_hauledBy 43 = .ok (.iload 9, 2) := by decide +kernel
theorem dX12_hauledBy_45 : decode cX12_hauledBy 45 = .ok (.iastore, 1) := by decide +kernel
theorem dX12_hauledBy_46 : decode cX12_hauledBy 46 = .ok (.iload 9, 2) := by decide +kernel
theorem dX12_hauledBy_48 : decode cX12_hauledBy 48 = .ok (.iload 4, 2) := by decide +kernel
theorem dX12_hauledBy_50 : decode cX12_hauledBy 50 = .ok (.if_icmp .ge 15, 3) := by decide +kernel
theorem dX12_hauledBy_53 : decode cX12_hauledBy 53 = .ok (.iload 6, 2) := by decide +kernel
theorem dX12_hauledBy_55 : decode cX12_hauledBy 55 = .ok (.iload 9, 2) := by decide +kernel
theorem dX12_hauledBy_57 : decode cX12_hauledBy 57 = .ok (.invokestatic 279, 3) := by decide +kernel
theorem dX12_hauledBy_60 : decode cX12_hauledBy 60 = .ok (.ifCond .eq 5, 3) := by decide +kernel
theorem dX12_hauledBy_63 : decode cX12_hauledBy 63 = .ok (.iconst (-1), 1) := by decide +kernel
theorem dX12_hauledBy_64 : decode cX12_hauledBy 64 = .ok (.ireturn, 1) := by decide +kernel
theorem dX12_hauledBy_65 : decode cX12_hauledBy 65 = .ok (.iload 9, 2) := by decide +kernel
theorem dX12_hauledBy_67 : decode cX12_hauledBy 67 = .ok (.iload 4, 2) := by decide +kernel
theorem dX12_hauledBy_69 : decode cX12_hauledBy 69 = .ok (.if_icmp .ge 12, 3) := by decide +kernel
theorem dX12_hauledBy_72 : decode cX12_hauledBy 72 = .ok (.iload 6, 2) := by decide +kernel
theorem dX12_hauledBy_74 : decode cX12_hauledBy 74 = .ok (.iconst 1, 1) := by decide +kernel
theorem dX12_hauledBy_75 : decode cX12_hauledBy 75 = .ok (.iload 9, 2) := by decide +kernel
theorem dX12_hauledBy_77 : decode cX12_hauledBy 77 = .ok (.ishl, 1) := by decide +kernel
theorem dX12_hauledBy_78 : decode cX12_hauledBy 78 = .ok (.ior, 1) := by decide +kernel
theorem dX12_hauledBy_79 : decode cX12_hauledBy 79 = .ok (.istore 6, 2) := by decide +kernel
theorem dX12_hauledBy_81 : decode cX12_hauledBy 81 = .ok (.iload 7, 2) := by decide +kernel
theorem dX12_hauledBy_83 : decode cX12_hauledBy 83 = .ok (.aload_n 0, 1) := by decide +kernel
theorem dX12_hauledBy_84 : decode cX12_hauledBy 84 = .ok (.iload_n 1, 1) := by decide +kernel
theorem dX12_hauledBy_85 : decode cX12_hauledBy 85 = .ok (.aload_n 0, 1) := by decide +kernel
theorem dX12_hauledBy_86 : decode cX12_hauledBy 86 = .ok (.aload_n 0, 1) := by decide +kernel
theorem dX12_hauledBy_87 : decode cX12_hauledBy 87 = .ok (.getfield 65, 3) := by decide +kernel
theorem dX12_hauledBy_90 : decode cX12_hauledBy 90 = .ok (.iload 8, 2) := by decide +kernel
theorem dX12_hauledBy_92 : decode cX12_hauledBy 92 = .ok (.iaload, 1) := by decide +kernel
theorem dX12_hauledBy_93 : decode cX12_hauledBy 93 = .ok (.iconst 0, 1) := by decide +kernel
theorem dX12_hauledBy_94 : decode cX12_hauledBy 94 = .ok (.invokevirtual 340, 3) := by decide +kernel
theorem dX12_hauledBy_97 : decode cX12_hauledBy 97 = .ok (.iload 9, 2) := by decide +kernel
theorem dX12_hauledBy_99 : decode cX12_hauledBy 99 = .ok (.iload 4, 2) := by decide +kernel
theorem dX12_hauledBy_101 : decode cX12_hauledBy 101 = .ok (.if_icmp .ge 18, 3) := by decide +kernel
theorem dX12_hauledBy_104 : decode cX12_hauledBy 104 = .ok (.aload_n 0, 1) := by decide +kernel
theorem dX12_hauledBy_105 : decode cX12_hauledBy 105 = .ok (.aload_n 0, 1) := by decide +kernel
theorem dX12_hauledBy_106 : decode cX12_hauledBy 106 = .ok (.getfield 68, 3) := by decide +kernel
theorem dX12_hauledBy_109 : decode cX12_hauledBy 109 = .ok (.iload 9, 2) := by decide +kernel
theorem dX12_hauledBy_111 : decode cX12_hauledBy 111 = .ok (.iaload, 1) := by decide +kernel
theorem dX12_hauledBy_112 : decode cX12_hauledBy 112 = .ok (.iconst 0, 1) := by decide +kernel
theorem dX12_hauledBy_113 : decode cX12_hauledBy 113 = .ok (.invokevirtual 340, 3) := by decide +kernel
theorem dX12_hauledBy_116 : decode cX12_hauledBy 116 = .ok (.goto 4, 3) := by decide +kernel
theorem dX12_hauledBy_119 : decode cX12_hauledBy 119 = .ok (.iconst 0, 1) := by decide +kernel
theorem dX12_hauledBy_120 : decode cX12_hauledBy 120 = .ok (.invokevirtual 352, 3) := by decide +kernel
theorem dX12_hauledBy_123 : decode cX12_hauledBy 123 = .ok (.iadd, 1) := by decide +kernel
theorem dX12_hauledBy_124 : decode cX12_hauledBy 124 = .ok (.istore 7, 2) := by decide +kernel
theorem dX12_hauledBy_126 : decode cX12_hauledBy 126 = .ok (.iinc 8 (-1), 3) := by decide +kernel
theorem dX12_hauledBy_129 : decode cX12_hauledBy 129 = .ok (.goto (-115), 3) := by decide +kernel
theorem dX12_hauledBy_132 : decode cX12_hauledBy 132 = .ok (.iload 7, 2) := by decide +kernel
theorem dX12_hauledBy_134 : decode cX12_hauledBy 134 = .ok (.ireturn, 1) := by decide +kernel
theorem dX12_bestHauling_0 : decode cX12_bestHauling 0 = .ok (.iconst 1, 1) := by decide +kernel
theorem dX12_bestHauling_1 : decode cX12_bestHauling 1 = .ok (.istore 4, 2) := by decide +kernel
theorem dX12_bestHauling_3 : decode cX12_bestHauling 3 = .ok (.iconst 0, 1) := by decide +kernel
theorem dX12_bestHauling_4 : decode cX12_bestHauling 4 = .ok (.istore 5, 2) := by decide +kernel
theorem dX12_bestHauling_6 : decode cX12_bestHauling 6 = .ok (.iload 5, 2) := by decide +kernel
theorem dX12_bestHauling_8 : decode cX12_bestHauling 8 = .ok (.iload_n 2, 1) := by decide +kernel
theorem dX12_bestHauling_9 : decode cX12_bestHauling 9 = .ok (.if_icmp .ge 17, 3) := by decide +kernel
theorem dX12_bestHauling_12 : decode cX12_bestHauling 12 = .ok (.iload 4, 2) := by decide +kernel
theorem dX12_bestHauling_14 : decode cX12_bestHauling 14 = .ok (.iload_n 3, 1) := by decide +kernel
theorem dX12_bestHauling_15 : decode cX12_bestHauling 15 = .ok (.iconst 1, 1) := by decide +kernel
theorem dX12_bestHauling_16 : decode cX12_bestHauling 16 = .ok (.iadd, 1) := by decide +kernel
theorem dX12_bestHauling_17 : decode cX12_bestHauling 17 = .ok (.imul, 1) := by decide +kernel
theorem dX12_bestHauling_18 : decode cX12_bestHauling 18 = .ok (.istore 4, 2) := by decide +kernel
theorem dX12_bestHauling_20 : decode cX12_bestHauling 20 = .ok (.iinc 5 1, 3) := by decide +kernel
theorem dX12_bestHauling_23 : decode cX12_bestHauling 23 = .ok (.goto (-17), 3) := by decide +kernel
theorem dX12_bestHauling_26 : decode cX12_bestHauling 26 = .ok (.ldc_w 436, 3) := by decide +kernel
theorem dX12_bestHauling_29 : decode cX12_bestHauling 29 = .ok (.istore 5, 2) := by decide +kernel
theorem dX12_bestHauling_31 : decode cX12_bestHauling 31 = .ok (.iconst 0, 1) := by decide +kernel
theorem dX12_bestHauling_32 : decode cX12_bestHauling 32 = .ok (.istore 6, 2) := by decide +kernel
theorem dX12_bestHauling_34 : decode cX12_bestHauling 34 = .ok (.iload 6, 2) := by decide +kernel
theorem dX12_bestHauling_36 : decode cX12_bestHauling 36 = .ok (.iload 4, 2) := by decide +kernel
theorem dX12_bestHauling_38 : decode cX12_bestHauling 38 = .ok (.if_icmp .ge 68, 3) := by decide +kernel
theorem dX12_bestHauling_41 : decode cX12_bestHauling 41 = .ok (.aload_n 0, 1) := by decide +kernel
theorem dX12_bestHauling_42 : decode cX12_bestHauling 42 = .ok (.iload_n 1, 1) := by decide +kernel
theorem dX12_bestHauling_43 : decode cX12_bestHauling 43 = .ok (.iload 6, 2) := by decide +kernel
theorem dX12_bestHauling_45 : decode cX12_bestHauling 45 = .ok (.iload_n 2, 1) := by decide +kernel
theorem dX12_bestHauling_46 : decode cX12_bestHauling 46 = .ok (.iload_n 3, 1) := by decide +kernel
theorem dX12_bestHauling_47 : decode cX12_bestHauling 47 = .ok (.invokevirtual 443, 3) := by decide +kernel
theorem dX12_bestHauling_50 : decode cX12_bestHauling 50 = .ok (.istore 7, 2) := by decide +kernel
theorem dX12_bestHauling_52 : decode cX12_bestHauling 52 = .ok (.iload 7, 2) := by decide +kernel
theorem dX12_bestHauling_54 : decode cX12_bestHauling 54 = .ok (.ifCond .lt 46, 3) := by decide +kernel
theorem dX12_bestHauling_57 : decode cX12_bestHauling 57 = .ok (.iload 7, 2) := by decide +kernel
theorem dX12_bestHauling_59 : decode cX12_bestHauling 59 = .ok (.iload 5, 2) := by decide +kernel
theorem dX12_bestHauling_61 : decode cX12_bestHauling 61 = .ok (.if_icmp .lt 6, 3) := by decide +kernel
theorem dX12_bestHauling_64 : decode cX12_bestHauling 64 = .ok (.goto 36, 3) := by decide +kernel
theorem dX12_bestHauling_67 : decode cX12_bestHauling 67 = .ok (.iload 7, 2) := by decide +kernel
theorem dX12_bestHauling_69 : decode cX12_bestHauling 69 = .ok (.istore 5, 2) := by decide +kernel
theorem dX12_bestHauling_71 : decode cX12_bestHauling 71 = .ok (.iconst 0, 1) := by decide +kernel
theorem dX12_bestHauling_72 : decode cX12_bestHauling 72 = .ok (.istore 8, 2) := by decide +kernel
theorem dX12_bestHauling_74 : decode cX12_bestHauling 74 = .ok (.iload 8, 2) := by decide +kernel
theorem dX12_bestHauling_76 : decode cX12_bestHauling 76 = .ok (.iload_n 2, 1) := by decide +kernel
theorem dX12_bestHauling_77 : decode cX12_bestHauling 77 = .ok (.if_icmp .ge 23, 3) := by decide +kernel
theorem dX12_bestHauling_80 : decode cX12_bestHauling 80 = .ok (.aload_n 0, 1) := by decide +kernel
theorem dX12_bestHauling_81 : decode cX12_bestHauling 81 = .ok (.getfield 74, 3) := by decide +kernel
theorem dX12_bestHauling_84 : decode cX12_bestHauling 84 = .ok (.iload 8, 2) := by decide +kernel
theorem dX12_bestHauling_86 : decode cX12_bestHauling 86 = .ok (.aload_n 0, 1) := by decide +kernel
theorem dX12_bestHauling_87 : decode cX12_bestHauling 87 = .ok (.getfield 71, 3) := by decide +kernel
theorem dX12_bestHauling_90 : decode cX12_bestHauling 90 = .ok (.iload 8, 2) := by decide +kernel
theorem dX12_bestHauling_92 : decode cX12_bestHauling 92 = .ok (.iaload, 1) := by decide +kernel
theorem dX12_bestHauling_93 : decode cX12_bestHauling 93 = .ok (.iastore, 1) := by decide +kernel
theorem dX12_bestHauling_94 : decode cX12_bestHauling 94 = .ok (.iinc 8 1, 3) := by decide +kernel
theorem dX12_bestHauling_97 : decode cX12_bestHauling 97 = .ok (.goto (-23), 3) := by decide +kernel
theorem dX12_bestHauling_100 : decode cX12_bestHauling 100 = .ok (.iinc 6 1, 3) := by decide +kernel
theorem dX12_bestHauling_103 : decode cX12_bestHauling 103 = .ok (.goto (-69), 3) := by decide +kernel
theorem dX12_bestHauling_106 : decode cX12_bestHauling 106 = .ok (.iload 5, 2) := by decide +kernel
theorem dX12_bestHauling_108 : decode cX12_bestHauling 108 = .ok (.ireturn, 1) := by decide +kernel
theorem dX12_hauling_0 : decode cX12_hauling 0 = .ok (.iconst 1, 1) := by decide +kernel
theorem dX12_hauling_1 : decode cX12_hauling 1 = .ok (.aload_n 0, 1) := by decide +kernel
theorem dX12_hauling_2 : decode cX12_hauling 2 = .ok (.getfield 7, 3) := by decide +kernel
theorem dX12_hauling_5 : decode cX12_hauling 5 = .ok (.iconst 1, 1) := by decide +kernel
theorem dX12_hauling_6 : decode cX12_hauling 6 = .ok (.iaload, 1) := by decide +kernel
theorem dX12_hauling_7 : decode cX12_hauling 7 = .ok (.ishl, 1) := by decide +kernel
theorem dX12_hauling_8 : decode cX12_hauling 8 = .ok (.iconst 1, 1) := by decide +kernel
theorem dX12_hauling_9 : decode cX12_hauling 9 = .ok (.isub, 1) := by decide +kernel
theorem dX12_hauling_10 : decode cX12_hauling 10 = .ok (.istore 5, 2) := by decide +kernel
theorem dX12_hauling_12 : decode cX12_hauling 12 = .ok (.aload_n 0, 1) := by decide +kernel
theorem dX12_hauling_13 : decode cX12_hauling 13 = .ok (.iload_n 1, 1) := by decide +kernel
theorem dX12_hauling_14 : decode cX12_hauling 14 = .ok (.invokevirtual 390, 3) := by decide +kernel
theorem dX12_hauling_17 : decode cX12_hauling 17 = .ok (.ifCond .eq 45, 3) := by decide +kernel
theorem dX12_hauling_20 : decode cX12_hauling 20 = .ok (.iload_n 2, 1) := by decide +kernel
theorem dX12_hauling_21 : decode cX12_hauling 21 = .ok (.iconst 1, 1) := by decide +kernel
theorem dX12_hauling_22 : decode cX12_hauling 22 = .ok (.iload 5, 2) := by decide +kernel
theorem dX12_hauling_24 : decode cX12_hauling 24 = .ok (.invokestatic 90, 3) := by decide +kernel
theorem dX12_hauling_27 : decode cX12_hauling 27 = .ok (.ifCond .eq 35, 3) := by decide +kernel
theorem dX12_hauling_30 : decode cX12_hauling 30 = .ok (.iload_n 3, 1) := by decide +kernel
theorem dX12_hauling_31 : decode cX12_hauling 31 = .ok (.iconst 0, 1) := by decide +kernel
theorem dX12_hauling_32 : decode cX12_hauling 32 = .ok (.iload 5, 2) := by decide +kernel
theorem dX12_hauling_34 : decode cX12_hauling 34 = .ok (.invokestatic 90, 3) := by decide +kernel
theorem dX12_hauling_37 : decode cX12_hauling 37 = .ok (.ifCond .eq 25, 3) := by decide +kernel
theorem dX12_hauling_40 : decode cX12_hauling 40 = .ok (.iload_n 2, 1) := by decide +kernel
theorem dX12_hauling_41 : decode cX12_hauling 41 = .ok (.iload_n 3, 1) := by decide +kernel
theorem dX12_hauling_42 : decode cX12_hauling 42 = .ok (.iand, 1) := by decide +kernel
theorem dX12_hauling_43 : decode cX12_hauling 43 = .ok (.ifCond .ne 19, 3) := by decide +kernel
theorem dX12_hauling_46 : decode cX12_hauling 46 = .ok (.iload_n 2, 1) := by decide +kernel
theorem dX12_hauling_47 : decode cX12_hauling 47 = .ok (.invokestatic 446, 3) := by decide +kernel
theorem dX12_hauling_50 : decode cX12_hauling 50 = .ok (.iconst 4, 1) := by decide +kernel
theorem dX12_hauling_51 : decode cX12_hauling 51 = .ok (.if_icmp .gt 11, 3) := by decide +kernel
theorem dX12_hauling_54 : decode cX12_hauling 54 = .ok (.iload_n 3, 1) := by decide +kernel
theorem dX12_hauling_55 : decode cX12_hauling 55 = .ok (.invokestatic 446, 3) := by decide +kernel
theorem dX12_hauling_58 : decode cX12_hauling 58 = .ok (.iconst 4, 1) := by decide +kernel
theorem dX12_hauling_59 : decode cX12_hauling 59 = .ok (.if_icmp .le 6, 3) := by decide +kernel
theorem dX12_hauling_62 : decode cX12_hauling 62 = .ok (.bipush (-2), 2) := by decide +kernel
theorem dX12_hauling_64 : decode cX12_hauling 64 = .ok (.ireturn, 1) := by decide +kernel
theorem dX12_hauling_65 : decode cX12_hauling 65 = .ok (.iload 4, 2) := by decide +kernel
theorem dX12_hauling_67 : decode cX12_hauling 67 = .ok (.iconst (-1), 1) := by decide +kernel
theorem dX12_hauling_68 : decode cX12_hauling 68 = .ok (.if_icmp .eq 26, 3) := by decide +kernel
theorem dX12_hauling_71 : decode cX12_hauling 71 = .ok (.aload_n 0, 1) := by decide +kernel
theorem dX12_hauling_72 : decode cX12_hauling 72 = .ok (.iload 4, 2) := by decide +kernel
theorem dX12_hauling_74 : decode cX12_hauling 74 = .ok (.invokevirtual 393, 3) := by decide +kernel
theorem dX12_hauling_77 : decode cX12_hauling 77 = .ok (.ifCond .eq 14, 3) := by decide +kernel
theorem dX12_hauling_80 : decode cX12_hauling 80 = .ok (.iload_n 2, 1) := by decide +kernel
theorem dX12_hauling_81 : decode cX12_hauling 81 = .ok (.iload_n 3, 1) := by decide +kernel
theorem dX12_hauling_82 : decode cX12_hauling 82 = .ok (.ior, 1) := by decide +kernel
theorem dX12_hauling_83 : decode cX12_hauling 83 = .ok (.iload 4, 2) := by decide +kernel
theorem dX12_hauling_85 : decode cX12_hauling 85 = .ok (.invokestatic 279, 3) := by decide +kernel
theorem dX12_hauling_88 : decode cX12_hauling 88 = .ok (.ifCond .ne 6, 3) := by decide +kernel
theorem dX12_hauling_91 : decode cX12_hauling 91 = .ok (.bipush (-2), 2) := by decide +kernel
theorem dX12_hauling_93 : decode cX12_hauling 93 = .ok (.ireturn, 1) := by decide +kernel
theorem dX12_hauling_94 : decode cX12_hauling 94 = .ok (.iload_n 2, 1) := by decide +kernel
theorem dX12_hauling_95 : decode cX12_hauling 95 = .ok (.aload_n 0, 1) := by decide +kernel
theorem dX12_hauling_96 : decode cX12_hauling 96 = .ok (.getfield 65, 3) := by decide +kernel
theorem dX12_hauling_99 : decode cX12_hauling 99 = .ok (.invokestatic 449, 3) := by decide +kernel
theorem dX12_hauling_102 : decode cX12_hauling 102 = .ok (.istore 6, 2) := by decide +kernel
theorem dX12_hauling_104 : decode cX12_hauling 104 = .ok (.iload_n 3, 1) := by decide +kernel
theorem dX12_hauling_105 : decode cX12_hauling 105 = .ok (.aload_n 0, 1) := by decide +kernel
theorem dX12_hauling_106 : decode cX12_hauling 106 = .ok (.getfield 68, 3) := by decide +kernel
theorem dX12_hauling_109 : decode cX12_hauling 109 = .ok (.invokestatic 449, 3) := by decide +kernel
theorem dX12_hauling_112 : decode cX12_hauling 112 = .ok (.istore 7, 2) := by decide +kernel
theorem dX12_hauling_114 : decode cX12_hauling 114 = .ok (.aload_n 0, 1) := by decide +kernel
theorem dX12_hauling_115 : decode cX12_hauling 115 = .ok (.iload_n 1, 1) := by decide +kernel
theorem dX12_hauling_116 : decode cX12_hauling 116 = .ok (.iload 6, 2) := by decide +kernel
theorem dX12_hauling_118 : decode cX12_hauling 118 = .ok (.iload 7, 2) := by decide +kernel
theorem dX12_hauling_120 : decode cX12_hauling 120 = .ok (.invokevirtual 453, 3) := by decide +kernel
theorem dX12_hauling_123 : decode cX12_hauling 123 = .ok (.istore 8, 2) := by decide +kernel
theorem dX12_hauling_125 : decode cX12_hauling 125 = .ok (.iload 4, 2) := by decide +kernel
theorem dX12_hauling_127 : decode cX12_hauling 127 = .ok (.iconst (-1), 1) := by decide +kernel
theorem dX12_hauling_128 : decode cX12_hauling 128 = .ok (.if_icmp .ne 6, 3) := by decide +kernel
theorem dX12_hauling_131 : decode cX12_hauling 131 = .ok (.iload 8, 2) := by decide +kernel
theorem dX12_hauling_133 : decode cX12_hauling 133 = .ok (.ireturn, 1) := by decide +kernel
theorem dX12_hauling_134 : decode cX12_hauling 134 = .ok (.iconst 0, 1) := by decide +kernel
theorem dX12_hauling_135 : decode cX12_hauling 135 = .ok (.istore 9, 2) := by decide +kernel
theorem dX12_hauling_137 : decode cX12_hauling 137 = .ok (.iload 9, 2) := by decide +kernel
theorem dX12_hauling_139 : decode cX12_hauling 139 = .ok (.iload 6, 2) := by decide +kernel
theorem dX12_hauling_141 : decode cX12_hauling 141 = .ok (.if_icmp .ge 69, 3) := by decide +kernel
theorem dX12_hauling_144 : decode cX12_hauling 144 = .ok (.aload_n 0, 1) := by decide +kernel
theorem dX12_hauling_145 : decode cX12_hauling 145 = .ok (.getfield 74, 3) := by decide +kernel
theorem dX12_hauling_148 : decode cX12_hauling 148 = .ok (.iload 9, 2) := by decide +kernel
theorem dX12_hauling_150 : decode cX12_hauling 150 = .ok (.iaload, 1) := by decide +kernel
theorem dX12_hauling_151 : decode cX12_hauling 151 = .ok (.iload 7, 2) := by decide +kernel
theorem dX12_hauling_153 : decode cX12_hauling 153 = .ok (.if_icmp .ge 18, 3) := by decide +kernel
theorem dX12_hauling_156 : decode cX12_hauling 156 = .ok (.aload_n 0, 1) := by decide +kernel
theorem dX12_hauling_157 : decode cX12_hauling 157 = .ok (.getfield 68, 3) := by decide +kernel
theorem dX12_hauling_160 : decode cX12_hauling 160 = .ok (.aload_n 0, 1) := by decide +kernel
theorem dX12_hauling_161 : decode cX12_hauling 161 = .ok (.getfield 74, 3) := by decide +kernel
theorem dX12_hauling_164 : decode cX12_hauling 164 = .ok (.iload 9, 2) := by decide +kernel
theorem dX12_hauling_166 : decode cX12_hauling 166 = .ok (.iaload, 1) := by decide +kernel
theorem dX12_hauling_167 : decode cX12_hauling 167 = .ok (.iaload, 1) := by decide +kernel
theorem dX12_hauling_168 : decode cX12_hauling 168 = .ok (.goto 4, 3) := by decide +kernel
theorem dX12_hauling_171 : decode cX12_hauling 171 = .ok (.iconst (-1), 1) := by decide +kernel
theorem dX12_hauling_172 : decode cX12_hauling 172 = .ok (.istore 10, 2) := by decide +kernel
theorem dX12_hauling_174 : decode cX12_hauling 174 = .ok (.aload_n 0, 1) := by decide +kernel
theorem dX12_hauling_175 : decode cX12_hauling 175 = .ok (.getfield 65, 3) := by decide +kernel
theorem dX12_hauling_178 : decode cX12_hauling 178 = .ok (.iload 9, 2) := by decide +kernel
theorem dX12_hauling_180 : decode cX12_hauling 180 = .ok (.iaload, 1) := by decide +kernel
theorem dX12_hauling_181 : decode cX12_hauling 181 = .ok (.iload 4, 2) := by decide +kernel
theorem dX12_hauling_183 : decode cX12_hauling 183 = .ok (.if_icmp .ne 6, 3) := by decide +kernel
theorem dX12_hauling_186 : decode cX12_hauling 186 = .ok (.iload 10, 2) := by decide +kernel
theorem dX12_hauling_188 : decode cX12_hauling 188 = .ok (.ireturn, 1) := by decide +kernel
theorem dX12_hauling_189 : decode cX12_hauling 189 = .ok (.iload 10, 2) := by decide +kernel
theorem dX12_hauling_191 : decode cX12_hauling 191 = .ok (.iload 4, 2) := by decide +kernel
theorem dX12_hauling_193 : decode cX12_hauling 193 = .ok (.if_icmp .ne 11, 3) := by decide +kernel
theorem dX12_hauling_196 : decode cX12_hauling 196 = .ok (.aload_n 0, 1) := by decide +kernel
theorem dX12_hauling_197 : decode cX12_hauling 197 = .ok (.getfield 65, 3) := by decide +kernel
theorem dX12_hauling_200 : decode cX12_hauling 200 = .ok (.iload 9, 2) := by decide +kernel
theorem dX12_hauling_202 : decode cX12_hauling 202 = .ok (.iaload, 1) := by decide +kernel
theorem dX12_hauling_203 : decode cX12_hauling 203 = .ok (.ireturn, 1) := by decide +kernel
theorem dX12_hauling_204 : decode cX12_hauling 204 = .ok (.iinc 9 1, 3) := by decide +kernel
theorem dX12_hauling_207 : decode cX12_hauling 207 = .ok (.goto (-70), 3) := by decide +kernel
theorem dX12_hauling_210 : decode cX12_hauling 210 = .ok (.iconst (-1), 1) := by decide +kernel
theorem dX12_hauling_211 : decode cX12_hauling 211 = .ok (.ireturn, 1) := by decide +kernel
theorem dX12_thing_0 : decode cX12_thing 0 = .ok (.iload_n 1, 1) := by decide +kernel
theorem dX12_thing_1 : decode cX12_thing 1 = .ok (.iconst 1, 1) := by decide +kernel
theorem dX12_thing_2 : decode cX12_thing 2 = .ok (.bipush 99, 2) := by decide +kernel
theorem dX12_thing_4 : decode cX12_thing 4 = .ok (.invokestatic 90, 3) := by decide +kernel
theorem dX12_thing_7 : decode cX12_thing 7 = .ok (.ifCond .eq 11, 3) := by decide +kernel
theorem dX12_thing_10 : decode cX12_thing 10 = .ok (.aload_n 0, 1) := by decide +kernel
theorem dX12_thing_11 : decode cX12_thing 11 = .ok (.iload_n 2, 1) := by decide +kernel
theorem dX12_thing_12 : decode cX12_thing 12 = .ok (.invokevirtual 102, 3) := by decide +kernel
theorem dX12_thing_15 : decode cX12_thing 15 = .ok (.ifCond .ne 5, 3) := by decide +kernel
theorem dX12_thing_18 : decode cX12_thing 18 = .ok (.iconst (-1), 1) := by decide +kernel
theorem dX12_thing_19 : decode cX12_thing 19 = .ok (.ireturn, 1) := by decide +kernel
theorem dX12_thing_20 : decode cX12_thing 20 = .ok (.iload_n 2, 1) := by decide +kernel
theorem dX12_thing_21 : decode cX12_thing 21 = .ok (.istore_n 3, 1) := by decide +kernel
theorem dX12_thing_22 : decode cX12_thing 22 = .ok (.iload_n 3, 1) := by decide +kernel
theorem dX12_thing_23 : decode cX12_thing 23 = .ok (.aload_n 0, 1) := by decide +kernel
theorem dX12_thing_24 : decode cX12_thing 24 = .ok (.getfield 7, 3) := by decide +kernel
theorem dX12_thing_27 : decode cX12_thing 27 = .ok (.iconst 0, 1) := by decide +kernel
theorem dX12_thing_28 : decode cX12_thing 28 = .ok (.iaload, 1) := by decide +kernel
theorem dX12_thing_29 : decode cX12_thing 29 = .ok (.if_icmp .ge 18, 3) := by decide +kernel
theorem dX12_thing_32 : decode cX12_thing 32 = .ok (.aload_n 0, 1) := by decide +kernel
theorem dX12_thing_33 : decode cX12_thing 33 = .ok (.iload_n 3, 1) := by decide +kernel
theorem dX12_thing_34 : decode cX12_thing 34 = .ok (.iload_n 1, 1) := by decide +kernel
theorem dX12_thing_35 : decode cX12_thing 35 = .ok (.invokevirtual 456, 3) := by decide +kernel
theorem dX12_thing_38 : decode cX12_thing 38 = .ok (.ifCond .eq 9, 3) := by decide +kernel
theorem dX12_thing_41 : decode cX12_thing 41 = .ok (.iinc 3 1, 3) := by decide +kernel
theorem dX12_thing_44 : decode cX12_thing 44 = .ok (.goto (-22), 3) := by decide +kernel
theorem dX12_thing_47 : decode cX12_thing 47 = .ok (.iload_n 3, 1) := by decide +kernel
theorem dX12_thing_48 : decode cX12_thing 48 = .ok (.ireturn, 1) := by decide +kernel
theorem dX12_upThere_0 : decode cX12_upThere 0 = .ok (.iload_n 1, 1) := by decide +kernel
theorem dX12_upThere_1 : decode cX12_upThere 1 = .ok (.iconst 1, 1) := by decide +kernel
theorem dX12_upThere_2 : decode cX12_upThere 2 = .ok (.bipush 99, 2) := by decide +kernel
theorem dX12_upThere_4 : decode cX12_upThere 4 = .ok (.invokestatic 90, 3) := by decide +kernel
theorem dX12_upThere_7 : decode cX12_upThere 7 = .ok (.ifCond .eq 11, 3) := by decide +kernel
theorem dX12_upThere_10 : decode cX12_upThere 10 = .ok (.aload_n 0, 1) := by decide +kernel
theorem dX12_upThere_11 : decode cX12_upThere 11 = .ok (.iload_n 2, 1) := by decide +kernel
theorem dX12_upThere_12 : decode cX12_upThere 12 = .ok (.invokevirtual 102, 3) := by decide +kernel
theorem dX12_upThere_15 : decode cX12_upThere 15 = .ok (.ifCond .ne 5, 3) := by decide +kernel
theorem dX12_upThere_18 : decode cX12_upThere 18 = .ok (.iconst (-1), 1) := by decide +kernel
theorem dX12_upThere_19 : decode cX12_upThere 19 = .ok (.ireturn, 1) := by decide +kernel
theorem dX12_upThere_20 : decode cX12_upThere 20 = .ok (.iconst 0, 1) := by decide +kernel
theorem dX12_upThere_21 : decode cX12_upThere 21 = .ok (.istore_n 3, 1) := by decide +kernel
theorem dX12_upThere_22 : decode cX12_upThere 22 = .ok (.iload_n 2, 1) := by decide +kernel
theorem dX12_upThere_23 : decode cX12_upThere 23 = .ok (.istore 4, 2) := by decide +kernel
theorem dX12_upThere_25 : decode cX12_upThere 25 = .ok (.iload 4, 2) := by decide +kernel
theorem dX12_upThere_27 : decode cX12_upThere 27 = .ok (.ifCond .lt 34, 3) := by decide +kernel
theorem dX12_upThere_30 : decode cX12_upThere 30 = .ok (.iload_n 3, 1) := by decide +kernel
theorem dX12_upThere_31 : decode cX12_upThere 31 = .ok (.iconst 1, 1) := by decide +kernel
theorem dX12_upThere_32 : decode cX12_upThere 32 = .ok (.iload 4, 2) := by decide +kernel
theorem dX12_upThere_34 : decode cX12_upThere 34 = .ok (.ishl, 1) := by decide +kernel
theorem dX12_upThere_35 : decode cX12_upThere 35 = .ok (.ior, 1) := by decide +kernel
theorem dX12_upThere_36 : decode cX12_upThere 36 = .ok (.istore_n 3, 1) := by decide +kernel
theorem dX12_upThere_37 : decode cX12_upThere 37 = .ok (.iinc 4 (-1), 3) := by decide +kernel
theorem dX12_upThere_40 : decode cX12_upThere 40 = .ok (.iload 4, 2) := by decide +kernel
theorem dX12_upThere_42 : decode cX12_upThere 42 = .ok (.ifCond .lt (-17), 3) := by decide +kernel
theorem dX12_upThere_45 : decode cX12_upThere 45 = .ok (.aload_n 0, 1) := by decide +kernel
theorem dX12_upThere_46 : decode cX12_upThere 46 = .ok (.iload 4, 2) := by decide +kernel
theorem dX12_upThere_48 : decode cX12_upThere 48 = .ok (.iload_n 1, 1) := by decide +kernel
theorem dX12_upThere_49 : decode cX12_upThere 49 = .ok (.invokevirtual 456, 3) := by decide +kernel
theorem dX12_upThere_52 : decode cX12_upThere 52 = .ok (.ifCond .ne (-27), 3) := by decide +kernel
theorem dX12_upThere_55 : decode cX12_upThere 55 = .ok (.iconst (-1), 1) := by decide +kernel
theorem dX12_upThere_56 : decode cX12_upThere 56 = .ok (.istore 4, 2) := by decide +kernel
theorem dX12_upThere_58 : decode cX12_upThere 58 = .ok (.goto (-33), 3) := by decide +kernel
theorem dX12_upThere_61 : decode cX12_upThere 61 = .ok (.iload_n 3, 1) := by decide +kernel
theorem dX12_upThere_62 : decode cX12_upThere 62 = .ok (.ireturn, 1) := by decide +kernel
theorem dX12_toRaise_0 : decode cX12_toRaise 0 = .ok (.aload_n 0, 1) := by decide +kernel
theorem dX12_toRaise_1 : decode cX12_toRaise 1 = .ok (.iload_n 1, 1) := by decide +kernel
theorem dX12_toRaise_2 : decode cX12_toRaise 2 = .ok (.invokevirtual 102, 3) := by decide +kernel
theorem dX12_toRaise_5 : decode cX12_toRaise 5 = .ok (.ifCond .ne 5, 3) := by decide +kernel
theorem dX12_toRaise_8 : decode cX12_toRaise 8 = .ok (.iconst (-1), 1) := by decide +kernel
theorem dX12_toRaise_9 : decode cX12_toRaise 9 = .ok (.ireturn, 1) := by decide +kernel
theorem dX12_toRaise_10 : decode cX12_toRaise 10 = .ok (.aload_n 0, 1) := by decide +kernel
theorem dX12_toRaise_11 : decode cX12_toRaise 11 = .ok (.iload_n 1, 1) := by decide +kernel
theorem dX12_toRaise_12 : decode cX12_toRaise 12 = .ok (.iconst 1, 1) := by decide +kernel
theorem dX12_toRaise_13 : decode cX12_toRaise 13 = .ok (.invokevirtual 98, 3) := by decide +kernel
theorem dX12_toRaise_16 : decode cX12_toRaise 16 = .ok (.istore_n 2, 1) := by decide +kernel
theorem dX12_toRaise_17 : decode cX12_toRaise 17 = .ok (.iconst (-1), 1) := by decide +kernel
theorem dX12_toRaise_18 : decode cX12_toRaise 18 = .ok (.istore_n 3, 1) := by decide +kernel
theorem dX12_toRaise_19 : decode cX12_toRaise 19 = .ok (.iload_n 2, 1) := by decide +kernel
theorem dX12_toRaise_20 : decode cX12_toRaise 20 = .ok (.istore 4, 2) := by decide +kernel
theorem dX12_toRaise_22 : decode cX12_toRaise 22 = .ok (.iload 4, 2) := by decide +kernel
theorem dX12_toRaise_24 : decode cX12_toRaise 24 = .ok (.bipush 99, 2) := by decide +kernel
theorem dX12_toRaise_26 : decode cX12_toRaise 26 = .ok (.if_icmp .gt 33, 3) := by decide +kernel
theorem dX12_toRaise_29 : decode cX12_toRaise 29 = .ok (.iload_n 3, 1) := by decide +kernel
theorem dX12_toRaise_30 : decode cX12_toRaise 30 = .ok (.iconst (-1), 1) := by decide +kernel
theorem dX12_toRaise_31 : decode cX12_toRaise 31 = .ok (.if_icmp .ne 28, 3) := by decide +kernel
theorem dX12_toRaise_34 : decode cX12_toRaise 34 = .ok (.aload_n 0, 1) := by decide +kernel
theorem dX12_toRaise_35 : decode cX12_toRaise 35 = .ok (.iload_n 1, 1) := by decide +kernel
theorem dX12_toRaise_36 : decode cX12_toRaise 36 = .ok (.iconst 1, 1) := by decide +kernel
theorem dX12_toRaise_37 : decode cX12_toRaise 37 = .ok (.iload 4, 2) := by decide +kernel
theorem dX12_toRaise_39 : decode cX12_toRaise 39 = .ok (.invokevirtual 94, 3) := by decide +kernel
theorem dX12_toRaise_42 : decode cX12_toRaise 42 = .ok (.aload_n 0, 1) := by decide +kernel
theorem dX12_toRaise_43 : decode cX12_toRaise 43 = .ok (.iload_n 1, 1) := by decide +kernel
theorem dX12_toRaise_44 : decode cX12_toRaise 44 = .ok (.invokevirtual 361, 3) := by decide +kernel
theorem dX12_toRaise_47 : decode cX12_toRaise 47 = .ok (.ifCond .ne 6, 3) := by decide +kernel
theorem dX12_toRaise_50 : decode cX12_toRaise 50 = .ok (.iload 4, 2) := by decide +kernel
theorem dX12_toRaise_52 : decode cX12_toRaise 52 = .ok (.istore_n 3, 1) := by decide +kernel
theorem dX12_toRaise_53 : decode cX12_toRaise 53 = .ok (.iinc 4 1, 3) := by decide +kernel
theorem dX12_toRaise_56 : decode cX12_toRaise 56 = .ok (.goto (-34), 3) := by decide +kernel
theorem dX12_toRaise_59 : decode cX12_toRaise 59 = .ok (.aload_n 0, 1) := by decide +kernel
theorem dX12_toRaise_60 : decode cX12_toRaise 60 = .ok (.iload_n 1, 1) := by decide +kernel
theorem dX12_toRaise_61 : decode cX12_toRaise 61 = .ok (.iconst 1, 1) := by decide +kernel
theorem dX12_toRaise_62 : decode cX12_toRaise 62 = .ok (.iload_n 2, 1) := by decide +kernel
theorem dX12_toRaise_63 : decode cX12_toRaise 63 = .ok (.invokevirtual 94, 3) := by decide +kernel
theorem dX12_toRaise_66 : decode cX12_toRaise 66 = .ok (.iload_n 3, 1) := by decide +kernel
theorem dX12_toRaise_67 : decode cX12_toRaise 67 = .ok (.ireturn, 1) := by decide +kernel
theorem dX12_worthOf_0 : decode cX12_worthOf 0 = .ok (.iconst 0, 1) := by decide +kernel
theorem dX12_worthOf_1 : decode cX12_worthOf 1 = .ok (.istore_n 3, 1) := by decide +kernel
theorem dX12_worthOf_2 : decode cX12_worthOf 2 = .ok (.iconst 0, 1) := by decide +kernel
theorem dX12_worthOf_3 : decode cX12_worthOf 3 = .ok (.istore 4, 2) := by decide +kernel
theorem dX12_worthOf_5 : decode cX12_worthOf 5 = .ok (.iconst 0, 1) := by decide +kernel
theorem dX12_worthOf_6 : decode cX12_worthOf 6 = .ok (.istore 5, 2) := by decide +kernel
theorem dX12_worthOf_8 : decode cX12_worthOf 8 = .ok (.iconst 0, 1) := by decide +kernel
theorem dX12_worthOf_9 : decode cX12_worthOf 9 = .ok (.istore 6, 2) := by decide +kernel
theorem dX12_worthOf_11 : decode cX12_worthOf 11 = .ok (.iload 6, 2) := by decide +kernel
theorem dX12_worthOf_13 : decode cX12_worthOf 13 = .ok (.aload_n 0, 1) := by decide +kernel
theorem dX12_worthOf_14 : decode cX12_worthOf 14 = .ok (.getfield 7, 3) := by decide +kernel
theorem dX12_worthOf_17 : decode cX12_worthOf 17 = .ok (.iconst 0, 1) := by decide +kernel
theorem dX12_worthOf_18 : decode cX12_worthOf 18 = .ok (.iaload, 1) := by decide +kernel
theorem dX12_worthOf_19 : decode cX12_worthOf 19 = .ok (.if_icmp .ge 83, 3) := by decide +kernel
theorem dX12_worthOf_22 : decode cX12_worthOf 22 = .ok (.iload 4, 2) := by decide +kernel
theorem dX12_worthOf_24 : decode cX12_worthOf 24 = .ok (.aload_n 0, 1) := by decide +kernel
theorem dX12_worthOf_25 : decode cX12_worthOf 25 = .ok (.iload 6, 2) := by decide +kernel
theorem dX12_worthOf_27 : decode cX12_worthOf 27 = .ok (.aload_n 0, 1) := by decide +kernel
theorem dX12_worthOf_28 : decode cX12_worthOf 28 = .ok (.getfield 7, 3) := by decide +kernel
theorem dX12_worthOf_31 : decode cX12_worthOf 31 = .ok (.bipush 8, 2) := by decide +kernel
theorem dX12_worthOf_33 : decode cX12_worthOf 33 = .ok (.iaload, 1) := by decide +kernel
theorem dX12_worthOf_34 : decode cX12_worthOf 34 = .ok (.bipush 10, 2) := by decide +kernel
theorem dX12_worthOf_36 : decode cX12_worthOf 36 = .ok (.invokevirtual 349, 3) := by decide +kernel
theorem dX12_worthOf_39 : decode cX12_worthOf 39 = .ok (.iadd, 1) := by decide +kernel
theorem dX12_worthOf_40 : decode cX12_worthOf 40 = .ok (.istore 4, 2) := by decide +kernel
theorem dX12_worthOf_42 : decode cX12_worthOf 42 = .ok (.iinc 5 1, 3) := by decide +kernel
theorem dX12_worthOf_45 : decode cX12_worthOf 45 = .ok (.iload_n 1, 1) := by decide +kernel
theorem dX12_worthOf_46 : decode cX12_worthOf 46 = .ok (.iload 6, 2) := by decide +kernel
theorem dX12_worthOf_48 : decode cX12_worthOf 48 = .ok (.invokestatic 279, 3) := by decide +kernel
theorem dX12_worthOf_51 : decode cX12_worthOf 51 = .ok (.ifCond .ne 19, 3) := by decide +kernel
theorem dX12_worthOf_54 : decode cX12_worthOf 54 = .ok (.iload 6, 2) := by decide +kernel
theorem dX12_worthOf_56 : decode cX12_worthOf 56 = .ok (.iconst 1, 1) := by decide +kernel
theorem dX12_worthOf_57 : decode cX12_worthOf 57 = .ok (.iadd, 1) := by decide +kernel
theorem dX12_worthOf_58 : decode cX12_worthOf 58 = .ok (.aload_n 0, 1) := by decide +kernel
theorem dX12_worthOf_59 : decode cX12_worthOf 59 = .ok (.getfield 7, 3) := by decide +kernel
theorem dX12_worthOf_62 : decode cX12_worthOf 62 = .ok (.iconst 0, 1) := by decide +kernel
theorem dX12_worthOf_63 : decode cX12_worthOf 63 = .ok (.iaload, 1) := by decide +kernel
theorem dX12_worthOf_64 : decode cX12_worthOf 64 = .ok (.if_icmp .ge 6, 3) := by decide +kernel
theorem dX12_worthOf_67 : decode cX12_worthOf 67 = .ok (.goto 29, 3) := by decide +kernel
theorem dX12_worthOf_70 : decode cX12_worthOf 70 = .ok (.iload_n 3, 1) := by decide +kernel
theorem dX12_worthOf_71 : decode cX12_worthOf 71 = .ok (.iload 4, 2) := by decide +kernel
theorem dX12_worthOf_73 : decode cX12_worthOf 73 = .ok (.iload 5, 2) := by decide +kernel
theorem dX12_worthOf_75 : decode cX12_worthOf 75 = .ok (.imul, 1) := by decide +kernel
theorem dX12_worthOf_76 : decode cX12_worthOf 76 = .ok (.iload_n 2, 1) := by decide +kernel
theorem dX12_worthOf_77 : decode cX12_worthOf 77 = .ok (.iload 5, 2) := by decide +kernel
theorem dX12_worthOf_79 : decode cX12_worthOf 79 = .ok (.iload 5, 2) := by decide +kernel
theorem dX12_worthOf_81 : decode cX12_worthOf 81 = .ok (.iconst 1, 1) := by decide +kernel
theorem dX12_worthOf_82 : decode cX12_worthOf 82 = .ok (.isub, 1) := by decide +kernel
theorem dX12_worthOf_83 : decode cX12_worthOf 83 = .ok (.imul, 1) := by decide +kernel
theorem dX12_worthOf_84 : decode cX12_worthOf 84 = .ok (.iconst 2, 1) := by decide +kernel
theorem dX12_worthOf_85 : decode cX12_worthOf 85 = .ok (.idiv, 1) := by decide +kernel
theorem dX12_worthOf_86 : decode cX12_worthOf 86 = .ok (.imul, 1) := by decide +kernel
theorem dX12_worthOf_87 : decode cX12_worthOf 87 = .ok (.isub, 1) := by decide +kernel
theorem dX12_worthOf_88 : decode cX12_worthOf 88 = .ok (.iadd, 1) := by decide +kernel
theorem dX12_worthOf_89 : decode cX12_worthOf 89 = .ok (.istore_n 3, 1) := by decide +kernel
theorem dX12_worthOf_90 : decode cX12_worthOf 90 = .ok (.iconst 0, 1) := by decide +kernel
theorem dX12_worthOf_91 : decode cX12_worthOf 91 = .ok (.istore 4, 2) := by decide +kernel
theorem dX12_worthOf_93 : decode cX12_worthOf 93 = .ok (.iconst 0, 1) := by decide +kernel
theorem dX12_worthOf_94 : decode cX12_worthOf 94 = .ok (.istore 5, 2) := by decide +kernel
theorem dX12_worthOf_96 : decode cX12_worthOf 96 = .ok (.iinc 6 1, 3) := by decide +kernel
theorem dX12_worthOf_99 : decode cX12_worthOf 99 = .ok (.goto (-88), 3) := by decide +kernel
theorem dX12_worthOf_102 : decode cX12_worthOf 102 = .ok (.iload_n 3, 1) := by decide +kernel
theorem dX12_worthOf_103 : decode cX12_worthOf 103 = .ok (.ireturn, 1) := by decide +kernel
theorem dX12_isAhead_0 : decode cX12_isAhead 0 = .ok (.iload_n 0, 1) := by decide +kernel
theorem dX12_isAhead_1 : decode cX12_isAhead 1 = .ok (.invokestatic 446, 3) := by decide +kernel
theorem dX12_isAhead_4 : decode cX12_isAhead 4 = .ok (.iload_n 1, 1) := by decide +kernel
theorem dX12_isAhead_5 : decode cX12_isAhead 5 = .ok (.invokestatic 446, 3) := by decide +kernel
theorem dX12_isAhead_8 : decode cX12_isAhead 8 = .ok (.if_icmp .eq 20, 3) := by decide +kernel
theorem dX12_isAhead_11 : decode cX12_isAhead 11 = .ok (.iload_n 0, 1) := by decide +kernel
theorem dX12_isAhead_12 : decode cX12_isAhead 12 = .ok (.invokestatic 446, 3) := by decide +kernel
theorem dX12_isAhead_15 : decode cX12_isAhead 15 = .ok (.iload_n 1, 1) := by decide +kernel
theorem dX12_isAhead_16 : decode cX12_isAhead 16 = .ok (.invokestatic 446, 3) := by decide +kernel
theorem dX12_isAhead_19 : decode cX12_isAhead 19 = .ok (.if_icmp .ge 7, 3) := by decide +kernel
theorem dX12_isAhead_22 : decode cX12_isAhead 22 = .ok (.iconst 1, 1) := by decide +kernel
theorem dX12_isAhead_23 : decode cX12_isAhead 23 = .ok (.goto 4, 3) := by decide +kernel
theorem dX12_isAhead_26 : decode cX12_isAhead 26 = .ok (.iconst 0, 1) := by decide +kernel
theorem dX12_isAhead_27 : decode cX12_isAhead 27 = .ok (.ireturn, 1) := by decide +kernel
theorem dX12_isAhead_28 : decode cX12_isAhead 28 = .ok (.iconst 0, 1) := by decide +kernel
theorem dX12_isAhead_29 : decode cX12_isAhead 29 = .ok (.istore_n 2, 1) := by decide +kernel
theorem dX12_isAhead_30 : decode cX12_isAhead 30 = .ok (.iload_n 2, 1) := by decide +kernel
theorem dX12_isAhead_31 : decode cX12_isAhead 31 = .ok (.bipush 8, 2) := by decide +kernel
theorem dX12_isAhead_33 : decode cX12_isAhead 33 = .ok (.if_icmp .ge 22, 3) := by decide +kernel
theorem dX12_isAhead_36 : decode cX12_isAhead 36 = .ok (.iload_n 0, 1) := by decide +kernel
theorem dX12_isAhead_37 : decode cX12_isAhead 37 = .ok (.iload_n 2, 1) := by decide +kernel
theorem dX12_isAhead_38 : decode cX12_isAhead 38 = .ok (.invokestatic 279, 3) := by decide +kernel
theorem dX12_isAhead_41 : decode cX12_isAhead 41 = .ok (.iload_n 1, 1) := by decide +kernel
theorem dX12_isAhead_42 : decode cX12_isAhead 42 = .ok (.iload_n 2, 1) := by decide +kernel
theorem dX12_isAhead_43 : decode cX12_isAhead 43 = .ok (.invokestatic 279, 3) := by decide +kernel
theorem dX12_isAhead_46 : decode cX12_isAhead 46 = .ok (.if_icmp .ne 9, 3) := by decide +kernel
theorem dX12_isAhead_49 : decode cX12_isAhead 49 = .ok (.iinc 2 1, 3) := by decide +kernel
theorem dX12_isAhead_52 : decode cX12_isAhead 52 = .ok (.goto (-22), 3) := by decide +kernel
theorem dX12_isAhead_55 : decode cX12_isAhead 55 = .ok (.iload_n 2, 1) := by decide +kernel
theorem dX12_isAhead_56 : decode cX12_isAhead 56 = .ok (.bipush 8, 2) := by decide +kernel
theorem dX12_isAhead_58 : decode cX12_isAhead 58 = .ok (.if_icmp .ge 15, 3) := by decide +kernel
theorem dX12_isAhead_61 : decode cX12_isAhead 61 = .ok (.iload_n 1, 1) := by decide +kernel
theorem dX12_isAhead_62 : decode cX12_isAhead 62 = .ok (.iload_n 2, 1) := by decide +kernel
theorem dX12_isAhead_63 : decode cX12_isAhead 63 = .ok (.invokestatic 279, 3) := by decide +kernel
theorem dX12_isAhead_66 : decode cX12_isAhead 66 = .ok (.ifCond .eq 7, 3) := by decide +kernel
theorem dX12_isAhead_69 : decode cX12_isAhead 69 = .ok (.iconst 1, 1) := by decide +kernel
theorem dX12_isAhead_70 : decode cX12_isAhead 70 = .ok (.goto 4, 3) := by decide +kernel
theorem dX12_isAhead_73 : decode cX12_isAhead 73 = .ok (.iconst 0, 1) := by decide +kernel
theorem dX12_isAhead_74 : decode cX12_isAhead 74 = .ok (.ireturn, 1) := by decide +kernel
theorem dX12_states_0 : decode cX12_states 0 = .ok (.iload_n 1, 1) := by decide +kernel
theorem dX12_states_1 : decode cX12_states 1 = .ok (.iconst 0, 1) := by decide +kernel
theorem dX12_states_2 : decode cX12_states 2 = .ok (.sipush 999, 3) := by decide +kernel
theorem dX12_states_5 : decode cX12_states 5 = .ok (.invokestatic 90, 3) := by decide +kernel
theorem dX12_states_8 : decode cX12_states 8 = .ok (.ifCond .eq 25, 3) := by decide +kernel
theorem dX12_states_11 : decode cX12_states 11 = .ok (.aload_n 0, 1) := by decide +kernel
theorem dX12_states_12 : decode cX12_states 12 = .ok (.getfield 7, 3) := by decide +kernel
theorem dX12_states_15 : decode cX12_states 15 = .ok (.iconst 0, 1) := by decide +kernel
theorem dX12_states_16 : decode cX12_states 16 = .ok (.iaload, 1) := by decide +kernel
theorem dX12_states_17 : decode cX12_states 17 = .ok (.ifCond .eq 16, 3) := by decide +kernel
theorem dX12_states_20 : decode cX12_states 20 = .ok (.iload_n 2, 1) := by decide +kernel
theorem dX12_states_21 : decode cX12_states 21 = .ok (.iconst (-1), 1) := by decide +kernel
theorem dX12_states_22 : decode cX12_states 22 = .ok (.if_icmp .eq 15, 3) := by decide +kernel
theorem dX12_states_25 : decode cX12_states 25 = .ok (.aload_n 0, 1) := by decide +kernel
theorem dX12_states_26 : decode cX12_states 26 = .ok (.iload_n 2, 1) := by decide +kernel
theorem dX12_states_27 : decode cX12_states 27 = .ok (.invokevirtual 102, 3) := by decide +kernel
theorem dX12_states_30 : decode cX12_states 30 = .ok (.ifCond .ne 7, 3) := by decide +kernel
theorem dX12_states_33 : decode cX12_states 33 = .ok (.ldc_w 459, 3) := by decide +kernel
theorem dX12_states_36 : decode cX12_states 36 = .ok (.ireturn, 1) := by decide +kernel
theorem dX12_states_37 : decode cX12_states 37 = .ok (.iconst 0, 1) := by decide +kernel
theorem dX12_states_38 : decode cX12_states 38 = .ok (.istore_n 3, 1) := by decide +kernel
theorem dX12_states_39 : decode cX12_states 39 = .ok (.aload_n 0, 1) := by decide +kernel
theorem dX12_states_40 : decode cX12_states 40 = .ok (.iconst 0, 1) := by decide +kernel
theorem dX12_states_41 : decode cX12_states 41 = .ok (.iload_n 1, 1) := by decide +kernel
theorem dX12_states_42 : decode cX12_states 42 = .ok (.invokevirtual 460, 3) := by decide +kernel
theorem dX12_states_45 : decode cX12_states 45 = .ok (.istore 4, 2) := by decide +kernel
theorem dX12_states_47 : decode cX12_states 47 = .ok (.iconst 1, 1) := by decide +kernel
theorem dX12_states_48 : decode cX12_states 48 = .ok (.istore 5, 2) := by decide +kernel
theorem dX12_states_50 : decode cX12_states 50 = .ok (.iload 5, 2) := by decide +kernel
theorem dX12_states_52 : decode cX12_states 52 = .ok (.iconst 1, 1) := by decide +kernel
theorem dX12_states_53 : decode cX12_states 53 = .ok (.aload_n 0, 1) := by decide +kernel
theorem dX12_states_54 : decode cX12_states 54 = .ok (.getfield 7, 3) := by decide +kernel
theorem dX12_states_57 : decode cX12_states 57 = .ok (.iconst 0, 1) := by decide +kernel
theorem dX12_states_58 : decode cX12_states 58 = .ok (.iaload, 1) := by decide +kernel
theorem dX12_states_59 : decode cX12_states 59 = .ok (.iconst 1, 1) := by decide +kernel
theorem dX12_states_60 : decode cX12_states 60 = .ok (.isub, 1) := by decide +kernel
theorem dX12_states_61 : decode cX12_states 61 = .ok (.ishl, 1) := by decide +kernel
theorem dX12_states_62 : decode cX12_states 62 = .ok (.if_icmp .ge 51, 3) := by decide +kernel
theorem dX12_states_65 : decode cX12_states 65 = .ok (.aload_n 0, 1) := by decide +kernel
theorem dX12_states_66 : decode cX12_states 66 = .ok (.iload 5, 2) := by decide +kernel
theorem dX12_states_68 : decode cX12_states 68 = .ok (.iload_n 1, 1) := by decide +kernel
theorem dX12_states_69 : decode cX12_states 69 = .ok (.invokevirtual 460, 3) := by decide +kernel
theorem dX12_states_72 : decode cX12_states 72 = .ok (.istore 6, 2) := by decide +kernel
theorem dX12_states_74 : decode cX12_states 74 = .ok (.iload 6, 2) := by decide +kernel
theorem dX12_states_76 : decode cX12_states 76 = .ok (.iload 4, 2) := by decide +kernel
theorem dX12_states_78 : decode cX12_states 78 = .ok (.if_icmp .lt 29, 3) := by decide +kernel
theorem dX12_states_81 : decode cX12_states 81 = .ok (.iload 6, 2) := by decide +kernel
theorem dX12_states_83 : decode cX12_states 83 = .ok (.iload 4, 2) := by decide +kernel
theorem dX12_states_85 : decode cX12_states 85 = .ok (.if_icmp .ne 15, 3) := by decide +kernel
theorem dX12_states_88 : decode cX12_states 88 = .ok (.iload 5, 2) := by decide +kernel
theorem dX12_states_90 : decode cX12_states 90 = .ok (.iload_n 3, 1) := by decide +kernel
theorem dX12_states_91 : decode cX12_states 91 = .ok (.invokestatic 463, 3) := by decide +kernel
theorem dX12_states_94 : decode cX12_states 94 = .ok (.ifCond .ne 6, 3) := by decide +kernel
theorem dX12_states_97 : decode cX12_states 97 = .ok (.goto 10, 3) := by decide +kernel
theorem dX12_states_100 : decode cX12_states 100 = .ok (.iload 6, 2) := by decide +kernel
theorem dX12_states_102 : decode cX12_states 102 = .ok (.istore 4, 2) := by decide +kernel
theorem dX12_states_104 : decode cX12_states 104 = .ok (.iload 5, 2) := by decide +kernel
theorem dX12_states_106 : decode cX12_states 106 = .ok (.istore_n 3, 1) := by decide +kernel
theorem dX12_states_107 : decode cX12_states 107 = .ok (.iinc 5 1, 3) := by decide +kernel
theorem dX12_states_110 : decode cX12_states 110 = .ok (.goto (-60), 3) := by decide +kernel
theorem dX12_states_113 : decode cX12_states 113 = .ok (.iload_n 2, 1) := by decide +kernel
theorem dX12_states_114 : decode cX12_states 114 = .ok (.iconst (-1), 1) := by decide +kernel
theorem dX12_states_115 : decode cX12_states 115 = .ok (.if_icmp .ne 8, 3) := by decide +kernel
theorem dX12_states_118 : decode cX12_states 118 = .ok (.iload 4, 2) := by decide +kernel
theorem dX12_states_120 : decode cX12_states 120 = .ok (.goto 13, 3) := by decide +kernel
theorem dX12_states_123 : decode cX12_states 123 = .ok (.iload_n 3, 1) := by decide +kernel
theorem dX12_states_124 : decode cX12_states 124 = .ok (.iconst 1, 1) := by decide +kernel
theorem dX12_states_125 : decode cX12_states 125 = .ok (.iload_n 2, 1) := by decide +kernel
theorem dX12_states_126 : decode cX12_states 126 = .ok (.ishl, 1) := by decide +kernel
theorem dX12_states_127 : decode cX12_states 127 = .ok (.iconst 1, 1) := by decide +kernel
theorem dX12_states_128 : decode cX12_states 128 = .ok (.isub, 1) := by decide +kernel
theorem dX12_states_129 : decode cX12_states 129 = .ok (.iand, 1) := by decide +kernel
theorem dX12_states_130 : decode cX12_states 130 = .ok (.invokestatic 446, 3) := by decide +kernel
theorem dX12_states_133 : decode cX12_states 133 = .ok (.ireturn, 1) := by decide +kernel
theorem dX12_sound_0 : decode cX12_sound 0 = .ok (.iload_n 1, 1) := by decide +kernel
theorem dX12_sound_1 : decode cX12_sound 1 = .ok (.iconst (-1), 1) := by decide +kernel
theorem dX12_sound_2 : decode cX12_sound 2 = .ok (.if_icmp .ne 12, 3) := by decide +kernel
theorem dX12_sound_5 : decode cX12_sound 5 = .ok (.aload_n 0, 1) := by decide +kernel
theorem dX12_sound_6 : decode cX12_sound 6 = .ok (.getfield 7, 3) := by decide +kernel
theorem dX12_sound_9 : decode cX12_sound 9 = .ok (.iconst 5, 1) := by decide +kernel
theorem dX12_sound_10 : decode cX12_sound 10 = .ok (.iconst 0, 1) := by decide +kernel
theorem dX12_sound_11 : decode cX12_sound 11 = .ok (.iastore, 1) := by decide +kernel
theorem dX12_sound_12 : decode cX12_sound 12 = .ok (.iconst 0, 1) := by decide +kernel
theorem dX12_sound_13 : decode cX12_sound 13 = .ok (.ireturn, 1) := by decide +kernel
theorem dX12_sound_14 : decode cX12_sound 14 = .ok (.iload_n 1, 1) := by decide +kernel
theorem dX12_sound_15 : decode cX12_sound 15 = .ok (.iconst 0, 1) := by decide +kernel
theorem dX12_sound_16 : decode cX12_sound 16 = .ok (.bipush 8, 2) := by decide +kernel
theorem dX12_sound_18 : decode cX12_sound 18 = .ok (.invokestatic 90, 3) := by decide +kernel
theorem dX12_sound_21 : decode cX12_sound 21 = .ok (.ifCond .eq 24, 3) := by decide +kernel
theorem dX12_sound_24 : decode cX12_sound 24 = .ok (.iload_n 2, 1) := by decide +kernel
theorem dX12_sound_25 : decode cX12_sound 25 = .ok (.iconst 0, 1) := by decide +kernel
theorem dX12_sound_26 : decode cX12_sound 26 = .ok (.bipush 99, 2) := by decide +kernel
theorem dX12_sound_28 : decode cX12_sound 28 = .ok (.invokestatic 90, 3) := by decide +kernel
theorem dX12_sound_31 : decode cX12_sound 31 = .ok (.ifCond .eq 14, 3) := by decide +kernel
theorem dX12_sound_34 : decode cX12_sound 34 = .ok (.aload_n 0, 1) := by decide +kernel
theorem dX12_sound_35 : decode cX12_sound 35 = .ok (.getfield 7, 3) := by decide +kernel
theorem dX12_sound_38 : decode cX12_sound 38 = .ok (.iconst 5, 1) := by decide +kernel
theorem dX12_sound_39 : decode cX12_sound 39 = .ok (.iaload, 1) := by decide +kernel
theorem dX12_sound_40 : decode cX12_sound 40 = .ok (.bipush 8, 2) := by decide +kernel
theorem dX12_sound_42 : decode cX12_sound 42 = .ok (.if_icmp .ne 6, 3) := by decide +kernel
theorem dX12_sound_45 : decode cX12_sound 45 = .ok (.bipush (-2), 2) := by decide +kernel
theorem dX12_sound_47 : decode cX12_sound 47 = .ok (.ireturn, 1) := by decide +kernel
theorem dX12_sound_48 : decode cX12_sound 48 = .ok (.aload_n 0, 1) := by decide +kernel
theorem dX12_sound_49 : decode cX12_sound 49 = .ok (.getfield 7, 3) := by decide +kernel
theorem dX12_sound_52 : decode cX12_sound 52 = .ok (.sipush 130, 3) := by decide +kernel
theorem dX12_sound_55 : decode cX12_sound 55 = .ok (.iconst 2, 1) := by decide +kernel
theorem dX12_sound_56 : decode cX12_sound 56 = .ok (.aload_n 0, 1) := by decide +kernel
theorem dX12_sound_57 : decode cX12_sound 57 = .ok (.getfield 7, 3) := by decide +kernel
theorem dX12_sound_60 : decode cX12_sound 60 = .ok (.iconst 5, 1) := by decide +kernel
theorem dX12_sound_61 : decode cX12_sound 61 = .ok (.iaload, 1) := by decide +kernel
theorem dX12_sound_62 : decode cX12_sound 62 = .ok (.imul, 1) := by decide +kernel
theorem dX12_sound_63 : decode cX12_sound 63 = .ok (.iadd, 1) := by decide +kernel
theorem dX12_sound_64 : decode cX12_sound 64 = .ok (.iload_n 1, 1) := by decide +kernel
theorem dX12_sound_65 : decode cX12_sound 65 = .ok (.iastore, 1) := by decide +kernel
theorem dX12_sound_66 : decode cX12_sound 66 = .ok (.aload_n 0, 1) := by decide +kernel
theorem dX12_sound_67 : decode cX12_sound 67 = .ok (.getfield 7, 3) := by decide +kernel
theorem dX12_sound_70 : decode cX12_sound 70 = .ok (.sipush 130, 3) := by decide +kernel
theorem dX12_sound_73 : decode cX12_sound 73 = .ok (.iconst 2, 1) := by decide +kernel
theorem dX12_sound_74 : decode cX12_sound 74 = .ok (.aload_n 0, 1) := by decide +kernel
theorem dX12_sound_75 : decode cX12_sound 75 = .ok (.getfield 7, 3) := by decide +kernel
theorem dX12_sound_78 : decode cX12_sound 78 = .ok (.iconst 5, 1) := by decide +kernel
theorem dX12_sound_79 : decode cX12_sound 79 = .ok (.iaload, 1) := by decide +kernel
theorem dX12_sound_80 : decode cX12_sound 80 = .ok (.imul, 1) := by decide +kernel
theorem dX12_sound_81 : decode cX12_sound 81 = .ok (.iadd, 1) := by decide +kernel
theorem dX12_sound_82 : decode cX12_sound 82 = .ok (.iconst 1, 1) := by decide +kernel
theorem dX12_sound_83 : decode cX12_sound 83 = .ok (.iadd, 1) := by decide +kernel
theorem dX12_sound_84 : decode cX12_sound 84 = .ok (.iload_n 2, 1) := by decide +kernel
theorem dX12_sound_85 : decode cX12_sound 85 = .ok (.iastore, 1) := by decide +kernel
theorem dX12_sound_86 : decode cX12_sound 86 = .ok (.aload_n 0, 1) := by decide +kernel
theorem dX12_sound_87 : decode cX12_sound 87 = .ok (.getfield 7, 3) := by decide +kernel
theorem dX12_sound_90 : decode cX12_sound 90 = .ok (.iconst 5, 1) := by decide +kernel
theorem dX12_sound_91 : decode cX12_sound 91 = .ok (.dup2, 1) := by decide +kernel
theorem dX12_sound_92 : decode cX12_sound 92 = .ok (.iaload, 1) := by decide +kernel
theorem dX12_sound_93 : decode cX12_sound 93 = .ok (.iconst 1, 1) := by decide +kernel
theorem dX12_sound_94 : decode cX12_sound 94 = .ok (.iadd, 1) := by decide +kernel
theorem dX12_sound_95 : decode cX12_sound 95 = .ok (.iastore, 1) := by decide +kernel
theorem dX12_sound_96 : decode cX12_sound 96 = .ok (.aload_n 0, 1) := by decide +kernel
theorem dX12_sound_97 : decode cX12_sound 97 = .ok (.getfield 7, 3) := by decide +kernel
theorem dX12_sound_100 : decode cX12_sound 100 = .ok (.iconst 5, 1) := by decide +kernel
theorem dX12_sound_101 : decode cX12_sound 101 = .ok (.iaload, 1) := by decide +kernel
theorem dX12_sound_102 : decode cX12_sound 102 = .ok (.ireturn, 1) := by decide +kernel
theorem dX12_isSounding_0 : decode cX12_isSounding 0 = .ok (.iconst 0, 1) := by decide +kernel
theorem dX12_isSounding_1 : decode cX12_isSounding 1 = .ok (.istore_n 3, 1) := by decide +kernel
theorem dX12_isSounding_2 : decode cX12_isSounding 2 = .ok (.iload_n 3, 1) := by decide +kernel
theorem dX12_isSounding_3 : decode cX12_isSounding 3 = .ok (.iconst 1, 1) := by decide +kernel
theorem dX12_isSounding_4 : decode cX12_isSounding 4 = .ok (.iadd, 1) := by decide +kernel
theorem dX12_isSounding_5 : decode cX12_isSounding 5 = .ok (.iload_n 3, 1) := by decide +kernel
theorem dX12_isSounding_6 : decode cX12_isSounding 6 = .ok (.iconst 1, 1) := by decide +kernel
theorem dX12_isSounding_7 : decode cX12_isSounding 7 = .ok (.iadd, 1) := by decide +kernel
theorem dX12_isSounding_8 : decode cX12_isSounding 8 = .ok (.imul, 1) := by decide +kernel
theorem dX12_isSounding_9 : decode cX12_isSounding 9 = .ok (.bipush 10, 2) := by decide +kernel
theorem dX12_isSounding_11 : decode cX12_isSounding 11 = .ok (.iload_n 2, 1) := by decide +kernel
theorem dX12_isSounding_12 : decode cX12_isSounding 12 = .ok (.imul, 1) := by decide +kernel
theorem dX12_isSounding_13 : decode cX12_isSounding 13 = .ok (.if_icmp .gt 9, 3) := by decide +kernel
theorem dX12_isSounding_16 : decode cX12_isSounding 16 = .ok (.iinc 3 1, 3) := by decide +kernel
theorem dX12_isSounding_19 : decode cX12_isSounding 19 = .ok (.goto (-17), 3) := by decide +kernel
theorem dX12_isSounding_22 : decode cX12_isSounding 22 = .ok (.iconst 0, 1) := by decide +kernel
theorem dX12_isSounding_23 : decode cX12_isSounding 23 = .ok (.istore 4, 2) := by decide +kernel
theorem dX12_isSounding_25 : decode cX12_isSounding 25 = .ok (.iload 4, 2) := by decide +kernel
theorem dX12_isSounding_27 : decode cX12_isSounding 27 = .ok (.aload_n 0, 1) := by decide +kernel
theorem dX12_isSounding_28 : decode cX12_isSounding 28 = .ok (.getfield 7, 3) := by decide +kernel
theorem dX12_isSounding_31 : decode cX12_isSounding 31 = .ok (.iconst 5, 1) := by decide +kernel
theorem dX12_isSounding_32 : decode cX12_isSounding 32 = .ok (.iaload, 1) := by decide +kernel
theorem dX12_isSounding_33 : decode cX12_isSounding 33 = .ok (.if_icmp .ge 47, 3) := by decide +kernel
theorem dX12_isSounding_36 : decode cX12_isSounding 36 = .ok (.aload_n 0, 1) := by decide +kernel
theorem dX12_isSounding_37 : decode cX12_isSounding 37 = .ok (.getfield 7, 3) := by decide +kernel
theorem dX12_isSounding_40 : decode cX12_isSounding 40 = .ok (.sipush 130, 3) := by decide +kernel
theorem dX12_isSounding_43 : decode cX12_isSounding 43 = .ok (.iconst 2, 1) := by decide +kernel
theorem dX12_isSounding_44 : decode cX12_isSounding 44 = .ok (.iload 4, 2) := by decide +kernel
theorem dX12_isSounding_46 : decode cX12_isSounding 46 = .ok (.imul, 1) := by decide +kernel
theorem dX12_isSounding_47 : decode cX12_isSounding 47 = .ok (.iadd, 1) := by decide +kernel
theorem dX12_isSounding_48 : decode cX12_isSounding 48 = .ok (.iaload, 1) := by decide +kernel
theorem dX12_isSounding_49 : decode cX12_isSounding 49 = .ok (.iload_n 1, 1) := by decide +kernel
theorem dX12_isSounding_50 : decode cX12_isSounding 50 = .ok (.if_icmp .ne 24, 3) := by decide +kernel
theorem dX12_isSounding_53 : decode cX12_isSounding 53 = .ok (.aload_n 0, 1) := by decide +kernel
theorem dX12_isSounding_54 : decode cX12_isSounding 54 = .ok (.getfield 7, 3) := by decide +kernel
theorem dX12_isSounding_57 : decode cX12_isSounding 57 = .ok (.sipush 130, 3) := by decide +kernel
theorem dX12_isSounding_60 : decode cX12_isSounding 60 = .ok (.iconst 2, 1) := by decide +kernel
theorem dX12_isSounding_61 : decode cX12_isSounding 61 = .ok (.iload 4, 2) := by decide +kernel
theorem dX12_isSounding_63 : decode cX12_isSounding 63 = .ok (.imul, 1) := by decide +kernel
theorem dX12_isSounding_64 : decode cX12_isSounding 64 = .ok (.iadd, 1) := by decide +kernel
theorem dX12_isSounding_65 : decode cX12_isSounding 65 = .ok (.iconst 1, 1) := by decide +kernel
theorem dX12_isSounding_66 : decode cX12_isSounding 66 = .ok (.iadd, 1) := by decide +kernel
theorem dX12_isSounding_67 : decode cX12_isSounding 67 = .ok (.iaload, 1) := by decide +kernel
theorem dX12_isSounding_68 : decode cX12_isSounding 68 = .ok (.iload_n 3, 1) := by decide +kernel
theorem dX12_isSounding_69 : decode cX12_isSounding 69 = .ok (.if_icmp .eq 5, 3) := by decide +kernel
theorem dX12_isSounding_72 : decode cX12_isSounding 72 = .ok (.iconst 0, 1) := by decide +kernel
theorem dX12_isSounding_73 : decode cX12_isSounding 73 = .ok (.ireturn, 1) := by decide +kernel
theorem dX12_isSounding_74 : decode cX12_isSounding 74 = .ok (.iinc 4 1, 3) := by decide +kernel
theorem dX12_isSounding_77 : decode cX12_isSounding 77 = .ok (.goto (-52), 3) := by decide +kernel
theorem dX12_isSounding_80 : decode cX12_isSounding 80 = .ok (.iconst 1, 1) := by decide +kernel
theorem dX12_isSounding_81 : decode cX12_isSounding 81 = .ok (.ireturn, 1) := by decide +kernel
theorem dX12_high_0 : decode cX12_high 0 = .ok (.iload_n 1, 1) := by decide +kernel
theorem dX12_high_1 : decode cX12_high 1 = .ok (.iconst 0, 1) := by decide +kernel
theorem dX12_high_2 : decode cX12_high 2 = .ok (.bipush 8, 2) := by decide +kernel
theorem dX12_high_4 : decode cX12_high 4 = .ok (.invokestatic 90, 3) := by decide +kernel
theorem dX12_high_7 : decode cX12_high 7 = .ok (.ifCond .ne 5, 3) := by decide +kernel
theorem dX12_high_10 : decode cX12_high 10 = .ok (.iconst (-1), 1) := by decide +kernel
theorem dX12_high_11 : decode cX12_high 11 = .ok (.ireturn, 1) := by decide +kernel
theorem dX12_high_12 : decode cX12_high 12 = .ok (.iconst (-1), 1) := by decide +kernel
theorem dX12_high_13 : decode cX12_high 13 = .ok (.istore_n 3, 1) := by decide +kernel
theorem dX12_high_14 : decode cX12_high 14 = .ok (.iconst 1, 1) := by decide +kernel
theorem dX12_high_15 : decode cX12_high 15 = .ok (.istore 4, 2) := by decide +kernel
theorem dX12_high_17 : decode cX12_high 17 = .ok (.iload 4, 2) := by decide +kernel
theorem dX12_high_19 : decode cX12_high 19 = .ok (.bipush 100, 2) := by decide +kernel
theorem dX12_high_21 : decode cX12_high 21 = .ok (.if_icmp .ge 31, 3) := by decide +kernel
theorem dX12_high_24 : decode cX12_high 24 = .ok (.aload_n 0, 1) := by decide +kernel
theorem dX12_high_25 : decode cX12_high 25 = .ok (.iload_n 1, 1) := by decide +kernel
theorem dX12_high_26 : decode cX12_high 26 = .ok (.iload 4, 2) := by decide +kernel
theorem dX12_high_28 : decode cX12_high 28 = .ok (.invokevirtual 466, 3) := by decide +kernel
theorem dX12_high_31 : decode cX12_high 31 = .ok (.ifCond .eq 15, 3) := by decide +kernel
theorem dX12_high_34 : decode cX12_high 34 = .ok (.iload_n 2, 1) := by decide +kernel
theorem dX12_high_35 : decode cX12_high 35 = .ok (.ifCond .ne 8, 3) := by decide +kernel
theorem dX12_high_38 : decode cX12_high 38 = .ok (.iload_n 3, 1) := by decide +kernel
theorem dX12_high_39 : decode cX12_high 39 = .ok (.iconst (-1), 1) := by decide +kernel
theorem dX12_high_40 : decode cX12_high 40 = .ok (.if_icmp .ne 6, 3) := by decide +kernel
theorem dX12_high_43 : decode cX12_high 43 = .ok (.iload 4, 2) := by decide +kernel
theorem dX12_high_45 : decode cX12_high 45 = .ok (.istore_n 3, 1) := by decide +kernel
theorem dX12_high_46 : decode cX12_high 46 = .ok (.iinc 4 1, 3) := by decide +kernel
theorem dX12_high_49 : decode cX12_high 49 = .ok (.goto (-32), 3) := by decide +kernel
theorem dX12_high_52 : decode cX12_high 52 = .ok (.iload_n 3, 1) := by decide +kernel
theorem dX12_high_53 : decode cX12_high 53 = .ok (.ireturn, 1) := by decide +kernel
theorem dX12_wreck_0 : decode cX12_wreck 0 = .ok (.iload_n 1, 1) := by decide +kernel
theorem dX12_wreck_1 : decode cX12_wreck 1 = .ok (.iconst (-1), 1) := by decide +kernel
theorem dX12_wreck_2 : decode cX12_wreck 2 = .ok (.if_icmp .ne 13, 3) := by decide +kernel
theorem dX12_wreck_5 : decode cX12_wreck 5 = .ok (.aload_n 0, 1) := by decide +kernel
theorem dX12_wreck_6 : decode cX12_wreck 6 = .ok (.getfield 7, 3) := by decide +kernel
theorem dX12_wreck_9 : decode cX12_wreck 9 = .ok (.bipush 6, 2) := by decide +kernel
theorem dX12_wreck_11 : decode cX12_wreck 11 = .ok (.iconst 0, 1) := by decide +kernel
theorem dX12_wreck_12 : decode cX12_wreck 12 = .ok (.iastore, 1) := by decide +kernel
theorem dX12_wreck_13 : decode cX12_wreck 13 = .ok (.iconst 0, 1) := by decide +kernel
theorem dX12_wreck_14 : decode cX12_wreck 14 = .ok (.ireturn, 1) := by decide +kernel
theorem dX12_wreck_15 : decode cX12_wreck 15 = .ok (.iload_n 1, 1) := by decide +kernel
theorem dX12_wreck_16 : decode cX12_wreck 16 = .ok (.iconst 0, 1) := by decide +kernel
theorem dX12_wreck_17 : decode cX12_wreck 17 = .ok (.bipush 99, 2) := by decide +kernel
theorem dX12_wreck_19 : decode cX12_wreck 19 = .ok (.invokestatic 90, 3) := by decide +kernel
theorem dX12_wreck_22 : decode cX12_wreck 22 = .ok (.ifCond .eq 15, 3) := by decide +kernel
theorem dX12_wreck_25 : decode cX12_wreck 25 = .ok (.aload_n 0, 1) := by decide +kernel
theorem dX12_wreck_26 : decode cX12_wreck 26 = .ok (.getfield 7, 3) := by decide +kernel
theorem dX12_wreck_29 : decode cX12_wreck 29 = .ok (.bipush 6, 2) := by decide +kernel
theorem dX12_wreck_31 : decode cX12_wreck 31 = .ok (.iaload, 1) := by decide +kernel
theorem dX12_wreck_32 : decode cX12_wreck 32 = .ok (.bipush 10, 2) := by decide +kernel
theorem dX12_wreck_34 : decode cX12_wreck 34 = .ok (.if_icmp .ne 6, 3) := by decide +kernel
theorem dX12_wreck_37 : decode cX12_wreck 37 = .ok (.bipush (-2), 2) := by decide +kernel
theorem dX12_wreck_39 : decode cX12_wreck 39 = .ok (.ireturn, 1) := by decide +kernel
theorem dX12_wreck_40 : decode cX12_wreck 40 = .ok (.aload_n 0, 1) := by decide +kernel
theorem dX12_wreck_41 : decode cX12_wreck 41 = .ok (.getfield 7, 3) := by decide +kernel
theorem dX12_wreck_44 : decode cX12_wreck 44 = .ok (.sipush 146, 3) := by decide +kernel
theorem dX12_wreck_47 : decode cX12_wreck 47 = .ok (.aload_n 0, 1) := by decide +kernel
theorem dX12_wreck_48 : decode cX12_wreck 48 = .ok (.getfield 7, 3) := by decide +kernel
theorem dX12_wreck_51 : decode cX12_wreck 51 = .ok (.bipush 6, 2) := by decide +kernel
theorem dX12_wreck_53 : decode cX12_wreck 53 = .ok (.iaload, 1) := by decide +kernel
theorem dX12_wreck_54 : decode cX12_wreck 54 = .ok (.iadd, 1) := by decide +kernel
theorem dX12_wreck_55 : decode cX12_wreck 55 = .ok (.iload_n 1, 1) := by decide +kernel
theorem dX12_wreck_56 : decode cX12_wreck 56 = .ok (.iastore, 1) := by decide +kernel
theorem dX12_wreck_57 : decode cX12_wreck 57 = .ok (.aload_n 0, 1) := by decide +kernel
theorem dX12_wreck_58 : decode cX12_wreck 58 = .ok (.getfield 7, 3) := by decide +kernel
theorem dX12_wreck_61 : decode cX12_wreck 61 = .ok (.bipush 6, 2) := by decide +kernel
theorem dX12_wreck_63 : decode cX12_wreck 63 = .ok (.dup2, 1) := by decide +kernel
theorem dX12_wreck_64 : decode cX12_wreck 64 = .ok (.iaload, 1) := by decide +kernel
theorem dX12_wreck_65 : decode cX12_wreck 65 = .ok (.iconst 1, 1) := by decide +kernel
theorem dX12_wreck_66 : decode cX12_wreck 66 = .ok (.iadd, 1) := by decide +kernel
theorem dX12_wreck_67 : decode cX12_wreck 67 = .ok (.iastore, 1) := by decide +kernel
theorem dX12_wreck_68 : decode cX12_wreck 68 = .ok (.aload_n 0, 1) := by decide +kernel
theorem dX12_wreck_69 : decode cX12_wreck 69 = .ok (.getfield 7, 3) := by decide +kernel
theorem dX12_wreck_72 : decode cX12_wreck 72 = .ok (.bipush 6, 2) := by decide +kernel
theorem dX12_wreck_74 : decode cX12_wreck 74 = .ok (.iaload, 1) := by decide +kernel
theorem dX12_wreck_75 : decode cX12_wreck 75 = .ok (.ireturn, 1) := by decide +kernel
theorem dX12_isOrder_0 : decode cX12_isOrder 0 = .ok (.iconst 0, 1) := by decide +kernel
theorem dX12_isOrder_1 : decode cX12_isOrder 1 = .ok (.istore_n 2, 1) := by decide +kernel
theorem dX12_isOrder_2 : decode cX12_isOrder 2 = .ok (.iconst 0, 1) := by decide +kernel
theorem dX12_isOrder_3 : decode cX12_isOrder 3 = .ok (.istore_n 3, 1) := by decide +kernel
theorem dX12_isOrder_4 : decode cX12_isOrder 4 = .ok (.iload_n 3, 1) := by decide +kernel
theorem dX12_isOrder_5 : decode cX12_isOrder 5 = .ok (.aload_n 0, 1) := by decide +kernel
theorem dX12_isOrder_6 : decode cX12_isOrder 6 = .ok (.getfield 7, 3) := by decide +kernel
theorem dX12_isOrder_9 : decode cX12_isOrder 9 = .ok (.bipush 6, 2) := by decide +kernel
theorem dX12_isOrder_11 : decode cX12_isOrder 11 = .ok (.iaload, 1) := by decide +kernel
theorem dX12_isOrder_12 : decode cX12_isOrder 12 = .ok (.if_icmp .ge 62, 3) := by decide +kernel
theorem dX12_isOrder_15 : decode cX12_isOrder 15 = .ok (.iload_n 1, 1) := by decide +kernel
theorem dX12_isOrder_16 : decode cX12_isOrder 16 = .ok (.iload_n 3, 1) := by decide +kernel
theorem dX12_isOrder_17 : decode cX12_isOrder 17 = .ok (.invokestatic 279, 3) := by decide +kernel
theorem dX12_isOrder_20 : decode cX12_isOrder 20 = .ok (.ifCond .ne 6, 3) := by decide +kernel
theorem dX12_isOrder_23 : decode cX12_isOrder 23 = .ok (.goto 45, 3) := by decide +kernel
theorem dX12_isOrder_26 : decode cX12_isOrder 26 = .ok (.aload_n 0, 1) := by decide +kernel
theorem dX12_isOrder_27 : decode cX12_isOrder 27 = .ok (.getfield 77, 3) := by decide +kernel
theorem dX12_isOrder_30 : decode cX12_isOrder 30 = .ok (.iload_n 2, 1) := by decide +kernel
theorem dX12_isOrder_31 : decode cX12_isOrder 31 = .ok (.aload_n 0, 1) := by decide +kernel
theorem dX12_isOrder_32 : decode cX12_isOrder 32 = .ok (.getfield 7, 3) := by decide +kernel
theorem dX12_isOrder_35 : decode cX12_isOrder 35 = .ok (.sipush 146, 3) := by decide +kernel
theorem dX12_isOrder_38 : decode cX12_isOrder 38 = .ok (.iload_n 3, 1) := by decide +kernel
theorem dX12_isOrder_39 : decode cX12_isOrder 39 = .ok (.iadd, 1) := by decide +kernel
theorem dX12_isOrder_40 : decode cX12_isOrder 40 = .ok (.iaload, 1) := by decide +kernel
theorem dX12_isOrder_41 : decode cX12_isOrder 41 = .ok (.iastore, 1) := by decide +kernel
theorem dX12_isOrder_42 : decode cX12_isOrder 42 = .ok (.iload_n 2, 1) := by decide +kernel
theorem dX12_isOrder_43 : decode cX12_isOrder 43 = .ok (.ifCond .le 22, 3) := by decide +kernel
theorem dX12_isOrder_46 : decode cX12_isOrder 46 = .ok (.aload_n 0, 1) := by decide +kernel
theorem dX12_isOrder_47 : decode cX12_isOrder 47 = .ok (.getfield 77, 3) := by decide +kernel
theorem dX12_isOrder_50 : decode cX12_isOrder 50 = .ok (.iload_n 2, 1) := by decide +kernel
theorem dX12_isOrder_51 : decode cX12_isOrder 51 = .ok (.iaload, 1) := by decide +kernel
theorem dX12_isOrder_52 : decode cX12_isOrder 52 = .ok (.aload_n 0, 1) := by decide +kernel
theorem dX12_isOrder_53 : decode cX12_isOrder 53 = .ok (.getfield 77, 3) := by decide +kernel
theorem dX12_isOrder_56 : decode cX12_isOrder 56 = .ok (.iload_n 2, 1) := by decide +kernel
theorem dX12_isOrder_57 : decode cX12_isOrder 57 = .ok (.iconst 1, 1) := by decide +kernel
theorem dX12_isOrder_58 : decode cX12_isOrder 58 = .ok (.isub, 1) := by decide +kernel
theorem dX12_isOrder_59 : decode cX12_isOrder 59 = .ok (.iaload, 1) := by decide +kernel
theorem dX12_isOrder_60 : decode cX12_isOrder 60 = .ok (.if_icmp .gt 5, 3) := by decide +kernel
theorem dX12_isOrder_63 : decode cX12_isOrder 63 = .ok (.iconst 0, 1) := by decide +kernel
theorem dX12_isOrder_64 : decode cX12_isOrder 64 = .ok (.ireturn, 1) := by decide +kernel
theorem dX12_isOrder_65 : decode cX12_isOrder 65 = .ok (.iinc 2 1, 3) := by decide +kernel
theorem dX12_isOrder_68 : decode cX12_isOrder 68 = .ok (.iinc 3 1, 3) := by decide +kernel
theorem dX12_isOrder_71 : decode cX12_isOrder 71 = .ok (.goto (-67), 3) := by decide +kernel
theorem dX12_isOrder_74 : decode cX12_isOrder 74 = .ok (.iconst 1, 1) := by decide +kernel
theorem dX12_isOrder_75 : decode cX12_isOrder 75 = .ok (.ireturn, 1) := by decide +kernel
theorem dX12_isLower_0 : decode cX12_isLower 0 = .ok (.iconst 0, 1) := by decide +kernel
theorem dX12_isLower_1 : decode cX12_isLower 1 = .ok (.istore_n 2, 1) := by decide +kernel
theorem dX12_isLower_2 : decode cX12_isLower 2 = .ok (.iload_n 2, 1) := by decide +kernel
theorem dX12_isLower_3 : decode cX12_isLower 3 = .ok (.iload_n 1, 1) := by decide +kernel
theorem dX12_isLower_4 : decode cX12_isLower 4 = .ok (.if_icmp .ge 24, 3) := by decide +kernel
theorem dX12_isLower_7 : decode cX12_isLower 7 = .ok (.aload_n 0, 1) := by decide +kernel
theorem dX12_isLower_8 : decode cX12_isLower 8 = .ok (.getfield 77, 3) := by decide +kernel
theorem dX12_isLower_11 : decode cX12_isLower 11 = .ok (.iload_n 2, 1) := by decide +kernel
theorem dX12_isLower_12 : decode cX12_isLower 12 = .ok (.iaload, 1) := by decide +kernel
theorem dX12_isLower_13 : decode cX12_isLower 13 = .ok (.aload_n 0, 1) := by decide +kernel
theorem dX12_isLower_14 : decode cX12_isLower 14 = .ok (.getfield 80, 3) := by decide +kernel
theorem dX12_isLower_17 : decode cX12_isLower 17 = .ok (.iload_n 2, 1) := by decide +kernel
theorem dX12_isLower_18 : decode cX12_isLower 18 = .ok (.iaload, 1) := by decide +kernel
theorem dX12_isLower_19 : decode cX12_isLower 19 = .ok (.if_icmp .ne 9, 3) := by decide +kernel
theorem dX12_isLower_22 : decode cX12_isLower 22 = .ok (.iinc 2 1, 3) := by decide +kernel
theorem dX12_isLower_25 : decode cX12_isLower 25 = .ok (.goto (-23), 3) := by decide +kernel
theorem dX12_isLower_28 : decode cX12_isLower 28 = .ok (.iload_n 2, 1) := by decide +kernel
theorem dX12_isLower_29 : decode cX12_isLower 29 = .ok (.iload_n 1, 1) := by decide +kernel
theorem dX12_isLower_30 : decode cX12_isLower 30 = .ok (.if_icmp .ge 22, 3) := by decide +kernel
theorem dX12_isLower_33 : decode cX12_isLower 33 = .ok (.aload_n 0, 1) := by decide +kernel
theorem dX12_isLower_34 : decode cX12_isLower 34 = .ok (.getfield 77, 3) := by decide +kernel
theorem dX12_isLower_37 : decode cX12_isLower 37 = .ok (.iload_n 2, 1) := by decide +kernel
theorem dX12_isLower_38 : decode cX12_isLower 38 = .ok (.iaload, 1) := by decide +kernel
theorem dX12_isLower_39 : decode cX12_isLower 39 = .ok (.aload_n 0, 1) := by decide +kernel
theorem dX12_isLower_40 : decode cX12_isLower 40 = .ok (.getfield 80, 3) := by decide +kernel
theorem dX12_isLower_43 : decode cX12_isLower 43 = .ok (.iload_n 2, 1) := by decide +kernel
theorem dX12_isLower_44 : decode cX12_isLower 44 = .ok (.iaload, 1) := by decide +kernel
theorem dX12_isLower_45 : decode cX12_isLower 45 = .ok (.if_icmp .ge 7, 3) := by decide +kernel
theorem dX12_isLower_48 : decode cX12_isLower 48 = .ok (.iconst 1, 1) := by decide +kernel
theorem dX12_isLower_49 : decode cX12_isLower 49 = .ok (.goto 4, 3) := by decide +kernel
theorem dX12_isLower_52 : decode cX12_isLower 52 = .ok (.iconst 0, 1) := by decide +kernel
theorem dX12_isLower_53 : decode cX12_isLower 53 = .ok (.ireturn, 1) := by decide +kernel
theorem dX12_inOrder_0 : decode cX12_inOrder 0 = .ok (.iconst 0, 1) := by decide +kernel
theorem dX12_inOrder_1 : decode cX12_inOrder 1 = .ok (.istore_n 2, 1) := by decide +kernel
theorem dX12_inOrder_2 : decode cX12_inOrder 2 = .ok (.iconst 1, 1) := by decide +kernel
theorem dX12_inOrder_3 : decode cX12_inOrder 3 = .ok (.istore_n 3, 1) := by decide +kernel
theorem dX12_inOrder_4 : decode cX12_inOrder 4 = .ok (.iload_n 3, 1) := by decide +kernel
theorem dX12_inOrder_5 : decode cX12_inOrder 5 = .ok (.iconst 1, 1) := by decide +kernel
theorem dX12_inOrder_6 : decode cX12_inOrder 6 = .ok (.aload_n 0, 1) := by decide +kernel
theorem dX12_inOrder_7 : decode cX12_inOrder 7 = .ok (.getfield 7, 3) := by decide +kernel
theorem dX12_inOrder_10 : decode cX12_inOrder 10 = .ok (.bipush 6, 2) := by decide +kernel
theorem dX12_inOrder_12 : decode cX12_inOrder 12 = .ok (.iaload, 1) := by decide +kernel
theorem dX12_inOrder_13 : decode cX12_inOrder 13 = .ok (.ishl, 1) := by decide +kernel
theorem dX12_inOrder_14 : decode cX12_inOrder 14 = .ok (.if_icmp .ge 80, 3) := by decide +kernel
theorem dX12_inOrder_17 : decode cX12_inOrder 17 = .ok (.iload_n 3, 1) := by decide +kernel
theorem dX12_inOrder_18 : decode cX12_inOrder 18 = .ok (.invokestatic 446, 3) := by decide +kernel
theorem dX12_inOrder_21 : decode cX12_inOrder 21 = .ok (.istore 4, 2) := by decide +kernel
theorem dX12_inOrder_23 : decode cX12_inOrder 23 = .ok (.iload 4, 2) := by decide +kernel
theorem dX12_inOrder_25 : decode cX12_inOrder 25 = .ok (.iload_n 2, 1) := by decide +kernel
theorem dX12_inOrder_26 : decode cX12_inOrder 26 = .ok (.if_icmp .lt 62, 3) := by decide +kernel
theorem dX12_inOrder_29 : decode cX12_inOrder 29 = .ok (.aload_n 0, 1) := by decide +kernel
theorem dX12_inOrder_30 : decode cX12_inOrder 30 = .ok (.iload_n 3, 1) := by decide +kernel
theorem dX12_inOrder_31 : decode cX12_inOrder 31 = .ok (.invokevirtual 469, 3) := by decide +kernel
theorem dX12_inOrder_34 : decode cX12_inOrder 34 = .ok (.ifCond .eq 54, 3) := by decide +kernel
theorem dX12_inOrder_37 : decode cX12_inOrder 37 = .ok (.iload 4, 2) := by decide +kernel
theorem dX12_inOrder_39 : decode cX12_inOrder 39 = .ok (.iload_n 2, 1) := by decide +kernel
theorem dX12_inOrder_40 : decode cX12_inOrder 40 = .ok (.if_icmp .ne 15, 3) := by decide +kernel
theorem dX12_inOrder_43 : decode cX12_inOrder 43 = .ok (.aload_n 0, 1) := by decide +kernel
theorem dX12_inOrder_44 : decode cX12_inOrder 44 = .ok (.iload 4, 2) := by decide +kernel
theorem dX12_inOrder_46 : decode cX12_inOrder 46 = .ok (.invokevirtual 472, 3) := by decide +kernel
theorem dX12_inOrder_49 : decode cX12_inOrder 49 = .ok (.ifCond .ne 6, 3) := by decide +kernel
theorem dX12_inOrder_52 : decode cX12_inOrder 52 = .ok (.goto 36, 3) := by decide +kernel
theorem dX12_inOrder_55 : decode cX12_inOrder 55 = .ok (.iload 4, 2) := by decide +kernel
theorem dX12_inOrder_57 : decode cX12_inOrder 57 = .ok (.istore_n 2, 1) := by decide +kernel
theorem dX12_inOrder_58 : decode cX12_inOrder 58 = .ok (.iconst 0, 1) := by decide +kernel
theorem dX12_inOrder_59 : decode cX12_inOrder 59 = .ok (.istore 5, 2) := by decide +kernel
theorem dX12_inOrder_61 : decode cX12_inOrder 61 = .ok (.iload 5, 2) := by decide +kernel
theorem dX12_inOrder_63 : decode cX12_inOrder 63 = .ok (.iload 4, 2) := by decide +kernel
theorem dX12_inOrder_65 : decode cX12_inOrder 65 = .ok (.if_icmp .ge 23, 3) := by decide +kernel
theorem dX12_inOrder_68 : decode cX12_inOrder 68 = .ok (.aload_n 0, 1) := by decide +kernel
theorem dX12_inOrder_69 : decode cX12_inOrder 69 = .ok (.getfield 80, 3) := by decide +kernel
theorem dX12_inOrder_72 : decode cX12_inOrder 72 = .ok (.iload 5, 2) := by decide +kernel
theorem dX12_inOrder_74 : decode cX12_inOrder 74 = .ok (.aload_n 0, 1) := by decide +kernel
theorem dX12_inOrder_75 : decode cX12_inOrder 75 = .ok (.getfield 77, 3) := by decide +kernel
theorem dX12_inOrder_78 : decode cX12_inOrder 78 = .ok (.iload 5, 2) := by decide +kernel
theorem dX12_inOrder_80 : decode cX12_inOrder 80 = .ok (.iaload, 1) := by decide +kernel
theorem dX12_inOrder_81 : decode cX12_inOrder 81 = .ok (.iastore, 1) := by decide +kernel
theorem dX12_inOrder_82 : decode cX12_inOrder 82 = .ok (.iinc 5 1, 3) := by decide +kernel
theorem dX12_inOrder_85 : decode cX12_inOrder 85 = .ok (.goto (-24), 3) := by decide +kernel
theorem dX12_inOrder_88 : decode cX12_inOrder 88 = .ok (.iinc 3 1, 3) := by decide +kernel
theorem dX12_inOrder_91 : decode cX12_inOrder 91 = .ok (.goto (-87), 3) := by decide +kernel
theorem dX12_inOrder_94 : decode cX12_inOrder 94 = .ok (.iload_n 1, 1) := by decide +kernel
theorem dX12_inOrder_95 : decode cX12_inOrder 95 = .ok (.iconst (-1), 1) := by decide +kernel
theorem dX12_inOrder_96 : decode cX12_inOrder 96 = .ok (.if_icmp .ne 7, 3) := by decide +kernel
theorem dX12_inOrder_99 : decode cX12_inOrder 99 = .ok (.iload_n 2, 1) := by decide +kernel
theorem dX12_inOrder_100 : decode cX12_inOrder 100 = .ok (.goto 25, 3) := by decide +kernel
theorem dX12_inOrder_103 : decode cX12_inOrder 103 = .ok (.iload_n 1, 1) := by decide +kernel
theorem dX12_inOrder_104 : decode cX12_inOrder 104 = .ok (.iconst 0, 1) := by decide +kernel
theorem dX12_inOrder_105 : decode cX12_inOrder 105 = .ok (.iload_n 2, 1) := by decide +kernel
theorem dX12_inOrder_106 : decode cX12_inOrder 106 = .ok (.iconst 1, 1) := by decide +kernel
theorem dX12_inOrder_107 : decode cX12_inOrder 107 = .ok (.isub, 1) := by decide +kernel
theorem dX12_inOrder_108 : decode cX12_inOrder 108 = .ok (.invokestatic 90, 3) := by decide +kernel
theorem dX12_inOrder_111 : decode cX12_inOrder 111 = .ok (.ifCond .eq 12, 3) := by decide +kernel
theorem dX12_inOrder_114 : decode cX12_inOrder 114 = .ok (.aload_n 0, 1) := by decide +kernel
theorem dX12_inOrder_115 : decode cX12_inOrder 115 = .ok (.getfield 80, 3) := by decide +kernel
theorem dX12_inOrder_118 : decode cX12_inOrder 118 = .ok (.iload_n 1, 1) := by decide +kernel
theorem dX12_inOrder_119 : decode cX12_inOrder 119 = .ok (.iaload, 1) := by decide +kernel
theorem dX12_inOrder_120 : decode cX12_inOrder 120 = .ok (.goto 5, 3) := by decide +kernel
theorem dX12_inOrder_123 : decode cX12_inOrder 123 = .ok (.bipush (-2), 2) := by decide +kernel
theorem dX12_inOrder_125 : decode cX12_inOrder 125 = .ok (.ireturn, 1) := by decide +kernel
theorem dX12_outOfOrder_0 : decode cX12_outOfOrder 0 = .ok (.iconst 0, 1) := by decide +kernel
theorem dX12_outOfOrder_1 : decode cX12_outOfOrder 1 = .ok (.istore_n 1, 1) := by decide +kernel
theorem dX12_outOfOrder_2 : decode cX12_outOfOrder 2 = .ok (.iconst 0, 1) := by decide +kernel
theorem dX12_outOfOrder_3 : decode cX12_outOfOrder 3 = .ok (.istore_n 2, 1) := by decide +kernel
theorem dX12_outOfOrder_4 : decode cX12_outOfOrder 4 = .ok (.iload_n 2, 1) := by decide +kernel
theorem dX12_outOfOrder_5 : decode cX12_outOfOrder 5 = .ok (.aload_n 0, 1) := by decide +kernel
theorem dX12_outOfOrder_6 : decode cX12_outOfOrder 6 = .ok (.getfield 7, 3) := by decide +kernel
theorem dX12_outOfOrder_9 : decode cX12_outOfOrder 9 = .ok (.bipush 6, 2) := by decide +kernel
theorem dX12_outOfOrder_11 : decode cX12_outOfOrder 11 = .ok (.iaload, 1) := by decide +kernel
theorem dX12_outOfOrder_12 : decode cX12_outOfOrder 12 = .ok (.if_icmp .ge 53, 3) := by decide +kernel
theorem dX12_outOfOrder_15 : decode cX12_outOfOrder 15 = .ok (.iconst 0, 1) := by decide +kernel
theorem dX12_outOfOrder_16 : decode cX12_outOfOrder 16 = .ok (.istore_n 3, 1) := by decide +kernel
theorem dX12_outOfOrder_17 : decode cX12_outOfOrder 17 = .ok (.iload_n 3, 1) := by decide +kernel
theorem dX12_outOfOrder_18 : decode cX12_outOfOrder 18 = .ok (.iload_n 2, 1) := by decide +kernel
theorem dX12_outOfOrder_19 : decode cX12_outOfOrder 19 = .ok (.if_icmp .ge 40, 3) := by decide +kernel
theorem dX12_outOfOrder_22 : decode cX12_outOfOrder 22 = .ok (.iload_n 1, 1) := by decide +kernel
theorem dX12_outOfOrder_23 : decode cX12_outOfOrder 23 = .ok (.aload_n 0, 1) := by decide +kernel
theorem dX12_outOfOrder_24 : decode cX12_outOfOrder 24 = .ok (.getfield 7, 3) := by decide +kernel
theorem dX12_outOfOrder_27 : decode cX12_outOfOrder 27 = .ok (.sipush 146, 3) := by decide +kernel
theorem dX12_outOfOrder_30 : decode cX12_outOfOrder 30 = .ok (.iload_n 2, 1) := by decide +kernel
theorem dX12_outOfOrder_31 : decode cX12_outOfOrder 31 = .ok (.iadd, 1) := by decide +kernel
theorem dX12_outOfOrder_32 : decode cX12_outOfOrder 32 = .ok (.iaload, 1) := by decide +kernel
theorem dX12_outOfOrder_33 : decode cX12_outOfOrder 33 = .ok (.aload_n 0, 1) := by decide +kernel
theorem dX12_outOfOrder_34 : decode cX12_outOfOrder 34 = .ok (.getfield 7, 3) := by decide +kernel
theorem dX12_outOfOrder_37 : decode cX12_outOfOrder 37 = .ok (.sipush 146, 3) := by decide +kernel
theorem dX12_outOfOrder_40 : decode cX12_outOfOrder 40 = .ok (.iload_n 3, 1) := by decide +kernel
theorem dX12_outOfOrder_41 : decode cX12_outOfOrder 41 = .ok (.iadd, 1) := by decide +kernel
theorem dX12_outOfOrder_42 : decode cX12_outOfOrder 42 = .ok (.iaload, 1) := by decide +kernel
theorem dX12_outOfOrder_43 : decode cX12_outOfOrder 43 = .ok (.if_icmp .ge 7, 3) := by decide +kernel
theorem dX12_outOfOrder_46 : decode cX12_outOfOrder 46 = .ok (.iconst 1, 1) := by decide +kernel
theorem dX12_outOfOrder_47 : decode cX12_outOfOrder 47 = .ok (.goto 4, 3) := by decide +kernel
theorem dX12_outOfOrder_50 : decode cX12_outOfOrder 50 = .ok (.iconst 0, 1) := by decide +kernel
theorem dX12_outOfOrder_51 : decode cX12_outOfOrder 51 = .ok (.iadd, 1) := by decide +kernel
theorem dX12_outOfOrder_52 : decode cX12_outOfOrder 52 = .ok (.istore_n 1, 1) := by decide +kernel
theorem dX12_outOfOrder_53 : decode cX12_outOfOrder 53 = .ok (.iinc 3 1, 3) := by decide +kernel
theorem dX12_outOfOrder_56 : decode cX12_outOfOrder 56 = .ok (.goto (-39), 3) := by decide +kernel
theorem dX12_outOfOrder_59 : decode cX12_outOfOrder 59 = .ok (.iinc 2 1, 3) := by decide +kernel
theorem dX12_outOfOrder_62 : decode cX12_outOfOrder 62 = .ok (.goto (-58), 3) := by decide +kernel
theorem dX12_outOfOrder_65 : decode cX12_outOfOrder 65 = .ok (.iload_n 1, 1) := by decide +kernel
theorem dX12_outOfOrder_66 : decode cX12_outOfOrder 66 = .ok (.ireturn, 1) := by decide +kernel
theorem dX12_misheard_0 : decode cX12_misheard 0 = .ok (.iload_n 1, 1) := by decide +kernel
theorem dX12_misheard_1 : decode cX12_misheard 1 = .ok (.iconst (-1), 1) := by decide +kernel
theorem dX12_misheard_2 : decode cX12_misheard 2 = .ok (.if_icmp .ne 13, 3) := by decide +kernel
theorem dX12_misheard_5 : decode cX12_misheard 5 = .ok (.aload_n 0, 1) := by decide +kernel
theorem dX12_misheard_6 : decode cX12_misheard 6 = .ok (.getfield 7, 3) := by decide +kernel
theorem dX12_misheard_9 : decode cX12_misheard 9 = .ok (.bipush 7, 2) := by decide +kernel
theorem dX12_misheard_11 : decode cX12_misheard 11 = .ok (.iconst 0, 1) := by decide +kernel
theorem dX12_misheard_12 : decode cX12_misheard 12 = .ok (.iastore, 1) := by decide +kernel
theorem dX12_misheard_13 : decode cX12_misheard 13 = .ok (.iconst 0, 1) := by decide +kernel
theorem dX12_misheard_14 : decode cX12_misheard 14 = .ok (.ireturn, 1) := by decide +kernel
theorem dX12_misheard_15 : decode cX12_misheard 15 = .ok (.iload_n 1, 1) := by decide +kernel
theorem dX12_misheard_16 : decode cX12_misheard 16 = .ok (.iconst 0, 1) := by decide +kernel
theorem dX12_misheard_17 : decode cX12_misheard 17 = .ok (.bipush 9, 2) := by decide +kernel
theorem dX12_misheard_19 : decode cX12_misheard 19 = .ok (.invokestatic 90, 3) := by decide +kernel
theorem dX12_misheard_22 : decode cX12_misheard 22 = .ok (.ifCond .eq 30, 3) := by decide +kernel
theorem dX12_misheard_25 : decode cX12_misheard 25 = .ok (.iload_n 2, 1) := by decide +kernel
theorem dX12_misheard_26 : decode cX12_misheard 26 = .ok (.iconst 0, 1) := by decide +kernel
theorem dX12_misheard_27 : decode cX12_misheard 27 = .ok (.bipush 9, 2) := by decide +kernel
theorem dX12_misheard_29 : decode cX12_misheard 29 = .ok (.invokestatic 90, 3) := by decide +kernel
theorem dX12_misheard_32 : decode cX12_misheard 32 = .ok (.ifCond .eq 20, 3) := by decide +kernel
theorem dX12_misheard_35 : decode cX12_misheard 35 = .ok (.iload_n 1, 1) := by decide +kernel
theorem dX12_misheard_36 : decode cX12_misheard 36 = .ok (.iload_n 2, 1) := by decide +kernel
theorem dX12_misheard_37 : decode cX12_misheard 37 = .ok (.if_icmp .eq 15, 3) := by decide +kernel
theorem dX12_misheard_40 : decode cX12_misheard 40 = .ok (.aload_n 0, 1) := by decide +kernel
theorem dX12_misheard_41 : decode cX12_misheard 41 = .ok (.getfield 7, 3) := by decide +kernel
theorem dX12_misheard_44 : decode cX12_misheard 44 = .ok (.bipush 7, 2) := by decide +kernel
theorem dX12_misheard_46 : decode cX12_misheard 46 = .ok (.iaload, 1) := by decide +kernel
theorem dX12_misheard_47 : decode cX12_misheard 47 = .ok (.bipush 15, 2) := by decide +kernel
theorem dX12_misheard_49 : decode cX12_misheard 49 = .ok (.if_icmp .ne 6, 3) := by decide +kernel
theorem dX12_misheard_52 : decode cX12_misheard 52 = .ok (.bipush (-2), 2) := by decide +kernel
theorem dX12_misheard_54 : decode cX12_misheard 54 = .ok (.ireturn, 1) := by decide +kernel
theorem dX12_misheard_55 : decode cX12_misheard 55 = .ok (.aload_n 0, 1) := by decide +kernel
theorem dX12_misheard_56 : decode cX12_misheard 56 = .ok (.getfield 7, 3) := by decide +kernel
theorem dX12_misheard_59 : decode cX12_misheard 59 = .ok (.sipush 156, 3) := by decide +kernel
theorem dX12_misheard_62 : decode cX12_misheard 62 = .ok (.iconst 2, 1) := by decide +kernel
theorem dX12_misheard_63 : decode cX12_misheard 63 = .ok (.aload_n 0, 1) := by decide +kernel
theorem dX12_misheard_64 : decode cX12_misheard 64 = .ok (.getfield 7, 3) := by decide +kernel
theorem dX12_misheard_67 : decode cX12_misheard 67 = .ok (.bipush 7, 2) := by decide +kernel
theorem dX12_misheard_69 : decode cX12_misheard 69 = .ok (.iaload, 1) := by decide +kernel
theorem dX12_misheard_70 : decode cX12_misheard 70 = .ok (.imul, 1) := by decide +kernel
theorem dX12_misheard_71 : decode cX12_misheard 71 = .ok (.iadd, 1) := by decide +kernel
theorem dX12_misheard_72 : decode cX12_misheard 72 = .ok (.iload_n 1, 1) := by decide +kernel
theorem dX12_misheard_73 : decode cX12_misheard 73 = .ok (.iastore, 1) := by decide +kernel
theorem dX12_misheard_74 : decode cX12_misheard 74 = .ok (.aload_n 0, 1) := by decide +kernel
theorem dX12_misheard_75 : decode cX12_misheard 75 = .ok (.getfield 7, 3) := by decide +kernel
theorem dX12_misheard_78 : decode cX12_misheard 78 = .ok (.sipush 156, 3) := by decide +kernel
theorem dX12_misheard_81 : decode cX12_misheard 81 = .ok (.iconst 2, 1) := by decide +kernel
theorem dX12_misheard_82 : decode cX12_misheard 82 = .ok (.aload_n 0, 1) := by decide +kernel
theorem dX12_misheard_83 : decode cX12_misheard 83 = .ok (.getfield 7, 3) := by decide +kernel
theorem dX12_misheard_86 : decode cX12_misheard 86 = .ok (.bipush 7, 2) := by decide +kernel
theorem dX12_misheard_88 : decode cX12_misheard 88 = .ok (.iaload, 1) := by decide +kernel
theorem dX12_misheard_89 : decode cX12_misheard 89 = .ok (.imul, 1) := by decide +kernel
theorem dX12_misheard_90 : decode cX12_misheard 90 = .ok (.iadd, 1) := by decide +kernel
theorem dX12_misheard_91 : decode cX12_misheard 91 = .ok (.iconst 1, 1) := by decide +kernel
theorem dX12_misheard_92 : decode cX12_misheard 92 = .ok (.iadd, 1) := by decide +kernel
theorem dX12_misheard_93 : decode cX12_misheard 93 = .ok (.iload_n 2, 1) := by decide +kernel
theorem dX12_misheard_94 : decode cX12_misheard 94 = .ok (.iastore, 1) := by decide +kernel
theorem dX12_misheard_95 : decode cX12_misheard 95 = .ok (.aload_n 0, 1) := by decide +kernel
theorem dX12_misheard_96 : decode cX12_misheard 96 = .ok (.getfield 7, 3) := by decide +kernel
theorem dX12_misheard_99 : decode cX12_misheard 99 = .ok (.bipush 7, 2) := by decide +kernel
theorem dX12_misheard_101 : decode cX12_misheard 101 = .ok (.dup2, 1) := by decide +kernel
theorem dX12_misheard_102 : decode cX12_misheard 102 = .ok (.iaload, 1) := by decide +kernel
theorem dX12_misheard_103 : decode cX12_misheard 103 = .ok (.iconst 1, 1) := by decide +kernel
theorem dX12_misheard_104 : decode cX12_misheard 104 = .ok (.iadd, 1) := by decide +kernel
theorem dX12_misheard_105 : decode cX12_misheard 105 = .ok (.iastore, 1) := by decide +kernel
theorem dX12_misheard_106 : decode cX12_misheard 106 = .ok (.aload_n 0, 1) := by decide +kernel
theorem dX12_misheard_107 : decode cX12_misheard 107 = .ok (.getfield 7, 3) := by decide +kernel
theorem dX12_misheard_110 : decode cX12_misheard 110 = .ok (.bipush 7, 2) := by decide +kernel
theorem dX12_misheard_112 : decode cX12_misheard 112 = .ok (.iaload, 1) := by decide +kernel
theorem dX12_misheard_113 : decode cX12_misheard 113 = .ok (.ireturn, 1) := by decide +kernel
theorem dX12_apart_0 : decode cX12_apart 0 = .ok (.iload_n 1, 1) := by decide +kernel
theorem dX12_apart_1 : decode cX12_apart 1 = .ok (.iconst 1, 1) := by decide +kernel
theorem dX12_apart_2 : decode cX12_apart 2 = .ok (.bipush 10, 2) := by decide +kernel
theorem dX12_apart_4 : decode cX12_apart 4 = .ok (.invokestatic 90, 3) := by decide +kernel
theorem dX12_apart_7 : decode cX12_apart 7 = .ok (.ifCond .ne 5, 3) := by decide +kernel
theorem dX12_apart_10 : decode cX12_apart 10 = .ok (.iconst (-1), 1) := by decide +kernel
theorem dX12_apart_11 : decode cX12_apart 11 = .ok (.ireturn, 1) := by decide +kernel
theorem dX12_apart_12 : decode cX12_apart 12 = .ok (.iconst 0, 1) := by decide +kernel
theorem dX12_apart_13 : decode cX12_apart 13 = .ok (.istore_n 2, 1) := by decide +kernel
theorem dX12_apart_14 : decode cX12_apart 14 = .ok (.iconst 0, 1) := by decide +kernel
theorem dX12_apart_15 : decode cX12_apart 15 = .ok (.istore_n 3, 1) := by decide +kernel
theorem dX12_apart_16 : decode cX12_apart 16 = .ok (.iload_n 3, 1) := by decide +kernel
theorem dX12_apart_17 : decode cX12_apart 17 = .ok (.iconst 1, 1) := by decide +kernel
theorem dX12_apart_18 : decode cX12_apart 18 = .ok (.iload_n 1, 1) := by decide +kernel
theorem dX12_apart_19 : decode cX12_apart 19 = .ok (.ishl, 1) := by decide +kernel
theorem dX12_apart_20 : decode cX12_apart 20 = .ok (.if_icmp .ge 109, 3) := by decide +kernel
theorem dX12_apart_23 : decode cX12_apart 23 = .ok (.iload_n 3, 1) := by decide +kernel
theorem dX12_apart_24 : decode cX12_apart 24 = .ok (.invokestatic 446, 3) := by decide +kernel
theorem dX12_apart_27 : decode cX12_apart 27 = .ok (.iload_n 2, 1) := by decide +kernel
theorem dX12_apart_28 : decode cX12_apart 28 = .ok (.invokestatic 446, 3) := by decide +kernel
theorem dX12_apart_31 : decode cX12_apart 31 = .ok (.if_icmp .le 7, 3) := by decide +kernel
theorem dX12_apart_34 : decode cX12_apart 34 = .ok (.iconst 1, 1) := by decide +kernel
theorem dX12_apart_35 : decode cX12_apart 35 = .ok (.goto 4, 3) := by decide +kernel
theorem dX12_apart_38 : decode cX12_apart 38 = .ok (.iconst 0, 1) := by decide +kernel
theorem dX12_apart_39 : decode cX12_apart 39 = .ok (.istore 4, 2) := by decide +kernel
theorem dX12_apart_41 : decode cX12_apart 41 = .ok (.iconst 0, 1) := by decide +kernel
theorem dX12_apart_42 : decode cX12_apart 42 = .ok (.istore 5, 2) := by decide +kernel
theorem dX12_apart_44 : decode cX12_apart 44 = .ok (.iload 5, 2) := by decide +kernel
theorem dX12_apart_46 : decode cX12_apart 46 = .ok (.aload_n 0, 1) := by decide +kernel
theorem dX12_apart_47 : decode cX12_apart 47 = .ok (.getfield 7, 3) := by decide +kernel
theorem dX12_apart_50 : decode cX12_apart 50 = .ok (.bipush 7, 2) := by decide +kernel
theorem dX12_apart_52 : decode cX12_apart 52 = .ok (.iaload, 1) := by decide +kernel
theorem dX12_apart_53 : decode cX12_apart 53 = .ok (.if_icmp .ge 63, 3) := by decide +kernel
theorem dX12_apart_56 : decode cX12_apart 56 = .ok (.iload 4, 2) := by decide +kernel
theorem dX12_apart_58 : decode cX12_apart 58 = .ok (.ifCond .eq 58, 3) := by decide +kernel
theorem dX12_apart_61 : decode cX12_apart 61 = .ok (.iload_n 3, 1) := by decide +kernel
theorem dX12_apart_62 : decode cX12_apart 62 = .ok (.aload_n 0, 1) := by decide +kernel
theorem dX12_apart_63 : decode cX12_apart 63 = .ok (.getfield 7, 3) := by decide +kernel
theorem dX12_apart_66 : decode cX12_apart 66 = .ok (.sipush 156, 3) := by decide +kernel
theorem dX12_apart_69 : decode cX12_apart 69 = .ok (.iconst 2, 1) := by decide +kernel
theorem dX12_apart_70 : decode cX12_apart 70 = .ok (.iload 5, 2) := by decide +kernel
theorem dX12_apart_72 : decode cX12_apart 72 = .ok (.imul, 1) := by decide +kernel
theorem dX12_apart_73 : decode cX12_apart 73 = .ok (.iadd, 1) := by decide +kernel
theorem dX12_apart_74 : decode cX12_apart 74 = .ok (.iaload, 1) := by decide +kernel
theorem dX12_apart_75 : decode cX12_apart 75 = .ok (.invokestatic 279, 3) := by decide +kernel
theorem dX12_apart_78 : decode cX12_apart 78 = .ok (.ifCond .eq 25, 3) := by decide +kernel
theorem dX12_apart_81 : decode cX12_apart 81 = .ok (.iload_n 3, 1) := by decide +kernel
theorem dX12_apart_82 : decode cX12_apart 82 = .ok (.aload_n 0, 1) := by decide +kernel
theorem dX12_apart_83 : decode cX12_apart 83 = .ok (.getfield 7, 3) := by decide +kernel
theorem dX12_apart_86 : decode cX12_apart 86 = .ok (.sipush 156, 3) := by decide +kernel
theorem dX12_apart_89 : decode cX12_apart 89 = .ok (.iconst 2, 1) := by decide +kernel
theorem dX12_apart_90 : decode cX12_apart 90 = .ok (.iload 5, 2) := by decide +kernel
theorem dX12_apart_92 : decode cX12_apart 92 = .ok (.imul, 1) := by decide +kernel
theorem dX12_apart_93 : decode cX12_apart 93 = .ok (.iadd, 1) := by decide +kernel
theorem dX12_apart_94 : decode cX12_apart 94 = .ok (.iconst 1, 1) := by decide +kernel
theorem dX12_apart_95 : decode cX12_apart 95 = .ok (.iadd, 1) := by decide +kernel
theorem dX12_apart_96 : decode cX12_apart 96 = .ok (.iaload, 1) := by decide +kernel
theorem dX12_apart_97 : decode cX12_apart 97 = .ok (.invokestatic 279, 3) := by decide +kernel
theorem dX12_apart_100 : decode cX12_apart 100 = .ok (.ifCond .ne 7, 3) := by decide +kernel
theorem dX12_apart_103 : decode cX12_apart 103 = .ok (.iconst 1, 1) := by decide +kernel
theorem dX12_apart_104 : decode cX12_apart 104 = .ok (.goto 4, 3) := by decide +kernel
theorem dX12_apart_107 : decode cX12_apart 107 = .ok (.iconst 0, 1) := by decide +kernel
theorem dX12_apart_108 : decode cX12_apart 108 = .ok (.istore 4, 2) := by decide +kernel
theorem dX12_apart_110 : decode cX12_apart 110 = .ok (.iinc 5 1, 3) := by decide +kernel
theorem dX12_apart_113 : decode cX12_apart 113 = .ok (.goto (-69), 3) := by decide +kernel
theorem dX12_apart_116 : decode cX12_apart 116 = .ok (.iload 4, 2) := by decide +kernel
theorem dX12_apart_118 : decode cX12_apart 118 = .ok (.ifCond .eq 5, 3) := by decide +kernel
theorem dX12_apart_121 : decode cX12_apart 121 = .ok (.iload_n 3, 1) := by decide +kernel
theorem dX12_apart_122 : decode cX12_apart 122 = .ok (.istore_n 2, 1) := by decide +kernel
theorem dX12_apart_123 : decode cX12_apart 123 = .ok (.iinc 3 1, 3) := by decide +kernel
theorem dX12_apart_126 : decode cX12_apart 126 = .ok (.goto (-110), 3) := by decide +kernel
theorem dX12_apart_129 : decode cX12_apart 129 = .ok (.iload_n 2, 1) := by decide +kernel
theorem dX12_apart_130 : decode cX12_apart 130 = .ok (.ireturn, 1) := by decide +kernel
theorem dX12_grown_0 : decode cX12_grown 0 = .ok (.iload_n 1, 1) := by decide +kernel
theorem dX12_grown_1 : decode cX12_grown 1 = .ok (.istore_n 3, 1) := by decide +kernel
theorem dX12_grown_2 : decode cX12_grown 2 = .ok (.iconst 0, 1) := by decide +kernel
theorem dX12_grown_3 : decode cX12_grown 3 = .ok (.istore 4, 2) := by decide +kernel
theorem dX12_grown_5 : decode cX12_grown 5 = .ok (.iload 4, 2) := by decide +kernel
theorem dX12_grown_7 : decode cX12_grown 7 = .ok (.iload_n 2, 1) := by decide +kernel
theorem dX12_grown_8 : decode cX12_grown 8 = .ok (.if_icmp .ge 104, 3) := by decide +kernel
theorem dX12_grown_11 : decode cX12_grown 11 = .ok (.iconst 0, 1) := by decide +kernel
theorem dX12_grown_12 : decode cX12_grown 12 = .ok (.istore 5, 2) := by decide +kernel
theorem dX12_grown_14 : decode cX12_grown 14 = .ok (.iload 5, 2) := by decide +kernel
theorem dX12_grown_16 : decode cX12_grown 16 = .ok (.aload_n 0, 1) := by decide +kernel
theorem dX12_grown_17 : decode cX12_grown 17 = .ok (.getfield 7, 3) := by decide +kernel
theorem dX12_grown_20 : decode cX12_grown 20 = .ok (.bipush 7, 2) := by decide +kernel
theorem dX12_grown_22 : decode cX12_grown 22 = .ok (.iaload, 1) := by decide +kernel
theorem dX12_grown_23 : decode cX12_grown 23 = .ok (.if_icmp .ge 83, 3) := by decide +kernel
theorem dX12_grown_26 : decode cX12_grown 26 = .ok (.aload_n 0, 1) := by decide +kernel
theorem dX12_grown_27 : decode cX12_grown 27 = .ok (.getfield 7, 3) := by decide +kernel
theorem dX12_grown_30 : decode cX12_grown 30 = .ok (.sipush 156, 3) := by decide +kernel
theorem dX12_grown_33 : decode cX12_grown 33 = .ok (.iconst 2, 1) := by decide +kernel
theorem dX12_grown_34 : decode cX12_grown 34 = .ok (.iload 5, 2) := by decide +kernel
theorem dX12_grown_36 : decode cX12_grown 36 = .ok (.imul, 1) := by decide +kernel
theorem dX12_grown_37 : decode cX12_grown 37 = .ok (.iadd, 1) := by decide +kernel
theorem dX12_grown_38 : decode cX12_grown 38 = .ok (.iaload, 1) := by decide +kernel
theorem dX12_grown_39 : decode cX12_grown 39 = .ok (.istore 6, 2) := by decide +kernel
theorem dX12_grown_41 : decode cX12_grown 41 = .ok (.aload_n 0, 1) := by decide +kernel
theorem dX12_grown_42 : decode cX12_grown 42 = .ok (.getfield 7, 3) := by decide +kernel
theorem dX12_grown_45 : decode cX12_grown 45 = .ok (.sipush 156, 3) := by decide +kernel
theorem dX12_grown_48 : decode cX12_grown 48 = .ok (.iconst 2, 1) := by decide +kernel
theorem dX12_grown_49 : decode cX12_grown 49 = .ok (.iload 5, 2) := by decide +kernel
theorem dX12_grown_51 : decode cX12_grown 51 = .ok (.imul, 1) := by decide +kernel
theorem dX12_grown_52 : decode cX12_grown 52 = .ok (.iadd, 1) := by decide +kernel
theorem dX12_grown_53 : decode cX12_grown 53 = .ok (.iconst 1, 1) := by decide +kernel
theorem dX12_grown_54 : decode cX12_grown 54 = .ok (.iadd, 1) := by decide +kernel
theorem dX12_grown_55 : decode cX12_grown 55 = .ok (.iaload, 1) := by decide +kernel
theorem dX12_grown_56 : decode cX12_grown 56 = .ok (.istore 7, 2) := by decide +kernel
theorem dX12_grown_58 : decode cX12_grown 58 = .ok (.iload 6, 2) := by decide +kernel
theorem dX12_grown_60 : decode cX12_grown 60 = .ok (.iload_n 2, 1) := by decide +kernel
theorem dX12_grown_61 : decode cX12_grown 61 = .ok (.if_icmp .ge 39, 3) := by decide +kernel
theorem dX12_grown_64 : decode cX12_grown 64 = .ok (.iload 7, 2) := by decide +kernel
theorem dX12_grown_66 : decode cX12_grown 66 = .ok (.iload_n 2, 1) := by decide +kernel
theorem dX12_grown_67 : decode cX12_grown 67 = .ok (.if_icmp .ge 33, 3) := by decide +kernel
theorem dX12_grown_70 : decode cX12_grown 70 = .ok (.iload_n 3, 1) := by decide +kernel
theorem dX12_grown_71 : decode cX12_grown 71 = .ok (.iload 6, 2) := by decide +kernel
theorem dX12_grown_73 : decode cX12_grown 73 = .ok (.invokestatic 279, 3) := by decide +kernel
theorem dX12_grown_76 : decode cX12_grown 76 = .ok (.ifCond .ne 12, 3) := by decide +kernel
theorem dX12_grown_79 : decode cX12_grown 79 = .ok (.iload_n 3, 1) := by decide +kernel
theorem dX12_grown_80 : decode cX12_grown 80 = .ok (.iload 7, 2) := by decide +kernel
theorem dX12_grown_82 : decode cX12_grown 82 = .ok (.invokestatic 279, 3) := by decide +kernel
theorem dX12_grown_85 : decode cX12_grown 85 = .ok (.ifCond .eq 15, 3) := by decide +kernel
theorem dX12_grown_88 : decode cX12_grown 88 = .ok (.iload_n 3, 1) := by decide +kernel
theorem dX12_grown_89 : decode cX12_grown 89 = .ok (.iconst 1, 1) := by decide +kernel
theorem dX12_grown_90 : decode cX12_grown 90 = .ok (.iload 6, 2) := by decide +kernel
theorem dX12_grown_92 : decode cX12_grown 92 = .ok (.ishl, 1) := by decide +kernel
theorem dX12_grown_93 : decode cX12_grown 93 = .ok (.iconst 1, 1) := by decide +kernel
theorem dX12_grown_94 : decode cX12_grown 94 = .ok (.iload 7, 2) := by decide +kernel
theorem dX12_grown_96 : decode cX12_grown 96 = .ok (.ishl, 1) := by decide +kernel
theorem dX12_grown_97 : decode cX12_grown 97 = .ok (.ior, 1) := by decide +kernel
theorem dX12_grown_98 : decode cX12_grown 98 = .ok (.ior, 1) := by decide +kernel
theorem dX12_grown_99 : decode cX12_grown 99 = .ok (.istore_n 3, 1) := by decide +kernel
theorem dX12_grown_100 : decode cX12_grown 100 = .ok (.iinc 5 1, 3) := by decide +kernel
theorem dX12_grown_103 : decode cX12_grown 103 = .ok (.goto (-89), 3) := by decide +kernel
theorem dX12_grown_106 : decode cX12_grown 106 = .ok (.iinc 4 1, 3) := by decide +kernel
theorem dX12_grown_109 : decode cX12_grown 109 = .ok (.goto (-104), 3) := by decide +kernel
theorem dX12_grown_112 : decode cX12_grown 112 = .ok (.iload_n 3, 1) := by decide +kernel
theorem dX12_grown_113 : decode cX12_grown 113 = .ok (.ireturn, 1) := by decide +kernel
theorem dX12_chains_0 : decode cX12_chains 0 = .ok (.iload_n 1, 1) := by decide +kernel
theorem dX12_chains_1 : decode cX12_chains 1 = .ok (.iconst 1, 1) := by decide +kernel
theorem dX12_chains_2 : decode cX12_chains 2 = .ok (.bipush 10, 2) := by decide +kernel
theorem dX12_chains_4 : decode cX12_chains 4 = .ok (.invokestatic 90, 3) := by decide +kernel
theorem dX12_chains_7 : decode cX12_chains 7 = .ok (.ifCond .ne 5, 3) := by decide +kernel
theorem dX12_chains_10 : decode cX12_chains 10 = .ok (.iconst (-1), 1) := by decide +kernel
theorem dX12_chains_11 : decode cX12_chains 11 = .ok (.ireturn, 1) := by decide +kernel
theorem dX12_chains_12 : decode cX12_chains 12 = .ok (.iconst 0, 1) := by decide +kernel
theorem dX12_chains_13 : decode cX12_chains 13 = .ok (.istore_n 2, 1) := by decide +kernel
theorem dX12_chains_14 : decode cX12_chains 14 = .ok (.iconst 0, 1) := by decide +kernel
theorem dX12_chains_15 : decode cX12_chains 15 = .ok (.istore_n 3, 1) := by decide +kernel
theorem dX12_chains_16 : decode cX12_chains 16 = .ok (.iconst 0, 1) := by decide +kernel
theorem dX12_chains_17 : decode cX12_chains 17 = .ok (.istore 4, 2) := by decide +kernel
theorem dX12_chains_19 : decode cX12_chains 19 = .ok (.iload 4, 2) := by decide +kernel
theorem dX12_chains_21 : decode cX12_chains 21 = .ok (.iload_n 1, 1) := by decide +kernel
theorem dX12_chains_22 : decode cX12_chains 22 = .ok (.if_icmp .ge 36, 3) := by decide +kernel
theorem dX12_chains_25 : decode cX12_chains 25 = .ok (.iload_n 2, 1) := by decide +kernel
theorem dX12_chains_26 : decode cX12_chains 26 = .ok (.iload 4, 2) := by decide +kernel
theorem dX12_chains_28 : decode cX12_chains 28 = .ok (.invokestatic 279, 3) := by decide +kernel
theorem dX12_chains_31 : decode cX12_chains 31 = .ok (.ifCond .eq 6, 3) := by decide +kernel
theorem dX12_chains_34 : decode cX12_chains 34 = .ok (.goto 18, 3) := by decide +kernel
theorem dX12_chains_37 : decode cX12_chains 37 = .ok (.iload_n 2, 1) := by decide +kernel
theorem dX12_chains_38 : decode cX12_chains 38 = .ok (.aload_n 0, 1) := by decide +kernel
theorem dX12_chains_39 : decode cX12_chains 39 = .ok (.iconst 1, 1) := by decide +kernel
theorem dX12_chains_40 : decode cX12_chains 40 = .ok (.iload 4, 2) := by decide +kernel
theorem dX12_chains_42 : decode cX12_chains 42 = .ok (.ishl, 1) := by decide +kernel
theorem dX12_chains_43 : decode cX12_chains 43 = .ok (.iload_n 1, 1) := by decide +kernel
theorem dX12_chains_44 : decode cX12_chains 44 = .ok (.invokevirtual 475, 3) := by decide +kernel
theorem dX12_chains_47 : decode cX12_chains 47 = .ok (.ior, 1) := by decide +kernel
theorem dX12_chains_48 : decode cX12_chains 48 = .ok (.istore_n 2, 1) := by decide +kernel
theorem dX12_chains_49 : decode cX12_chains 49 = .ok (.iinc 3 1, 3) := by decide +kernel
theorem dX12_chains_52 : decode cX12_chains 52 = .ok (.iinc 4 1, 3) := by decide +kernel
theorem dX12_chains_55 : decode cX12_chains 55 = .ok (.goto (-36), 3) := by decide +kernel
theorem dX12_chains_58 : decode cX12_chains 58 = .ok (.iload_n 3, 1) := by decide +kernel
theorem dX12_chains_59 : decode cX12_chains 59 = .ok (.ireturn, 1) := by decide +kernel
theorem dX12_run_0 : decode cX12_run 0 = .ok (.aload_n 0, 1) := by decide +kernel
theorem dX12_run_1 : decode cX12_run 1 = .ok (.invokevirtual 427, 3) := by decide +kernel
theorem dX12_run_4 : decode cX12_run 4 = .ok (.iconst (-1), 1) := by decide +kernel
theorem dX12_run_5 : decode cX12_run 5 = .ok (.istore_n 2, 1) := by decide +kernel
theorem dX12_run_6 : decode cX12_run 6 = .ok (.iconst 0, 1) := by decide +kernel
theorem dX12_run_7 : decode cX12_run 7 = .ok (.istore_n 3, 1) := by decide +kernel
theorem dX12_run_8 : decode cX12_run 8 = .ok (.iload_n 3, 1) := by decide +kernel
theorem dX12_run_9 : decode cX12_run 9 = .ok (.bipush 7, 2) := by decide +kernel
theorem dX12_run_11 : decode cX12_run 11 = .ok (.if_icmp .ge 16, 3) := by decide +kernel
theorem dX12_run_14 : decode cX12_run 14 = .ok (.aload_n 0, 1) := by decide +kernel
theorem dX12_run_15 : decode cX12_run 15 = .ok (.getfield 83, 3) := by decide +kernel
theorem dX12_run_18 : decode cX12_run 18 = .ok (.iload_n 3, 1) := by decide +kernel
theorem dX12_run_19 : decode cX12_run 19 = .ok (.iconst (-1), 1) := by decide +kernel
theorem dX12_run_20 : decode cX12_run 20 = .ok (.iastore, 1) := by decide +kernel
theorem dX12_run_21 : decode cX12_run 21 = .ok (.iinc 3 1, 3) := by decide +kernel
theorem dX12_run_24 : decode cX12_run 24 = .ok (.goto (-16), 3) := by decide +kernel
theorem dX12_run_27 : decode cX12_run 27 = .ok (.iconst 0, 1) := by decide +kernel
theorem dX12_run_28 : decode cX12_run 28 = .ok (.istore_n 3, 1) := by decide +kernel
theorem dX12_run_29 : decode cX12_run 29 = .ok (.iload_n 3, 1) := by decide +kernel
theorem dX12_run_30 : decode cX12_run 30 = .ok (.bipush 48, 2) := by decide +kernel
theorem dX12_run_32 : decode cX12_run 32 = .ok (.if_icmp .gt 126, 3) := by decide +kernel
theorem dX12_run_35 : decode cX12_run 35 = .ok (.iload_n 2, 1) := by decide +kernel
theorem dX12_run_36 : decode cX12_run 36 = .ok (.iconst (-1), 1) := by decide +kernel
theorem dX12_run_37 : decode cX12_run 37 = .ok (.if_icmp .ne 121, 3) := by decide +kernel
theorem dX12_run_40 : decode cX12_run 40 = .ok (.aload_n 0, 1) := by decide +kernel
theorem dX12_run_41 : decode cX12_run 41 = .ok (.getfield 7, 3) := by decide +kernel
theorem dX12_run_44 : decode cX12_run 44 = .ok (.iconst 1, 1) := by decide +kernel
theorem dX12_run_45 : decode cX12_run 45 = .ok (.iaload, 1) := by decide +kernel
theorem dX12_run_46 : decode cX12_run 46 = .ok (.ifCond .le 112, 3) := by decide +kernel
theorem dX12_run_49 : decode cX12_run 49 = .ok (.iconst 0, 1) := by decide +kernel
theorem dX12_run_50 : decode cX12_run 50 = .ok (.istore 4, 2) := by decide +kernel
theorem dX12_run_52 : decode cX12_run 52 = .ok (.iconst 0, 1) := by decide +kernel
theorem dX12_run_53 : decode cX12_run 53 = .ok (.istore 5, 2) := by decide +kernel
theorem dX12_run_55 : decode cX12_run 55 = .ok (.iload 5, 2) := by decide +kernel
theorem dX12_run_57 : decode cX12_run 57 = .ok (.aload_n 0, 1) := by decide +kernel
theorem dX12_run_58 : decode cX12_run 58 = .ok (.getfield 7, 3) := by decide +kernel
theorem dX12_run_61 : decode cX12_run 61 = .ok (.iconst 1, 1) := by decide +kernel
theorem dX12_run_62 : decode cX12_run 62 = .ok (.iaload, 1) := by decide +kernel
theorem dX12_run_63 : decode cX12_run 63 = .ok (.if_icmp .ge 72, 3) := by decide +kernel
theorem dX12_run_66 : decode cX12_run 66 = .ok (.aload_n 0, 1) := by decide +kernel
theorem dX12_run_67 : decode cX12_run 67 = .ok (.iload 5, 2) := by decide +kernel
theorem dX12_run_69 : decode cX12_run 69 = .ok (.iconst 1, 1) := by decide +kernel
theorem dX12_run_70 : decode cX12_run 70 = .ok (.invokevirtual 340, 3) := by decide +kernel
theorem dX12_run_73 : decode cX12_run 73 = .ok (.aload_n 0, 1) := by decide +kernel
theorem dX12_run_74 : decode cX12_run 74 = .ok (.iload 5, 2) := by decide +kernel
theorem dX12_run_76 : decode cX12_run 76 = .ok (.iconst 2, 1) := by decide +kernel
theorem dX12_run_77 : decode cX12_run 77 = .ok (.invokevirtual 340, 3) := by decide +kernel
theorem dX12_run_80 : decode cX12_run 80 = .ok (.if_icmp .ne 7, 3) := by decide +kernel
theorem dX12_run_83 : decode cX12_run 83 = .ok (.iconst 1, 1) := by decide +kernel
theorem dX12_run_84 : decode cX12_run 84 = .ok (.goto 4, 3) := by decide +kernel
theorem dX12_run_87 : decode cX12_run 87 = .ok (.iconst 0, 1) := by decide +kernel
theorem dX12_run_88 : decode cX12_run 88 = .ok (.istore 6, 2) := by decide +kernel
theorem dX12_run_90 : decode cX12_run 90 = .ok (.iload 4, 2) := by decide +kernel
theorem dX12_run_92 : decode cX12_run 92 = .ok (.iload 6, 2) := by decide +kernel
theorem dX12_run_94 : decode cX12_run 94 = .ok (.ifCond .eq 7, 3) := by decide +kernel
theorem dX12_run_97 : decode cX12_run 97 = .ok (.iconst 1, 1) := by decide +kernel
theorem dX12_run_98 : decode cX12_run 98 = .ok (.goto 4, 3) := by decide +kernel
theorem dX12_run_101 : decode cX12_run 101 = .ok (.iconst 0, 1) := by decide +kernel
theorem dX12_run_102 : decode cX12_run 102 = .ok (.iadd, 1) := by decide +kernel
theorem dX12_run_103 : decode cX12_run 103 = .ok (.istore 4, 2) := by decide +kernel
theorem dX12_run_105 : decode cX12_run 105 = .ok (.iload 6, 2) := by decide +kernel
theorem dX12_run_107 : decode cX12_run 107 = .ok (.ifCond .eq 22, 3) := by decide +kernel
theorem dX12_run_110 : decode cX12_run 110 = .ok (.aload_n 0, 1) := by decide +kernel
theorem dX12_run_111 : decode cX12_run 111 = .ok (.getfield 83, 3) := by decide +kernel
theorem dX12_run_114 : decode cX12_run 114 = .ok (.iload 5, 2) := by decide +kernel
theorem dX12_run_116 : decode cX12_run 116 = .ok (.iaload, 1) := by decide +kernel
theorem dX12_run_117 : decode cX12_run 117 = .ok (.iconst (-1), 1) := by decide +kernel
theorem dX12_run_118 : decode cX12_run 118 = .ok (.if_icmp .ne 11, 3) := by decide +kernel
theorem dX12_run_121 : decode cX12_run 121 = .ok (.aload_n 0, 1) := by decide +kernel
theorem dX12_run_122 : decode cX12_run 122 = .ok (.getfield 83, 3) := by decide +kernel
theorem dX12_run_125 : decode cX12_run 125 = .ok (.iload 5, 2) := by decide +kernel
theorem dX12_run_127 : decode cX12_run 127 = .ok (.iload_n 3, 1) := by decide +kernel
theorem dX12_run_128 : decode cX12_run 128 = .ok (.iastore, 1) := by decide +kernel
theorem dX12_run_129 : decode cX12_run 129 = .ok (.iinc 5 1, 3) := by decide +kernel
theorem dX12_run_132 : decode cX12_run 132 = .ok (.goto (-77), 3) := by decide +kernel
theorem dX12_run_135 : decode cX12_run 135 = .ok (.iload 4, 2) := by decide +kernel
theorem dX12_run_137 : decode cX12_run 137 = .ok (.aload_n 0, 1) := by decide +kernel
theorem dX12_run_138 : decode cX12_run 138 = .ok (.getfield 7, 3) := by decide +kernel
theorem dX12_run_141 : decode cX12_run 141 = .ok (.iconst 1, 1) := by decide +kernel
theorem dX12_run_142 : decode cX12_run 142 = .ok (.iaload, 1) := by decide +kernel
theorem dX12_run_143 : decode cX12_run 143 = .ok (.if_icmp .ne 5, 3) := by decide +kernel
theorem dX12_run_146 : decode cX12_run 146 = .ok (.iload_n 3, 1) := by decide +kernel
theorem dX12_run_147 : decode cX12_run 147 = .ok (.istore_n 2, 1) := by decide +kernel
theorem dX12_run_148 : decode cX12_run 148 = .ok (.aload_n 0, 1) := by decide +kernel
theorem dX12_run_149 : decode cX12_run 149 = .ok (.invokevirtual 381, 3) := by decide +kernel
theorem dX12_run_152 : decode cX12_run 152 = .ok (.iinc 3 1, 3) := by decide +kernel
theorem dX12_run_155 : decode cX12_run 155 = .ok (.goto (-126), 3) := by decide +kernel
theorem dX12_run_158 : decode cX12_run 158 = .ok (.aload_n 0, 1) := by decide +kernel
theorem dX12_run_159 : decode cX12_run 159 = .ok (.invokevirtual 430, 3) := by decide +kernel
theorem dX12_run_162 : decode cX12_run 162 = .ok (.iload_n 2, 1) := by decide +kernel
theorem dX12_run_163 : decode cX12_run 163 = .ok (.iconst (-1), 1) := by decide +kernel
theorem dX12_run_164 : decode cX12_run 164 = .ok (.if_icmp .eq 7, 3) := by decide +kernel
theorem dX12_run_167 : decode cX12_run 167 = .ok (.iload_n 1, 1) := by decide +kernel
theorem dX12_run_168 : decode cX12_run 168 = .ok (.ifCond .ne 5, 3) := by decide +kernel
theorem dX12_run_171 : decode cX12_run 171 = .ok (.iload_n 2, 1) := by decide +kernel
theorem dX12_run_172 : decode cX12_run 172 = .ok (.ireturn, 1) := by decide +kernel
theorem dX12_run_173 : decode cX12_run 173 = .ok (.iconst 0, 1) := by decide +kernel
theorem dX12_run_174 : decode cX12_run 174 = .ok (.istore_n 3, 1) := by decide +kernel
theorem dX12_run_175 : decode cX12_run 175 = .ok (.iconst 1, 1) := by decide +kernel
theorem dX12_run_176 : decode cX12_run 176 = .ok (.istore 4, 2) := by decide +kernel
theorem dX12_run_178 : decode cX12_run 178 = .ok (.iload 4, 2) := by decide +kernel
theorem dX12_run_180 : decode cX12_run 180 = .ok (.aload_n 0, 1) := by decide +kernel
theorem dX12_run_181 : decode cX12_run 181 = .ok (.getfield 7, 3) := by decide +kernel
theorem dX12_run_184 : decode cX12_run 184 = .ok (.iconst 1, 1) := by decide +kernel
theorem dX12_run_185 : decode cX12_run 185 = .ok (.iaload, 1) := by decide +kernel
theorem dX12_run_186 : decode cX12_run 186 = .ok (.if_icmp .ge 28, 3) := by decide +kernel
theorem dX12_run_189 : decode cX12_run 189 = .ok (.aload_n 0, 1) := by decide +kernel
theorem dX12_run_190 : decode cX12_run 190 = .ok (.getfield 83, 3) := by decide +kernel
theorem dX12_run_193 : decode cX12_run 193 = .ok (.iload 4, 2) := by decide +kernel
theorem dX12_run_195 : decode cX12_run 195 = .ok (.iaload, 1) := by decide +kernel
theorem dX12_run_196 : decode cX12_run 196 = .ok (.aload_n 0, 1) := by decide +kernel
theorem dX12_run_197 : decode cX12_run 197 = .ok (.getfield 83, 3) := by decide +kernel
theorem dX12_run_200 : decode cX12_run 200 = .ok (.iload_n 3, 1) := by decide +kernel
theorem dX12_run_201 : decode cX12_run 201 = .ok (.iaload, 1) := by decide +kernel
theorem dX12_run_202 : decode cX12_run 202 = .ok (.if_icmp .le 6, 3) := by decide +kernel
theorem dX12_run_205 : decode cX12_run 205 = .ok (.iload 4, 2) := by decide +kernel
theorem dX12_run_207 : decode cX12_run 207 = .ok (.istore_n 3, 1) := by decide +kernel
theorem dX12_run_208 : decode cX12_run 208 = .ok (.iinc 4 1, 3) := by decide +kernel
theorem dX12_run_211 : decode cX12_run 211 = .ok (.goto (-33), 3) := by decide +kernel
theorem dX12_run_214 : decode cX12_run 214 = .ok (.iload_n 3, 1) := by decide +kernel
theorem dX12_run_215 : decode cX12_run 215 = .ok (.ireturn, 1) := by decide +kernel
theorem dX12_image_0 : decode cX12_image 0 = .ok (.aload_n 0, 1) := by decide +kernel
theorem dX12_image_1 : decode cX12_image 1 = .ok (.getfield 7, 3) := by decide +kernel
theorem dX12_image_4 : decode cX12_image 4 = .ok (.aload_n 0, 1) := by decide +kernel
theorem dX12_image_5 : decode cX12_image 5 = .ok (.getfield 13, 3) := by decide +kernel
theorem dX12_image_8 : decode cX12_image 8 = .ok (.invokestatic 86, 3) := by decide +kernel
theorem dX12_image_11 : decode cX12_image 11 = .ok (.aload_n 0, 1) := by decide +kernel
theorem dX12_image_12 : decode cX12_image 12 = .ok (.getfield 7, 3) := by decide +kernel
theorem dX12_image_15 : decode cX12_image 15 = .ok (.bipush 8, 2) := by decide +kernel
theorem dX12_image_17 : decode cX12_image 17 = .ok (.iaload, 1) := by decide +kernel
theorem dX12_image_18 : decode cX12_image 18 = .ok (.ireturn, 1) := by decide +kernel
theorem dX12_back_0 : decode cX12_back 0 = .ok (.aload_n 0, 1) := by decide +kernel
theorem dX12_back_1 : decode cX12_back 1 = .ok (.getfield 13, 3) := by decide +kernel
theorem dX12_back_4 : decode cX12_back 4 = .ok (.aload_n 0, 1) := by decide +kernel
theorem dX12_back_5 : decode cX12_back 5 = .ok (.getfield 7, 3) := by decide +kernel
theorem dX12_back_8 : decode cX12_back 8 = .ok (.invokestatic 86, 3) := by decide +kernel
theorem dX12_back_11 : decode cX12_back 11 = .ok (.aload_n 0, 1) := by decide +kernel
theorem dX12_back_12 : decode cX12_back 12 = .ok (.getfield 7, 3) := by decide +kernel
theorem dX12_back_15 : decode cX12_back 15 = .ok (.bipush 8, 2) := by decide +kernel
theorem dX12_back_17 : decode cX12_back 17 = .ok (.iaload, 1) := by decide +kernel
theorem dX12_back_18 : decode cX12_back 18 = .ok (.ireturn, 1) := by decide +kernel
theorem dX12_about_0 : decode cX12_about 0 = .ok (.iload_n 1, 1) := by decide +kernel
theorem dX12_about_1 : decode cX12_about 1 = .ok (.iconst 0, 1) := by decide +kernel
theorem dX12_about_2 : decode cX12_about 2 = .ok (.bipush 7, 2) := by decide +kernel
theorem dX12_about_4 : decode cX12_about 4 = .ok (.invokestatic 90, 3) := by decide +kernel
theorem dX12_about_7 : decode cX12_about 7 = .ok (.ifCond .eq 12, 3) := by decide +kernel
theorem dX12_about_10 : decode cX12_about 10 = .ok (.aload_n 0, 1) := by decide +kernel
theorem dX12_about_11 : decode cX12_about 11 = .ok (.getfield 7, 3) := by decide +kernel
theorem dX12_about_14 : decode cX12_about 14 = .ok (.iload_n 1, 1) := by decide +kernel
theorem dX12_about_15 : decode cX12_about 15 = .ok (.iaload, 1) := by decide +kernel
theorem dX12_about_16 : decode cX12_about 16 = .ok (.goto 18, 3) := by decide +kernel
theorem dX12_about_19 : decode cX12_about 19 = .ok (.iload_n 1, 1) := by decide +kernel
theorem dX12_about_20 : decode cX12_about 20 = .ok (.bipush 8, 2) := by decide +kernel
theorem dX12_about_22 : decode cX12_about 22 = .ok (.if_icmp .ne 10, 3) := by decide +kernel
theorem dX12_about_25 : decode cX12_about 25 = .ok (.aload_n 0, 1) := by decide +kernel
theorem dX12_about_26 : decode cX12_about 26 = .ok (.getfield 109, 3) := by decide +kernel
theorem dX12_about_29 : decode cX12_about 29 = .ok (.goto 5, 3) := by decide +kernel
theorem dX12_about_32 : decode cX12_about 32 = .ok (.bipush (-2), 2) := by decide +kernel
theorem dX12_about_34 : decode cX12_about 34 = .ok (.ireturn, 1) := by decide +kernel
