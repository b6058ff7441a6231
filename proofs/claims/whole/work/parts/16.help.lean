/-! ===== constants, and what the walks lack ===== -/
theorem cb_m100 : (Int8.ofInt (-100)).toInt32.toInt = (-100) := by decide +kernel
theorem cb_m2 : (Int8.ofInt (-2)).toInt32.toInt = (-2) := by decide +kernel
theorem cb_6 : (Int8.ofInt 6).toInt32.toInt = 6 := by decide +kernel
theorem cb_7 : (Int8.ofInt 7).toInt32.toInt = 7 := by decide +kernel
theorem cb_8 : (Int8.ofInt 8).toInt32.toInt = 8 := by decide +kernel
theorem cb_9 : (Int8.ofInt 9).toInt32.toInt = 9 := by decide +kernel
theorem cb_10 : (Int8.ofInt 10).toInt32.toInt = 10 := by decide +kernel
theorem cb_11 : (Int8.ofInt 11).toInt32.toInt = 11 := by decide +kernel
theorem cb_12 : (Int8.ofInt 12).toInt32.toInt = 12 := by decide +kernel
theorem cb_13 : (Int8.ofInt 13).toInt32.toInt = 13 := by decide +kernel
theorem cb_14 : (Int8.ofInt 14).toInt32.toInt = 14 := by decide +kernel
theorem cb_15 : (Int8.ofInt 15).toInt32.toInt = 15 := by decide +kernel
theorem cb_16 : (Int8.ofInt 16).toInt32.toInt = 16 := by decide +kernel
theorem cb_20 : (Int8.ofInt 20).toInt32.toInt = 20 := by decide +kernel
theorem cb_21 : (Int8.ofInt 21).toInt32.toInt = 21 := by decide +kernel
theorem cb_22 : (Int8.ofInt 22).toInt32.toInt = 22 := by decide +kernel
theorem cb_24 : (Int8.ofInt 24).toInt32.toInt = 24 := by decide +kernel
theorem cb_30 : (Int8.ofInt 30).toInt32.toInt = 30 := by decide +kernel
theorem cb_32 : (Int8.ofInt 32).toInt32.toInt = 32 := by decide +kernel
theorem cb_35 : (Int8.ofInt 35).toInt32.toInt = 35 := by decide +kernel
theorem cb_39 : (Int8.ofInt 39).toInt32.toInt = 39 := by decide +kernel
theorem cb_40 : (Int8.ofInt 40).toInt32.toInt = 40 := by decide +kernel
theorem cb_41 : (Int8.ofInt 41).toInt32.toInt = 41 := by decide +kernel
theorem cb_42 : (Int8.ofInt 42).toInt32.toInt = 42 := by decide +kernel
theorem cb_43 : (Int8.ofInt 43).toInt32.toInt = 43 := by decide +kernel
theorem cb_45 : (Int8.ofInt 45).toInt32.toInt = 45 := by decide +kernel
theorem cb_47 : (Int8.ofInt 47).toInt32.toInt = 47 := by decide +kernel
theorem cb_48 : (Int8.ofInt 48).toInt32.toInt = 48 := by decide +kernel
theorem cb_49 : (Int8.ofInt 49).toInt32.toInt = 49 := by decide +kernel
theorem cb_57 : (Int8.ofInt 57).toInt32.toInt = 57 := by decide +kernel
theorem cb_59 : (Int8.ofInt 59).toInt32.toInt = 59 := by decide +kernel
theorem cb_60 : (Int8.ofInt 60).toInt32.toInt = 60 := by decide +kernel
theorem cb_61 : (Int8.ofInt 61).toInt32.toInt = 61 := by decide +kernel
theorem cb_62 : (Int8.ofInt 62).toInt32.toInt = 62 := by decide +kernel
theorem cb_63 : (Int8.ofInt 63).toInt32.toInt = 63 := by decide +kernel
theorem cb_64 : (Int8.ofInt 64).toInt32.toInt = 64 := by decide +kernel
theorem cb_65 : (Int8.ofInt 65).toInt32.toInt = 65 := by decide +kernel
theorem cb_83 : (Int8.ofInt 83).toInt32.toInt = 83 := by decide +kernel
theorem cb_88 : (Int8.ofInt 88).toInt32.toInt = 88 := by decide +kernel
theorem cb_90 : (Int8.ofInt 90).toInt32.toInt = 90 := by decide +kernel
theorem cb_97 : (Int8.ofInt 97).toInt32.toInt = 97 := by decide +kernel
theorem cb_98 : (Int8.ofInt 98).toInt32.toInt = 98 := by decide +kernel
theorem cb_99 : (Int8.ofInt 99).toInt32.toInt = 99 := by decide +kernel
theorem cb_100 : (Int8.ofInt 100).toInt32.toInt = 100 := by decide +kernel
theorem cb_101 : (Int8.ofInt 101).toInt32.toInt = 101 := by decide +kernel
theorem cb_102 : (Int8.ofInt 102).toInt32.toInt = 102 := by decide +kernel
theorem cb_103 : (Int8.ofInt 103).toInt32.toInt = 103 := by decide +kernel
theorem cb_104 : (Int8.ofInt 104).toInt32.toInt = 104 := by decide +kernel
theorem cb_105 : (Int8.ofInt 105).toInt32.toInt = 105 := by decide +kernel
theorem cb_107 : (Int8.ofInt 107).toInt32.toInt = 107 := by decide +kernel
theorem cb_108 : (Int8.ofInt 108).toInt32.toInt = 108 := by decide +kernel
theorem cb_109 : (Int8.ofInt 109).toInt32.toInt = 109 := by decide +kernel
theorem cb_110 : (Int8.ofInt 110).toInt32.toInt = 110 := by decide +kernel
theorem cb_111 : (Int8.ofInt 111).toInt32.toInt = 111 := by decide +kernel
theorem cb_112 : (Int8.ofInt 112).toInt32.toInt = 112 := by decide +kernel
theorem cb_114 : (Int8.ofInt 114).toInt32.toInt = 114 := by decide +kernel
theorem cb_115 : (Int8.ofInt 115).toInt32.toInt = 115 := by decide +kernel
theorem cb_116 : (Int8.ofInt 116).toInt32.toInt = 116 := by decide +kernel
theorem cb_117 : (Int8.ofInt 117).toInt32.toInt = 117 := by decide +kernel
theorem cb_118 : (Int8.ofInt 118).toInt32.toInt = 118 := by decide +kernel
theorem cb_119 : (Int8.ofInt 119).toInt32.toInt = 119 := by decide +kernel
theorem cb_121 : (Int8.ofInt 121).toInt32.toInt = 121 := by decide +kernel
theorem cb_122 : (Int8.ofInt 122).toInt32.toInt = 122 := by decide +kernel
theorem cc_m1000000000 : ((-1000000000) : Int32).toInt = (-1000000000) := by decide +kernel
theorem cc_m1000000 : ((-1000000) : Int32).toInt = (-1000000) := by decide +kernel
theorem cc_99999 : (99999 : Int32).toInt = 99999 := by decide +kernel
theorem cc_1000000 : (1000000 : Int32).toInt = 1000000 := by decide +kernel
theorem cc_99999999 : (99999999 : Int32).toInt = 99999999 := by decide +kernel
theorem cc_100000000 : (100000000 : Int32).toInt = 100000000 := by decide +kernel
theorem cc_252645135 : (252645135 : Int32).toInt = 252645135 := by decide +kernel
theorem cc_858993459 : (858993459 : Int32).toInt = 858993459 := by decide +kernel
theorem cc_1431655765 : (1431655765 : Int32).toInt = 1431655765 := by decide +kernel
theorem cj_m1000000 : ((-1000000) : Int64).toInt = (-1000000) := by decide +kernel
theorem cj_1000000 : (1000000 : Int64).toInt = 1000000 := by decide +kernel
theorem cj_1152921504606846976 : (1152921504606846976 : Int64).toInt = 1152921504606846976 := by decide +kernel
theorem ci_m1 : (Int32.ofInt (-1)).toInt = (-1) := by decide +kernel
theorem ci_0 : (Int32.ofInt 0).toInt = 0 := by decide +kernel
theorem ci_1 : (Int32.ofInt 1).toInt = 1 := by decide +kernel
theorem ci_2 : (Int32.ofInt 2).toInt = 2 := by decide +kernel
theorem ci_3 : (Int32.ofInt 3).toInt = 3 := by decide +kernel
theorem ci_4 : (Int32.ofInt 4).toInt = 4 := by decide +kernel
theorem ci_5 : (Int32.ofInt 5).toInt = 5 := by decide +kernel
theorem cl_0 : (Int64.ofNat ((0 : Fin 2) : Nat)).toInt = 0 := by decide +kernel
theorem cl_1 : (Int64.ofNat ((1 : Fin 2) : Nat)).toInt = 1 := by decide +kernel
theorem cs_128 : (Int16.ofInt 128).toInt32.toInt = 128 := by decide +kernel
theorem cs_129 : (Int16.ofInt 129).toInt32.toInt = 129 := by decide +kernel
theorem cs_130 : (Int16.ofInt 130).toInt32.toInt = 130 := by decide +kernel
theorem cs_131 : (Int16.ofInt 131).toInt32.toInt = 131 := by decide +kernel
theorem cs_132 : (Int16.ofInt 132).toInt32.toInt = 132 := by decide +kernel
theorem cs_133 : (Int16.ofInt 133).toInt32.toInt = 133 := by decide +kernel
theorem cs_135 : (Int16.ofInt 135).toInt32.toInt = 135 := by decide +kernel
theorem cs_139 : (Int16.ofInt 139).toInt32.toInt = 139 := by decide +kernel
theorem cs_140 : (Int16.ofInt 140).toInt32.toInt = 140 := by decide +kernel
theorem cs_141 : (Int16.ofInt 141).toInt32.toInt = 141 := by decide +kernel
theorem cs_142 : (Int16.ofInt 142).toInt32.toInt = 142 := by decide +kernel
theorem cs_146 : (Int16.ofInt 146).toInt32.toInt = 146 := by decide +kernel
theorem cs_147 : (Int16.ofInt 147).toInt32.toInt = 147 := by decide +kernel
theorem cs_148 : (Int16.ofInt 148).toInt32.toInt = 148 := by decide +kernel
theorem cs_149 : (Int16.ofInt 149).toInt32.toInt = 149 := by decide +kernel
theorem cs_150 : (Int16.ofInt 150).toInt32.toInt = 150 := by decide +kernel
theorem cs_151 : (Int16.ofInt 151).toInt32.toInt = 151 := by decide +kernel
theorem cs_152 : (Int16.ofInt 152).toInt32.toInt = 152 := by decide +kernel
theorem cs_153 : (Int16.ofInt 153).toInt32.toInt = 153 := by decide +kernel
theorem cs_154 : (Int16.ofInt 154).toInt32.toInt = 154 := by decide +kernel
theorem cs_156 : (Int16.ofInt 156).toInt32.toInt = 156 := by decide +kernel
theorem cs_186 : (Int16.ofInt 186).toInt32.toInt = 186 := by decide +kernel
theorem cs_191 : (Int16.ofInt 191).toInt32.toInt = 191 := by decide +kernel
theorem cs_200 : (Int16.ofInt 200).toInt32.toInt = 200 := by decide +kernel
theorem cs_250 : (Int16.ofInt 250).toInt32.toInt = 250 := by decide +kernel
theorem cs_255 : (Int16.ofInt 255).toInt32.toInt = 255 := by decide +kernel
theorem cs_293 : (Int16.ofInt 293).toInt32.toInt = 293 := by decide +kernel
theorem cs_300 : (Int16.ofInt 300).toInt32.toInt = 300 := by decide +kernel
theorem cs_729 : (Int16.ofInt 729).toInt32.toInt = 729 := by decide +kernel
theorem cs_999 : (Int16.ofInt 999).toInt32.toInt = 999 := by decide +kernel
theorem cs_1856 : (Int16.ofInt 1856).toInt32.toInt = 1856 := by decide +kernel
theorem cs_2106 : (Int16.ofInt 2106).toInt32.toInt = 2106 := by decide +kernel
theorem cs_8500 : (Int16.ofInt 8500).toInt32.toInt = 8500 := by decide +kernel
theorem cs_9999 : (Int16.ofInt 9999).toInt32.toInt = 9999 := by decide +kernel
theorem cs_10000 : (Int16.ofInt 10000).toInt32.toInt = 10000 := by decide +kernel
theorem cs_10606 : (Int16.ofInt 10606).toInt32.toInt = 10606 := by decide +kernel
theorem cs_30313 : (Int16.ofInt 30313).toInt32.toInt = 30313 := by decide +kernel
def stA (xs : List Int) (i : Int) : Int := wI (xs.getD i.toNat 0)
