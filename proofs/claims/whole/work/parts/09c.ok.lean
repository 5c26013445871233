theorem rk_97 : (tb_rows 97).all (rowOk 97) = true := by decide +kernel
theorem hk_97 : kindOk 97 = true := by decide +kernel
theorem rk_98 : (tb_rows 98).all (rowOk 98) = true := by decide +kernel
theorem hk_98 : kindOk 98 = true := by decide +kernel
theorem rk_99 : (tb_rows 99).all (rowOk 99) = true := by decide +kernel
theorem hk_99 : kindOk 99 = true := by decide +kernel
theorem rk_100 : (tb_rows 100).all (rowOk 100) = true := by decide +kernel
theorem hk_100 : kindOk 100 = true := by decide +kernel
theorem rk_101 : (tb_rows 101).all (rowOk 101) = true := by decide +kernel
theorem hk_101 : kindOk 101 = true := by decide +kernel
theorem rk_102 : (tb_rows 102).all (rowOk 102) = true := by decide +kernel
theorem hk_102 : kindOk 102 = true := by decide +kernel
theorem rk_103 : (tb_rows 103).all (rowOk 103) = true := by decide +kernel
theorem hk_103 : kindOk 103 = true := by decide +kernel
theorem rk_104 : (tb_rows 104).all (rowOk 104) = true := by decide +kernel
theorem hk_104 : kindOk 104 = true := by decide +kernel
theorem rk_105 : (tb_rows 105).all (rowOk 105) = true := by decide +kernel
theorem hk_105 : kindOk 105 = true := by decide +kernel
theorem rk_106 : (tb_rows 106).all (rowOk 106) = true := by decide +kernel
theorem hk_106 : kindOk 106 = true := by decide +kernel
theorem rk_107 : (tb_rows 107).all (rowOk 107) = true := by decide +kernel
theorem hk_107 : kindOk 107 = true := by decide +kernel
theorem rk_108 : (tb_rows 108).all (rowOk 108) = true := by decide +kernel
theorem hk_108 : kindOk 108 = true := by decide +kernel
theorem rk_109 : (tb_rows 109).all (rowOk 109) = true := by decide +kernel
theorem hk_109 : kindOk 109 = true := by decide +kernel
theorem rk_110 : (tb_rows 110).all (rowOk 110) = true := by decide +kernel
theorem hk_110 : kindOk 110 = true := by decide +kernel
theorem rk_111 : (tb_rows 111).all (rowOk 111) = true := by decide +kernel
theorem hk_111 : kindOk 111 = true := by decide +kernel
theorem rk_112_0 : (((tb_rows 112).drop (60 * 0)).take 60).all (rowOk 112) = true := by decide +kernel
theorem rk_112_1 : (((tb_rows 112).drop (60 * 1)).take 60).all (rowOk 112) = true := by decide +kernel
theorem rk_112 : (tb_rows 112).all (rowOk 112) = true := all_chunks 60 2 (by decide +kernel) (lt_s (lt_s lt_0 rk_112_0) rk_112_1)
theorem hk_112 : kindOk 112 = true := by decide +kernel
theorem rk_113 : (tb_rows 113).all (rowOk 113) = true := by decide +kernel
theorem hk_113 : kindOk 113 = true := by decide +kernel
theorem rk_114 : (tb_rows 114).all (rowOk 114) = true := by decide +kernel
theorem hk_114 : kindOk 114 = true := by decide +kernel
theorem rk_115 : (tb_rows 115).all (rowOk 115) = true := by decide +kernel
theorem hk_115 : kindOk 115 = true := by decide +kernel
theorem rk_116 : (tb_rows 116).all (rowOk 116) = true := by decide +kernel
theorem hk_116 : kindOk 116 = true := by decide +kernel
theorem rk_117 : (tb_rows 117).all (rowOk 117) = true := by decide +kernel
theorem hk_117 : kindOk 117 = true := by decide +kernel
theorem rk_118 : (tb_rows 118).all (rowOk 118) = true := by decide +kernel
theorem hk_118 : kindOk 118 = true := by decide +kernel
theorem rk_119 : (tb_rows 119).all (rowOk 119) = true := by decide +kernel
theorem hk_119 : kindOk 119 = true := by decide +kernel
theorem rk_120 : (tb_rows 120).all (rowOk 120) = true := by decide +kernel
theorem hk_120 : kindOk 120 = true := by decide +kernel
theorem rk_121 : (tb_rows 121).all (rowOk 121) = true := by decide +kernel
theorem hk_121 : kindOk 121 = true := by decide +kernel
theorem rk_122 : (tb_rows 122).all (rowOk 122) = true := by decide +kernel
theorem hk_122 : kindOk 122 = true := by decide +kernel
theorem rk_123 : (tb_rows 123).all (rowOk 123) = true := by decide +kernel
theorem hk_123 : kindOk 123 = true := by decide +kernel
theorem rk_124 : (tb_rows 124).all (rowOk 124) = true := by decide +kernel
theorem hk_124 : kindOk 124 = true := by decide +kernel
theorem rk_125_0 : (((tb_rows 125).drop (60 * 0)).take 60).all (rowOk 125) = true := by decide +kernel
theorem rk_125_1 : (((tb_rows 125).drop (60 * 1)).take 60).all (rowOk 125) = true := by decide +kernel
theorem rk_125 : (tb_rows 125).all (rowOk 125) = true := all_chunks 60 2 (by decide +kernel) (lt_s (lt_s lt_0 rk_125_0) rk_125_1)
theorem hk_125 : kindOk 125 = true := by decide +kernel
theorem rk_126_0 : (((tb_rows 126).drop (60 * 0)).take 60).all (rowOk 126) = true := by decide +kernel
theorem rk_126_1 : (((tb_rows 126).drop (60 * 1)).take 60).all (rowOk 126) = true := by decide +kernel
theorem rk_126 : (tb_rows 126).all (rowOk 126) = true := all_chunks 60 2 (by decide +kernel) (lt_s (lt_s lt_0 rk_126_0) rk_126_1)
theorem hk_126 : kindOk 126 = true := by decide +kernel
theorem rk_127 : (tb_rows 127).all (rowOk 127) = true := by decide +kernel
theorem hk_127 : kindOk 127 = true := by decide +kernel
theorem rk_128 : (tb_rows 128).all (rowOk 128) = true := by decide +kernel
theorem hk_128 : kindOk 128 = true := by decide +kernel
theorem rk_129 : (tb_rows 129).all (rowOk 129) = true := by decide +kernel
theorem hk_129 : kindOk 129 = true := by decide +kernel
theorem rk_130 : (tb_rows 130).all (rowOk 130) = true := by decide +kernel
theorem hk_130 : kindOk 130 = true := by decide +kernel
theorem rk_131 : (tb_rows 131).all (rowOk 131) = true := by decide +kernel
theorem hk_131 : kindOk 131 = true := by decide +kernel
theorem rk_132 : (tb_rows 132).all (rowOk 132) = true := by decide +kernel
theorem hk_132 : kindOk 132 = true := by decide +kernel
theorem rk_133_0 : (((tb_rows 133).drop (60 * 0)).take 60).all (rowOk 133) = true := by decide +kernel
theorem rk_133_1 : (((tb_rows 133).drop (60 * 1)).take 60).all (rowOk 133) = true := by decide +kernel
theorem rk_133 : (tb_rows 133).all (rowOk 133) = true := all_chunks 60 2 (by decide +kernel) (lt_s (lt_s lt_0 rk_133_0) rk_133_1)
theorem hk_133 : kindOk 133 = true := by decide +kernel
theorem rk_134 : (tb_rows 134).all (rowOk 134) = true := by decide +kernel
theorem hk_134 : kindOk 134 = true := by decide +kernel
theorem rk_135 : (tb_rows 135).all (rowOk 135) = true := by decide +kernel
theorem hk_135 : kindOk 135 = true := by decide +kernel
theorem rk_136 : (tb_rows 136).all (rowOk 136) = true := by decide +kernel
theorem hk_136 : kindOk 136 = true := by decide +kernel
theorem rk_137 : (tb_rows 137).all (rowOk 137) = true := by decide +kernel
theorem hk_137 : kindOk 137 = true := by decide +kernel
theorem rk_138 : (tb_rows 138).all (rowOk 138) = true := by decide +kernel
theorem hk_138 : kindOk 138 = true := by decide +kernel
theorem rk_139 : (tb_rows 139).all (rowOk 139) = true := by decide +kernel
theorem hk_139 : kindOk 139 = true := by decide +kernel
