theorem rk_140_0 : (((tb_rows 140).drop (60 * 0)).take 60).all (rowOk 140) = true := by decide +kernel
theorem rk_140_1 : (((tb_rows 140).drop (60 * 1)).take 60).all (rowOk 140) = true := by decide +kernel
theorem rk_140 : (tb_rows 140).all (rowOk 140) = true := all_chunks 60 2 (by decide +kernel) (lt_s (lt_s lt_0 rk_140_0) rk_140_1)
theorem hk_140 : kindOk 140 = true := by decide +kernel
theorem rk_141 : (tb_rows 141).all (rowOk 141) = true := by decide +kernel
theorem hk_141 : kindOk 141 = true := by decide +kernel
theorem rk_142_0 : (((tb_rows 142).drop (60 * 0)).take 60).all (rowOk 142) = true := by decide +kernel
theorem rk_142_1 : (((tb_rows 142).drop (60 * 1)).take 60).all (rowOk 142) = true := by decide +kernel
theorem rk_142_2 : (((tb_rows 142).drop (60 * 2)).take 60).all (rowOk 142) = true := by decide +kernel
theorem rk_142 : (tb_rows 142).all (rowOk 142) = true := all_chunks 60 3 (by decide +kernel) (lt_s (lt_s (lt_s lt_0 rk_142_0) rk_142_1) rk_142_2)
theorem hk_142 : kindOk 142 = true := by decide +kernel
theorem rk_143 : (tb_rows 143).all (rowOk 143) = true := by decide +kernel
theorem hk_143 : kindOk 143 = true := by decide +kernel
theorem rk_144 : (tb_rows 144).all (rowOk 144) = true := by decide +kernel
theorem hk_144 : kindOk 144 = true := by decide +kernel
theorem rk_145 : (tb_rows 145).all (rowOk 145) = true := by decide +kernel
theorem hk_145 : kindOk 145 = true := by decide +kernel
theorem rk_146 : (tb_rows 146).all (rowOk 146) = true := by decide +kernel
theorem hk_146 : kindOk 146 = true := by decide +kernel
theorem rk_147 : (tb_rows 147).all (rowOk 147) = true := by decide +kernel
theorem hk_147 : kindOk 147 = true := by decide +kernel
theorem rk_148 : (tb_rows 148).all (rowOk 148) = true := by decide +kernel
theorem hk_148 : kindOk 148 = true := by decide +kernel
theorem rk_149_0 : (((tb_rows 149).drop (60 * 0)).take 60).all (rowOk 149) = true := by decide +kernel
theorem rk_149_1 : (((tb_rows 149).drop (60 * 1)).take 60).all (rowOk 149) = true := by decide +kernel
theorem rk_149 : (tb_rows 149).all (rowOk 149) = true := all_chunks 60 2 (by decide +kernel) (lt_s (lt_s lt_0 rk_149_0) rk_149_1)
theorem hk_149 : kindOk 149 = true := by decide +kernel
theorem rk_150 : (tb_rows 150).all (rowOk 150) = true := by decide +kernel
theorem hk_150 : kindOk 150 = true := by decide +kernel
theorem rk_151 : (tb_rows 151).all (rowOk 151) = true := by decide +kernel
theorem hk_151 : kindOk 151 = true := by decide +kernel
theorem rk_152 : (tb_rows 152).all (rowOk 152) = true := by decide +kernel
theorem hk_152 : kindOk 152 = true := by decide +kernel
theorem rk_153 : (tb_rows 153).all (rowOk 153) = true := by decide +kernel
theorem hk_153 : kindOk 153 = true := by decide +kernel
theorem rk_154 : (tb_rows 154).all (rowOk 154) = true := by decide +kernel
theorem hk_154 : kindOk 154 = true := by decide +kernel
theorem rk_155 : (tb_rows 155).all (rowOk 155) = true := by decide +kernel
theorem hk_155 : kindOk 155 = true := by decide +kernel
theorem rk_156 : (tb_rows 156).all (rowOk 156) = true := by decide +kernel
theorem hk_156 : kindOk 156 = true := by decide +kernel
theorem rk_157 : (tb_rows 157).all (rowOk 157) = true := by decide +kernel
theorem hk_157 : kindOk 157 = true := by decide +kernel
theorem rk_158 : (tb_rows 158).all (rowOk 158) = true := by decide +kernel
theorem hk_158 : kindOk 158 = true := by decide +kernel
theorem rk_159 : (tb_rows 159).all (rowOk 159) = true := by decide +kernel
theorem hk_159 : kindOk 159 = true := by decide +kernel
theorem rk_160_0 : (((tb_rows 160).drop (60 * 0)).take 60).all (rowOk 160) = true := by decide +kernel
theorem rk_160_1 : (((tb_rows 160).drop (60 * 1)).take 60).all (rowOk 160) = true := by decide +kernel
theorem rk_160 : (tb_rows 160).all (rowOk 160) = true := all_chunks 60 2 (by decide +kernel) (lt_s (lt_s lt_0 rk_160_0) rk_160_1)
theorem hk_160 : kindOk 160 = true := by decide +kernel
theorem rk_161 : (tb_rows 161).all (rowOk 161) = true := by decide +kernel
theorem hk_161 : kindOk 161 = true := by decide +kernel
theorem rk_162_0 : (((tb_rows 162).drop (60 * 0)).take 60).all (rowOk 162) = true := by decide +kernel
theorem rk_162_1 : (((tb_rows 162).drop (60 * 1)).take 60).all (rowOk 162) = true := by decide +kernel
theorem rk_162_2 : (((tb_rows 162).drop (60 * 2)).take 60).all (rowOk 162) = true := by decide +kernel
theorem rk_162_3 : (((tb_rows 162).drop (60 * 3)).take 60).all (rowOk 162) = true := by decide +kernel
theorem rk_162 : (tb_rows 162).all (rowOk 162) = true := all_chunks 60 4 (by decide +kernel) (lt_s (lt_s (lt_s (lt_s lt_0 rk_162_0) rk_162_1) rk_162_2) rk_162_3)
theorem hk_162 : kindOk 162 = true := by decide +kernel
theorem rk_163_0 : (((tb_rows 163).drop (60 * 0)).take 60).all (rowOk 163) = true := by decide +kernel
theorem rk_163_1 : (((tb_rows 163).drop (60 * 1)).take 60).all (rowOk 163) = true := by decide +kernel
theorem rk_163 : (tb_rows 163).all (rowOk 163) = true := all_chunks 60 2 (by decide +kernel) (lt_s (lt_s lt_0 rk_163_0) rk_163_1)
theorem hk_163 : kindOk 163 = true := by decide +kernel
