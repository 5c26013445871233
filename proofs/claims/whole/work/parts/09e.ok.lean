theorem rk_164_0 : (((tb_rows 164).drop (60 * 0)).take 60).all (rowOk 164) = true := by decide +kernel
theorem rk_164_1 : (((tb_rows 164).drop (60 * 1)).take 60).all (rowOk 164) = true := by decide +kernel
theorem rk_164 : (tb_rows 164).all (rowOk 164) = true := all_chunks 60 2 (by decide +kernel) (lt_s (lt_s lt_0 rk_164_0) rk_164_1)
theorem hk_164 : kindOk 164 = true := by decide +kernel
theorem rk_165 : (tb_rows 165).all (rowOk 165) = true := by decide +kernel
theorem hk_165 : kindOk 165 = true := by decide +kernel
theorem rk_166 : (tb_rows 166).all (rowOk 166) = true := by decide +kernel
theorem hk_166 : kindOk 166 = true := by decide +kernel
theorem rk_167 : (tb_rows 167).all (rowOk 167) = true := by decide +kernel
theorem hk_167 : kindOk 167 = true := by decide +kernel
theorem rk_168 : (tb_rows 168).all (rowOk 168) = true := by decide +kernel
theorem hk_168 : kindOk 168 = true := by decide +kernel
theorem rk_169 : (tb_rows 169).all (rowOk 169) = true := by decide +kernel
theorem hk_169 : kindOk 169 = true := by decide +kernel
theorem rk_170 : (tb_rows 170).all (rowOk 170) = true := by decide +kernel
theorem hk_170 : kindOk 170 = true := by decide +kernel
theorem rk_171 : (tb_rows 171).all (rowOk 171) = true := by decide +kernel
theorem hk_171 : kindOk 171 = true := by decide +kernel
theorem rk_172 : (tb_rows 172).all (rowOk 172) = true := by decide +kernel
theorem hk_172 : kindOk 172 = true := by decide +kernel
theorem rk_173 : (tb_rows 173).all (rowOk 173) = true := by decide +kernel
theorem hk_173 : kindOk 173 = true := by decide +kernel
theorem rk_174 : (tb_rows 174).all (rowOk 174) = true := by decide +kernel
theorem hk_174 : kindOk 174 = true := by decide +kernel
theorem rk_175_0 : (((tb_rows 175).drop (60 * 0)).take 60).all (rowOk 175) = true := by decide +kernel
theorem rk_175_1 : (((tb_rows 175).drop (60 * 1)).take 60).all (rowOk 175) = true := by decide +kernel
theorem rk_175 : (tb_rows 175).all (rowOk 175) = true := all_chunks 60 2 (by decide +kernel) (lt_s (lt_s lt_0 rk_175_0) rk_175_1)
theorem hk_175 : kindOk 175 = true := by decide +kernel
theorem rk_176 : (tb_rows 176).all (rowOk 176) = true := by decide +kernel
theorem hk_176 : kindOk 176 = true := by decide +kernel
theorem rk_177_0 : (((tb_rows 177).drop (60 * 0)).take 60).all (rowOk 177) = true := by decide +kernel
theorem rk_177_1 : (((tb_rows 177).drop (60 * 1)).take 60).all (rowOk 177) = true := by decide +kernel
theorem rk_177_2 : (((tb_rows 177).drop (60 * 2)).take 60).all (rowOk 177) = true := by decide +kernel
theorem rk_177_3 : (((tb_rows 177).drop (60 * 3)).take 60).all (rowOk 177) = true := by decide +kernel
theorem rk_177 : (tb_rows 177).all (rowOk 177) = true := all_chunks 60 4 (by decide +kernel) (lt_s (lt_s (lt_s (lt_s lt_0 rk_177_0) rk_177_1) rk_177_2) rk_177_3)
theorem hk_177 : kindOk 177 = true := by decide +kernel
theorem rk_178_0 : (((tb_rows 178).drop (60 * 0)).take 60).all (rowOk 178) = true := by decide +kernel
theorem rk_178_1 : (((tb_rows 178).drop (60 * 1)).take 60).all (rowOk 178) = true := by decide +kernel
theorem rk_178 : (tb_rows 178).all (rowOk 178) = true := all_chunks 60 2 (by decide +kernel) (lt_s (lt_s lt_0 rk_178_0) rk_178_1)
theorem hk_178 : kindOk 178 = true := by decide +kernel
theorem rk_179 : (tb_rows 179).all (rowOk 179) = true := by decide +kernel
theorem hk_179 : kindOk 179 = true := by decide +kernel
theorem rk_180_0 : (((tb_rows 180).drop (60 * 0)).take 60).all (rowOk 180) = true := by decide +kernel
theorem rk_180_1 : (((tb_rows 180).drop (60 * 1)).take 60).all (rowOk 180) = true := by decide +kernel
theorem rk_180_2 : (((tb_rows 180).drop (60 * 2)).take 60).all (rowOk 180) = true := by decide +kernel
theorem rk_180_3 : (((tb_rows 180).drop (60 * 3)).take 60).all (rowOk 180) = true := by decide +kernel
theorem rk_180 : (tb_rows 180).all (rowOk 180) = true := all_chunks 60 4 (by decide +kernel) (lt_s (lt_s (lt_s (lt_s lt_0 rk_180_0) rk_180_1) rk_180_2) rk_180_3)
theorem hk_180 : kindOk 180 = true := by decide +kernel
theorem rk_181_0 : (((tb_rows 181).drop (60 * 0)).take 60).all (rowOk 181) = true := by decide +kernel
theorem rk_181_1 : (((tb_rows 181).drop (60 * 1)).take 60).all (rowOk 181) = true := by decide +kernel
theorem rk_181_2 : (((tb_rows 181).drop (60 * 2)).take 60).all (rowOk 181) = true := by decide +kernel
theorem rk_181_3 : (((tb_rows 181).drop (60 * 3)).take 60).all (rowOk 181) = true := by decide +kernel
theorem rk_181_4 : (((tb_rows 181).drop (60 * 4)).take 60).all (rowOk 181) = true := by decide +kernel
theorem rk_181_5 : (((tb_rows 181).drop (60 * 5)).take 60).all (rowOk 181) = true := by decide +kernel
theorem rk_181_6 : (((tb_rows 181).drop (60 * 6)).take 60).all (rowOk 181) = true := by decide +kernel
theorem rk_181 : (tb_rows 181).all (rowOk 181) = true := all_chunks 60 7 (by decide +kernel) (lt_s (lt_s (lt_s (lt_s (lt_s (lt_s (lt_s lt_0 rk_181_0) rk_181_1) rk_181_2) rk_181_3) rk_181_4) rk_181_5) rk_181_6)
theorem hk_181 : kindOk 181 = true := by decide +kernel
theorem rk_182_0 : (((tb_rows 182).drop (60 * 0)).take 60).all (rowOk 182) = true := by decide +kernel
theorem rk_182_1 : (((tb_rows 182).drop (60 * 1)).take 60).all (rowOk 182) = true := by decide +kernel
theorem rk_182 : (tb_rows 182).all (rowOk 182) = true := all_chunks 60 2 (by decide +kernel) (lt_s (lt_s lt_0 rk_182_0) rk_182_1)
theorem hk_182 : kindOk 182 = true := by decide +kernel
theorem rk_183 : (tb_rows 183).all (rowOk 183) = true := by decide +kernel
theorem hk_183 : kindOk 183 = true := by decide +kernel
theorem rk_184 : (tb_rows 184).all (rowOk 184) = true := by decide +kernel
theorem hk_184 : kindOk 184 = true := by decide +kernel
theorem rk_185_0 : (((tb_rows 185).drop (60 * 0)).take 60).all (rowOk 185) = true := by decide +kernel
theorem rk_185_1 : (((tb_rows 185).drop (60 * 1)).take 60).all (rowOk 185) = true := by decide +kernel
theorem rk_185 : (tb_rows 185).all (rowOk 185) = true := all_chunks 60 2 (by decide +kernel) (lt_s (lt_s lt_0 rk_185_0) rk_185_1)
theorem hk_185 : kindOk 185 = true := by decide +kernel
theorem rk_186 : (tb_rows 186).all (rowOk 186) = true := by decide +kernel
theorem hk_186 : kindOk 186 = true := by decide +kernel
theorem rk_187_0 : (((tb_rows 187).drop (60 * 0)).take 60).all (rowOk 187) = true := by decide +kernel
theorem rk_187_1 : (((tb_rows 187).drop (60 * 1)).take 60).all (rowOk 187) = true := by decide +kernel
theorem rk_187 : (tb_rows 187).all (rowOk 187) = true := all_chunks 60 2 (by decide +kernel) (lt_s (lt_s lt_0 rk_187_0) rk_187_1)
theorem hk_187 : kindOk 187 = true := by decide +kernel
theorem rk_188 : (tb_rows 188).all (rowOk 188) = true := by decide +kernel
theorem hk_188 : kindOk 188 = true := by decide +kernel
theorem rk_189_0 : (((tb_rows 189).drop (60 * 0)).take 60).all (rowOk 189) = true := by decide +kernel
theorem rk_189_1 : (((tb_rows 189).drop (60 * 1)).take 60).all (rowOk 189) = true := by decide +kernel
theorem rk_189 : (tb_rows 189).all (rowOk 189) = true := all_chunks 60 2 (by decide +kernel) (lt_s (lt_s lt_0 rk_189_0) rk_189_1)
theorem hk_189 : kindOk 189 = true := by decide +kernel
theorem rk_190 : (tb_rows 190).all (rowOk 190) = true := by decide +kernel
theorem hk_190 : kindOk 190 = true := by decide +kernel
theorem rk_191 : (tb_rows 191).all (rowOk 191) = true := by decide +kernel
theorem hk_191 : kindOk 191 = true := by decide +kernel
theorem rk_192 : (tb_rows 192).all (rowOk 192) = true := by decide +kernel
theorem hk_192 : kindOk 192 = true := by decide +kernel
theorem rk_193 : (tb_rows 193).all (rowOk 193) = true := by decide +kernel
theorem hk_193 : kindOk 193 = true := by decide +kernel
theorem rk_194_0 : (((tb_rows 194).drop (60 * 0)).take 60).all (rowOk 194) = true := by decide +kernel
theorem rk_194_1 : (((tb_rows 194).drop (60 * 1)).take 60).all (rowOk 194) = true := by decide +kernel
theorem rk_194 : (tb_rows 194).all (rowOk 194) = true := all_chunks 60 2 (by decide +kernel) (lt_s (lt_s lt_0 rk_194_0) rk_194_1)
theorem hk_194 : kindOk 194 = true := by decide +kernel
theorem rk_195_0 : (((tb_rows 195).drop (60 * 0)).take 60).all (rowOk 195) = true := by decide +kernel
theorem rk_195_1 : (((tb_rows 195).drop (60 * 1)).take 60).all (rowOk 195) = true := by decide +kernel
theorem rk_195 : (tb_rows 195).all (rowOk 195) = true := all_chunks 60 2 (by decide +kernel) (lt_s (lt_s lt_0 rk_195_0) rk_195_1)
theorem hk_195 : kindOk 195 = true := by decide +kernel
theorem rk_196_0 : (((tb_rows 196).drop (60 * 0)).take 60).all (rowOk 196) = true := by decide +kernel
theorem rk_196_1 : (((tb_rows 196).drop (60 * 1)).take 60).all (rowOk 196) = true := by decide +kernel
theorem rk_196 : (tb_rows 196).all (rowOk 196) = true := all_chunks 60 2 (by decide +kernel) (lt_s (lt_s lt_0 rk_196_0) rk_196_1)
theorem hk_196 : kindOk 196 = true := by decide +kernel
theorem rk_197 : (tb_rows 197).all (rowOk 197) = true := by decide +kernel
theorem hk_197 : kindOk 197 = true := by decide +kernel
theorem rk_198 : (tb_rows 198).all (rowOk 198) = true := by decide +kernel
theorem hk_198 : kindOk 198 = true := by decide +kernel
theorem rk_199 : (tb_rows 199).all (rowOk 199) = true := by decide +kernel
theorem hk_199 : kindOk 199 = true := by decide +kernel
theorem rk_200 : (tb_rows 200).all (rowOk 200) = true := by decide +kernel
theorem hk_200 : kindOk 200 = true := by decide +kernel
theorem rk_201 : (tb_rows 201).all (rowOk 201) = true := by decide +kernel
theorem hk_201 : kindOk 201 = true := by decide +kernel
theorem rk_202_0 : (((tb_rows 202).drop (60 * 0)).take 60).all (rowOk 202) = true := by decide +kernel
theorem rk_202_1 : (((tb_rows 202).drop (60 * 1)).take 60).all (rowOk 202) = true := by decide +kernel
theorem rk_202_2 : (((tb_rows 202).drop (60 * 2)).take 60).all (rowOk 202) = true := by decide +kernel
theorem rk_202 : (tb_rows 202).all (rowOk 202) = true := all_chunks 60 3 (by decide +kernel) (lt_s (lt_s (lt_s lt_0 rk_202_0) rk_202_1) rk_202_2)
theorem hk_202 : kindOk 202 = true := by decide +kernel
theorem rk_203 : (tb_rows 203).all (rowOk 203) = true := by decide +kernel
theorem hk_203 : kindOk 203 = true := by decide +kernel
theorem rk_204 : (tb_rows 204).all (rowOk 204) = true := by decide +kernel
theorem hk_204 : kindOk 204 = true := by decide +kernel
theorem rk_205_0 : (((tb_rows 205).drop (60 * 0)).take 60).all (rowOk 205) = true := by decide +kernel
theorem rk_205_1 : (((tb_rows 205).drop (60 * 1)).take 60).all (rowOk 205) = true := by decide +kernel
theorem rk_205 : (tb_rows 205).all (rowOk 205) = true := all_chunks 60 2 (by decide +kernel) (lt_s (lt_s lt_0 rk_205_0) rk_205_1)
theorem hk_205 : kindOk 205 = true := by decide +kernel
theorem rk_206_0 : (((tb_rows 206).drop (60 * 0)).take 60).all (rowOk 206) = true := by decide +kernel
theorem rk_206_1 : (((tb_rows 206).drop (60 * 1)).take 60).all (rowOk 206) = true := by decide +kernel
theorem rk_206 : (tb_rows 206).all (rowOk 206) = true := all_chunks 60 2 (by decide +kernel) (lt_s (lt_s lt_0 rk_206_0) rk_206_1)
theorem hk_206 : kindOk 206 = true := by decide +kernel
theorem rk_207_0 : (((tb_rows 207).drop (60 * 0)).take 60).all (rowOk 207) = true := by decide +kernel
theorem rk_207_1 : (((tb_rows 207).drop (60 * 1)).take 60).all (rowOk 207) = true := by decide +kernel
theorem rk_207 : (tb_rows 207).all (rowOk 207) = true := all_chunks 60 2 (by decide +kernel) (lt_s (lt_s lt_0 rk_207_0) rk_207_1)
theorem hk_207 : kindOk 207 = true := by decide +kernel
theorem rk_208 : (tb_rows 208).all (rowOk 208) = true := by decide +kernel
theorem hk_208 : kindOk 208 = true := by decide +kernel
theorem rk_209 : (tb_rows 209).all (rowOk 209) = true := by decide +kernel
theorem hk_209 : kindOk 209 = true := by decide +kernel
theorem rk_210 : (tb_rows 210).all (rowOk 210) = true := by decide +kernel
theorem hk_210 : kindOk 210 = true := by decide +kernel
theorem rk_211_0 : (((tb_rows 211).drop (60 * 0)).take 60).all (rowOk 211) = true := by decide +kernel
theorem rk_211_1 : (((tb_rows 211).drop (60 * 1)).take 60).all (rowOk 211) = true := by decide +kernel
theorem rk_211 : (tb_rows 211).all (rowOk 211) = true := all_chunks 60 2 (by decide +kernel) (lt_s (lt_s lt_0 rk_211_0) rk_211_1)
theorem hk_211 : kindOk 211 = true := by decide +kernel
theorem rk_212 : (tb_rows 212).all (rowOk 212) = true := by decide +kernel
theorem hk_212 : kindOk 212 = true := by decide +kernel
theorem rk_213 : (tb_rows 213).all (rowOk 213) = true := by decide +kernel
theorem hk_213 : kindOk 213 = true := by decide +kernel
theorem rk_214_0 : (((tb_rows 214).drop (60 * 0)).take 60).all (rowOk 214) = true := by decide +kernel
theorem rk_214_1 : (((tb_rows 214).drop (60 * 1)).take 60).all (rowOk 214) = true := by decide +kernel
theorem rk_214_2 : (((tb_rows 214).drop (60 * 2)).take 60).all (rowOk 214) = true := by decide +kernel
theorem rk_214 : (tb_rows 214).all (rowOk 214) = true := all_chunks 60 3 (by decide +kernel) (lt_s (lt_s (lt_s lt_0 rk_214_0) rk_214_1) rk_214_2)
theorem hk_214 : kindOk 214 = true := by decide +kernel
