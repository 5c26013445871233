theorem rk_215 : (tb_rows 215).all (rowOk 215) = true := by decide +kernel
theorem rk_216 : (tb_rows 216).all (rowOk 216) = true := by decide +kernel
theorem rk_217 : (tb_rows 217).all (rowOk 217) = true := by decide +kernel
theorem rk_218 : (tb_rows 218).all (rowOk 218) = true := by decide +kernel
theorem rk_219 : (tb_rows 219).all (rowOk 219) = true := by decide +kernel
theorem rk_220 : (tb_rows 220).all (rowOk 220) = true := by decide +kernel
theorem rk_221 : (tb_rows 221).all (rowOk 221) = true := by decide +kernel
theorem rk_222 : (tb_rows 222).all (rowOk 222) = true := by decide +kernel
theorem rk_223 : (tb_rows 223).all (rowOk 223) = true := by decide +kernel
theorem rk_224 : (tb_rows 224).all (rowOk 224) = true := by decide +kernel
theorem rk_225 : (tb_rows 225).all (rowOk 225) = true := by decide +kernel
theorem rk_226 : (tb_rows 226).all (rowOk 226) = true := by decide +kernel
theorem rk_227 : (tb_rows 227).all (rowOk 227) = true := by decide +kernel
theorem rk_228 : (tb_rows 228).all (rowOk 228) = true := by decide +kernel
theorem rk_229 : (tb_rows 229).all (rowOk 229) = true := by decide +kernel
theorem rk_230 : (tb_rows 230).all (rowOk 230) = true := by decide +kernel
theorem rk_231 : (tb_rows 231).all (rowOk 231) = true := by decide +kernel
theorem rk_232 : (tb_rows 232).all (rowOk 232) = true := by decide +kernel
theorem rk_233 : (tb_rows 233).all (rowOk 233) = true := by decide +kernel
theorem rk_234 : (tb_rows 234).all (rowOk 234) = true := by decide +kernel
theorem rk_235 : (tb_rows 235).all (rowOk 235) = true := by decide +kernel
theorem rk_236 : (tb_rows 236).all (rowOk 236) = true := by decide +kernel
theorem rk_237 : (tb_rows 237).all (rowOk 237) = true := by decide +kernel
theorem rk_238_0 : (((tb_rows 238).drop (60 * 0)).take 60).all (rowOk 238) = true := by decide +kernel
theorem rk_238_1 : (((tb_rows 238).drop (60 * 1)).take 60).all (rowOk 238) = true := by decide +kernel
theorem rk_238_2 : (((tb_rows 238).drop (60 * 2)).take 60).all (rowOk 238) = true := by decide +kernel
theorem rk_238_3 : (((tb_rows 238).drop (60 * 3)).take 60).all (rowOk 238) = true := by decide +kernel
theorem rk_238_4 : (((tb_rows 238).drop (60 * 4)).take 60).all (rowOk 238) = true := by decide +kernel
theorem rk_238_5 : (((tb_rows 238).drop (60 * 5)).take 60).all (rowOk 238) = true := by decide +kernel
theorem rk_238_6 : (((tb_rows 238).drop (60 * 6)).take 60).all (rowOk 238) = true := by decide +kernel
theorem rk_238_7 : (((tb_rows 238).drop (60 * 7)).take 60).all (rowOk 238) = true := by decide +kernel
theorem rk_238_8 : (((tb_rows 238).drop (60 * 8)).take 60).all (rowOk 238) = true := by decide +kernel
theorem rk_238_9 : (((tb_rows 238).drop (60 * 9)).take 60).all (rowOk 238) = true := by decide +kernel
theorem rk_238_10 : (((tb_rows 238).drop (60 * 10)).take 60).all (rowOk 238) = true := by decide +kernel
theorem rk_238_11 : (((tb_rows 238).drop (60 * 11)).take 60).all (rowOk 238) = true := by decide +kernel
theorem rk_238_12 : (((tb_rows 238).drop (60 * 12)).take 60).all (rowOk 238) = true := by decide +kernel
theorem rk_238_13 : (((tb_rows 238).drop (60 * 13)).take 60).all (rowOk 238) = true := by decide +kernel
theorem rk_238_14 : (((tb_rows 238).drop (60 * 14)).take 60).all (rowOk 238) = true := by decide +kernel
theorem rk_238_15 : (((tb_rows 238).drop (60 * 15)).take 60).all (rowOk 238) = true := by decide +kernel
theorem rk_238_16 : (((tb_rows 238).drop (60 * 16)).take 60).all (rowOk 238) = true := by decide +kernel
theorem rk_238_17 : (((tb_rows 238).drop (60 * 17)).take 60).all (rowOk 238) = true := by decide +kernel
theorem rk_238_18 : (((tb_rows 238).drop (60 * 18)).take 60).all (rowOk 238) = true := by decide +kernel
theorem rk_238 : (tb_rows 238).all (rowOk 238) = true := all_chunks 60 19 (by decide +kernel) (lt_s (lt_s (lt_s (lt_s (lt_s (lt_s (lt_s (lt_s (lt_s (lt_s (lt_s (lt_s (lt_s (lt_s (lt_s (lt_s (lt_s (lt_s (lt_s lt_0 rk_238_0) rk_238_1) rk_238_2) rk_238_3) rk_238_4) rk_238_5) rk_238_6) rk_238_7) rk_238_8) rk_238_9) rk_238_10) rk_238_11) rk_238_12) rk_238_13) rk_238_14) rk_238_15) rk_238_16) rk_238_17) rk_238_18)
