theorem rk_68 : (tb_rows 68).all (rowOk 68) = true := by decide +kernel
theorem hk_68 : kindOk 68 = true := by decide +kernel
theorem rk_69 : (tb_rows 69).all (rowOk 69) = true := by decide +kernel
theorem hk_69 : kindOk 69 = true := by decide +kernel
theorem rk_70 : (tb_rows 70).all (rowOk 70) = true := by decide +kernel
theorem hk_70 : kindOk 70 = true := by decide +kernel
theorem rk_71 : (tb_rows 71).all (rowOk 71) = true := by decide +kernel
theorem hk_71 : kindOk 71 = true := by decide +kernel
theorem rk_72 : (tb_rows 72).all (rowOk 72) = true := by decide +kernel
theorem hk_72 : kindOk 72 = true := by decide +kernel
theorem rk_73_0 : (((tb_rows 73).drop (60 * 0)).take 60).all (rowOk 73) = true := by decide +kernel
theorem rk_73_1 : (((tb_rows 73).drop (60 * 1)).take 60).all (rowOk 73) = true := by decide +kernel
theorem rk_73 : (tb_rows 73).all (rowOk 73) = true := all_chunks 60 2 (by decide +kernel) (lt_s (lt_s lt_0 rk_73_0) rk_73_1)
theorem hk_73 : kindOk 73 = true := by decide +kernel
theorem rk_74_0 : (((tb_rows 74).drop (60 * 0)).take 60).all (rowOk 74) = true := by decide +kernel
theorem rk_74_1 : (((tb_rows 74).drop (60 * 1)).take 60).all (rowOk 74) = true := by decide +kernel
theorem rk_74 : (tb_rows 74).all (rowOk 74) = true := all_chunks 60 2 (by decide +kernel) (lt_s (lt_s lt_0 rk_74_0) rk_74_1)
theorem hk_74 : kindOk 74 = true := by decide +kernel
theorem rk_75_0 : (((tb_rows 75).drop (60 * 0)).take 60).all (rowOk 75) = true := by decide +kernel
theorem rk_75_1 : (((tb_rows 75).drop (60 * 1)).take 60).all (rowOk 75) = true := by decide +kernel
theorem rk_75_2 : (((tb_rows 75).drop (60 * 2)).take 60).all (rowOk 75) = true := by decide +kernel
theorem rk_75_3 : (((tb_rows 75).drop (60 * 3)).take 60).all (rowOk 75) = true := by decide +kernel
theorem rk_75 : (tb_rows 75).all (rowOk 75) = true := all_chunks 60 4 (by decide +kernel) (lt_s (lt_s (lt_s (lt_s lt_0 rk_75_0) rk_75_1) rk_75_2) rk_75_3)
theorem hk_75 : kindOk 75 = true := by decide +kernel
theorem rk_76 : (tb_rows 76).all (rowOk 76) = true := by decide +kernel
theorem hk_76 : kindOk 76 = true := by decide +kernel
theorem rk_77 : (tb_rows 77).all (rowOk 77) = true := by decide +kernel
theorem hk_77 : kindOk 77 = true := by decide +kernel
theorem rk_78 : (tb_rows 78).all (rowOk 78) = true := by decide +kernel
theorem hk_78 : kindOk 78 = true := by decide +kernel
theorem rk_79_0 : (((tb_rows 79).drop (60 * 0)).take 60).all (rowOk 79) = true := by decide +kernel
theorem rk_79_1 : (((tb_rows 79).drop (60 * 1)).take 60).all (rowOk 79) = true := by decide +kernel
theorem rk_79 : (tb_rows 79).all (rowOk 79) = true := all_chunks 60 2 (by decide +kernel) (lt_s (lt_s lt_0 rk_79_0) rk_79_1)
theorem hk_79 : kindOk 79 = true := by decide +kernel
theorem rk_80_0 : (((tb_rows 80).drop (60 * 0)).take 60).all (rowOk 80) = true := by decide +kernel
theorem rk_80_1 : (((tb_rows 80).drop (60 * 1)).take 60).all (rowOk 80) = true := by decide +kernel
theorem rk_80 : (tb_rows 80).all (rowOk 80) = true := all_chunks 60 2 (by decide +kernel) (lt_s (lt_s lt_0 rk_80_0) rk_80_1)
theorem hk_80 : kindOk 80 = true := by decide +kernel
theorem rk_81 : (tb_rows 81).all (rowOk 81) = true := by decide +kernel
theorem hk_81 : kindOk 81 = true := by decide +kernel
theorem rk_82 : (tb_rows 82).all (rowOk 82) = true := by decide +kernel
theorem hk_82 : kindOk 82 = true := by decide +kernel
theorem rk_83 : (tb_rows 83).all (rowOk 83) = true := by decide +kernel
theorem hk_83 : kindOk 83 = true := by decide +kernel
theorem rk_84 : (tb_rows 84).all (rowOk 84) = true := by decide +kernel
theorem hk_84 : kindOk 84 = true := by decide +kernel
theorem rk_85 : (tb_rows 85).all (rowOk 85) = true := by decide +kernel
theorem hk_85 : kindOk 85 = true := by decide +kernel
theorem rk_86 : (tb_rows 86).all (rowOk 86) = true := by decide +kernel
theorem hk_86 : kindOk 86 = true := by decide +kernel
theorem rk_87 : (tb_rows 87).all (rowOk 87) = true := by decide +kernel
theorem hk_87 : kindOk 87 = true := by decide +kernel
theorem rk_88_0 : (((tb_rows 88).drop (60 * 0)).take 60).all (rowOk 88) = true := by decide +kernel
theorem rk_88_1 : (((tb_rows 88).drop (60 * 1)).take 60).all (rowOk 88) = true := by decide +kernel
theorem rk_88_2 : (((tb_rows 88).drop (60 * 2)).take 60).all (rowOk 88) = true := by decide +kernel
theorem rk_88 : (tb_rows 88).all (rowOk 88) = true := all_chunks 60 3 (by decide +kernel) (lt_s (lt_s (lt_s lt_0 rk_88_0) rk_88_1) rk_88_2)
theorem hk_88 : kindOk 88 = true := by decide +kernel
theorem rk_89 : (tb_rows 89).all (rowOk 89) = true := by decide +kernel
theorem hk_89 : kindOk 89 = true := by decide +kernel
theorem rk_90 : (tb_rows 90).all (rowOk 90) = true := by decide +kernel
theorem hk_90 : kindOk 90 = true := by decide +kernel
theorem rk_91 : (tb_rows 91).all (rowOk 91) = true := by decide +kernel
theorem hk_91 : kindOk 91 = true := by decide +kernel
theorem rk_92 : (tb_rows 92).all (rowOk 92) = true := by decide +kernel
theorem hk_92 : kindOk 92 = true := by decide +kernel
theorem rk_93 : (tb_rows 93).all (rowOk 93) = true := by decide +kernel
theorem hk_93 : kindOk 93 = true := by decide +kernel
theorem rk_94 : (tb_rows 94).all (rowOk 94) = true := by decide +kernel
theorem hk_94 : kindOk 94 = true := by decide +kernel
theorem rk_95 : (tb_rows 95).all (rowOk 95) = true := by decide +kernel
theorem hk_95 : kindOk 95 = true := by decide +kernel
theorem rk_96 : (tb_rows 96).all (rowOk 96) = true := by decide +kernel
theorem hk_96 : kindOk 96 = true := by decide +kernel
