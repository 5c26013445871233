theorem rk_0_0 : (((tb_rows 0).drop (60 * 0)).take 60).all (rowOk 0) = true := by decide +kernel
theorem rk_0_1 : (((tb_rows 0).drop (60 * 1)).take 60).all (rowOk 0) = true := by decide +kernel
theorem rk_0 : (tb_rows 0).all (rowOk 0) = true := all_chunks 60 2 (by decide +kernel) (lt_s (lt_s lt_0 rk_0_0) rk_0_1)
theorem hk_0 : kindOk 0 = true := by decide +kernel
theorem rk_1 : (tb_rows 1).all (rowOk 1) = true := by decide +kernel
theorem hk_1 : kindOk 1 = true := by decide +kernel
theorem rk_2 : (tb_rows 2).all (rowOk 2) = true := by decide +kernel
theorem hk_2 : kindOk 2 = true := by decide +kernel
theorem rk_3 : (tb_rows 3).all (rowOk 3) = true := by decide +kernel
theorem hk_3 : kindOk 3 = true := by decide +kernel
theorem rk_4 : (tb_rows 4).all (rowOk 4) = true := by decide +kernel
theorem hk_4 : kindOk 4 = true := by decide +kernel
theorem rk_5_0 : (((tb_rows 5).drop (60 * 0)).take 60).all (rowOk 5) = true := by decide +kernel
theorem rk_5_1 : (((tb_rows 5).drop (60 * 1)).take 60).all (rowOk 5) = true := by decide +kernel
theorem rk_5 : (tb_rows 5).all (rowOk 5) = true := all_chunks 60 2 (by decide +kernel) (lt_s (lt_s lt_0 rk_5_0) rk_5_1)
theorem hk_5 : kindOk 5 = true := by decide +kernel
theorem rk_6 : (tb_rows 6).all (rowOk 6) = true := by decide +kernel
theorem hk_6 : kindOk 6 = true := by decide +kernel
theorem rk_7 : (tb_rows 7).all (rowOk 7) = true := by decide +kernel
theorem hk_7 : kindOk 7 = true := by decide +kernel
theorem rk_8 : (tb_rows 8).all (rowOk 8) = true := by decide +kernel
theorem hk_8 : kindOk 8 = true := by decide +kernel
theorem rk_9 : (tb_rows 9).all (rowOk 9) = true := by decide +kernel
theorem hk_9 : kindOk 9 = true := by decide +kernel
theorem rk_10 : (tb_rows 10).all (rowOk 10) = true := by decide +kernel
theorem hk_10 : kindOk 10 = true := by decide +kernel
theorem rk_11 : (tb_rows 11).all (rowOk 11) = true := by decide +kernel
theorem hk_11 : kindOk 11 = true := by decide +kernel
theorem rk_12 : (tb_rows 12).all (rowOk 12) = true := by decide +kernel
theorem hk_12 : kindOk 12 = true := by decide +kernel
theorem rk_13 : (tb_rows 13).all (rowOk 13) = true := by decide +kernel
theorem hk_13 : kindOk 13 = true := by decide +kernel
theorem rk_14 : (tb_rows 14).all (rowOk 14) = true := by decide +kernel
theorem hk_14 : kindOk 14 = true := by decide +kernel
theorem rk_15 : (tb_rows 15).all (rowOk 15) = true := by decide +kernel
theorem hk_15 : kindOk 15 = true := by decide +kernel
theorem rk_16 : (tb_rows 16).all (rowOk 16) = true := by decide +kernel
theorem hk_16 : kindOk 16 = true := by decide +kernel
theorem rk_17 : (tb_rows 17).all (rowOk 17) = true := by decide +kernel
theorem hk_17 : kindOk 17 = true := by decide +kernel
theorem rk_18 : (tb_rows 18).all (rowOk 18) = true := by decide +kernel
theorem hk_18 : kindOk 18 = true := by decide +kernel
theorem rk_19 : (tb_rows 19).all (rowOk 19) = true := by decide +kernel
theorem hk_19 : kindOk 19 = true := by decide +kernel
theorem rk_20 : (tb_rows 20).all (rowOk 20) = true := by decide +kernel
theorem hk_20 : kindOk 20 = true := by decide +kernel
theorem rk_21 : (tb_rows 21).all (rowOk 21) = true := by decide +kernel
theorem hk_21 : kindOk 21 = true := by decide +kernel
theorem rk_22 : (tb_rows 22).all (rowOk 22) = true := by decide +kernel
theorem hk_22 : kindOk 22 = true := by decide +kernel
theorem rk_23 : (tb_rows 23).all (rowOk 23) = true := by decide +kernel
theorem hk_23 : kindOk 23 = true := by decide +kernel
theorem rk_24 : (tb_rows 24).all (rowOk 24) = true := by decide +kernel
theorem hk_24 : kindOk 24 = true := by decide +kernel
theorem rk_25 : (tb_rows 25).all (rowOk 25) = true := by decide +kernel
theorem hk_25 : kindOk 25 = true := by decide +kernel
theorem rk_26 : (tb_rows 26).all (rowOk 26) = true := by decide +kernel
theorem hk_26 : kindOk 26 = true := by decide +kernel
theorem rk_27 : (tb_rows 27).all (rowOk 27) = true := by decide +kernel
theorem hk_27 : kindOk 27 = true := by decide +kernel
theorem rk_28 : (tb_rows 28).all (rowOk 28) = true := by decide +kernel
theorem hk_28 : kindOk 28 = true := by decide +kernel
theorem rk_29 : (tb_rows 29).all (rowOk 29) = true := by decide +kernel
theorem hk_29 : kindOk 29 = true := by decide +kernel
theorem rk_30 : (tb_rows 30).all (rowOk 30) = true := by decide +kernel
theorem hk_30 : kindOk 30 = true := by decide +kernel
theorem rk_31 : (tb_rows 31).all (rowOk 31) = true := by decide +kernel
theorem hk_31 : kindOk 31 = true := by decide +kernel
theorem rk_32 : (tb_rows 32).all (rowOk 32) = true := by decide +kernel
theorem hk_32 : kindOk 32 = true := by decide +kernel
theorem rk_33 : (tb_rows 33).all (rowOk 33) = true := by decide +kernel
theorem hk_33 : kindOk 33 = true := by decide +kernel
theorem rk_34 : (tb_rows 34).all (rowOk 34) = true := by decide +kernel
theorem hk_34 : kindOk 34 = true := by decide +kernel
theorem rk_35 : (tb_rows 35).all (rowOk 35) = true := by decide +kernel
theorem hk_35 : kindOk 35 = true := by decide +kernel
theorem rk_36 : (tb_rows 36).all (rowOk 36) = true := by decide +kernel
theorem hk_36 : kindOk 36 = true := by decide +kernel
theorem rk_37 : (tb_rows 37).all (rowOk 37) = true := by decide +kernel
theorem hk_37 : kindOk 37 = true := by decide +kernel
theorem rk_38 : (tb_rows 38).all (rowOk 38) = true := by decide +kernel
theorem hk_38 : kindOk 38 = true := by decide +kernel
theorem rk_39 : (tb_rows 39).all (rowOk 39) = true := by decide +kernel
theorem hk_39 : kindOk 39 = true := by decide +kernel
theorem rk_40 : (tb_rows 40).all (rowOk 40) = true := by decide +kernel
theorem hk_40 : kindOk 40 = true := by decide +kernel
theorem rk_41_0 : (((tb_rows 41).drop (60 * 0)).take 60).all (rowOk 41) = true := by decide +kernel
theorem rk_41_1 : (((tb_rows 41).drop (60 * 1)).take 60).all (rowOk 41) = true := by decide +kernel
theorem rk_41 : (tb_rows 41).all (rowOk 41) = true := all_chunks 60 2 (by decide +kernel) (lt_s (lt_s lt_0 rk_41_0) rk_41_1)
theorem hk_41 : kindOk 41 = true := by decide +kernel
theorem rk_42 : (tb_rows 42).all (rowOk 42) = true := by decide +kernel
theorem hk_42 : kindOk 42 = true := by decide +kernel
theorem rk_43 : (tb_rows 43).all (rowOk 43) = true := by decide +kernel
theorem hk_43 : kindOk 43 = true := by decide +kernel
theorem rk_44 : (tb_rows 44).all (rowOk 44) = true := by decide +kernel
theorem hk_44 : kindOk 44 = true := by decide +kernel
theorem rk_45 : (tb_rows 45).all (rowOk 45) = true := by decide +kernel
theorem hk_45 : kindOk 45 = true := by decide +kernel
theorem rk_46 : (tb_rows 46).all (rowOk 46) = true := by decide +kernel
theorem hk_46 : kindOk 46 = true := by decide +kernel
theorem rk_47 : (tb_rows 47).all (rowOk 47) = true := by decide +kernel
theorem hk_47 : kindOk 47 = true := by decide +kernel
theorem rk_48 : (tb_rows 48).all (rowOk 48) = true := by decide +kernel
theorem hk_48 : kindOk 48 = true := by decide +kernel
theorem rk_49 : (tb_rows 49).all (rowOk 49) = true := by decide +kernel
theorem hk_49 : kindOk 49 = true := by decide +kernel
theorem rk_50 : (tb_rows 50).all (rowOk 50) = true := by decide +kernel
theorem hk_50 : kindOk 50 = true := by decide +kernel
theorem rk_51 : (tb_rows 51).all (rowOk 51) = true := by decide +kernel
theorem hk_51 : kindOk 51 = true := by decide +kernel
theorem rk_52 : (tb_rows 52).all (rowOk 52) = true := by decide +kernel
theorem hk_52 : kindOk 52 = true := by decide +kernel
theorem rk_53 : (tb_rows 53).all (rowOk 53) = true := by decide +kernel
theorem hk_53 : kindOk 53 = true := by decide +kernel
theorem rk_54 : (tb_rows 54).all (rowOk 54) = true := by decide +kernel
theorem hk_54 : kindOk 54 = true := by decide +kernel
theorem rk_55 : (tb_rows 55).all (rowOk 55) = true := by decide +kernel
theorem hk_55 : kindOk 55 = true := by decide +kernel
theorem rk_56 : (tb_rows 56).all (rowOk 56) = true := by decide +kernel
theorem hk_56 : kindOk 56 = true := by decide +kernel
theorem rk_57 : (tb_rows 57).all (rowOk 57) = true := by decide +kernel
theorem hk_57 : kindOk 57 = true := by decide +kernel
theorem rk_58 : (tb_rows 58).all (rowOk 58) = true := by decide +kernel
theorem hk_58 : kindOk 58 = true := by decide +kernel
theorem rk_59 : (tb_rows 59).all (rowOk 59) = true := by decide +kernel
theorem hk_59 : kindOk 59 = true := by decide +kernel
theorem rk_60 : (tb_rows 60).all (rowOk 60) = true := by decide +kernel
theorem hk_60 : kindOk 60 = true := by decide +kernel
theorem rk_61 : (tb_rows 61).all (rowOk 61) = true := by decide +kernel
theorem hk_61 : kindOk 61 = true := by decide +kernel
theorem rk_62 : (tb_rows 62).all (rowOk 62) = true := by decide +kernel
theorem hk_62 : kindOk 62 = true := by decide +kernel
theorem rk_63 : (tb_rows 63).all (rowOk 63) = true := by decide +kernel
theorem hk_63 : kindOk 63 = true := by decide +kernel
theorem rk_64 : (tb_rows 64).all (rowOk 64) = true := by decide +kernel
theorem hk_64 : kindOk 64 = true := by decide +kernel
theorem rk_65 : (tb_rows 65).all (rowOk 65) = true := by decide +kernel
theorem hk_65 : kindOk 65 = true := by decide +kernel
theorem rk_66 : (tb_rows 66).all (rowOk 66) = true := by decide +kernel
theorem hk_66 : kindOk 66 = true := by decide +kernel
theorem rk_67 : (tb_rows 67).all (rowOk 67) = true := by decide +kernel
theorem hk_67 : kindOk 67 = true := by decide +kernel
