/-! THE CODES AS WORDS (places written by a program of mine) -/
theorem z_in_1 {w : Cond} (h : w ∈ tables_1_1) : w ∈ lw_tbl := List.mem_append_right _ (List.mem_append_left _ h)
theorem z_in_2 {w : Cond} (h : w ∈ tables_1_2) : w ∈ lw_tbl := List.mem_append_right _ (List.mem_append_right _ (List.mem_append_left _ h))
theorem z_in_3 {w : Cond} (h : w ∈ tables_1_3) : w ∈ lw_tbl := List.mem_append_right _ (List.mem_append_right _ (List.mem_append_right _ (List.mem_append_left _ h)))
theorem z_in_4 {w : Cond} (h : w ∈ tables_1_4) : w ∈ lw_tbl := List.mem_append_right _ (List.mem_append_right _ (List.mem_append_right _ (List.mem_append_right _ (List.mem_append_left _ h))))
theorem z_in_5 {w : Cond} (h : w ∈ tables_1_5) : w ∈ lw_tbl := List.mem_append_right _ (List.mem_append_right _ (List.mem_append_right _ (List.mem_append_right _ (List.mem_append_right _ (List.mem_append_left _ h)))))
theorem z_in_6 {w : Cond} (h : w ∈ tables_1_6) : w ∈ lw_tbl := List.mem_append_right _ (List.mem_append_right _ (List.mem_append_right _ (List.mem_append_right _ (List.mem_append_right _ (List.mem_append_right _ (List.mem_append_left _ h))))))
theorem z_in_7 {w : Cond} (h : w ∈ tables_1_7) : w ∈ lw_tbl := List.mem_append_right _ (List.mem_append_right _ (List.mem_append_right _ (List.mem_append_right _ (List.mem_append_right _ (List.mem_append_right _ (List.mem_append_right _ (h)))))))
set_option maxRecDepth 100000 in
theorem z_cw_1 : zcw 1 ∈ lw_tbl := z_in_1 (List.mem_of_getElem? (i := 28) (show tables_1_1[28]? = some (zcw 1) from rfl))
set_option maxRecDepth 100000 in
theorem z_cw_2 : zcw 2 ∈ lw_tbl := z_in_1 (List.mem_of_getElem? (i := 36) (show tables_1_1[36]? = some (zcw 2) from rfl))
set_option maxRecDepth 100000 in
theorem z_cw_3 : zcw 3 ∈ lw_tbl := z_in_1 (List.mem_of_getElem? (i := 70) (show tables_1_1[70]? = some (zcw 3) from rfl))
set_option maxRecDepth 100000 in
theorem z_cw_4 : zcw 4 ∈ lw_tbl := z_in_1 (List.mem_of_getElem? (i := 98) (show tables_1_1[98]? = some (zcw 4) from rfl))
set_option maxRecDepth 100000 in
theorem z_cw_5 : zcw 5 ∈ lw_tbl := z_in_1 (List.mem_of_getElem? (i := 102) (show tables_1_1[102]? = some (zcw 5) from rfl))
set_option maxRecDepth 100000 in
theorem z_cw_6 : zcw 6 ∈ lw_tbl := z_in_1 (List.mem_of_getElem? (i := 106) (show tables_1_1[106]? = some (zcw 6) from rfl))
set_option maxRecDepth 100000 in
theorem z_cw_7 : zcw 7 ∈ lw_tbl := z_in_1 (List.mem_of_getElem? (i := 110) (show tables_1_1[110]? = some (zcw 7) from rfl))
set_option maxRecDepth 100000 in
theorem z_cw_8 : zcw 8 ∈ lw_tbl := z_in_1 (List.mem_of_getElem? (i := 114) (show tables_1_1[114]? = some (zcw 8) from rfl))
set_option maxRecDepth 100000 in
theorem z_cw_9 : zcw 9 ∈ lw_tbl := z_in_1 (List.mem_of_getElem? (i := 118) (show tables_1_1[118]? = some (zcw 9) from rfl))
set_option maxRecDepth 100000 in
theorem z_cw_10 : zcw 10 ∈ lw_tbl := z_in_1 (List.mem_of_getElem? (i := 122) (show tables_1_1[122]? = some (zcw 10) from rfl))
set_option maxRecDepth 100000 in
theorem z_cw_11 : zcw 11 ∈ lw_tbl := z_in_1 (List.mem_of_getElem? (i := 126) (show tables_1_1[126]? = some (zcw 11) from rfl))
set_option maxRecDepth 100000 in
theorem z_cw_12 : zcw 12 ∈ lw_tbl := z_in_1 (List.mem_of_getElem? (i := 130) (show tables_1_1[130]? = some (zcw 12) from rfl))
set_option maxRecDepth 100000 in
theorem z_cw_13 : zcw 13 ∈ lw_tbl := z_in_1 (List.mem_of_getElem? (i := 134) (show tables_1_1[134]? = some (zcw 13) from rfl))
set_option maxRecDepth 100000 in
theorem z_cw_14 : zcw 14 ∈ lw_tbl := z_in_1 (List.mem_of_getElem? (i := 139) (show tables_1_1[139]? = some (zcw 14) from rfl))
set_option maxRecDepth 100000 in
theorem z_cw_15 : zcw 15 ∈ lw_tbl := z_in_1 (List.mem_of_getElem? (i := 143) (show tables_1_1[143]? = some (zcw 15) from rfl))
set_option maxRecDepth 100000 in
theorem z_cw_16 : zcw 16 ∈ lw_tbl := z_in_1 (List.mem_of_getElem? (i := 148) (show tables_1_1[148]? = some (zcw 16) from rfl))
set_option maxRecDepth 100000 in
theorem z_cw_17 : zcw 17 ∈ lw_tbl := z_in_1 (List.mem_of_getElem? (i := 151) (show tables_1_1[151]? = some (zcw 17) from rfl))
set_option maxRecDepth 100000 in
theorem z_cw_18 : zcw 18 ∈ lw_tbl := z_in_1 (List.mem_of_getElem? (i := 157) (show tables_1_1[157]? = some (zcw 18) from rfl))
set_option maxRecDepth 100000 in
theorem z_cw_19 : zcw 19 ∈ lw_tbl := z_in_2 (List.mem_of_getElem? (i := 0) (show tables_1_2[0]? = some (zcw 19) from rfl))
set_option maxRecDepth 100000 in
theorem z_cw_20 : zcw 20 ∈ lw_tbl := z_in_2 (List.mem_of_getElem? (i := 3) (show tables_1_2[3]? = some (zcw 20) from rfl))
set_option maxRecDepth 100000 in
theorem z_cw_21 : zcw 21 ∈ lw_tbl := z_in_2 (List.mem_of_getElem? (i := 8) (show tables_1_2[8]? = some (zcw 21) from rfl))
set_option maxRecDepth 100000 in
theorem z_cw_22 : zcw 22 ∈ lw_tbl := z_in_2 (List.mem_of_getElem? (i := 12) (show tables_1_2[12]? = some (zcw 22) from rfl))
set_option maxRecDepth 100000 in
theorem z_cw_23 : zcw 23 ∈ lw_tbl := z_in_2 (List.mem_of_getElem? (i := 16) (show tables_1_2[16]? = some (zcw 23) from rfl))
set_option maxRecDepth 100000 in
theorem z_cw_24 : zcw 24 ∈ lw_tbl := z_in_2 (List.mem_of_getElem? (i := 21) (show tables_1_2[21]? = some (zcw 24) from rfl))
set_option maxRecDepth 100000 in
theorem z_cw_25 : zcw 25 ∈ lw_tbl := z_in_2 (List.mem_of_getElem? (i := 25) (show tables_1_2[25]? = some (zcw 25) from rfl))
set_option maxRecDepth 100000 in
theorem z_cw_26 : zcw 26 ∈ lw_tbl := z_in_2 (List.mem_of_getElem? (i := 29) (show tables_1_2[29]? = some (zcw 26) from rfl))
set_option maxRecDepth 100000 in
theorem z_cw_27 : zcw 27 ∈ lw_tbl := z_in_2 (List.mem_of_getElem? (i := 33) (show tables_1_2[33]? = some (zcw 27) from rfl))
set_option maxRecDepth 100000 in
theorem z_cw_28 : zcw 28 ∈ lw_tbl := z_in_2 (List.mem_of_getElem? (i := 39) (show tables_1_2[39]? = some (zcw 28) from rfl))
set_option maxRecDepth 100000 in
theorem z_cw_29 : zcw 29 ∈ lw_tbl := z_in_2 (List.mem_of_getElem? (i := 42) (show tables_1_2[42]? = some (zcw 29) from rfl))
set_option maxRecDepth 100000 in
theorem z_cw_30 : zcw 30 ∈ lw_tbl := z_in_2 (List.mem_of_getElem? (i := 45) (show tables_1_2[45]? = some (zcw 30) from rfl))
set_option maxRecDepth 100000 in
theorem z_cw_31 : zcw 31 ∈ lw_tbl := z_in_2 (List.mem_of_getElem? (i := 48) (show tables_1_2[48]? = some (zcw 31) from rfl))
set_option maxRecDepth 100000 in
theorem z_cw_32 : zcw 32 ∈ lw_tbl := z_in_2 (List.mem_of_getElem? (i := 51) (show tables_1_2[51]? = some (zcw 32) from rfl))
set_option maxRecDepth 100000 in
theorem z_cw_33 : zcw 33 ∈ lw_tbl := z_in_2 (List.mem_of_getElem? (i := 57) (show tables_1_2[57]? = some (zcw 33) from rfl))
set_option maxRecDepth 100000 in
theorem z_cw_34 : zcw 34 ∈ lw_tbl := z_in_2 (List.mem_of_getElem? (i := 76) (show tables_1_2[76]? = some (zcw 34) from rfl))
set_option maxRecDepth 100000 in
theorem z_cw_35 : zcw 35 ∈ lw_tbl := z_in_2 (List.mem_of_getElem? (i := 80) (show tables_1_2[80]? = some (zcw 35) from rfl))
set_option maxRecDepth 100000 in
theorem z_cw_36 : zcw 36 ∈ lw_tbl := z_in_2 (List.mem_of_getElem? (i := 116) (show tables_1_2[116]? = some (zcw 36) from rfl))
set_option maxRecDepth 100000 in
theorem z_cw_37 : zcw 37 ∈ lw_tbl := z_in_2 (List.mem_of_getElem? (i := 151) (show tables_1_2[151]? = some (zcw 37) from rfl))
set_option maxRecDepth 100000 in
theorem z_cw_38 : zcw 38 ∈ lw_tbl := z_in_2 (List.mem_of_getElem? (i := 155) (show tables_1_2[155]? = some (zcw 38) from rfl))
set_option maxRecDepth 100000 in
theorem z_cw_39 : zcw 39 ∈ lw_tbl := z_in_2 (List.mem_of_getElem? (i := 158) (show tables_1_2[158]? = some (zcw 39) from rfl))
set_option maxRecDepth 100000 in
theorem z_cw_40 : zcw 40 ∈ lw_tbl := z_in_2 (List.mem_of_getElem? (i := 161) (show tables_1_2[161]? = some (zcw 40) from rfl))
set_option maxRecDepth 100000 in
theorem z_cw_41 : zcw 41 ∈ lw_tbl := z_in_2 (List.mem_of_getElem? (i := 166) (show tables_1_2[166]? = some (zcw 41) from rfl))
set_option maxRecDepth 100000 in
theorem z_cw_42 : zcw 42 ∈ lw_tbl := z_in_2 (List.mem_of_getElem? (i := 169) (show tables_1_2[169]? = some (zcw 42) from rfl))
set_option maxRecDepth 100000 in
theorem z_cw_43 : zcw 43 ∈ lw_tbl := z_in_2 (List.mem_of_getElem? (i := 172) (show tables_1_2[172]? = some (zcw 43) from rfl))
set_option maxRecDepth 100000 in
theorem z_cw_44 : zcw 44 ∈ lw_tbl := z_in_2 (List.mem_of_getElem? (i := 175) (show tables_1_2[175]? = some (zcw 44) from rfl))
set_option maxRecDepth 100000 in
theorem z_cw_45 : zcw 45 ∈ lw_tbl := z_in_2 (List.mem_of_getElem? (i := 181) (show tables_1_2[181]? = some (zcw 45) from rfl))
set_option maxRecDepth 100000 in
theorem z_cw_46 : zcw 46 ∈ lw_tbl := z_in_2 (List.mem_of_getElem? (i := 198) (show tables_1_2[198]? = some (zcw 46) from rfl))
set_option maxRecDepth 100000 in
theorem z_cw_47 : zcw 47 ∈ lw_tbl := z_in_2 (List.mem_of_getElem? (i := 202) (show tables_1_2[202]? = some (zcw 47) from rfl))
set_option maxRecDepth 100000 in
theorem z_cw_48 : zcw 48 ∈ lw_tbl := z_in_2 (List.mem_of_getElem? (i := 206) (show tables_1_2[206]? = some (zcw 48) from rfl))
set_option maxRecDepth 100000 in
theorem z_cw_49 : zcw 49 ∈ lw_tbl := z_in_2 (List.mem_of_getElem? (i := 212) (show tables_1_2[212]? = some (zcw 49) from rfl))
set_option maxRecDepth 100000 in
theorem z_cw_50 : zcw 50 ∈ lw_tbl := z_in_2 (List.mem_of_getElem? (i := 234) (show tables_1_2[234]? = some (zcw 50) from rfl))
set_option maxRecDepth 100000 in
theorem z_cw_51 : zcw 51 ∈ lw_tbl := z_in_3 (List.mem_of_getElem? (i := 21) (show tables_1_3[21]? = some (zcw 51) from rfl))
set_option maxRecDepth 100000 in
theorem z_cw_52 : zcw 52 ∈ lw_tbl := z_in_3 (List.mem_of_getElem? (i := 26) (show tables_1_3[26]? = some (zcw 52) from rfl))
set_option maxRecDepth 100000 in
theorem z_cw_53 : zcw 53 ∈ lw_tbl := z_in_3 (List.mem_of_getElem? (i := 31) (show tables_1_3[31]? = some (zcw 53) from rfl))
set_option maxRecDepth 100000 in
theorem z_cw_54 : zcw 54 ∈ lw_tbl := z_in_3 (List.mem_of_getElem? (i := 36) (show tables_1_3[36]? = some (zcw 54) from rfl))
set_option maxRecDepth 100000 in
theorem z_cw_55 : zcw 55 ∈ lw_tbl := z_in_3 (List.mem_of_getElem? (i := 52) (show tables_1_3[52]? = some (zcw 55) from rfl))
set_option maxRecDepth 100000 in
theorem z_cw_56 : zcw 56 ∈ lw_tbl := z_in_3 (List.mem_of_getElem? (i := 56) (show tables_1_3[56]? = some (zcw 56) from rfl))
set_option maxRecDepth 100000 in
theorem z_cw_57 : zcw 57 ∈ lw_tbl := z_in_3 (List.mem_of_getElem? (i := 61) (show tables_1_3[61]? = some (zcw 57) from rfl))
set_option maxRecDepth 100000 in
theorem z_cw_58 : zcw 58 ∈ lw_tbl := z_in_3 (List.mem_of_getElem? (i := 65) (show tables_1_3[65]? = some (zcw 58) from rfl))
set_option maxRecDepth 100000 in
theorem z_cw_59 : zcw 59 ∈ lw_tbl := z_in_3 (List.mem_of_getElem? (i := 71) (show tables_1_3[71]? = some (zcw 59) from rfl))
set_option maxRecDepth 100000 in
theorem z_cw_60 : zcw 60 ∈ lw_tbl := z_in_3 (List.mem_of_getElem? (i := 75) (show tables_1_3[75]? = some (zcw 60) from rfl))
set_option maxRecDepth 100000 in
theorem z_cw_61 : zcw 61 ∈ lw_tbl := z_in_3 (List.mem_of_getElem? (i := 79) (show tables_1_3[79]? = some (zcw 61) from rfl))
set_option maxRecDepth 100000 in
theorem z_cw_62 : zcw 62 ∈ lw_tbl := z_in_3 (List.mem_of_getElem? (i := 83) (show tables_1_3[83]? = some (zcw 62) from rfl))
set_option maxRecDepth 100000 in
theorem z_cw_63 : zcw 63 ∈ lw_tbl := z_in_3 (List.mem_of_getElem? (i := 90) (show tables_1_3[90]? = some (zcw 63) from rfl))
set_option maxRecDepth 100000 in
theorem z_cw_64 : zcw 64 ∈ lw_tbl := z_in_3 (List.mem_of_getElem? (i := 95) (show tables_1_3[95]? = some (zcw 64) from rfl))
set_option maxRecDepth 100000 in
theorem z_cw_65 : zcw 65 ∈ lw_tbl := z_in_3 (List.mem_of_getElem? (i := 99) (show tables_1_3[99]? = some (zcw 65) from rfl))
set_option maxRecDepth 100000 in
theorem z_cw_66 : zcw 66 ∈ lw_tbl := z_in_3 (List.mem_of_getElem? (i := 103) (show tables_1_3[103]? = some (zcw 66) from rfl))
set_option maxRecDepth 100000 in
theorem z_cw_67 : zcw 67 ∈ lw_tbl := z_in_3 (List.mem_of_getElem? (i := 107) (show tables_1_3[107]? = some (zcw 67) from rfl))
set_option maxRecDepth 100000 in
theorem z_cw_68 : zcw 68 ∈ lw_tbl := z_in_3 (List.mem_of_getElem? (i := 111) (show tables_1_3[111]? = some (zcw 68) from rfl))
set_option maxRecDepth 100000 in
theorem z_cw_69 : zcw 69 ∈ lw_tbl := z_in_3 (List.mem_of_getElem? (i := 116) (show tables_1_3[116]? = some (zcw 69) from rfl))
set_option maxRecDepth 100000 in
theorem z_cw_70 : zcw 70 ∈ lw_tbl := z_in_3 (List.mem_of_getElem? (i := 147) (show tables_1_3[147]? = some (zcw 70) from rfl))
set_option maxRecDepth 100000 in
theorem z_cw_71 : zcw 71 ∈ lw_tbl := z_in_3 (List.mem_of_getElem? (i := 154) (show tables_1_3[154]? = some (zcw 71) from rfl))
set_option maxRecDepth 100000 in
theorem z_cw_72 : zcw 72 ∈ lw_tbl := z_in_3 (List.mem_of_getElem? (i := 157) (show tables_1_3[157]? = some (zcw 72) from rfl))
set_option maxRecDepth 100000 in
theorem z_cw_73 : zcw 73 ∈ lw_tbl := z_in_3 (List.mem_of_getElem? (i := 162) (show tables_1_3[162]? = some (zcw 73) from rfl))
set_option maxRecDepth 100000 in
theorem z_cw_74 : zcw 74 ∈ lw_tbl := z_in_3 (List.mem_of_getElem? (i := 166) (show tables_1_3[166]? = some (zcw 74) from rfl))
set_option maxRecDepth 100000 in
theorem z_cw_75 : zcw 75 ∈ lw_tbl := z_in_3 (List.mem_of_getElem? (i := 170) (show tables_1_3[170]? = some (zcw 75) from rfl))
set_option maxRecDepth 100000 in
theorem z_cw_76 : zcw 76 ∈ lw_tbl := z_in_3 (List.mem_of_getElem? (i := 174) (show tables_1_3[174]? = some (zcw 76) from rfl))
set_option maxRecDepth 100000 in
theorem z_cw_77 : zcw 77 ∈ lw_tbl := z_in_3 (List.mem_of_getElem? (i := 178) (show tables_1_3[178]? = some (zcw 77) from rfl))
set_option maxRecDepth 100000 in
theorem z_cw_78 : zcw 78 ∈ lw_tbl := z_in_3 (List.mem_of_getElem? (i := 186) (show tables_1_3[186]? = some (zcw 78) from rfl))
set_option maxRecDepth 100000 in
theorem z_cw_79 : zcw 79 ∈ lw_tbl := z_in_3 (List.mem_of_getElem? (i := 190) (show tables_1_3[190]? = some (zcw 79) from rfl))
set_option maxRecDepth 100000 in
theorem z_cw_80 : zcw 80 ∈ lw_tbl := z_in_3 (List.mem_of_getElem? (i := 193) (show tables_1_3[193]? = some (zcw 80) from rfl))
set_option maxRecDepth 100000 in
theorem z_cw_81 : zcw 81 ∈ lw_tbl := z_in_3 (List.mem_of_getElem? (i := 199) (show tables_1_3[199]? = some (zcw 81) from rfl))
set_option maxRecDepth 100000 in
theorem z_cw_82 : zcw 82 ∈ lw_tbl := z_in_3 (List.mem_of_getElem? (i := 202) (show tables_1_3[202]? = some (zcw 82) from rfl))
set_option maxRecDepth 100000 in
theorem z_cw_83 : zcw 83 ∈ lw_tbl := z_in_3 (List.mem_of_getElem? (i := 205) (show tables_1_3[205]? = some (zcw 83) from rfl))
set_option maxRecDepth 100000 in
theorem z_cw_84 : zcw 84 ∈ lw_tbl := z_in_3 (List.mem_of_getElem? (i := 208) (show tables_1_3[208]? = some (zcw 84) from rfl))
set_option maxRecDepth 100000 in
theorem z_cw_85 : zcw 85 ∈ lw_tbl := z_in_3 (List.mem_of_getElem? (i := 213) (show tables_1_3[213]? = some (zcw 85) from rfl))
set_option maxRecDepth 100000 in
theorem z_cw_86 : zcw 86 ∈ lw_tbl := z_in_3 (List.mem_of_getElem? (i := 217) (show tables_1_3[217]? = some (zcw 86) from rfl))
set_option maxRecDepth 100000 in
theorem z_cw_87 : zcw 87 ∈ lw_tbl := z_in_3 (List.mem_of_getElem? (i := 221) (show tables_1_3[221]? = some (zcw 87) from rfl))
set_option maxRecDepth 100000 in
theorem z_cw_88 : zcw 88 ∈ lw_tbl := z_in_3 (List.mem_of_getElem? (i := 224) (show tables_1_3[224]? = some (zcw 88) from rfl))
set_option maxRecDepth 100000 in
theorem z_cw_89 : zcw 89 ∈ lw_tbl := z_in_3 (List.mem_of_getElem? (i := 228) (show tables_1_3[228]? = some (zcw 89) from rfl))
set_option maxRecDepth 100000 in
theorem z_cw_90 : zcw 90 ∈ lw_tbl := z_in_3 (List.mem_of_getElem? (i := 232) (show tables_1_3[232]? = some (zcw 90) from rfl))
set_option maxRecDepth 100000 in
theorem z_cw_91 : zcw 91 ∈ lw_tbl := z_in_3 (List.mem_of_getElem? (i := 235) (show tables_1_3[235]? = some (zcw 91) from rfl))
set_option maxRecDepth 100000 in
theorem z_cw_92 : zcw 92 ∈ lw_tbl := z_in_4 (List.mem_of_getElem? (i := 3) (show tables_1_4[3]? = some (zcw 92) from rfl))
set_option maxRecDepth 100000 in
theorem z_cw_93 : zcw 93 ∈ lw_tbl := z_in_4 (List.mem_of_getElem? (i := 39) (show tables_1_4[39]? = some (zcw 93) from rfl))
set_option maxRecDepth 100000 in
theorem z_cw_94 : zcw 94 ∈ lw_tbl := z_in_4 (List.mem_of_getElem? (i := 44) (show tables_1_4[44]? = some (zcw 94) from rfl))
set_option maxRecDepth 100000 in
theorem z_cw_95 : zcw 95 ∈ lw_tbl := z_in_4 (List.mem_of_getElem? (i := 48) (show tables_1_4[48]? = some (zcw 95) from rfl))
set_option maxRecDepth 100000 in
theorem z_cw_96 : zcw 96 ∈ lw_tbl := z_in_4 (List.mem_of_getElem? (i := 52) (show tables_1_4[52]? = some (zcw 96) from rfl))
set_option maxRecDepth 100000 in
theorem z_cw_97 : zcw 97 ∈ lw_tbl := z_in_4 (List.mem_of_getElem? (i := 58) (show tables_1_4[58]? = some (zcw 97) from rfl))
set_option maxRecDepth 100000 in
theorem z_cw_98 : zcw 98 ∈ lw_tbl := z_in_4 (List.mem_of_getElem? (i := 89) (show tables_1_4[89]? = some (zcw 98) from rfl))
set_option maxRecDepth 100000 in
theorem z_cw_99 : zcw 99 ∈ lw_tbl := z_in_4 (List.mem_of_getElem? (i := 93) (show tables_1_4[93]? = some (zcw 99) from rfl))
set_option maxRecDepth 100000 in
theorem z_cw_100 : zcw 100 ∈ lw_tbl := z_in_4 (List.mem_of_getElem? (i := 97) (show tables_1_4[97]? = some (zcw 100) from rfl))
set_option maxRecDepth 100000 in
theorem z_cw_101 : zcw 101 ∈ lw_tbl := z_in_4 (List.mem_of_getElem? (i := 101) (show tables_1_4[101]? = some (zcw 101) from rfl))
set_option maxRecDepth 100000 in
theorem z_cw_102 : zcw 102 ∈ lw_tbl := z_in_4 (List.mem_of_getElem? (i := 105) (show tables_1_4[105]? = some (zcw 102) from rfl))
set_option maxRecDepth 100000 in
theorem z_cw_103 : zcw 103 ∈ lw_tbl := z_in_4 (List.mem_of_getElem? (i := 111) (show tables_1_4[111]? = some (zcw 103) from rfl))
set_option maxRecDepth 100000 in
theorem z_cw_104 : zcw 104 ∈ lw_tbl := z_in_4 (List.mem_of_getElem? (i := 118) (show tables_1_4[118]? = some (zcw 104) from rfl))
set_option maxRecDepth 100000 in
theorem z_cw_105 : zcw 105 ∈ lw_tbl := z_in_4 (List.mem_of_getElem? (i := 126) (show tables_1_4[126]? = some (zcw 105) from rfl))
set_option maxRecDepth 100000 in
theorem z_cw_106 : zcw 106 ∈ lw_tbl := z_in_4 (List.mem_of_getElem? (i := 131) (show tables_1_4[131]? = some (zcw 106) from rfl))
set_option maxRecDepth 100000 in
theorem z_cw_107 : zcw 107 ∈ lw_tbl := z_in_4 (List.mem_of_getElem? (i := 135) (show tables_1_4[135]? = some (zcw 107) from rfl))
set_option maxRecDepth 100000 in
theorem z_cw_108 : zcw 108 ∈ lw_tbl := z_in_4 (List.mem_of_getElem? (i := 139) (show tables_1_4[139]? = some (zcw 108) from rfl))
set_option maxRecDepth 100000 in
theorem z_cw_109 : zcw 109 ∈ lw_tbl := z_in_4 (List.mem_of_getElem? (i := 143) (show tables_1_4[143]? = some (zcw 109) from rfl))
set_option maxRecDepth 100000 in
theorem z_cw_110 : zcw 110 ∈ lw_tbl := z_in_4 (List.mem_of_getElem? (i := 148) (show tables_1_4[148]? = some (zcw 110) from rfl))
set_option maxRecDepth 100000 in
theorem z_cw_111 : zcw 111 ∈ lw_tbl := z_in_4 (List.mem_of_getElem? (i := 152) (show tables_1_4[152]? = some (zcw 111) from rfl))
set_option maxRecDepth 100000 in
theorem z_cw_112 : zcw 112 ∈ lw_tbl := z_in_4 (List.mem_of_getElem? (i := 159) (show tables_1_4[159]? = some (zcw 112) from rfl))
set_option maxRecDepth 100000 in
theorem z_cw_113 : zcw 113 ∈ lw_tbl := z_in_4 (List.mem_of_getElem? (i := 179) (show tables_1_4[179]? = some (zcw 113) from rfl))
set_option maxRecDepth 100000 in
theorem z_cw_114 : zcw 114 ∈ lw_tbl := z_in_4 (List.mem_of_getElem? (i := 183) (show tables_1_4[183]? = some (zcw 114) from rfl))
set_option maxRecDepth 100000 in
theorem z_cw_115 : zcw 115 ∈ lw_tbl := z_in_4 (List.mem_of_getElem? (i := 187) (show tables_1_4[187]? = some (zcw 115) from rfl))
set_option maxRecDepth 100000 in
theorem z_cw_116 : zcw 116 ∈ lw_tbl := z_in_4 (List.mem_of_getElem? (i := 192) (show tables_1_4[192]? = some (zcw 116) from rfl))
set_option maxRecDepth 100000 in
theorem z_cw_117 : zcw 117 ∈ lw_tbl := z_in_4 (List.mem_of_getElem? (i := 199) (show tables_1_4[199]? = some (zcw 117) from rfl))
set_option maxRecDepth 100000 in
theorem z_cw_118 : zcw 118 ∈ lw_tbl := z_in_4 (List.mem_of_getElem? (i := 203) (show tables_1_4[203]? = some (zcw 118) from rfl))
set_option maxRecDepth 100000 in
theorem z_cw_119 : zcw 119 ∈ lw_tbl := z_in_4 (List.mem_of_getElem? (i := 209) (show tables_1_4[209]? = some (zcw 119) from rfl))
set_option maxRecDepth 100000 in
theorem z_cw_120 : zcw 120 ∈ lw_tbl := z_in_4 (List.mem_of_getElem? (i := 218) (show tables_1_4[218]? = some (zcw 120) from rfl))
set_option maxRecDepth 100000 in
theorem z_cw_121 : zcw 121 ∈ lw_tbl := z_in_4 (List.mem_of_getElem? (i := 222) (show tables_1_4[222]? = some (zcw 121) from rfl))
set_option maxRecDepth 100000 in
theorem z_cw_122 : zcw 122 ∈ lw_tbl := z_in_4 (List.mem_of_getElem? (i := 226) (show tables_1_4[226]? = some (zcw 122) from rfl))
set_option maxRecDepth 100000 in
theorem z_cw_123 : zcw 123 ∈ lw_tbl := z_in_4 (List.mem_of_getElem? (i := 229) (show tables_1_4[229]? = some (zcw 123) from rfl))
set_option maxRecDepth 100000 in
theorem z_cw_124 : zcw 124 ∈ lw_tbl := z_in_4 (List.mem_of_getElem? (i := 234) (show tables_1_4[234]? = some (zcw 124) from rfl))
set_option maxRecDepth 100000 in
theorem z_cw_125 : zcw 125 ∈ lw_tbl := z_in_4 (List.mem_of_getElem? (i := 237) (show tables_1_4[237]? = some (zcw 125) from rfl))
set_option maxRecDepth 100000 in
theorem z_cw_126 : zcw 126 ∈ lw_tbl := z_in_5 (List.mem_of_getElem? (i := 0) (show tables_1_5[0]? = some (zcw 126) from rfl))
set_option maxRecDepth 100000 in
theorem z_cw_127 : zcw 127 ∈ lw_tbl := z_in_5 (List.mem_of_getElem? (i := 4) (show tables_1_5[4]? = some (zcw 127) from rfl))
set_option maxRecDepth 100000 in
theorem z_cw_128 : zcw 128 ∈ lw_tbl := z_in_5 (List.mem_of_getElem? (i := 8) (show tables_1_5[8]? = some (zcw 128) from rfl))
set_option maxRecDepth 100000 in
theorem z_cw_129 : zcw 129 ∈ lw_tbl := z_in_5 (List.mem_of_getElem? (i := 12) (show tables_1_5[12]? = some (zcw 129) from rfl))
set_option maxRecDepth 100000 in
theorem z_cw_130 : zcw 130 ∈ lw_tbl := z_in_5 (List.mem_of_getElem? (i := 15) (show tables_1_5[15]? = some (zcw 130) from rfl))
set_option maxRecDepth 100000 in
theorem z_cw_131 : zcw 131 ∈ lw_tbl := z_in_5 (List.mem_of_getElem? (i := 21) (show tables_1_5[21]? = some (zcw 131) from rfl))
set_option maxRecDepth 100000 in
theorem z_cw_132 : zcw 132 ∈ lw_tbl := z_in_5 (List.mem_of_getElem? (i := 24) (show tables_1_5[24]? = some (zcw 132) from rfl))
set_option maxRecDepth 100000 in
theorem z_cw_133 : zcw 133 ∈ lw_tbl := z_in_5 (List.mem_of_getElem? (i := 27) (show tables_1_5[27]? = some (zcw 133) from rfl))
set_option maxRecDepth 100000 in
theorem z_cw_134 : zcw 134 ∈ lw_tbl := z_in_5 (List.mem_of_getElem? (i := 34) (show tables_1_5[34]? = some (zcw 134) from rfl))
set_option maxRecDepth 100000 in
theorem z_cw_135 : zcw 135 ∈ lw_tbl := z_in_5 (List.mem_of_getElem? (i := 39) (show tables_1_5[39]? = some (zcw 135) from rfl))
set_option maxRecDepth 100000 in
theorem z_cw_136 : zcw 136 ∈ lw_tbl := z_in_5 (List.mem_of_getElem? (i := 42) (show tables_1_5[42]? = some (zcw 136) from rfl))
set_option maxRecDepth 100000 in
theorem z_cw_137 : zcw 137 ∈ lw_tbl := z_in_5 (List.mem_of_getElem? (i := 47) (show tables_1_5[47]? = some (zcw 137) from rfl))
set_option maxRecDepth 100000 in
theorem z_cw_138 : zcw 138 ∈ lw_tbl := z_in_5 (List.mem_of_getElem? (i := 51) (show tables_1_5[51]? = some (zcw 138) from rfl))
set_option maxRecDepth 100000 in
theorem z_cw_139 : zcw 139 ∈ lw_tbl := z_in_5 (List.mem_of_getElem? (i := 55) (show tables_1_5[55]? = some (zcw 139) from rfl))
set_option maxRecDepth 100000 in
theorem z_cw_140 : zcw 140 ∈ lw_tbl := z_in_5 (List.mem_of_getElem? (i := 59) (show tables_1_5[59]? = some (zcw 140) from rfl))
set_option maxRecDepth 100000 in
theorem z_cw_141 : zcw 141 ∈ lw_tbl := z_in_5 (List.mem_of_getElem? (i := 65) (show tables_1_5[65]? = some (zcw 141) from rfl))
set_option maxRecDepth 100000 in
theorem z_cw_142 : zcw 142 ∈ lw_tbl := z_in_5 (List.mem_of_getElem? (i := 69) (show tables_1_5[69]? = some (zcw 142) from rfl))
set_option maxRecDepth 100000 in
theorem z_cw_143 : zcw 143 ∈ lw_tbl := z_in_5 (List.mem_of_getElem? (i := 73) (show tables_1_5[73]? = some (zcw 143) from rfl))
set_option maxRecDepth 100000 in
theorem z_cw_144 : zcw 144 ∈ lw_tbl := z_in_5 (List.mem_of_getElem? (i := 77) (show tables_1_5[77]? = some (zcw 144) from rfl))
set_option maxRecDepth 100000 in
theorem z_cw_145 : zcw 145 ∈ lw_tbl := z_in_5 (List.mem_of_getElem? (i := 81) (show tables_1_5[81]? = some (zcw 145) from rfl))
set_option maxRecDepth 100000 in
theorem z_cw_146 : zcw 146 ∈ lw_tbl := z_in_5 (List.mem_of_getElem? (i := 90) (show tables_1_5[90]? = some (zcw 146) from rfl))
set_option maxRecDepth 100000 in
theorem z_cw_147 : zcw 147 ∈ lw_tbl := z_in_5 (List.mem_of_getElem? (i := 94) (show tables_1_5[94]? = some (zcw 147) from rfl))
set_option maxRecDepth 100000 in
theorem z_cw_148 : zcw 148 ∈ lw_tbl := z_in_5 (List.mem_of_getElem? (i := 98) (show tables_1_5[98]? = some (zcw 148) from rfl))
set_option maxRecDepth 100000 in
theorem z_cw_149 : zcw 149 ∈ lw_tbl := z_in_5 (List.mem_of_getElem? (i := 107) (show tables_1_5[107]? = some (zcw 149) from rfl))
set_option maxRecDepth 100000 in
theorem z_cw_150 : zcw 150 ∈ lw_tbl := z_in_5 (List.mem_of_getElem? (i := 111) (show tables_1_5[111]? = some (zcw 150) from rfl))
set_option maxRecDepth 100000 in
theorem z_cw_151 : zcw 151 ∈ lw_tbl := z_in_5 (List.mem_of_getElem? (i := 115) (show tables_1_5[115]? = some (zcw 151) from rfl))
set_option maxRecDepth 100000 in
theorem z_cw_152 : zcw 152 ∈ lw_tbl := z_in_5 (List.mem_of_getElem? (i := 121) (show tables_1_5[121]? = some (zcw 152) from rfl))
set_option maxRecDepth 100000 in
theorem z_cw_153 : zcw 153 ∈ lw_tbl := z_in_6 (List.mem_of_getElem? (i := 92) (show tables_1_6[92]? = some (zcw 153) from rfl))
set_option maxRecDepth 100000 in
theorem z_cw_154 : zcw 154 ∈ lw_tbl := z_in_6 (List.mem_of_getElem? (i := 96) (show tables_1_6[96]? = some (zcw 154) from rfl))
set_option maxRecDepth 100000 in
theorem z_cw_155 : zcw 155 ∈ lw_tbl := z_in_6 (List.mem_of_getElem? (i := 101) (show tables_1_6[101]? = some (zcw 155) from rfl))
set_option maxRecDepth 100000 in
theorem z_cw_156 : zcw 156 ∈ lw_tbl := z_in_6 (List.mem_of_getElem? (i := 105) (show tables_1_6[105]? = some (zcw 156) from rfl))
set_option maxRecDepth 100000 in
theorem z_cw_157 : zcw 157 ∈ lw_tbl := z_in_6 (List.mem_of_getElem? (i := 109) (show tables_1_6[109]? = some (zcw 157) from rfl))
set_option maxRecDepth 100000 in
theorem z_cw_158 : zcw 158 ∈ lw_tbl := z_in_6 (List.mem_of_getElem? (i := 113) (show tables_1_6[113]? = some (zcw 158) from rfl))
set_option maxRecDepth 100000 in
theorem z_cw_159 : zcw 159 ∈ lw_tbl := z_in_6 (List.mem_of_getElem? (i := 117) (show tables_1_6[117]? = some (zcw 159) from rfl))
set_option maxRecDepth 100000 in
theorem z_cw_160 : zcw 160 ∈ lw_tbl := z_in_6 (List.mem_of_getElem? (i := 121) (show tables_1_6[121]? = some (zcw 160) from rfl))
set_option maxRecDepth 100000 in
theorem z_cw_161 : zcw 161 ∈ lw_tbl := z_in_6 (List.mem_of_getElem? (i := 125) (show tables_1_6[125]? = some (zcw 161) from rfl))
set_option maxRecDepth 100000 in
theorem z_cw_162 : zcw 162 ∈ lw_tbl := z_in_6 (List.mem_of_getElem? (i := 129) (show tables_1_6[129]? = some (zcw 162) from rfl))
set_option maxRecDepth 100000 in
theorem z_cw_163 : zcw 163 ∈ lw_tbl := z_in_6 (List.mem_of_getElem? (i := 132) (show tables_1_6[132]? = some (zcw 163) from rfl))
set_option maxRecDepth 100000 in
theorem z_cw_164 : zcw 164 ∈ lw_tbl := z_in_6 (List.mem_of_getElem? (i := 136) (show tables_1_6[136]? = some (zcw 164) from rfl))
set_option maxRecDepth 100000 in
theorem z_cw_165 : zcw 165 ∈ lw_tbl := z_in_6 (List.mem_of_getElem? (i := 140) (show tables_1_6[140]? = some (zcw 165) from rfl))
set_option maxRecDepth 100000 in
theorem z_cw_166 : zcw 166 ∈ lw_tbl := z_in_6 (List.mem_of_getElem? (i := 144) (show tables_1_6[144]? = some (zcw 166) from rfl))
set_option maxRecDepth 100000 in
theorem z_cw_167 : zcw 167 ∈ lw_tbl := z_in_6 (List.mem_of_getElem? (i := 148) (show tables_1_6[148]? = some (zcw 167) from rfl))
set_option maxRecDepth 100000 in
theorem z_cw_168 : zcw 168 ∈ lw_tbl := z_in_6 (List.mem_of_getElem? (i := 152) (show tables_1_6[152]? = some (zcw 168) from rfl))
set_option maxRecDepth 100000 in
theorem z_cw_169 : zcw 169 ∈ lw_tbl := z_in_6 (List.mem_of_getElem? (i := 156) (show tables_1_6[156]? = some (zcw 169) from rfl))
set_option maxRecDepth 100000 in
theorem z_cw_170 : zcw 170 ∈ lw_tbl := z_in_6 (List.mem_of_getElem? (i := 160) (show tables_1_6[160]? = some (zcw 170) from rfl))
set_option maxRecDepth 100000 in
theorem z_cw_171 : zcw 171 ∈ lw_tbl := z_in_6 (List.mem_of_getElem? (i := 164) (show tables_1_6[164]? = some (zcw 171) from rfl))
set_option maxRecDepth 100000 in
theorem z_cw_172 : zcw 172 ∈ lw_tbl := z_in_6 (List.mem_of_getElem? (i := 168) (show tables_1_6[168]? = some (zcw 172) from rfl))
set_option maxRecDepth 100000 in
theorem z_cw_173 : zcw 173 ∈ lw_tbl := z_in_6 (List.mem_of_getElem? (i := 172) (show tables_1_6[172]? = some (zcw 173) from rfl))
set_option maxRecDepth 100000 in
theorem z_cw_174 : zcw 174 ∈ lw_tbl := z_in_6 (List.mem_of_getElem? (i := 176) (show tables_1_6[176]? = some (zcw 174) from rfl))
set_option maxRecDepth 100000 in
theorem z_cw_175 : zcw 175 ∈ lw_tbl := z_in_6 (List.mem_of_getElem? (i := 179) (show tables_1_6[179]? = some (zcw 175) from rfl))
set_option maxRecDepth 100000 in
theorem z_cw_176 : zcw 176 ∈ lw_tbl := z_in_6 (List.mem_of_getElem? (i := 183) (show tables_1_6[183]? = some (zcw 176) from rfl))
set_option maxRecDepth 100000 in
theorem z_cw_177 : zcw 177 ∈ lw_tbl := z_in_6 (List.mem_of_getElem? (i := 187) (show tables_1_6[187]? = some (zcw 177) from rfl))
set_option maxRecDepth 100000 in
theorem z_cw_178 : zcw 178 ∈ lw_tbl := z_in_6 (List.mem_of_getElem? (i := 191) (show tables_1_6[191]? = some (zcw 178) from rfl))
set_option maxRecDepth 100000 in
theorem z_cw_179 : zcw 179 ∈ lw_tbl := z_in_6 (List.mem_of_getElem? (i := 194) (show tables_1_6[194]? = some (zcw 179) from rfl))
set_option maxRecDepth 100000 in
theorem z_cw_180 : zcw 180 ∈ lw_tbl := z_in_6 (List.mem_of_getElem? (i := 198) (show tables_1_6[198]? = some (zcw 180) from rfl))
set_option maxRecDepth 100000 in
theorem z_cw_181 : zcw 181 ∈ lw_tbl := z_in_6 (List.mem_of_getElem? (i := 202) (show tables_1_6[202]? = some (zcw 181) from rfl))
set_option maxRecDepth 100000 in
theorem z_cw_182 : zcw 182 ∈ lw_tbl := z_in_6 (List.mem_of_getElem? (i := 206) (show tables_1_6[206]? = some (zcw 182) from rfl))
set_option maxRecDepth 100000 in
theorem z_cw_183 : zcw 183 ∈ lw_tbl := z_in_6 (List.mem_of_getElem? (i := 210) (show tables_1_6[210]? = some (zcw 183) from rfl))
set_option maxRecDepth 100000 in
theorem z_cw_184 : zcw 184 ∈ lw_tbl := z_in_6 (List.mem_of_getElem? (i := 214) (show tables_1_6[214]? = some (zcw 184) from rfl))
set_option maxRecDepth 100000 in
theorem z_cw_185 : zcw 185 ∈ lw_tbl := z_in_6 (List.mem_of_getElem? (i := 218) (show tables_1_6[218]? = some (zcw 185) from rfl))
set_option maxRecDepth 100000 in
theorem z_cw_186 : zcw 186 ∈ lw_tbl := z_in_6 (List.mem_of_getElem? (i := 222) (show tables_1_6[222]? = some (zcw 186) from rfl))
set_option maxRecDepth 100000 in
theorem z_cw_187 : zcw 187 ∈ lw_tbl := z_in_6 (List.mem_of_getElem? (i := 226) (show tables_1_6[226]? = some (zcw 187) from rfl))
set_option maxRecDepth 100000 in
theorem z_cw_188 : zcw 188 ∈ lw_tbl := z_in_6 (List.mem_of_getElem? (i := 230) (show tables_1_6[230]? = some (zcw 188) from rfl))
set_option maxRecDepth 100000 in
theorem z_cw_189 : zcw 189 ∈ lw_tbl := z_in_6 (List.mem_of_getElem? (i := 234) (show tables_1_6[234]? = some (zcw 189) from rfl))
set_option maxRecDepth 100000 in
theorem z_cw_190 : zcw 190 ∈ lw_tbl := z_in_6 (List.mem_of_getElem? (i := 238) (show tables_1_6[238]? = some (zcw 190) from rfl))
set_option maxRecDepth 100000 in
theorem z_cw_191 : zcw 191 ∈ lw_tbl := z_in_7 (List.mem_of_getElem? (i := 2) (show tables_1_7[2]? = some (zcw 191) from rfl))
set_option maxRecDepth 100000 in
theorem z_cw_192 : zcw 192 ∈ lw_tbl := z_in_7 (List.mem_of_getElem? (i := 6) (show tables_1_7[6]? = some (zcw 192) from rfl))
set_option maxRecDepth 100000 in
theorem z_cw_193 : zcw 193 ∈ lw_tbl := z_in_7 (List.mem_of_getElem? (i := 9) (show tables_1_7[9]? = some (zcw 193) from rfl))
set_option maxRecDepth 100000 in
theorem z_cw_194 : zcw 194 ∈ lw_tbl := z_in_7 (List.mem_of_getElem? (i := 12) (show tables_1_7[12]? = some (zcw 194) from rfl))
set_option maxRecDepth 100000 in
theorem z_cw_195 : zcw 195 ∈ lw_tbl := z_in_7 (List.mem_of_getElem? (i := 16) (show tables_1_7[16]? = some (zcw 195) from rfl))
set_option maxRecDepth 100000 in
theorem z_cw_196 : zcw 196 ∈ lw_tbl := z_in_7 (List.mem_of_getElem? (i := 20) (show tables_1_7[20]? = some (zcw 196) from rfl))
set_option maxRecDepth 100000 in
theorem z_cw_197 : zcw 197 ∈ lw_tbl := z_in_7 (List.mem_of_getElem? (i := 24) (show tables_1_7[24]? = some (zcw 197) from rfl))
set_option maxRecDepth 100000 in
theorem z_cw_198 : zcw 198 ∈ lw_tbl := z_in_7 (List.mem_of_getElem? (i := 28) (show tables_1_7[28]? = some (zcw 198) from rfl))
set_option maxRecDepth 100000 in
theorem z_cw_199 : zcw 199 ∈ lw_tbl := z_in_7 (List.mem_of_getElem? (i := 32) (show tables_1_7[32]? = some (zcw 199) from rfl))
set_option maxRecDepth 100000 in
theorem z_cw_200 : zcw 200 ∈ lw_tbl := z_in_7 (List.mem_of_getElem? (i := 36) (show tables_1_7[36]? = some (zcw 200) from rfl))
set_option maxRecDepth 100000 in
theorem z_cw_201 : zcw 201 ∈ lw_tbl := z_in_7 (List.mem_of_getElem? (i := 40) (show tables_1_7[40]? = some (zcw 201) from rfl))
set_option maxRecDepth 100000 in
theorem z_cw_202 : zcw 202 ∈ lw_tbl := z_in_7 (List.mem_of_getElem? (i := 44) (show tables_1_7[44]? = some (zcw 202) from rfl))
set_option maxRecDepth 100000 in
theorem z_cw_203 : zcw 203 ∈ lw_tbl := z_in_7 (List.mem_of_getElem? (i := 48) (show tables_1_7[48]? = some (zcw 203) from rfl))
set_option maxRecDepth 100000 in
theorem z_cw_204 : zcw 204 ∈ lw_tbl := z_in_7 (List.mem_of_getElem? (i := 52) (show tables_1_7[52]? = some (zcw 204) from rfl))
set_option maxRecDepth 100000 in
theorem z_cw_205 : zcw 205 ∈ lw_tbl := z_in_7 (List.mem_of_getElem? (i := 56) (show tables_1_7[56]? = some (zcw 205) from rfl))
set_option maxRecDepth 100000 in
theorem z_cw_206 : zcw 206 ∈ lw_tbl := z_in_7 (List.mem_of_getElem? (i := 60) (show tables_1_7[60]? = some (zcw 206) from rfl))
set_option maxRecDepth 100000 in
theorem z_cw_207 : zcw 207 ∈ lw_tbl := z_in_7 (List.mem_of_getElem? (i := 64) (show tables_1_7[64]? = some (zcw 207) from rfl))
set_option maxRecDepth 100000 in
theorem z_cw_208 : zcw 208 ∈ lw_tbl := z_in_7 (List.mem_of_getElem? (i := 68) (show tables_1_7[68]? = some (zcw 208) from rfl))
set_option maxRecDepth 100000 in
theorem z_cw_209 : zcw 209 ∈ lw_tbl := z_in_7 (List.mem_of_getElem? (i := 72) (show tables_1_7[72]? = some (zcw 209) from rfl))
set_option maxRecDepth 100000 in
theorem z_cw_210 : zcw 210 ∈ lw_tbl := z_in_7 (List.mem_of_getElem? (i := 76) (show tables_1_7[76]? = some (zcw 210) from rfl))
set_option maxRecDepth 100000 in
theorem z_cw_211 : zcw 211 ∈ lw_tbl := z_in_7 (List.mem_of_getElem? (i := 81) (show tables_1_7[81]? = some (zcw 211) from rfl))
set_option maxRecDepth 100000 in
theorem z_cw_212 : zcw 212 ∈ lw_tbl := z_in_7 (List.mem_of_getElem? (i := 85) (show tables_1_7[85]? = some (zcw 212) from rfl))
set_option maxRecDepth 100000 in
theorem z_cw_213 : zcw 213 ∈ lw_tbl := z_in_7 (List.mem_of_getElem? (i := 89) (show tables_1_7[89]? = some (zcw 213) from rfl))
set_option maxRecDepth 100000 in
theorem z_cw_214 : zcw 214 ∈ lw_tbl := z_in_7 (List.mem_of_getElem? (i := 93) (show tables_1_7[93]? = some (zcw 214) from rfl))
set_option maxRecDepth 100000 in
theorem z_cw_215 : zcw 215 ∈ lw_tbl := z_in_7 (List.mem_of_getElem? (i := 97) (show tables_1_7[97]? = some (zcw 215) from rfl))
set_option maxRecDepth 100000 in
theorem z_cw_216 : zcw 216 ∈ lw_tbl := z_in_7 (List.mem_of_getElem? (i := 101) (show tables_1_7[101]? = some (zcw 216) from rfl))
set_option maxRecDepth 100000 in
theorem z_cw_217 : zcw 217 ∈ lw_tbl := z_in_7 (List.mem_of_getElem? (i := 105) (show tables_1_7[105]? = some (zcw 217) from rfl))
set_option maxRecDepth 100000 in
theorem z_cw_218 : zcw 218 ∈ lw_tbl := z_in_7 (List.mem_of_getElem? (i := 109) (show tables_1_7[109]? = some (zcw 218) from rfl))
set_option maxRecDepth 100000 in
theorem z_cw_219 : zcw 219 ∈ lw_tbl := z_in_7 (List.mem_of_getElem? (i := 113) (show tables_1_7[113]? = some (zcw 219) from rfl))
set_option maxRecDepth 100000 in
theorem z_cw_220 : zcw 220 ∈ lw_tbl := z_in_7 (List.mem_of_getElem? (i := 117) (show tables_1_7[117]? = some (zcw 220) from rfl))
set_option maxRecDepth 100000 in
theorem z_cw_221 : zcw 221 ∈ lw_tbl := z_in_7 (List.mem_of_getElem? (i := 121) (show tables_1_7[121]? = some (zcw 221) from rfl))
set_option maxRecDepth 100000 in
theorem z_cw_222 : zcw 222 ∈ lw_tbl := z_in_7 (List.mem_of_getElem? (i := 125) (show tables_1_7[125]? = some (zcw 222) from rfl))
set_option maxRecDepth 100000 in
theorem z_cw_223 : zcw 223 ∈ lw_tbl := z_in_7 (List.mem_of_getElem? (i := 129) (show tables_1_7[129]? = some (zcw 223) from rfl))
set_option maxRecDepth 100000 in
theorem z_cw_224 : zcw 224 ∈ lw_tbl := z_in_7 (List.mem_of_getElem? (i := 133) (show tables_1_7[133]? = some (zcw 224) from rfl))
set_option maxRecDepth 100000 in
theorem z_cw_225 : zcw 225 ∈ lw_tbl := z_in_7 (List.mem_of_getElem? (i := 137) (show tables_1_7[137]? = some (zcw 225) from rfl))
set_option maxRecDepth 100000 in
theorem z_cw_226 : zcw 226 ∈ lw_tbl := z_in_7 (List.mem_of_getElem? (i := 141) (show tables_1_7[141]? = some (zcw 226) from rfl))
set_option maxRecDepth 100000 in
theorem z_cw_227 : zcw 227 ∈ lw_tbl := z_in_7 (List.mem_of_getElem? (i := 145) (show tables_1_7[145]? = some (zcw 227) from rfl))
set_option maxRecDepth 100000 in
theorem z_cw_228 : zcw 228 ∈ lw_tbl := z_in_7 (List.mem_of_getElem? (i := 149) (show tables_1_7[149]? = some (zcw 228) from rfl))
set_option maxRecDepth 100000 in
theorem z_cw_229 : zcw 229 ∈ lw_tbl := z_in_7 (List.mem_of_getElem? (i := 153) (show tables_1_7[153]? = some (zcw 229) from rfl))
set_option maxRecDepth 100000 in
theorem z_cw_230 : zcw 230 ∈ lw_tbl := z_in_7 (List.mem_of_getElem? (i := 157) (show tables_1_7[157]? = some (zcw 230) from rfl))
set_option maxRecDepth 100000 in
theorem z_cw_231 : zcw 231 ∈ lw_tbl := z_in_7 (List.mem_of_getElem? (i := 161) (show tables_1_7[161]? = some (zcw 231) from rfl))
set_option maxRecDepth 100000 in
theorem z_cw_all : ∀ j ∈ ([1, 2, 3, 4, 5, 6, 7, 8, 9, 10, 11, 12, 13, 14, 15, 16, 17, 18, 19, 20, 21, 22, 23, 24, 25, 26, 27, 28, 29, 30, 31, 32, 33, 34, 35, 36, 37, 38, 39, 40, 41, 42, 43, 44, 45, 46, 47, 48, 49, 50, 51, 52, 53, 54, 55, 56, 57, 58, 59, 60, 61, 62, 63, 64, 65, 66, 67, 68, 69, 70, 71, 72, 73, 74, 75, 76, 77, 78, 79, 80, 81, 82, 83, 84, 85, 86, 87, 88, 89, 90, 91, 92, 93, 94, 95, 96, 97, 98, 99, 100, 101, 102, 103, 104, 105, 106, 107, 108, 109, 110, 111, 112, 113, 114, 115, 116, 117, 118, 119, 120, 121, 122, 123, 124, 125, 126, 127, 128, 129, 130, 131, 132, 133, 134, 135, 136, 137, 138, 139, 140, 141, 142, 143, 144, 145, 146, 147, 148, 149, 150, 151, 152, 153, 154, 155, 156, 157, 158, 159, 160, 161, 162, 163, 164, 165, 166, 167, 168, 169, 170, 171, 172, 173, 174, 175, 176, 177, 178, 179, 180, 181, 182, 183, 184, 185, 186, 187, 188, 189, 190, 191, 192, 193, 194, 195, 196, 197, 198, 199, 200, 201, 202, 203, 204, 205, 206, 207, 208, 209, 210, 211, 212, 213, 214, 215, 216, 217, 218, 219, 220, 221, 222, 223, 224, 225, 226, 227, 228, 229, 230, 231] : List Nat), zcw j ∈ lw_tbl := List.forall_mem_cons.mpr ⟨z_cw_1, List.forall_mem_cons.mpr ⟨z_cw_2, List.forall_mem_cons.mpr ⟨z_cw_3, List.forall_mem_cons.mpr ⟨z_cw_4, List.forall_mem_cons.mpr ⟨z_cw_5, List.forall_mem_cons.mpr ⟨z_cw_6, List.forall_mem_cons.mpr ⟨z_cw_7, List.forall_mem_cons.mpr ⟨z_cw_8, List.forall_mem_cons.mpr ⟨z_cw_9, List.forall_mem_cons.mpr ⟨z_cw_10, List.forall_mem_cons.mpr ⟨z_cw_11, List.forall_mem_cons.mpr ⟨z_cw_12, List.forall_mem_cons.mpr ⟨z_cw_13, List.forall_mem_cons.mpr ⟨z_cw_14, List.forall_mem_cons.mpr ⟨z_cw_15, List.forall_mem_cons.mpr ⟨z_cw_16, List.forall_mem_cons.mpr ⟨z_cw_17, List.forall_mem_cons.mpr ⟨z_cw_18, List.forall_mem_cons.mpr ⟨z_cw_19, List.forall_mem_cons.mpr ⟨z_cw_20, List.forall_mem_cons.mpr ⟨z_cw_21, List.forall_mem_cons.mpr ⟨z_cw_22, List.forall_mem_cons.mpr ⟨z_cw_23, List.forall_mem_cons.mpr ⟨z_cw_24, List.forall_mem_cons.mpr ⟨z_cw_25, List.forall_mem_cons.mpr ⟨z_cw_26, List.forall_mem_cons.mpr ⟨z_cw_27, List.forall_mem_cons.mpr ⟨z_cw_28, List.forall_mem_cons.mpr ⟨z_cw_29, List.forall_mem_cons.mpr ⟨z_cw_30, List.forall_mem_cons.mpr ⟨z_cw_31, List.forall_mem_cons.mpr ⟨z_cw_32, List.forall_mem_cons.mpr ⟨z_cw_33, List.forall_mem_cons.mpr ⟨z_cw_34, List.forall_mem_cons.mpr ⟨z_cw_35, List.forall_mem_cons.mpr ⟨z_cw_36, List.forall_mem_cons.mpr ⟨z_cw_37, List.forall_mem_cons.mpr ⟨z_cw_38, List.forall_mem_cons.mpr ⟨z_cw_39, List.forall_mem_cons.mpr ⟨z_cw_40, List.forall_mem_cons.mpr ⟨z_cw_41, List.forall_mem_cons.mpr ⟨z_cw_42, List.forall_mem_cons.mpr ⟨z_cw_43, List.forall_mem_cons.mpr ⟨z_cw_44, List.forall_mem_cons.mpr ⟨z_cw_45, List.forall_mem_cons.mpr ⟨z_cw_46, List.forall_mem_cons.mpr ⟨z_cw_47, List.forall_mem_cons.mpr ⟨z_cw_48, List.forall_mem_cons.mpr ⟨z_cw_49, List.forall_mem_cons.mpr ⟨z_cw_50, List.forall_mem_cons.mpr ⟨z_cw_51, List.forall_mem_cons.mpr ⟨z_cw_52, List.forall_mem_cons.mpr ⟨z_cw_53, List.forall_mem_cons.mpr ⟨z_cw_54, List.forall_mem_cons.mpr ⟨z_cw_55, List.forall_mem_cons.mpr ⟨z_cw_56, List.forall_mem_cons.mpr ⟨z_cw_57, List.forall_mem_cons.mpr ⟨z_cw_58, List.forall_mem_cons.mpr ⟨z_cw_59, List.forall_mem_cons.mpr ⟨z_cw_60, List.forall_mem_cons.mpr ⟨z_cw_61, List.forall_mem_cons.mpr ⟨z_cw_62, List.forall_mem_cons.mpr ⟨z_cw_63, List.forall_mem_cons.mpr ⟨z_cw_64, List.forall_mem_cons.mpr ⟨z_cw_65, List.forall_mem_cons.mpr ⟨z_cw_66, List.forall_mem_cons.mpr ⟨z_cw_67, List.forall_mem_cons.mpr ⟨z_cw_68, List.forall_mem_cons.mpr ⟨z_cw_69, List.forall_mem_cons.mpr ⟨z_cw_70, List.forall_mem_cons.mpr ⟨z_cw_71, List.forall_mem_cons.mpr ⟨z_cw_72, List.forall_mem_cons.mpr ⟨z_cw_73, List.forall_mem_cons.mpr ⟨z_cw_74, List.forall_mem_cons.mpr ⟨z_cw_75, List.forall_mem_cons.mpr ⟨z_cw_76, List.forall_mem_cons.mpr ⟨z_cw_77, List.forall_mem_cons.mpr ⟨z_cw_78, List.forall_mem_cons.mpr ⟨z_cw_79, List.forall_mem_cons.mpr ⟨z_cw_80, List.forall_mem_cons.mpr ⟨z_cw_81, List.forall_mem_cons.mpr ⟨z_cw_82, List.forall_mem_cons.mpr ⟨z_cw_83, List.forall_mem_cons.mpr ⟨z_cw_84, List.forall_mem_cons.mpr ⟨z_cw_85, List.forall_mem_cons.mpr ⟨z_cw_86, List.forall_mem_cons.mpr ⟨z_cw_87, List.forall_mem_cons.mpr ⟨z_cw_88, List.forall_mem_cons.mpr ⟨z_cw_89, List.forall_mem_cons.mpr ⟨z_cw_90, List.forall_mem_cons.mpr ⟨z_cw_91, List.forall_mem_cons.mpr ⟨z_cw_92, List.forall_mem_cons.mpr ⟨z_cw_93, List.forall_mem_cons.mpr ⟨z_cw_94, List.forall_mem_cons.mpr ⟨z_cw_95, List.forall_mem_cons.mpr ⟨z_cw_96, List.forall_mem_cons.mpr ⟨z_cw_97, List.forall_mem_cons.mpr ⟨z_cw_98, List.forall_mem_cons.mpr ⟨z_cw_99, List.forall_mem_cons.mpr ⟨z_cw_100, List.forall_mem_cons.mpr ⟨z_cw_101, List.forall_mem_cons.mpr ⟨z_cw_102, List.forall_mem_cons.mpr ⟨z_cw_103, List.forall_mem_cons.mpr ⟨z_cw_104, List.forall_mem_cons.mpr ⟨z_cw_105, List.forall_mem_cons.mpr ⟨z_cw_106, List.forall_mem_cons.mpr ⟨z_cw_107, List.forall_mem_cons.mpr ⟨z_cw_108, List.forall_mem_cons.mpr ⟨z_cw_109, List.forall_mem_cons.mpr ⟨z_cw_110, List.forall_mem_cons.mpr ⟨z_cw_111, List.forall_mem_cons.mpr ⟨z_cw_112, List.forall_mem_cons.mpr ⟨z_cw_113, List.forall_mem_cons.mpr ⟨z_cw_114, List.forall_mem_cons.mpr ⟨z_cw_115, List.forall_mem_cons.mpr ⟨z_cw_116, List.forall_mem_cons.mpr ⟨z_cw_117, List.forall_mem_cons.mpr ⟨z_cw_118, List.forall_mem_cons.mpr ⟨z_cw_119, List.forall_mem_cons.mpr ⟨z_cw_120, List.forall_mem_cons.mpr ⟨z_cw_121, List.forall_mem_cons.mpr ⟨z_cw_122, List.forall_mem_cons.mpr ⟨z_cw_123, List.forall_mem_cons.mpr ⟨z_cw_124, List.forall_mem_cons.mpr ⟨z_cw_125, List.forall_mem_cons.mpr ⟨z_cw_126, List.forall_mem_cons.mpr ⟨z_cw_127, List.forall_mem_cons.mpr ⟨z_cw_128, List.forall_mem_cons.mpr ⟨z_cw_129, List.forall_mem_cons.mpr ⟨z_cw_130, List.forall_mem_cons.mpr ⟨z_cw_131, List.forall_mem_cons.mpr ⟨z_cw_132, List.forall_mem_cons.mpr ⟨z_cw_133, List.forall_mem_cons.mpr ⟨z_cw_134, List.forall_mem_cons.mpr ⟨z_cw_135, List.forall_mem_cons.mpr ⟨z_cw_136, List.forall_mem_cons.mpr ⟨z_cw_137, List.forall_mem_cons.mpr ⟨z_cw_138, List.forall_mem_cons.mpr ⟨z_cw_139, List.forall_mem_cons.mpr ⟨z_cw_140, List.forall_mem_cons.mpr ⟨z_cw_141, List.forall_mem_cons.mpr ⟨z_cw_142, List.forall_mem_cons.mpr ⟨z_cw_143, List.forall_mem_cons.mpr ⟨z_cw_144, List.forall_mem_cons.mpr ⟨z_cw_145, List.forall_mem_cons.mpr ⟨z_cw_146, List.forall_mem_cons.mpr ⟨z_cw_147, List.forall_mem_cons.mpr ⟨z_cw_148, List.forall_mem_cons.mpr ⟨z_cw_149, List.forall_mem_cons.mpr ⟨z_cw_150, List.forall_mem_cons.mpr ⟨z_cw_151, List.forall_mem_cons.mpr ⟨z_cw_152, List.forall_mem_cons.mpr ⟨z_cw_153, List.forall_mem_cons.mpr ⟨z_cw_154, List.forall_mem_cons.mpr ⟨z_cw_155, List.forall_mem_cons.mpr ⟨z_cw_156, List.forall_mem_cons.mpr ⟨z_cw_157, List.forall_mem_cons.mpr ⟨z_cw_158, List.forall_mem_cons.mpr ⟨z_cw_159, List.forall_mem_cons.mpr ⟨z_cw_160, List.forall_mem_cons.mpr ⟨z_cw_161, List.forall_mem_cons.mpr ⟨z_cw_162, List.forall_mem_cons.mpr ⟨z_cw_163, List.forall_mem_cons.mpr ⟨z_cw_164, List.forall_mem_cons.mpr ⟨z_cw_165, List.forall_mem_cons.mpr ⟨z_cw_166, List.forall_mem_cons.mpr ⟨z_cw_167, List.forall_mem_cons.mpr ⟨z_cw_168, List.forall_mem_cons.mpr ⟨z_cw_169, List.forall_mem_cons.mpr ⟨z_cw_170, List.forall_mem_cons.mpr ⟨z_cw_171, List.forall_mem_cons.mpr ⟨z_cw_172, List.forall_mem_cons.mpr ⟨z_cw_173, List.forall_mem_cons.mpr ⟨z_cw_174, List.forall_mem_cons.mpr ⟨z_cw_175, List.forall_mem_cons.mpr ⟨z_cw_176, List.forall_mem_cons.mpr ⟨z_cw_177, List.forall_mem_cons.mpr ⟨z_cw_178, List.forall_mem_cons.mpr ⟨z_cw_179, List.forall_mem_cons.mpr ⟨z_cw_180, List.forall_mem_cons.mpr ⟨z_cw_181, List.forall_mem_cons.mpr ⟨z_cw_182, List.forall_mem_cons.mpr ⟨z_cw_183, List.forall_mem_cons.mpr ⟨z_cw_184, List.forall_mem_cons.mpr ⟨z_cw_185, List.forall_mem_cons.mpr ⟨z_cw_186, List.forall_mem_cons.mpr ⟨z_cw_187, List.forall_mem_cons.mpr ⟨z_cw_188, List.forall_mem_cons.mpr ⟨z_cw_189, List.forall_mem_cons.mpr ⟨z_cw_190, List.forall_mem_cons.mpr ⟨z_cw_191, List.forall_mem_cons.mpr ⟨z_cw_192, List.forall_mem_cons.mpr ⟨z_cw_193, List.forall_mem_cons.mpr ⟨z_cw_194, List.forall_mem_cons.mpr ⟨z_cw_195, List.forall_mem_cons.mpr ⟨z_cw_196, List.forall_mem_cons.mpr ⟨z_cw_197, List.forall_mem_cons.mpr ⟨z_cw_198, List.forall_mem_cons.mpr ⟨z_cw_199, List.forall_mem_cons.mpr ⟨z_cw_200, List.forall_mem_cons.mpr ⟨z_cw_201, List.forall_mem_cons.mpr ⟨z_cw_202, List.forall_mem_cons.mpr ⟨z_cw_203, List.forall_mem_cons.mpr ⟨z_cw_204, List.forall_mem_cons.mpr ⟨z_cw_205, List.forall_mem_cons.mpr ⟨z_cw_206, List.forall_mem_cons.mpr ⟨z_cw_207, List.forall_mem_cons.mpr ⟨z_cw_208, List.forall_mem_cons.mpr ⟨z_cw_209, List.forall_mem_cons.mpr ⟨z_cw_210, List.forall_mem_cons.mpr ⟨z_cw_211, List.forall_mem_cons.mpr ⟨z_cw_212, List.forall_mem_cons.mpr ⟨z_cw_213, List.forall_mem_cons.mpr ⟨z_cw_214, List.forall_mem_cons.mpr ⟨z_cw_215, List.forall_mem_cons.mpr ⟨z_cw_216, List.forall_mem_cons.mpr ⟨z_cw_217, List.forall_mem_cons.mpr ⟨z_cw_218, List.forall_mem_cons.mpr ⟨z_cw_219, List.forall_mem_cons.mpr ⟨z_cw_220, List.forall_mem_cons.mpr ⟨z_cw_221, List.forall_mem_cons.mpr ⟨z_cw_222, List.forall_mem_cons.mpr ⟨z_cw_223, List.forall_mem_cons.mpr ⟨z_cw_224, List.forall_mem_cons.mpr ⟨z_cw_225, List.forall_mem_cons.mpr ⟨z_cw_226, List.forall_mem_cons.mpr ⟨z_cw_227, List.forall_mem_cons.mpr ⟨z_cw_228, List.forall_mem_cons.mpr ⟨z_cw_229, List.forall_mem_cons.mpr ⟨z_cw_230, List.forall_mem_cons.mpr ⟨z_cw_231, fun _ h => absurd h List.not_mem_nil⟩⟩⟩⟩⟩⟩⟩⟩⟩⟩⟩⟩⟩⟩⟩⟩⟩⟩⟩⟩⟩⟩⟩⟩⟩⟩⟩⟩⟩⟩⟩⟩⟩⟩⟩⟩⟩⟩⟩⟩⟩⟩⟩⟩⟩⟩⟩⟩⟩⟩⟩⟩⟩⟩⟩⟩⟩⟩⟩⟩⟩⟩⟩⟩⟩⟩⟩⟩⟩⟩⟩⟩⟩⟩⟩⟩⟩⟩⟩⟩⟩⟩⟩⟩⟩⟩⟩⟩⟩⟩⟩⟩⟩⟩⟩⟩⟩⟩⟩⟩⟩⟩⟩⟩⟩⟩⟩⟩⟩⟩⟩⟩⟩⟩⟩⟩⟩⟩⟩⟩⟩⟩⟩⟩⟩⟩⟩⟩⟩⟩⟩⟩⟩⟩⟩⟩⟩⟩⟩⟩⟩⟩⟩⟩⟩⟩⟩⟩⟩⟩⟩⟩⟩⟩⟩⟩⟩⟩⟩⟩⟩⟩⟩⟩⟩⟩⟩⟩⟩⟩⟩⟩⟩⟩⟩⟩⟩⟩⟩⟩⟩⟩⟩⟩⟩⟩⟩⟩⟩⟩⟩⟩⟩⟩⟩⟩⟩⟩⟩⟩⟩⟩⟩⟩⟩⟩⟩⟩⟩⟩⟩⟩⟩⟩⟩⟩⟩⟩⟩⟩⟩⟩⟩⟩⟩⟩⟩⟩⟩⟩⟩
set_option maxRecDepth 100000 in
theorem z_cw {j : Nat} (h0 : 0 < j) (h : j < 232) : zcw j ∈ lw_tbl := by
  refine z_cw_all j ?_
  have h9 : ([1, 2, 3, 4, 5, 6, 7, 8, 9, 10, 11, 12, 13, 14, 15, 16, 17, 18, 19, 20, 21, 22, 23, 24, 25, 26, 27, 28, 29, 30, 31, 32, 33, 34, 35, 36, 37, 38, 39, 40, 41, 42, 43, 44, 45, 46, 47, 48, 49, 50, 51, 52, 53, 54, 55, 56, 57, 58, 59, 60, 61, 62, 63, 64, 65, 66, 67, 68, 69, 70, 71, 72, 73, 74, 75, 76, 77, 78, 79, 80, 81, 82, 83, 84, 85, 86, 87, 88, 89, 90, 91, 92, 93, 94, 95, 96, 97, 98, 99, 100, 101, 102, 103, 104, 105, 106, 107, 108, 109, 110, 111, 112, 113, 114, 115, 116, 117, 118, 119, 120, 121, 122, 123, 124, 125, 126, 127, 128, 129, 130, 131, 132, 133, 134, 135, 136, 137, 138, 139, 140, 141, 142, 143, 144, 145, 146, 147, 148, 149, 150, 151, 152, 153, 154, 155, 156, 157, 158, 159, 160, 161, 162, 163, 164, 165, 166, 167, 168, 169, 170, 171, 172, 173, 174, 175, 176, 177, 178, 179, 180, 181, 182, 183, 184, 185, 186, 187, 188, 189, 190, 191, 192, 193, 194, 195, 196, 197, 198, 199, 200, 201, 202, 203, 204, 205, 206, 207, 208, 209, 210, 211, 212, 213, 214, 215, 216, 217, 218, 219, 220, 221, 222, 223, 224, 225, 226, 227, 228, 229, 230, 231] : List Nat) = List.range' 1 231 := by decide +kernel
  rw [h9, List.mem_range']
  exact ⟨j - 1, by omega, by omega⟩
/-- the number of Math.max, which the machine itself does -/
def zMx : Nat := 30
