theorem lkX11_187 : Cond.methodLink RX11 187 yJ9_abs_067f4 ∈ mTs := mTs_in 878 (by decide +kernel) (by decide +kernel)
theorem lkX11_183 : Cond.methodLink RX11 183 yX11_formOf ∈ mTs := mTs_in 871 (by decide +kernel) (by decide +kernel)
theorem myX11_formOf : mYV yX11_formOf cX11_formOf 2 (some .long) 1 := ⟨⟨mTs_in 874 (by decide +kernel) (by decide +kernel), mTs_in 116 (by decide +kernel) (by decide +kernel), ⟨by decide, by decide⟩, by decide +kernel⟩, mTs_in 873 (by decide +kernel) (by decide +kernel), mTs_in 32 (by decide +kernel) (by decide +kernel)⟩
theorem lkX11_63 : Cond.fieldLink RX11 63 (TX11 9).1 (TX11 9).2.1 (TX11 9).2.2.1 ∈ mTs := mTs_in 398 (by decide +kernel) (by decide +kernel)
theorem fdX11_9 : mFld 10 9 2 12 RX11 TX11 := ⟨rfl, inX11, by decide, rfl, by decide⟩
theorem lkX11_224 : Cond.methodLink RX11 224 yX9_solve ∈ mTs := mTs_in 887 (by decide +kernel) (by decide +kernel)
theorem myX9_solve : mYV yX9_solve cX9_solve 7 (some .boolean) 2 := ⟨⟨mTs_in 890 (by decide +kernel) (by decide +kernel), mTs_in 124 (by decide +kernel) (by decide +kernel), ⟨by decide, by decide⟩, by decide +kernel⟩, mTs_in 888 (by decide +kernel) (by decide +kernel), mTs_in 889 (by decide +kernel) (by decide +kernel)⟩
theorem lkX11_211 : Cond.methodLink RX11 211 yX11_isSplit ∈ mTs := mTs_in 883 (by decide +kernel) (by decide +kernel)
theorem myX11_isSplit : mYV yX11_isSplit cX11_isSplit 2 (some .boolean) 1 := ⟨⟨mTs_in 886 (by decide +kernel) (by decide +kernel), mTs_in 116 (by decide +kernel) (by decide +kernel), ⟨by decide, by decide⟩, by decide +kernel⟩, mTs_in 885 (by decide +kernel) (by decide +kernel), mTs_in 33 (by decide +kernel) (by decide +kernel)⟩
theorem lkX11_214 : Cond.methodLink RX11 214 yX9_part ∈ mTs := mTs_in 896 (by decide +kernel) (by decide +kernel)
theorem myX9_part : mYV yX9_part cX9_part 2 (some .int) 1 := ⟨⟨mTs_in 899 (by decide +kernel) (by decide +kernel), mTs_in 124 (by decide +kernel) (by decide +kernel), ⟨by decide, by decide⟩, by decide +kernel⟩, mTs_in 897 (by decide +kernel) (by decide +kernel), mTs_in 898 (by decide +kernel) (by decide +kernel)⟩
theorem lkX11_228 : Cond.methodLink RX11 228 yX6_discriminant ∈ mTs := mTs_in 904 (by decide +kernel) (by decide +kernel)
theorem lkX11_231 : Cond.methodLink RX11 231 yX7_product ∈ mTs := mTs_in 927 (by decide +kernel) (by decide +kernel)
theorem myX7_product : mYV yX7_product cX7_product 5 (some .long) 1 := ⟨⟨mTs_in 930 (by decide +kernel) (by decide +kernel), mTs_in 120 (by decide +kernel) (by decide +kernel), ⟨by decide, by decide⟩, by decide +kernel⟩, mTs_in 928 (by decide +kernel) (by decide +kernel), mTs_in 929 (by decide +kernel) (by decide +kernel)⟩
theorem lkX11_247 : Cond.methodLink RX11 247 yX5_howOften ∈ mTs := mTs_in 939 (by decide +kernel) (by decide +kernel)
theorem lkX11_240 : Cond.methodLink RX11 240 yX11_canGrow ∈ mTs := mTs_in 935 (by decide +kernel) (by decide +kernel)
theorem myX11_canGrow : mYV yX11_canGrow cX11_canGrow 5 (some .boolean) 2 := ⟨⟨mTs_in 938 (by decide +kernel) (by decide +kernel), mTs_in 116 (by decide +kernel) (by decide +kernel), ⟨by decide, by decide⟩, by decide +kernel⟩, mTs_in 937 (by decide +kernel) (by decide +kernel), mTs_in 34 (by decide +kernel) (by decide +kernel)⟩
theorem lkX11_56 : Cond.fieldLink RX11 56 (TX11 8).1 (TX11 8).2.1 (TX11 8).2.2.1 ∈ mTs := mTs_in 397 (by decide +kernel) (by decide +kernel)
theorem fdX11_8 : mFld 10 8 2 12 RX11 TX11 := ⟨rfl, inX11, by decide, rfl, by decide⟩
theorem lkX11_243 : Cond.methodLink RX11 243 yX2_grow ∈ mTs := mTs_in 940 (by decide +kernel) (by decide +kernel)
theorem myX2_grow : mYV yX2_grow cX2_grow 7 (some .long) 2 := ⟨⟨mTs_in 943 (by decide +kernel) (by decide +kernel), mTs_in 121 (by decide +kernel) (by decide +kernel), ⟨by decide, by decide⟩, by decide +kernel⟩, mTs_in 941 (by decide +kernel) (by decide +kernel), mTs_in 942 (by decide +kernel) (by decide +kernel)⟩
theorem lkX11_258 : Cond.methodLink RX11 258 yX6_express ∈ mTs := mTs_in 1031 (by decide +kernel) (by decide +kernel)
theorem lkX11_255 : Cond.methodLink RX11 255 yX11_isInOrder ∈ mTs := mTs_in 1027 (by decide +kernel) (by decide +kernel)
theorem myX11_isInOrder : mYV yX11_isInOrder cX11_isInOrder 2 (some .boolean) 1 := ⟨⟨mTs_in 1030 (by decide +kernel) (by decide +kernel), mTs_in 116 (by decide +kernel) (by decide +kernel), ⟨by decide, by decide⟩, by decide +kernel⟩, mTs_in 1029 (by decide +kernel) (by decide +kernel), mTs_in 41 (by decide +kernel) (by decide +kernel)⟩
theorem lkX11_282 : Cond.methodLink RX11 282 yX1_isWithin ∈ mTs := mTs_in 1057 (by decide +kernel) (by decide +kernel)
theorem myX1_isWithin : mYV yX1_isWithin cX1_isWithin 4 (some .boolean) 1 := ⟨⟨mTs_in 1060 (by decide +kernel) (by decide +kernel), mTs_in 126 (by decide +kernel) (by decide +kernel), ⟨by decide, by decide⟩, by decide +kernel⟩, mTs_in 1058 (by decide +kernel) (by decide +kernel), mTs_in 1059 (by decide +kernel) (by decide +kernel)⟩
theorem lkX11_272 : Cond.methodLink RX11 272 yX11_isIdealPair ∈ mTs := mTs_in 1053 (by decide +kernel) (by decide +kernel)
theorem myX11_isIdealPair : mYV yX11_isIdealPair cX11_isIdealPair 3 (some .boolean) 2 := ⟨⟨mTs_in 1056 (by decide +kernel) (by decide +kernel), mTs_in 116 (by decide +kernel) (by decide +kernel), ⟨by decide, by decide⟩, by decide +kernel⟩, mTs_in 1055 (by decide +kernel) (by decide +kernel), mTs_in 44 (by decide +kernel) (by decide +kernel)⟩
theorem lkX11_70 : Cond.fieldLink RX11 70 (TX11 10).1 (TX11 10).2.1 (TX11 10).2.2.1 ∈ mTs := mTs_in 399 (by decide +kernel) (by decide +kernel)
theorem fdX11_10 : mFld 10 10 2 12 RX11 TX11 := ⟨rfl, inX11, by decide, rfl, by decide⟩
theorem lkX11_285 : Cond.methodLink RX11 285 yX4_begin ∈ mTs := mTs_in 1065 (by decide +kernel) (by decide +kernel)
theorem myX4_begin : mYV yX4_begin cX4_begin 5 none 2 := ⟨⟨mTs_in 1068 (by decide +kernel) (by decide +kernel), mTs_in 125 (by decide +kernel) (by decide +kernel), ⟨by decide, by decide⟩, by decide +kernel⟩, mTs_in 1066 (by decide +kernel) (by decide +kernel), mTs_in 1067 (by decide +kernel) (by decide +kernel)⟩
theorem lkX11_288 : Cond.methodLink RX11 288 yX4_join ∈ mTs := mTs_in 1073 (by decide +kernel) (by decide +kernel)
theorem myX4_join : mYV yX4_join cX4_join 3 none 1 := ⟨⟨mTs_in 1076 (by decide +kernel) (by decide +kernel), mTs_in 125 (by decide +kernel) (by decide +kernel), ⟨by decide, by decide⟩, by decide +kernel⟩, mTs_in 1074 (by decide +kernel) (by decide +kernel), mTs_in 1075 (by decide +kernel) (by decide +kernel)⟩
theorem lkX11_262 : Cond.methodLink RX11 262 yX11_idealFault ∈ mTs := mTs_in 1049 (by decide +kernel) (by decide +kernel)
theorem myX11_idealFault : mYV yX11_idealFault cX11_idealFault 4 (some .int) 2 := ⟨⟨mTs_in 1052 (by decide +kernel) (by decide +kernel), mTs_in 116 (by decide +kernel) (by decide +kernel), ⟨by decide, by decide⟩, by decide +kernel⟩, mTs_in 1051 (by decide +kernel) (by decide +kernel), mTs_in 43 (by decide +kernel) (by decide +kernel)⟩
theorem lkX11_265 : Cond.methodLink RX11 265 yX11_makeIdeal ∈ mTs := mTs_in 1061 (by decide +kernel) (by decide +kernel)
theorem myX11_makeIdeal : mYV yX11_makeIdeal cX11_makeIdeal 3 none 2 := ⟨⟨mTs_in 1064 (by decide +kernel) (by decide +kernel), mTs_in 116 (by decide +kernel) (by decide +kernel), ⟨by decide, by decide⟩, by decide +kernel⟩, mTs_in 1063 (by decide +kernel) (by decide +kernel), mTs_in 45 (by decide +kernel) (by decide +kernel)⟩
theorem lkX11_269 : Cond.methodLink RX11 269 yX4_lots ∈ mTs := mTs_in 1085 (by decide +kernel) (by decide +kernel)
theorem myX4_lots : mYV yX4_lots cX4_lots 1 (some .long) 0 := ⟨⟨mTs_in 1088 (by decide +kernel) (by decide +kernel), mTs_in 125 (by decide +kernel) (by decide +kernel), ⟨by decide, by decide⟩, by decide +kernel⟩, mTs_in 1086 (by decide +kernel) (by decide +kernel), mTs_in 1087 (by decide +kernel) (by decide +kernel)⟩
theorem lkX11_275 : Cond.methodLink RX11 275 yX4_contains ∈ mTs := mTs_in 1097 (by decide +kernel) (by decide +kernel)
theorem myX4_contains : mYV yX4_contains cX4_contains 2 (some .boolean) 1 := ⟨⟨mTs_in 1100 (by decide +kernel) (by decide +kernel), mTs_in 125 (by decide +kernel) (by decide +kernel), ⟨by decide, by decide⟩, by decide +kernel⟩, mTs_in 1098 (by decide +kernel) (by decide +kernel), mTs_in 1099 (by decide +kernel) (by decide +kernel)⟩
theorem lkX11_279 : Cond.methodLink RX11 279 yX4_takesRight ∈ mTs := mTs_in 1111 (by decide +kernel) (by decide +kernel)
theorem myX4_takesRight : mYV yX4_takesRight cX4_takesRight 4 (some .boolean) 1 := ⟨⟨mTs_in 1114 (by decide +kernel) (by decide +kernel), mTs_in 125 (by decide +kernel) (by decide +kernel), ⟨by decide, by decide⟩, by decide +kernel⟩, mTs_in 1112 (by decide +kernel) (by decide +kernel), mTs_in 1113 (by decide +kernel) (by decide +kernel)⟩
theorem lkX11_292 : Cond.methodLink RX11 292 yX6_countOfNorm ∈ mTs := mTs_in 1119 (by decide +kernel) (by decide +kernel)
theorem myX6_countOfNorm : mYV yX6_countOfNorm cX6_countOfNorm 12 (some .int) 1 := ⟨⟨mTs_in 1122 (by decide +kernel) (by decide +kernel), mTs_in 122 (by decide +kernel) (by decide +kernel), ⟨by decide, by decide⟩, by decide +kernel⟩, mTs_in 1120 (by decide +kernel) (by decide +kernel), mTs_in 1121 (by decide +kernel) (by decide +kernel)⟩
theorem lkX11_295 : Cond.methodLink RX11 295 yX11_keptBits ∈ mTs := mTs_in 1146 (by decide +kernel) (by decide +kernel)
theorem myX11_keptBits : mYV yX11_keptBits cX11_keptBits 3 (some .int) 0 := ⟨⟨mTs_in 1149 (by decide +kernel) (by decide +kernel), mTs_in 116 (by decide +kernel) (by decide +kernel), ⟨by decide, by decide⟩, by decide +kernel⟩, mTs_in 1148 (by decide +kernel) (by decide +kernel), mTs_in 50 (by decide +kernel) (by decide +kernel)⟩
theorem lkX12_75 : Cond.fieldLink RX12 75 (TX12 0).1 (TX12 0).2.1 (TX12 0).2.2.1 ∈ mTs := mTs_in 1292 (by decide +kernel) (by decide +kernel)
theorem inX12 : ∀ w ∈ u_ws RX12 TX12 37, w ∈ mTs := mTs_ins _ [1329, 1331, 1333, 1335, 1337, 1339, 1341, 1343, 1345, 1347, 1349, 1351, 1353, 1355, 1357, 1359, 1361, 1363, 1365, 1367, 1369, 1371, 1373, 1375, 1377, 1379, 1381, 1383, 1385, 1387, 1389, 1391, 1393, 1395, 1397, 1399, 1401] (by decide +kernel) (by decide +kernel)
theorem fdX12_0 : mFld 11 0 0 37 RX12 TX12 := ⟨rfl, inX12, by decide, rfl, by decide⟩
theorem lkX12_7 : Cond.fieldLink RX12 7 (TX12 1).1 (TX12 1).2.1 (TX12 1).2.2.1 ∈ mTs := mTs_in 1293 (by decide +kernel) (by decide +kernel)
theorem fdX12_1 : mFld 11 1 2 37 RX12 TX12 := ⟨rfl, inX12, by decide, rfl, by decide⟩
theorem lkX12_79 : Cond.fieldLink RX12 79 (TX12 2).1 (TX12 2).2.1 (TX12 2).2.2.1 ∈ mTs := mTs_in 1294 (by decide +kernel) (by decide +kernel)
theorem fdX12_2 : mFld 11 2 0 37 RX12 TX12 := ⟨rfl, inX12, by decide, rfl, by decide⟩
theorem ptX12_2 : mPut 11 2 0 37 RX12 TX12 tyX12 .int := ⟨fdX12_2, tyX12_ok, nmX12, (by decide +kernel), rfl⟩
theorem ptX12_0 : mPut 11 0 0 37 RX12 TX12 tyX12 .int := ⟨fdX12_0, tyX12_ok, nmX12, (by decide +kernel), rfl⟩
theorem lkX12_82 : Cond.methodLink RX12 82 yX12_puts ∈ mTs := mTs_in 1412 (by decide +kernel) (by decide +kernel)
theorem myX12_puts : mYV yX12_puts cX12_puts 3 none 1 := ⟨⟨mTs_in 1415 (by decide +kernel) (by decide +kernel), mTs_in 127 (by decide +kernel) (by decide +kernel), ⟨by decide, by decide⟩, by decide +kernel⟩, mTs_in 1414 (by decide +kernel) (by decide +kernel), mTs_in 53 (by decide +kernel) (by decide +kernel)⟩
theorem lkX12_86 : Cond.fieldLink RX12 86 (TX12 3).1 (TX12 3).2.1 (TX12 3).2.2.1 ∈ mTs := mTs_in 1295 (by decide +kernel) (by decide +kernel)
theorem fdX12_3 : mFld 11 3 0 37 RX12 TX12 := ⟨rfl, inX12, by decide, rfl, by decide⟩
theorem lkX12_99 : Cond.fieldLink RX12 99 (TX12 6).1 (TX12 6).2.1 (TX12 6).2.2.1 ∈ mTs := mTs_in 1298 (by decide +kernel) (by decide +kernel)
theorem fdX12_6 : mFld 11 6 0 37 RX12 TX12 := ⟨rfl, inX12, by decide, rfl, by decide⟩
theorem ptX12_6 : mPut 11 6 0 37 RX12 TX12 tyX12 .int := ⟨fdX12_6, tyX12_ok, nmX12, (by decide +kernel), rfl⟩
theorem lkX12_89 : Cond.fieldLink RX12 89 (TX12 5).1 (TX12 5).2.1 (TX12 5).2.2.1 ∈ mTs := mTs_in 1297 (by decide +kernel) (by decide +kernel)
theorem fdX12_5 : mFld 11 5 0 37 RX12 TX12 := ⟨rfl, inX12, by decide, rfl, by decide⟩
theorem lkX12_95 : Cond.methodLink RX12 95 yX12_see ∈ mTs := mTs_in 1427 (by decide +kernel) (by decide +kernel)
theorem myX12_see : mYV yX12_see cX12_see 2 (some .int) 1 := ⟨⟨mTs_in 1430 (by decide +kernel) (by decide +kernel), mTs_in 127 (by decide +kernel) (by decide +kernel), ⟨by decide, by decide⟩, by decide +kernel⟩, mTs_in 1429 (by decide +kernel) (by decide +kernel), mTs_in 55 (by decide +kernel) (by decide +kernel)⟩
theorem lkX12_119 : Cond.constantLong RX12 119 (48) ∈ mTs := mTs_in 1434 (by decide +kernel) (by decide +kernel)
theorem lkX12_121 : Cond.constantLong RX12 121 (57) ∈ mTs := mTs_in 1435 (by decide +kernel) (by decide +kernel)
theorem lkX12_113 : Cond.methodLink RX12 113 yX12_within ∈ mTs := mTs_in 1420 (by decide +kernel) (by decide +kernel)
theorem myX12_within : mYS yX12_within cX12_within 6 (some .boolean) 3 := ⟨⟨mTs_in 1422 (by decide +kernel) (by decide +kernel), mTs_in 127 (by decide +kernel) (by decide +kernel), ⟨by decide, by decide⟩, by decide +kernel⟩, mTs_in 1421 (by decide +kernel) (by decide +kernel)⟩
theorem lkX12_102 : Cond.fieldLink RX12 102 (TX12 7).1 (TX12 7).2.1 (TX12 7).2.2.1 ∈ mTs := mTs_in 1299 (by decide +kernel) (by decide +kernel)
theorem fdX12_7 : mFld 11 7 0 37 RX12 TX12 := ⟨rfl, inX12, by decide, rfl, by decide⟩
theorem lkX12_123 : Cond.constant RX12 123 (100000) ∈ mTs := mTs_in 1436 (by decide +kernel) (by decide +kernel)
theorem ptX12_7 : mPut 11 7 0 37 RX12 TX12 tyX12 .int := ⟨fdX12_7, tyX12_ok, nmX12, (by decide +kernel), rfl⟩
theorem ptX12_5 : mPut 11 5 0 37 RX12 TX12 tyX12 .int := ⟨fdX12_5, tyX12_ok, nmX12, (by decide +kernel), rfl⟩
theorem lkX12_92 : Cond.fieldLink RX12 92 (TX12 4).1 (TX12 4).2.1 (TX12 4).2.2.1 ∈ mTs := mTs_in 1296 (by decide +kernel) (by decide +kernel)
theorem fdX12_4 : mFld 11 4 0 37 RX12 TX12 := ⟨rfl, inX12, by decide, rfl, by decide⟩
theorem lkX12_109 : Cond.constantLong RX12 109 (97) ∈ mTs := mTs_in 1431 (by decide +kernel) (by decide +kernel)
theorem lkX12_111 : Cond.constantLong RX12 111 (122) ∈ mTs := mTs_in 1432 (by decide +kernel) (by decide +kernel)
theorem lkX12_105 : Cond.fieldLink RX12 105 (TX12 8).1 (TX12 8).2.1 (TX12 8).2.2.1 ∈ mTs := mTs_in 1300 (by decide +kernel) (by decide +kernel)
theorem fdX12_8 : mFld 11 8 1 37 RX12 TX12 := ⟨rfl, inX12, by decide, rfl, by decide⟩
theorem ptX12_8 : mPut 11 8 1 37 RX12 TX12 tyX12 .long := ⟨fdX12_8, tyX12_ok, nmX12, (by decide +kernel), rfl⟩
theorem lkX12_117 : Cond.constantLong RX12 117 (96) ∈ mTs := mTs_in 1433 (by decide +kernel) (by decide +kernel)
theorem ptX12_4 : mPut 11 4 0 37 RX12 TX12 tyX12 .int := ⟨fdX12_4, tyX12_ok, nmX12, (by decide +kernel), rfl⟩
theorem lkX12_124 : Cond.fieldLink RX12 124 (TX12 9).1 (TX12 9).2.1 (TX12 9).2.2.1 ∈ mTs := mTs_in 1301 (by decide +kernel) (by decide +kernel)
theorem fdX12_9 : mFld 11 9 0 37 RX12 TX12 := ⟨rfl, inX12, by decide, rfl, by decide⟩
theorem ptX12_9 : mPut 11 9 0 37 RX12 TX12 tyX12 .int := ⟨fdX12_9, tyX12_ok, nmX12, (by decide +kernel), rfl⟩
theorem lkX12_127 : Cond.fieldLink RX12 127 (TX12 10).1 (TX12 10).2.1 (TX12 10).2.2.1 ∈ mTs := mTs_in 1302 (by decide +kernel) (by decide +kernel)
theorem fdX12_10 : mFld 11 10 0 37 RX12 TX12 := ⟨rfl, inX12, by decide, rfl, by decide⟩
theorem ptX12_10 : mPut 11 10 0 37 RX12 TX12 tyX12 .int := ⟨fdX12_10, tyX12_ok, nmX12, (by decide +kernel), rfl⟩
theorem lkX12_130 : Cond.methodLink RX12 130 yX12_mustAt ∈ mTs := mTs_in 1457 (by decide +kernel) (by decide +kernel)
theorem myX12_mustAt : mYV yX12_mustAt cX12_mustAt 4 (some .boolean) 3 := ⟨⟨mTs_in 1460 (by decide +kernel) (by decide +kernel), mTs_in 127 (by decide +kernel) (by decide +kernel), ⟨by decide, by decide⟩, by decide +kernel⟩, mTs_in 1459 (by decide +kernel) (by decide +kernel), mTs_in 59 (by decide +kernel) (by decide +kernel)⟩
theorem lkX12_158 : Cond.fieldLink RX12 158 (TX12 11).1 (TX12 11).2.1 (TX12 11).2.2.1 ∈ mTs := mTs_in 1303 (by decide +kernel) (by decide +kernel)
theorem fdX12_11 : mFld 11 11 0 37 RX12 TX12 := ⟨rfl, inX12, by decide, rfl, by decide⟩
theorem lkX12_13 : Cond.fieldLink RX12 13 (TX12 12).1 (TX12 12).2.1 (TX12 12).2.2.1 ∈ mTs := mTs_in 1304 (by decide +kernel) (by decide +kernel)
theorem fdX12_12 : mFld 11 12 2 37 RX12 TX12 := ⟨rfl, inX12, by decide, rfl, by decide⟩
theorem lkX12_17 : Cond.fieldLink RX12 17 (TX12 13).1 (TX12 13).2.1 (TX12 13).2.2.1 ∈ mTs := mTs_in 1305 (by decide +kernel) (by decide +kernel)
theorem fdX12_13 : mFld 11 13 2 37 RX12 TX12 := ⟨rfl, inX12, by decide, rfl, by decide⟩
theorem lkX12_161 : Cond.methodLink RX12 161 yX12_at ∈ mTs := mTs_in 1473 (by decide +kernel) (by decide +kernel)
theorem myX12_at : mYV yX12_at cX12_at 2 (some .int) 1 := ⟨⟨mTs_in 1476 (by decide +kernel) (by decide +kernel), mTs_in 127 (by decide +kernel) (by decide +kernel), ⟨by decide, by decide⟩, by decide +kernel⟩, mTs_in 1475 (by decide +kernel) (by decide +kernel), mTs_in 63 (by decide +kernel) (by decide +kernel)⟩
theorem lkX12_171 : Cond.methodLink RX12 171 yX12_must ∈ mTs := mTs_in 1453 (by decide +kernel) (by decide +kernel)
theorem myX12_must : mYV yX12_must cX12_must 3 (some .boolean) 2 := ⟨⟨mTs_in 1456 (by decide +kernel) (by decide +kernel), mTs_in 127 (by decide +kernel) (by decide +kernel), ⟨by decide, by decide⟩, by decide +kernel⟩, mTs_in 1455 (by decide +kernel) (by decide +kernel), mTs_in 58 (by decide +kernel) (by decide +kernel)⟩
theorem lkX12_175 : Cond.fieldLink RX12 175 (TX12 19).1 (TX12 19).2.1 (TX12 19).2.2.1 ∈ mTs := mTs_in 1311 (by decide +kernel) (by decide +kernel)
theorem fdX12_19 : mFld 11 19 0 37 RX12 TX12 := ⟨rfl, inX12, by decide, rfl, by decide⟩
theorem ptX12_19 : mPut 11 19 0 37 RX12 TX12 tyX12 .int := ⟨fdX12_19, tyX12_ok, nmX12, (by decide +kernel), rfl⟩
theorem lkX12_178 : Cond.fieldLink RX12 178 (TX12 20).1 (TX12 20).2.1 (TX12 20).2.2.1 ∈ mTs := mTs_in 1312 (by decide +kernel) (by decide +kernel)
theorem fdX12_20 : mFld 11 20 0 37 RX12 TX12 := ⟨rfl, inX12, by decide, rfl, by decide⟩
theorem ptX12_20 : mPut 11 20 0 37 RX12 TX12 tyX12 .int := ⟨fdX12_20, tyX12_ok, nmX12, (by decide +kernel), rfl⟩
theorem lkX12_164 : Cond.methodLink RX12 164 yX12_isSign ∈ mTs := mTs_in 1489 (by decide +kernel) (by decide +kernel)
theorem myX12_isSign : mYV yX12_isSign cX12_isSign 2 (some .boolean) 1 := ⟨⟨mTs_in 1492 (by decide +kernel) (by decide +kernel), mTs_in 127 (by decide +kernel) (by decide +kernel), ⟨by decide, by decide⟩, by decide +kernel⟩, mTs_in 1491 (by decide +kernel) (by decide +kernel), mTs_in 67 (by decide +kernel) (by decide +kernel)⟩
theorem lkX12_168 : Cond.methodLink RX12 168 yX12_steps ∈ mTs := mTs_in 1423 (by decide +kernel) (by decide +kernel)
theorem myX12_steps : mYV yX12_steps cX12_steps 2 none 0 := ⟨⟨mTs_in 1426 (by decide +kernel) (by decide +kernel), mTs_in 127 (by decide +kernel) (by decide +kernel), ⟨by decide, by decide⟩, by decide +kernel⟩, mTs_in 1425 (by decide +kernel) (by decide +kernel), mTs_in 54 (by decide +kernel) (by decide +kernel)⟩
theorem lkX12_181 : Cond.methodLink RX12 181 yX12_takesWhole ∈ mTs := mTs_in 1485 (by decide +kernel) (by decide +kernel)
theorem myX12_takesWhole : mYV yX12_takesWhole cX12_takesWhole 3 (some .boolean) 1 := ⟨⟨mTs_in 1488 (by decide +kernel) (by decide +kernel), mTs_in 127 (by decide +kernel) (by decide +kernel), ⟨by decide, by decide⟩, by decide +kernel⟩, mTs_in 1487 (by decide +kernel) (by decide +kernel), mTs_in 66 (by decide +kernel) (by decide +kernel)⟩
theorem lkX12_184 : Cond.methodLink RX12 184 yX12_hasSquare ∈ mTs := mTs_in 1493 (by decide +kernel) (by decide +kernel)
theorem myX12_hasSquare : mYS yX12_hasSquare cX12_hasSquare 2 (some .boolean) 1 := ⟨⟨mTs_in 1495 (by decide +kernel) (by decide +kernel), mTs_in 127 (by decide +kernel) (by decide +kernel), ⟨by decide, by decide⟩, by decide +kernel⟩, mTs_in 1494 (by decide +kernel) (by decide +kernel)⟩
theorem lkX12_195 : Cond.methodLink RX12 195 yX12_takesSide ∈ mTs := mTs_in 1481 (by decide +kernel) (by decide +kernel)
theorem myX12_takesSide : mYV yX12_takesSide cX12_takesSide 1 (some .boolean) 0 := ⟨⟨mTs_in 1484 (by decide +kernel) (by decide +kernel), mTs_in 127 (by decide +kernel) (by decide +kernel), ⟨by decide, by decide⟩, by decide +kernel⟩, mTs_in 1483 (by decide +kernel) (by decide +kernel), mTs_in 65 (by decide +kernel) (by decide +kernel)⟩
theorem lkX12_24 : Cond.fieldLink RX12 24 (TX12 15).1 (TX12 15).2.1 (TX12 15).2.2.1 ∈ mTs := mTs_in 1307 (by decide +kernel) (by decide +kernel)
theorem fdX12_15 : mFld 11 15 2 37 RX12 TX12 := ⟨rfl, inX12, by decide, rfl, by decide⟩
theorem lkX12_27 : Cond.fieldLink RX12 27 (TX12 16).1 (TX12 16).2.1 (TX12 16).2.2.1 ∈ mTs := mTs_in 1308 (by decide +kernel) (by decide +kernel)
theorem fdX12_16 : mFld 11 16 2 37 RX12 TX12 := ⟨rfl, inX12, by decide, rfl, by decide⟩
theorem dX11_inverse_0 : decode cX11_inverse 0 = .ok (.aload_n 0, 1) := by decide +kernel
theorem dX11_inverse_1 : decode cX11_inverse 1 = .ok (.iload_n 1, 1) := by decide +kernel
theorem dX11_inverse_2 : decode cX11_inverse 2 = .ok (.invokevirtual 159, 3) := by decide +kernel
theorem dX11_inverse_5 : decode cX11_inverse 5 = .ok (.ifCond .eq 11, 3) := by decide +kernel
theorem dX11_inverse_8 : decode cX11_inverse 8 = .ok (.aload_n 0, 1) := by decide +kernel
theorem dX11_inverse_9 : decode cX11_inverse 9 = .ok (.iload_n 2, 1) := by decide +kernel
theorem dX11_inverse_10 : decode cX11_inverse 10 = .ok (.invokevirtual 152, 3) := by decide +kernel
theorem dX11_inverse_13 : decode cX11_inverse 13 = .ok (.ifCond .ne 5, 3) := by decide +kernel
theorem dX11_inverse_16 : decode cX11_inverse 16 = .ok (.iconst (-1), 1) := by decide +kernel
theorem dX11_inverse_17 : decode cX11_inverse 17 = .ok (.ireturn, 1) := by decide +kernel
theorem dX11_inverse_18 : decode cX11_inverse 18 = .ok (.aload_n 0, 1) := by decide +kernel
theorem dX11_inverse_19 : decode cX11_inverse 19 = .ok (.getfield 43, 3) := by decide +kernel
theorem dX11_inverse_22 : decode cX11_inverse 22 = .ok (.iload_n 1, 1) := by decide +kernel
theorem dX11_inverse_23 : decode cX11_inverse 23 = .ok (.aaload, 1) := by decide +kernel
theorem dX11_inverse_24 : decode cX11_inverse 24 = .ok (.astore_n 3, 1) := by decide +kernel
theorem dX11_inverse_25 : decode cX11_inverse 25 = .ok (.aload_n 0, 1) := by decide +kernel
theorem dX11_inverse_26 : decode cX11_inverse 26 = .ok (.aload_n 3, 1) := by decide +kernel
theorem dX11_inverse_27 : decode cX11_inverse 27 = .ok (.invokevirtual 183, 3) := by decide +kernel
theorem dX11_inverse_30 : decode cX11_inverse 30 = .ok (.lstore 4, 2) := by decide +kernel
theorem dX11_inverse_32 : decode cX11_inverse 32 = .ok (.lload 4, 2) := by decide +kernel
theorem dX11_inverse_34 : decode cX11_inverse 34 = .ok (.lconst 0, 1) := by decide +kernel
theorem dX11_inverse_35 : decode cX11_inverse 35 = .ok (.lcmp, 1) := by decide +kernel
theorem dX11_inverse_36 : decode cX11_inverse 36 = .ok (.ifCond .ne 6, 3) := by decide +kernel
theorem dX11_inverse_39 : decode cX11_inverse 39 = .ok (.bipush (-2), 2) := by decide +kernel
theorem dX11_inverse_41 : decode cX11_inverse 41 = .ok (.ireturn, 1) := by decide +kernel
theorem dX11_inverse_42 : decode cX11_inverse 42 = .ok (.aload_n 3, 1) := by decide +kernel
theorem dX11_inverse_43 : decode cX11_inverse 43 = .ok (.getfield 162, 3) := by decide +kernel
theorem dX11_inverse_46 : decode cX11_inverse 46 = .ok (.lload 4, 2) := by decide +kernel
theorem dX11_inverse_48 : decode cX11_inverse 48 = .ok (.lconst 0, 1) := by decide +kernel
theorem dX11_inverse_49 : decode cX11_inverse 49 = .ok (.lcmp, 1) := by decide +kernel
theorem dX11_inverse_50 : decode cX11_inverse 50 = .ok (.ifCond .ge 11, 3) := by decide +kernel
theorem dX11_inverse_53 : decode cX11_inverse 53 = .ok (.aload_n 3, 1) := by decide +kernel
theorem dX11_inverse_54 : decode cX11_inverse 54 = .ok (.getfield 168, 3) := by decide +kernel
theorem dX11_inverse_57 : decode cX11_inverse 57 = .ok (.lneg, 1) := by decide +kernel
theorem dX11_inverse_58 : decode cX11_inverse 58 = .ok (.goto 7, 3) := by decide +kernel
theorem dX11_inverse_61 : decode cX11_inverse 61 = .ok (.aload_n 3, 1) := by decide +kernel
theorem dX11_inverse_62 : decode cX11_inverse 62 = .ok (.getfield 168, 3) := by decide +kernel
theorem dX11_inverse_65 : decode cX11_inverse 65 = .ok (.aload_n 0, 1) := by decide +kernel
theorem dX11_inverse_66 : decode cX11_inverse 66 = .ok (.getfield 74, 3) := by decide +kernel
theorem dX11_inverse_69 : decode cX11_inverse 69 = .ok (.invokestatic 179, 3) := by decide +kernel
theorem dX11_inverse_72 : decode cX11_inverse 72 = .ok (.aload_n 0, 1) := by decide +kernel
theorem dX11_inverse_73 : decode cX11_inverse 73 = .ok (.iload_n 2, 1) := by decide +kernel
theorem dX11_inverse_74 : decode cX11_inverse 74 = .ok (.aload_n 3, 1) := by decide +kernel
theorem dX11_inverse_75 : decode cX11_inverse 75 = .ok (.getfield 165, 3) := by decide +kernel
theorem dX11_inverse_78 : decode cX11_inverse 78 = .ok (.lload 4, 2) := by decide +kernel
theorem dX11_inverse_80 : decode cX11_inverse 80 = .ok (.invokestatic 187, 3) := by decide +kernel
theorem dX11_inverse_83 : decode cX11_inverse 83 = .ok (.invokevirtual 155, 3) := by decide +kernel
theorem dX11_inverse_86 : decode cX11_inverse 86 = .ok (.ireturn, 1) := by decide +kernel
theorem dX11_isSplit_0 : decode cX11_isSplit 0 = .ok (.aload_n 0, 1) := by decide +kernel
theorem dX11_isSplit_1 : decode cX11_isSplit 1 = .ok (.getfield 37, 3) := by decide +kernel
theorem dX11_isSplit_4 : decode cX11_isSplit 4 = .ok (.iload_n 1, 1) := by decide +kernel
theorem dX11_isSplit_5 : decode cX11_isSplit 5 = .ok (.invokevirtual 145, 3) := by decide +kernel
theorem dX11_isSplit_8 : decode cX11_isSplit 8 = .ok (.iconst 1, 1) := by decide +kernel
theorem dX11_isSplit_9 : decode cX11_isSplit 9 = .ok (.if_icmp .ne 35, 3) := by decide +kernel
theorem dX11_isSplit_12 : decode cX11_isSplit 12 = .ok (.aload_n 0, 1) := by decide +kernel
theorem dX11_isSplit_13 : decode cX11_isSplit 13 = .ok (.getfield 63, 3) := by decide +kernel
theorem dX11_isSplit_16 : decode cX11_isSplit 16 = .ok (.aload_n 0, 1) := by decide +kernel
theorem dX11_isSplit_17 : decode cX11_isSplit 17 = .ok (.getfield 27, 3) := by decide +kernel
theorem dX11_isSplit_20 : decode cX11_isSplit 20 = .ok (.iload_n 1, 1) := by decide +kernel
theorem dX11_isSplit_21 : decode cX11_isSplit 21 = .ok (.invokevirtual 106, 3) := by decide +kernel
theorem dX11_isSplit_24 : decode cX11_isSplit 24 = .ok (.i2l, 1) := by decide +kernel
theorem dX11_isSplit_25 : decode cX11_isSplit 25 = .ok (.aload_n 0, 1) := by decide +kernel
theorem dX11_isSplit_26 : decode cX11_isSplit 26 = .ok (.getfield 27, 3) := by decide +kernel
theorem dX11_isSplit_29 : decode cX11_isSplit 29 = .ok (.iload_n 1, 1) := by decide +kernel
theorem dX11_isSplit_30 : decode cX11_isSplit 30 = .ok (.invokevirtual 110, 3) := by decide +kernel
theorem dX11_isSplit_33 : decode cX11_isSplit 33 = .ok (.i2l, 1) := by decide +kernel
theorem dX11_isSplit_34 : decode cX11_isSplit 34 = .ok (.invokevirtual 224, 3) := by decide +kernel
theorem dX11_isSplit_37 : decode cX11_isSplit 37 = .ok (.ifCond .eq 7, 3) := by decide +kernel
theorem dX11_isSplit_40 : decode cX11_isSplit 40 = .ok (.iconst 1, 1) := by decide +kernel
theorem dX11_isSplit_41 : decode cX11_isSplit 41 = .ok (.goto 4, 3) := by decide +kernel
theorem dX11_isSplit_44 : decode cX11_isSplit 44 = .ok (.iconst 0, 1) := by decide +kernel
theorem dX11_isSplit_45 : decode cX11_isSplit 45 = .ok (.ireturn, 1) := by decide +kernel
theorem dX11_solution_0 : decode cX11_solution 0 = .ok (.aload_n 0, 1) := by decide +kernel
theorem dX11_solution_1 : decode cX11_solution 1 = .ok (.iload_n 1, 1) := by decide +kernel
theorem dX11_solution_2 : decode cX11_solution 2 = .ok (.invokevirtual 102, 3) := by decide +kernel
theorem dX11_solution_5 : decode cX11_solution 5 = .ok (.ifCond .eq 12, 3) := by decide +kernel
theorem dX11_solution_8 : decode cX11_solution 8 = .ok (.iload_n 2, 1) := by decide +kernel
theorem dX11_solution_9 : decode cX11_solution 9 = .ok (.ifCond .lt 8, 3) := by decide +kernel
theorem dX11_solution_12 : decode cX11_solution 12 = .ok (.iload_n 2, 1) := by decide +kernel
theorem dX11_solution_13 : decode cX11_solution 13 = .ok (.iconst 2, 1) := by decide +kernel
theorem dX11_solution_14 : decode cX11_solution 14 = .ok (.if_icmp .le 5, 3) := by decide +kernel
theorem dX11_solution_17 : decode cX11_solution 17 = .ok (.iconst (-1), 1) := by decide +kernel
theorem dX11_solution_18 : decode cX11_solution 18 = .ok (.ireturn, 1) := by decide +kernel
theorem dX11_solution_19 : decode cX11_solution 19 = .ok (.aload_n 0, 1) := by decide +kernel
theorem dX11_solution_20 : decode cX11_solution 20 = .ok (.iload_n 1, 1) := by decide +kernel
theorem dX11_solution_21 : decode cX11_solution 21 = .ok (.invokevirtual 211, 3) := by decide +kernel
theorem dX11_solution_24 : decode cX11_solution 24 = .ok (.ifCond .ne 6, 3) := by decide +kernel
theorem dX11_solution_27 : decode cX11_solution 27 = .ok (.bipush (-2), 2) := by decide +kernel
theorem dX11_solution_29 : decode cX11_solution 29 = .ok (.ireturn, 1) := by decide +kernel
theorem dX11_solution_30 : decode cX11_solution 30 = .ok (.aload_n 0, 1) := by decide +kernel
theorem dX11_solution_31 : decode cX11_solution 31 = .ok (.getfield 63, 3) := by decide +kernel
theorem dX11_solution_34 : decode cX11_solution 34 = .ok (.iload_n 2, 1) := by decide +kernel
theorem dX11_solution_35 : decode cX11_solution 35 = .ok (.invokevirtual 214, 3) := by decide +kernel
theorem dX11_solution_38 : decode cX11_solution 38 = .ok (.ireturn, 1) := by decide +kernel
theorem dX11_disc_0 : decode cX11_disc 0 = .ok (.aload_n 0, 1) := by decide +kernel
theorem dX11_disc_1 : decode cX11_disc 1 = .ok (.iload_n 1, 1) := by decide +kernel
theorem dX11_disc_2 : decode cX11_disc 2 = .ok (.invokevirtual 102, 3) := by decide +kernel
theorem dX11_disc_5 : decode cX11_disc 5 = .ok (.ifCond .eq 16, 3) := by decide +kernel
theorem dX11_disc_8 : decode cX11_disc 8 = .ok (.aload_n 0, 1) := by decide +kernel
theorem dX11_disc_9 : decode cX11_disc 9 = .ok (.getfield 49, 3) := by decide +kernel
theorem dX11_disc_12 : decode cX11_disc 12 = .ok (.iload_n 1, 1) := by decide +kernel
theorem dX11_disc_13 : decode cX11_disc 13 = .ok (.aaload, 1) := by decide +kernel
theorem dX11_disc_14 : decode cX11_disc 14 = .ok (.invokevirtual 228, 3) := by decide +kernel
theorem dX11_disc_17 : decode cX11_disc 17 = .ok (.l2i, 1) := by decide +kernel
theorem dX11_disc_18 : decode cX11_disc 18 = .ok (.goto 4, 3) := by decide +kernel
theorem dX11_disc_21 : decode cX11_disc 21 = .ok (.iconst (-1), 1) := by decide +kernel
theorem dX11_disc_22 : decode cX11_disc 22 = .ok (.ireturn, 1) := by decide +kernel
theorem dX11_due_0 : decode cX11_due 0 = .ok (.aload_n 0, 1) := by decide +kernel
theorem dX11_due_1 : decode cX11_due 1 = .ok (.iload_n 1, 1) := by decide +kernel
theorem dX11_due_2 : decode cX11_due 2 = .ok (.invokevirtual 102, 3) := by decide +kernel
theorem dX11_due_5 : decode cX11_due 5 = .ok (.ifCond .eq 15, 3) := by decide +kernel
theorem dX11_due_8 : decode cX11_due 8 = .ok (.aload_n 0, 1) := by decide +kernel
theorem dX11_due_9 : decode cX11_due 9 = .ok (.getfield 37, 3) := by decide +kernel
theorem dX11_due_12 : decode cX11_due 12 = .ok (.iload_n 1, 1) := by decide +kernel
theorem dX11_due_13 : decode cX11_due 13 = .ok (.invokevirtual 231, 3) := by decide +kernel
theorem dX11_due_16 : decode cX11_due 16 = .ok (.l2i, 1) := by decide +kernel
theorem dX11_due_17 : decode cX11_due 17 = .ok (.goto 4, 3) := by decide +kernel
theorem dX11_due_20 : decode cX11_due 20 = .ok (.iconst (-1), 1) := by decide +kernel
theorem dX11_due_21 : decode cX11_due 21 = .ok (.ireturn, 1) := by decide +kernel
theorem dX11_canGrow_0 : decode cX11_canGrow 0 = .ok (.aload_n 0, 1) := by decide +kernel
theorem dX11_canGrow_1 : decode cX11_canGrow 1 = .ok (.getfield 49, 3) := by decide +kernel
theorem dX11_canGrow_4 : decode cX11_canGrow 4 = .ok (.iload_n 1, 1) := by decide +kernel
theorem dX11_canGrow_5 : decode cX11_canGrow 5 = .ok (.aaload, 1) := by decide +kernel
theorem dX11_canGrow_6 : decode cX11_canGrow 6 = .ok (.invokevirtual 228, 3) := by decide +kernel
theorem dX11_canGrow_9 : decode cX11_canGrow 9 = .ok (.lstore_n 3, 1) := by decide +kernel
theorem dX11_canGrow_10 : decode cX11_canGrow 10 = .ok (.iload_n 2, 1) := by decide +kernel
theorem dX11_canGrow_11 : decode cX11_canGrow 11 = .ok (.lload_n 3, 1) := by decide +kernel
theorem dX11_canGrow_12 : decode cX11_canGrow 12 = .ok (.invokestatic 247, 3) := by decide +kernel
theorem dX11_canGrow_15 : decode cX11_canGrow 15 = .ok (.iload_n 2, 1) := by decide +kernel
theorem dX11_canGrow_16 : decode cX11_canGrow 16 = .ok (.aload_n 0, 1) := by decide +kernel
theorem dX11_canGrow_17 : decode cX11_canGrow 17 = .ok (.getfield 37, 3) := by decide +kernel
theorem dX11_canGrow_20 : decode cX11_canGrow 20 = .ok (.iload_n 1, 1) := by decide +kernel
theorem dX11_canGrow_21 : decode cX11_canGrow 21 = .ok (.invokevirtual 231, 3) := by decide +kernel
theorem dX11_canGrow_24 : decode cX11_canGrow 24 = .ok (.invokestatic 247, 3) := by decide +kernel
theorem dX11_canGrow_27 : decode cX11_canGrow 27 = .ok (.if_icmp .le 7, 3) := by decide +kernel
theorem dX11_canGrow_30 : decode cX11_canGrow 30 = .ok (.iconst 1, 1) := by decide +kernel
theorem dX11_canGrow_31 : decode cX11_canGrow 31 = .ok (.goto 4, 3) := by decide +kernel
theorem dX11_canGrow_34 : decode cX11_canGrow 34 = .ok (.iconst 0, 1) := by decide +kernel
theorem dX11_canGrow_35 : decode cX11_canGrow 35 = .ok (.ireturn, 1) := by decide +kernel
theorem dX11_enlarge_0 : decode cX11_enlarge 0 = .ok (.aload_n 0, 1) := by decide +kernel
theorem dX11_enlarge_1 : decode cX11_enlarge 1 = .ok (.iload_n 1, 1) := by decide +kernel
theorem dX11_enlarge_2 : decode cX11_enlarge 2 = .ok (.invokevirtual 102, 3) := by decide +kernel
theorem dX11_enlarge_5 : decode cX11_enlarge 5 = .ok (.ifCond .eq 16, 3) := by decide +kernel
theorem dX11_enlarge_8 : decode cX11_enlarge 8 = .ok (.iload_n 2, 1) := by decide +kernel
theorem dX11_enlarge_9 : decode cX11_enlarge 9 = .ok (.bipush 60, 2) := by decide +kernel
theorem dX11_enlarge_11 : decode cX11_enlarge 11 = .ok (.if_icmp .gt 10, 3) := by decide +kernel
theorem dX11_enlarge_14 : decode cX11_enlarge 14 = .ok (.iload_n 2, 1) := by decide +kernel
theorem dX11_enlarge_15 : decode cX11_enlarge 15 = .ok (.invokestatic 130, 3) := by decide +kernel
theorem dX11_enlarge_18 : decode cX11_enlarge 18 = .ok (.ifCond .ne 5, 3) := by decide +kernel
theorem dX11_enlarge_21 : decode cX11_enlarge 21 = .ok (.iconst (-1), 1) := by decide +kernel
theorem dX11_enlarge_22 : decode cX11_enlarge 22 = .ok (.ireturn, 1) := by decide +kernel
theorem dX11_enlarge_23 : decode cX11_enlarge 23 = .ok (.aload_n 0, 1) := by decide +kernel
theorem dX11_enlarge_24 : decode cX11_enlarge 24 = .ok (.iload_n 1, 1) := by decide +kernel
theorem dX11_enlarge_25 : decode cX11_enlarge 25 = .ok (.iload_n 2, 1) := by decide +kernel
theorem dX11_enlarge_26 : decode cX11_enlarge 26 = .ok (.invokevirtual 240, 3) := by decide +kernel
theorem dX11_enlarge_29 : decode cX11_enlarge 29 = .ok (.ifCond .eq 21, 3) := by decide +kernel
theorem dX11_enlarge_32 : decode cX11_enlarge 32 = .ok (.aload_n 0, 1) := by decide +kernel
theorem dX11_enlarge_33 : decode cX11_enlarge 33 = .ok (.getfield 56, 3) := by decide +kernel
theorem dX11_enlarge_36 : decode cX11_enlarge 36 = .ok (.aload_n 0, 1) := by decide +kernel
theorem dX11_enlarge_37 : decode cX11_enlarge 37 = .ok (.getfield 49, 3) := by decide +kernel
theorem dX11_enlarge_40 : decode cX11_enlarge 40 = .ok (.iload_n 1, 1) := by decide +kernel
theorem dX11_enlarge_41 : decode cX11_enlarge 41 = .ok (.aaload, 1) := by decide +kernel
theorem dX11_enlarge_42 : decode cX11_enlarge 42 = .ok (.iload_n 2, 1) := by decide +kernel
theorem dX11_enlarge_43 : decode cX11_enlarge 43 = .ok (.invokevirtual 243, 3) := by decide +kernel
theorem dX11_enlarge_46 : decode cX11_enlarge 46 = .ok (.l2i, 1) := by decide +kernel
theorem dX11_enlarge_47 : decode cX11_enlarge 47 = .ok (.goto 4, 3) := by decide +kernel
theorem dX11_enlarge_50 : decode cX11_enlarge 50 = .ok (.iconst 0, 1) := by decide +kernel
theorem dX11_enlarge_51 : decode cX11_enlarge 51 = .ok (.ireturn, 1) := by decide +kernel
theorem dX11_greatest_0 : decode cX11_greatest 0 = .ok (.aload_n 0, 1) := by decide +kernel
theorem dX11_greatest_1 : decode cX11_greatest 1 = .ok (.iload_n 1, 1) := by decide +kernel
theorem dX11_greatest_2 : decode cX11_greatest 2 = .ok (.invokevirtual 102, 3) := by decide +kernel
theorem dX11_greatest_5 : decode cX11_greatest 5 = .ok (.ifCond .ne 5, 3) := by decide +kernel
theorem dX11_greatest_8 : decode cX11_greatest 8 = .ok (.iconst (-1), 1) := by decide +kernel
theorem dX11_greatest_9 : decode cX11_greatest 9 = .ok (.ireturn, 1) := by decide +kernel
theorem dX11_greatest_10 : decode cX11_greatest 10 = .ok (.iconst 0, 1) := by decide +kernel
theorem dX11_greatest_11 : decode cX11_greatest 11 = .ok (.istore_n 2, 1) := by decide +kernel
theorem dX11_greatest_12 : decode cX11_greatest 12 = .ok (.iconst 2, 1) := by decide +kernel
theorem dX11_greatest_13 : decode cX11_greatest 13 = .ok (.istore_n 3, 1) := by decide +kernel
theorem dX11_greatest_14 : decode cX11_greatest 14 = .ok (.iload_n 3, 1) := by decide +kernel
theorem dX11_greatest_15 : decode cX11_greatest 15 = .ok (.bipush 60, 2) := by decide +kernel
theorem dX11_greatest_17 : decode cX11_greatest 17 = .ok (.if_icmp .gt 84, 3) := by decide +kernel
theorem dX11_greatest_20 : decode cX11_greatest 20 = .ok (.iload_n 3, 1) := by decide +kernel
theorem dX11_greatest_21 : decode cX11_greatest 21 = .ok (.invokestatic 130, 3) := by decide +kernel
theorem dX11_greatest_24 : decode cX11_greatest 24 = .ok (.istore 4, 2) := by decide +kernel
theorem dX11_greatest_26 : decode cX11_greatest 26 = .ok (.iconst 0, 1) := by decide +kernel
theorem dX11_greatest_27 : decode cX11_greatest 27 = .ok (.istore 5, 2) := by decide +kernel
theorem dX11_greatest_29 : decode cX11_greatest 29 = .ok (.iload 5, 2) := by decide +kernel
theorem dX11_greatest_31 : decode cX11_greatest 31 = .ok (.bipush 40, 2) := by decide +kernel
theorem dX11_greatest_33 : decode cX11_greatest 33 = .ok (.if_icmp .ge 62, 3) := by decide +kernel
theorem dX11_greatest_36 : decode cX11_greatest 36 = .ok (.iload 4, 2) := by decide +kernel
theorem dX11_greatest_38 : decode cX11_greatest 38 = .ok (.ifCond .eq 57, 3) := by decide +kernel
theorem dX11_greatest_41 : decode cX11_greatest 41 = .ok (.aload_n 0, 1) := by decide +kernel
theorem dX11_greatest_42 : decode cX11_greatest 42 = .ok (.iload_n 1, 1) := by decide +kernel
theorem dX11_greatest_43 : decode cX11_greatest 43 = .ok (.iload_n 3, 1) := by decide +kernel
theorem dX11_greatest_44 : decode cX11_greatest 44 = .ok (.invokevirtual 240, 3) := by decide +kernel
theorem dX11_greatest_47 : decode cX11_greatest 47 = .ok (.ifCond .eq 48, 3) := by decide +kernel
theorem dX11_greatest_50 : decode cX11_greatest 50 = .ok (.aload_n 0, 1) := by decide +kernel
theorem dX11_greatest_51 : decode cX11_greatest 51 = .ok (.getfield 56, 3) := by decide +kernel
theorem dX11_greatest_54 : decode cX11_greatest 54 = .ok (.aload_n 0, 1) := by decide +kernel
theorem dX11_greatest_55 : decode cX11_greatest 55 = .ok (.getfield 49, 3) := by decide +kernel
theorem dX11_greatest_58 : decode cX11_greatest 58 = .ok (.iload_n 1, 1) := by decide +kernel
theorem dX11_greatest_59 : decode cX11_greatest 59 = .ok (.aaload, 1) := by decide +kernel
theorem dX11_greatest_60 : decode cX11_greatest 60 = .ok (.iload_n 3, 1) := by decide +kernel
theorem dX11_greatest_61 : decode cX11_greatest 61 = .ok (.invokevirtual 243, 3) := by decide +kernel
theorem dX11_greatest_64 : decode cX11_greatest 64 = .ok (.lconst 0, 1) := by decide +kernel
theorem dX11_greatest_65 : decode cX11_greatest 65 = .ok (.lcmp, 1) := by decide +kernel
theorem dX11_greatest_66 : decode cX11_greatest 66 = .ok (.ifCond .le 7, 3) := by decide +kernel
theorem dX11_greatest_69 : decode cX11_greatest 69 = .ok (.iconst 1, 1) := by decide +kernel
theorem dX11_greatest_70 : decode cX11_greatest 70 = .ok (.goto 4, 3) := by decide +kernel
theorem dX11_greatest_73 : decode cX11_greatest 73 = .ok (.iconst 0, 1) := by decide +kernel
theorem dX11_greatest_74 : decode cX11_greatest 74 = .ok (.istore 4, 2) := by decide +kernel
theorem dX11_greatest_76 : decode cX11_greatest 76 = .ok (.iload_n 2, 1) := by decide +kernel
theorem dX11_greatest_77 : decode cX11_greatest 77 = .ok (.iload 4, 2) := by decide +kernel
theorem dX11_greatest_79 : decode cX11_greatest 79 = .ok (.ifCond .eq 7, 3) := by decide +kernel
theorem dX11_greatest_82 : decode cX11_greatest 82 = .ok (.iconst 1, 1) := by decide +kernel
theorem dX11_greatest_83 : decode cX11_greatest 83 = .ok (.goto 4, 3) := by decide +kernel
theorem dX11_greatest_86 : decode cX11_greatest 86 = .ok (.iconst 0, 1) := by decide +kernel
theorem dX11_greatest_87 : decode cX11_greatest 87 = .ok (.iadd, 1) := by decide +kernel
theorem dX11_greatest_88 : decode cX11_greatest 88 = .ok (.istore_n 2, 1) := by decide +kernel
theorem dX11_greatest_89 : decode cX11_greatest 89 = .ok (.iinc 5 1, 3) := by decide +kernel
theorem dX11_greatest_92 : decode cX11_greatest 92 = .ok (.goto (-63), 3) := by decide +kernel
theorem dX11_greatest_95 : decode cX11_greatest 95 = .ok (.iinc 3 1, 3) := by decide +kernel
theorem dX11_greatest_98 : decode cX11_greatest 98 = .ok (.goto (-84), 3) := by decide +kernel
theorem dX11_greatest_101 : decode cX11_greatest 101 = .ok (.iload_n 2, 1) := by decide +kernel
theorem dX11_greatest_102 : decode cX11_greatest 102 = .ok (.ireturn, 1) := by decide +kernel
theorem dX11_plain_0 : decode cX11_plain 0 = .ok (.aload_n 0, 1) := by decide +kernel
theorem dX11_plain_1 : decode cX11_plain 1 = .ok (.iload_n 1, 1) := by decide +kernel
theorem dX11_plain_2 : decode cX11_plain 2 = .ok (.invokevirtual 102, 3) := by decide +kernel
theorem dX11_plain_5 : decode cX11_plain 5 = .ok (.ifCond .ne 5, 3) := by decide +kernel
theorem dX11_plain_8 : decode cX11_plain 8 = .ok (.iconst 0, 1) := by decide +kernel
theorem dX11_plain_9 : decode cX11_plain 9 = .ok (.ireturn, 1) := by decide +kernel
theorem dX11_plain_10 : decode cX11_plain 10 = .ok (.aload_n 0, 1) := by decide +kernel
theorem dX11_plain_11 : decode cX11_plain 11 = .ok (.getfield 49, 3) := by decide +kernel
theorem dX11_plain_14 : decode cX11_plain 14 = .ok (.iload_n 1, 1) := by decide +kernel
theorem dX11_plain_15 : decode cX11_plain 15 = .ok (.aaload, 1) := by decide +kernel
theorem dX11_plain_16 : decode cX11_plain 16 = .ok (.aload_n 0, 1) := by decide +kernel
theorem dX11_plain_17 : decode cX11_plain 17 = .ok (.getfield 27, 3) := by decide +kernel
theorem dX11_plain_20 : decode cX11_plain 20 = .ok (.iload_n 1, 1) := by decide +kernel
theorem dX11_plain_21 : decode cX11_plain 21 = .ok (.invokevirtual 106, 3) := by decide +kernel
theorem dX11_plain_24 : decode cX11_plain 24 = .ok (.i2l, 1) := by decide +kernel
theorem dX11_plain_25 : decode cX11_plain 25 = .ok (.aload_n 0, 1) := by decide +kernel
theorem dX11_plain_26 : decode cX11_plain 26 = .ok (.getfield 27, 3) := by decide +kernel
theorem dX11_plain_29 : decode cX11_plain 29 = .ok (.iload_n 1, 1) := by decide +kernel
theorem dX11_plain_30 : decode cX11_plain 30 = .ok (.invokevirtual 110, 3) := by decide +kernel
theorem dX11_plain_33 : decode cX11_plain 33 = .ok (.i2l, 1) := by decide +kernel
theorem dX11_plain_34 : decode cX11_plain 34 = .ok (.invokevirtual 113, 3) := by decide +kernel
theorem dX11_plain_37 : decode cX11_plain 37 = .ok (.iconst 1, 1) := by decide +kernel
theorem dX11_plain_38 : decode cX11_plain 38 = .ok (.ireturn, 1) := by decide +kernel
theorem dX11_isInOrder_0 : decode cX11_isInOrder 0 = .ok (.aload_n 0, 1) := by decide +kernel
theorem dX11_isInOrder_1 : decode cX11_isInOrder 1 = .ok (.getfield 49, 3) := by decide +kernel
theorem dX11_isInOrder_4 : decode cX11_isInOrder 4 = .ok (.aload_n 0, 1) := by decide +kernel
theorem dX11_isInOrder_5 : decode cX11_isInOrder 5 = .ok (.getfield 43, 3) := by decide +kernel
theorem dX11_isInOrder_8 : decode cX11_isInOrder 8 = .ok (.iload_n 1, 1) := by decide +kernel
theorem dX11_isInOrder_9 : decode cX11_isInOrder 9 = .ok (.aaload, 1) := by decide +kernel
theorem dX11_isInOrder_10 : decode cX11_isInOrder 10 = .ok (.getfield 165, 3) := by decide +kernel
theorem dX11_isInOrder_13 : decode cX11_isInOrder 13 = .ok (.aaload, 1) := by decide +kernel
theorem dX11_isInOrder_14 : decode cX11_isInOrder 14 = .ok (.aload_n 0, 1) := by decide +kernel
theorem dX11_isInOrder_15 : decode cX11_isInOrder 15 = .ok (.getfield 43, 3) := by decide +kernel
theorem dX11_isInOrder_18 : decode cX11_isInOrder 18 = .ok (.iload_n 1, 1) := by decide +kernel
theorem dX11_isInOrder_19 : decode cX11_isInOrder 19 = .ok (.aaload, 1) := by decide +kernel
theorem dX11_isInOrder_20 : decode cX11_isInOrder 20 = .ok (.aload_n 0, 1) := by decide +kernel
theorem dX11_isInOrder_21 : decode cX11_isInOrder 21 = .ok (.getfield 74, 3) := by decide +kernel
theorem dX11_isInOrder_24 : decode cX11_isInOrder 24 = .ok (.invokevirtual 258, 3) := by decide +kernel
theorem dX11_isInOrder_27 : decode cX11_isInOrder 27 = .ok (.ireturn, 1) := by decide +kernel
theorem dX11_isIn_0 : decode cX11_isIn 0 = .ok (.aload_n 0, 1) := by decide +kernel
theorem dX11_isIn_1 : decode cX11_isIn 1 = .ok (.iload_n 1, 1) := by decide +kernel
theorem dX11_isIn_2 : decode cX11_isIn 2 = .ok (.invokevirtual 159, 3) := by decide +kernel
theorem dX11_isIn_5 : decode cX11_isIn 5 = .ok (.ifCond .ne 5, 3) := by decide +kernel
theorem dX11_isIn_8 : decode cX11_isIn 8 = .ok (.iconst (-1), 1) := by decide +kernel
theorem dX11_isIn_9 : decode cX11_isIn 9 = .ok (.ireturn, 1) := by decide +kernel
theorem dX11_isIn_10 : decode cX11_isIn 10 = .ok (.aload_n 0, 1) := by decide +kernel
theorem dX11_isIn_11 : decode cX11_isIn 11 = .ok (.iload_n 1, 1) := by decide +kernel
theorem dX11_isIn_12 : decode cX11_isIn 12 = .ok (.invokevirtual 255, 3) := by decide +kernel
theorem dX11_isIn_15 : decode cX11_isIn 15 = .ok (.ifCond .eq 7, 3) := by decide +kernel
theorem dX11_isIn_18 : decode cX11_isIn 18 = .ok (.iconst 1, 1) := by decide +kernel
theorem dX11_isIn_19 : decode cX11_isIn 19 = .ok (.goto 4, 3) := by decide +kernel
theorem dX11_isIn_22 : decode cX11_isIn 22 = .ok (.iconst 0, 1) := by decide +kernel
theorem dX11_isIn_23 : decode cX11_isIn 23 = .ok (.ireturn, 1) := by decide +kernel
theorem dX11_isIdealPair_0 : decode cX11_isIdealPair 0 = .ok (.iload_n 2, 1) := by decide +kernel
theorem dX11_isIdealPair_1 : decode cX11_isIdealPair 1 = .ok (.iconst (-1), 1) := by decide +kernel
theorem dX11_isIdealPair_2 : decode cX11_isIdealPair 2 = .ok (.if_icmp .ne 11, 3) := by decide +kernel
theorem dX11_isIdealPair_5 : decode cX11_isIdealPair 5 = .ok (.aload_n 0, 1) := by decide +kernel
theorem dX11_isIdealPair_6 : decode cX11_isIdealPair 6 = .ok (.iload_n 1, 1) := by decide +kernel
theorem dX11_isIdealPair_7 : decode cX11_isIdealPair 7 = .ok (.invokevirtual 159, 3) := by decide +kernel
theorem dX11_isIdealPair_10 : decode cX11_isIdealPair 10 = .ok (.goto 9, 3) := by decide +kernel
theorem dX11_isIdealPair_13 : decode cX11_isIdealPair 13 = .ok (.aload_n 0, 1) := by decide +kernel
theorem dX11_isIdealPair_14 : decode cX11_isIdealPair 14 = .ok (.iload_n 1, 1) := by decide +kernel
theorem dX11_isIdealPair_15 : decode cX11_isIdealPair 15 = .ok (.iload_n 2, 1) := by decide +kernel
theorem dX11_isIdealPair_16 : decode cX11_isIdealPair 16 = .ok (.invokevirtual 172, 3) := by decide +kernel
theorem dX11_isIdealPair_19 : decode cX11_isIdealPair 19 = .ok (.ireturn, 1) := by decide +kernel
theorem dX11_idealFault_0 : decode cX11_idealFault 0 = .ok (.aload_n 0, 1) := by decide +kernel
theorem dX11_idealFault_1 : decode cX11_idealFault 1 = .ok (.iload_n 1, 1) := by decide +kernel
theorem dX11_idealFault_2 : decode cX11_idealFault 2 = .ok (.iload_n 2, 1) := by decide +kernel
theorem dX11_idealFault_3 : decode cX11_idealFault 3 = .ok (.invokevirtual 272, 3) := by decide +kernel
theorem dX11_idealFault_6 : decode cX11_idealFault 6 = .ok (.ifCond .ne 5, 3) := by decide +kernel
theorem dX11_idealFault_9 : decode cX11_idealFault 9 = .ok (.iconst (-1), 1) := by decide +kernel
theorem dX11_idealFault_10 : decode cX11_idealFault 10 = .ok (.ireturn, 1) := by decide +kernel
theorem dX11_idealFault_11 : decode cX11_idealFault 11 = .ok (.aload_n 0, 1) := by decide +kernel
theorem dX11_idealFault_12 : decode cX11_idealFault 12 = .ok (.iload_n 1, 1) := by decide +kernel
theorem dX11_idealFault_13 : decode cX11_idealFault 13 = .ok (.invokevirtual 255, 3) := by decide +kernel
theorem dX11_idealFault_16 : decode cX11_idealFault 16 = .ok (.ifCond .eq 16, 3) := by decide +kernel
theorem dX11_idealFault_19 : decode cX11_idealFault 19 = .ok (.iload_n 2, 1) := by decide +kernel
theorem dX11_idealFault_20 : decode cX11_idealFault 20 = .ok (.iconst (-1), 1) := by decide +kernel
theorem dX11_idealFault_21 : decode cX11_idealFault 21 = .ok (.if_icmp .eq 14, 3) := by decide +kernel
theorem dX11_idealFault_24 : decode cX11_idealFault 24 = .ok (.aload_n 0, 1) := by decide +kernel
theorem dX11_idealFault_25 : decode cX11_idealFault 25 = .ok (.iload_n 2, 1) := by decide +kernel
theorem dX11_idealFault_26 : decode cX11_idealFault 26 = .ok (.invokevirtual 255, 3) := by decide +kernel
theorem dX11_idealFault_29 : decode cX11_idealFault 29 = .ok (.ifCond .ne 6, 3) := by decide +kernel
theorem dX11_idealFault_32 : decode cX11_idealFault 32 = .ok (.bipush (-2), 2) := by decide +kernel
theorem dX11_idealFault_34 : decode cX11_idealFault 34 = .ok (.ireturn, 1) := by decide +kernel
theorem dX11_idealFault_35 : decode cX11_idealFault 35 = .ok (.aload_n 0, 1) := by decide +kernel
theorem dX11_idealFault_36 : decode cX11_idealFault 36 = .ok (.getfield 43, 3) := by decide +kernel
theorem dX11_idealFault_39 : decode cX11_idealFault 39 = .ok (.iload_n 1, 1) := by decide +kernel
theorem dX11_idealFault_40 : decode cX11_idealFault 40 = .ok (.aaload, 1) := by decide +kernel
theorem dX11_idealFault_41 : decode cX11_idealFault 41 = .ok (.bipush 100, 2) := by decide +kernel
theorem dX11_idealFault_43 : decode cX11_idealFault 43 = .ok (.invokevirtual 282, 3) := by decide +kernel
theorem dX11_idealFault_46 : decode cX11_idealFault 46 = .ok (.ifCond .eq 26, 3) := by decide +kernel
theorem dX11_idealFault_49 : decode cX11_idealFault 49 = .ok (.iload_n 2, 1) := by decide +kernel
theorem dX11_idealFault_50 : decode cX11_idealFault 50 = .ok (.iconst (-1), 1) := by decide +kernel
theorem dX11_idealFault_51 : decode cX11_idealFault 51 = .ok (.if_icmp .eq 17, 3) := by decide +kernel
theorem dX11_idealFault_54 : decode cX11_idealFault 54 = .ok (.aload_n 0, 1) := by decide +kernel
theorem dX11_idealFault_55 : decode cX11_idealFault 55 = .ok (.getfield 43, 3) := by decide +kernel
theorem dX11_idealFault_58 : decode cX11_idealFault 58 = .ok (.iload_n 2, 1) := by decide +kernel
theorem dX11_idealFault_59 : decode cX11_idealFault 59 = .ok (.aaload, 1) := by decide +kernel
theorem dX11_idealFault_60 : decode cX11_idealFault 60 = .ok (.bipush 100, 2) := by decide +kernel
theorem dX11_idealFault_62 : decode cX11_idealFault 62 = .ok (.invokevirtual 282, 3) := by decide +kernel
theorem dX11_idealFault_65 : decode cX11_idealFault 65 = .ok (.ifCond .eq 7, 3) := by decide +kernel
theorem dX11_idealFault_68 : decode cX11_idealFault 68 = .ok (.iconst 1, 1) := by decide +kernel
theorem dX11_idealFault_69 : decode cX11_idealFault 69 = .ok (.goto 4, 3) := by decide +kernel
theorem dX11_idealFault_72 : decode cX11_idealFault 72 = .ok (.iconst 0, 1) := by decide +kernel
theorem dX11_idealFault_73 : decode cX11_idealFault 73 = .ok (.istore_n 3, 1) := by decide +kernel
theorem dX11_idealFault_74 : decode cX11_idealFault 74 = .ok (.iload_n 3, 1) := by decide +kernel
theorem dX11_idealFault_75 : decode cX11_idealFault 75 = .ok (.ifCond .eq 22, 3) := by decide +kernel
theorem dX11_idealFault_78 : decode cX11_idealFault 78 = .ok (.aload_n 0, 1) := by decide +kernel
theorem dX11_idealFault_79 : decode cX11_idealFault 79 = .ok (.aload_n 0, 1) := by decide +kernel
theorem dX11_idealFault_80 : decode cX11_idealFault 80 = .ok (.getfield 43, 3) := by decide +kernel
theorem dX11_idealFault_83 : decode cX11_idealFault 83 = .ok (.iload_n 1, 1) := by decide +kernel
theorem dX11_idealFault_84 : decode cX11_idealFault 84 = .ok (.aaload, 1) := by decide +kernel
theorem dX11_idealFault_85 : decode cX11_idealFault 85 = .ok (.invokevirtual 183, 3) := by decide +kernel
theorem dX11_idealFault_88 : decode cX11_idealFault 88 = .ok (.lconst 0, 1) := by decide +kernel
theorem dX11_idealFault_89 : decode cX11_idealFault 89 = .ok (.lcmp, 1) := by decide +kernel
theorem dX11_idealFault_90 : decode cX11_idealFault 90 = .ok (.ifCond .eq 7, 3) := by decide +kernel
theorem dX11_idealFault_93 : decode cX11_idealFault 93 = .ok (.iconst 0, 1) := by decide +kernel
theorem dX11_idealFault_94 : decode cX11_idealFault 94 = .ok (.goto 5, 3) := by decide +kernel
theorem dX11_idealFault_97 : decode cX11_idealFault 97 = .ok (.bipush (-3), 2) := by decide +kernel
theorem dX11_idealFault_99 : decode cX11_idealFault 99 = .ok (.ireturn, 1) := by decide +kernel
theorem dX11_makeIdeal_0 : decode cX11_makeIdeal 0 = .ok (.aload_n 0, 1) := by decide +kernel
theorem dX11_makeIdeal_1 : decode cX11_makeIdeal 1 = .ok (.getfield 70, 3) := by decide +kernel
theorem dX11_makeIdeal_4 : decode cX11_makeIdeal 4 = .ok (.aload_n 0, 1) := by decide +kernel
theorem dX11_makeIdeal_5 : decode cX11_makeIdeal 5 = .ok (.getfield 49, 3) := by decide +kernel
theorem dX11_makeIdeal_8 : decode cX11_makeIdeal 8 = .ok (.aload_n 0, 1) := by decide +kernel
theorem dX11_makeIdeal_9 : decode cX11_makeIdeal 9 = .ok (.getfield 43, 3) := by decide +kernel
theorem dX11_makeIdeal_12 : decode cX11_makeIdeal 12 = .ok (.iload_n 1, 1) := by decide +kernel
theorem dX11_makeIdeal_13 : decode cX11_makeIdeal 13 = .ok (.aaload, 1) := by decide +kernel
theorem dX11_makeIdeal_14 : decode cX11_makeIdeal 14 = .ok (.getfield 165, 3) := by decide +kernel
theorem dX11_makeIdeal_17 : decode cX11_makeIdeal 17 = .ok (.aaload, 1) := by decide +kernel
theorem dX11_makeIdeal_18 : decode cX11_makeIdeal 18 = .ok (.aload_n 0, 1) := by decide +kernel
theorem dX11_makeIdeal_19 : decode cX11_makeIdeal 19 = .ok (.getfield 43, 3) := by decide +kernel
theorem dX11_makeIdeal_22 : decode cX11_makeIdeal 22 = .ok (.iload_n 1, 1) := by decide +kernel
theorem dX11_makeIdeal_23 : decode cX11_makeIdeal 23 = .ok (.aaload, 1) := by decide +kernel
theorem dX11_makeIdeal_24 : decode cX11_makeIdeal 24 = .ok (.invokevirtual 285, 3) := by decide +kernel
theorem dX11_makeIdeal_27 : decode cX11_makeIdeal 27 = .ok (.aload_n 0, 1) := by decide +kernel
theorem dX11_makeIdeal_28 : decode cX11_makeIdeal 28 = .ok (.getfield 70, 3) := by decide +kernel
theorem dX11_makeIdeal_31 : decode cX11_makeIdeal 31 = .ok (.aload_n 0, 1) := by decide +kernel
theorem dX11_makeIdeal_32 : decode cX11_makeIdeal 32 = .ok (.getfield 43, 3) := by decide +kernel
theorem dX11_makeIdeal_35 : decode cX11_makeIdeal 35 = .ok (.iload_n 1, 1) := by decide +kernel
theorem dX11_makeIdeal_36 : decode cX11_makeIdeal 36 = .ok (.aaload, 1) := by decide +kernel
theorem dX11_makeIdeal_37 : decode cX11_makeIdeal 37 = .ok (.invokevirtual 288, 3) := by decide +kernel
theorem dX11_makeIdeal_40 : decode cX11_makeIdeal 40 = .ok (.iload_n 2, 1) := by decide +kernel
theorem dX11_makeIdeal_41 : decode cX11_makeIdeal 41 = .ok (.iconst (-1), 1) := by decide +kernel
theorem dX11_makeIdeal_42 : decode cX11_makeIdeal 42 = .ok (.if_icmp .eq 16, 3) := by decide +kernel
theorem dX11_makeIdeal_45 : decode cX11_makeIdeal 45 = .ok (.aload_n 0, 1) := by decide +kernel
theorem dX11_makeIdeal_46 : decode cX11_makeIdeal 46 = .ok (.getfield 70, 3) := by decide +kernel
theorem dX11_makeIdeal_49 : decode cX11_makeIdeal 49 = .ok (.aload_n 0, 1) := by decide +kernel
theorem dX11_makeIdeal_50 : decode cX11_makeIdeal 50 = .ok (.getfield 43, 3) := by decide +kernel
theorem dX11_makeIdeal_53 : decode cX11_makeIdeal 53 = .ok (.iload_n 2, 1) := by decide +kernel
theorem dX11_makeIdeal_54 : decode cX11_makeIdeal 54 = .ok (.aaload, 1) := by decide +kernel
theorem dX11_makeIdeal_55 : decode cX11_makeIdeal 55 = .ok (.invokevirtual 288, 3) := by decide +kernel
theorem dX11_makeIdeal_58 : decode cX11_makeIdeal 58 = .ok (.return_, 1) := by decide +kernel
theorem dX11_ideal_0 : decode cX11_ideal 0 = .ok (.aload_n 0, 1) := by decide +kernel
theorem dX11_ideal_1 : decode cX11_ideal 1 = .ok (.iload_n 1, 1) := by decide +kernel
theorem dX11_ideal_2 : decode cX11_ideal 2 = .ok (.iload_n 2, 1) := by decide +kernel
theorem dX11_ideal_3 : decode cX11_ideal 3 = .ok (.invokevirtual 262, 3) := by decide +kernel
theorem dX11_ideal_6 : decode cX11_ideal 6 = .ok (.istore_n 3, 1) := by decide +kernel
theorem dX11_ideal_7 : decode cX11_ideal 7 = .ok (.iload_n 3, 1) := by decide +kernel
theorem dX11_ideal_8 : decode cX11_ideal 8 = .ok (.ifCond .eq 6, 3) := by decide +kernel
theorem dX11_ideal_11 : decode cX11_ideal 11 = .ok (.iload_n 3, 1) := by decide +kernel
theorem dX11_ideal_12 : decode cX11_ideal 12 = .ok (.i2l, 1) := by decide +kernel
theorem dX11_ideal_13 : decode cX11_ideal 13 = .ok (.lreturn, 1) := by decide +kernel
theorem dX11_ideal_14 : decode cX11_ideal 14 = .ok (.aload_n 0, 1) := by decide +kernel
theorem dX11_ideal_15 : decode cX11_ideal 15 = .ok (.iload_n 1, 1) := by decide +kernel
theorem dX11_ideal_16 : decode cX11_ideal 16 = .ok (.iload_n 2, 1) := by decide +kernel
theorem dX11_ideal_17 : decode cX11_ideal 17 = .ok (.invokevirtual 265, 3) := by decide +kernel
theorem dX11_ideal_20 : decode cX11_ideal 20 = .ok (.aload_n 0, 1) := by decide +kernel
theorem dX11_ideal_21 : decode cX11_ideal 21 = .ok (.getfield 70, 3) := by decide +kernel
theorem dX11_ideal_24 : decode cX11_ideal 24 = .ok (.invokevirtual 269, 3) := by decide +kernel
theorem dX11_ideal_27 : decode cX11_ideal 27 = .ok (.lreturn, 1) := by decide +kernel
theorem dX11_isInIdeal_0 : decode cX11_isInIdeal 0 = .ok (.aload_n 0, 1) := by decide +kernel
theorem dX11_isInIdeal_1 : decode cX11_isInIdeal 1 = .ok (.iload_n 1, 1) := by decide +kernel
theorem dX11_isInIdeal_2 : decode cX11_isInIdeal 2 = .ok (.iload_n 2, 1) := by decide +kernel
theorem dX11_isInIdeal_3 : decode cX11_isInIdeal 3 = .ok (.invokevirtual 272, 3) := by decide +kernel
theorem dX11_isInIdeal_6 : decode cX11_isInIdeal 6 = .ok (.ifCond .eq 12, 3) := by decide +kernel
theorem dX11_isInIdeal_9 : decode cX11_isInIdeal 9 = .ok (.aload_n 0, 1) := by decide +kernel
theorem dX11_isInIdeal_10 : decode cX11_isInIdeal 10 = .ok (.iload_n 1, 1) := by decide +kernel
theorem dX11_isInIdeal_11 : decode cX11_isInIdeal 11 = .ok (.iload_n 3, 1) := by decide +kernel
theorem dX11_isInIdeal_12 : decode cX11_isInIdeal 12 = .ok (.invokevirtual 172, 3) := by decide +kernel
theorem dX11_isInIdeal_15 : decode cX11_isInIdeal 15 = .ok (.ifCond .ne 5, 3) := by decide +kernel
theorem dX11_isInIdeal_18 : decode cX11_isInIdeal 18 = .ok (.iconst (-1), 1) := by decide +kernel
theorem dX11_isInIdeal_19 : decode cX11_isInIdeal 19 = .ok (.ireturn, 1) := by decide +kernel
theorem dX11_isInIdeal_20 : decode cX11_isInIdeal 20 = .ok (.aload_n 0, 1) := by decide +kernel
theorem dX11_isInIdeal_21 : decode cX11_isInIdeal 21 = .ok (.iload_n 1, 1) := by decide +kernel
theorem dX11_isInIdeal_22 : decode cX11_isInIdeal 22 = .ok (.iload_n 2, 1) := by decide +kernel
theorem dX11_isInIdeal_23 : decode cX11_isInIdeal 23 = .ok (.invokevirtual 262, 3) := by decide +kernel
theorem dX11_isInIdeal_26 : decode cX11_isInIdeal 26 = .ok (.istore 4, 2) := by decide +kernel
theorem dX11_isInIdeal_28 : decode cX11_isInIdeal 28 = .ok (.iload 4, 2) := by decide +kernel
theorem dX11_isInIdeal_30 : decode cX11_isInIdeal 30 = .ok (.ifCond .eq 6, 3) := by decide +kernel
theorem dX11_isInIdeal_33 : decode cX11_isInIdeal 33 = .ok (.iload 4, 2) := by decide +kernel
theorem dX11_isInIdeal_35 : decode cX11_isInIdeal 35 = .ok (.ireturn, 1) := by decide +kernel
theorem dX11_isInIdeal_36 : decode cX11_isInIdeal 36 = .ok (.aload_n 0, 1) := by decide +kernel
theorem dX11_isInIdeal_37 : decode cX11_isInIdeal 37 = .ok (.iload_n 1, 1) := by decide +kernel
theorem dX11_isInIdeal_38 : decode cX11_isInIdeal 38 = .ok (.iload_n 2, 1) := by decide +kernel
theorem dX11_isInIdeal_39 : decode cX11_isInIdeal 39 = .ok (.invokevirtual 265, 3) := by decide +kernel
theorem dX11_isInIdeal_42 : decode cX11_isInIdeal 42 = .ok (.aload_n 0, 1) := by decide +kernel
theorem dX11_isInIdeal_43 : decode cX11_isInIdeal 43 = .ok (.getfield 70, 3) := by decide +kernel
theorem dX11_isInIdeal_46 : decode cX11_isInIdeal 46 = .ok (.aload_n 0, 1) := by decide +kernel
theorem dX11_isInIdeal_47 : decode cX11_isInIdeal 47 = .ok (.getfield 43, 3) := by decide +kernel
theorem dX11_isInIdeal_50 : decode cX11_isInIdeal 50 = .ok (.iload_n 3, 1) := by decide +kernel
theorem dX11_isInIdeal_51 : decode cX11_isInIdeal 51 = .ok (.aaload, 1) := by decide +kernel
theorem dX11_isInIdeal_52 : decode cX11_isInIdeal 52 = .ok (.invokevirtual 275, 3) := by decide +kernel
theorem dX11_isInIdeal_55 : decode cX11_isInIdeal 55 = .ok (.ifCond .eq 7, 3) := by decide +kernel
theorem dX11_isInIdeal_58 : decode cX11_isInIdeal 58 = .ok (.iconst 1, 1) := by decide +kernel
theorem dX11_isInIdeal_59 : decode cX11_isInIdeal 59 = .ok (.goto 4, 3) := by decide +kernel
theorem dX11_isInIdeal_62 : decode cX11_isInIdeal 62 = .ok (.iconst 0, 1) := by decide +kernel
theorem dX11_isInIdeal_63 : decode cX11_isInIdeal 63 = .ok (.ireturn, 1) := by decide +kernel
theorem dX11_isTwoSided_0 : decode cX11_isTwoSided 0 = .ok (.aload_n 0, 1) := by decide +kernel
theorem dX11_isTwoSided_1 : decode cX11_isTwoSided 1 = .ok (.iload_n 1, 1) := by decide +kernel
theorem dX11_isTwoSided_2 : decode cX11_isTwoSided 2 = .ok (.iload_n 2, 1) := by decide +kernel
theorem dX11_isTwoSided_3 : decode cX11_isTwoSided 3 = .ok (.invokevirtual 262, 3) := by decide +kernel
theorem dX11_isTwoSided_6 : decode cX11_isTwoSided 6 = .ok (.istore_n 3, 1) := by decide +kernel
theorem dX11_isTwoSided_7 : decode cX11_isTwoSided 7 = .ok (.iload_n 3, 1) := by decide +kernel
theorem dX11_isTwoSided_8 : decode cX11_isTwoSided 8 = .ok (.ifCond .eq 5, 3) := by decide +kernel
theorem dX11_isTwoSided_11 : decode cX11_isTwoSided 11 = .ok (.iload_n 3, 1) := by decide +kernel
theorem dX11_isTwoSided_12 : decode cX11_isTwoSided 12 = .ok (.ireturn, 1) := by decide +kernel
theorem dX11_isTwoSided_13 : decode cX11_isTwoSided 13 = .ok (.aload_n 0, 1) := by decide +kernel
theorem dX11_isTwoSided_14 : decode cX11_isTwoSided 14 = .ok (.iload_n 1, 1) := by decide +kernel
theorem dX11_isTwoSided_15 : decode cX11_isTwoSided 15 = .ok (.iload_n 2, 1) := by decide +kernel
theorem dX11_isTwoSided_16 : decode cX11_isTwoSided 16 = .ok (.invokevirtual 265, 3) := by decide +kernel
theorem dX11_isTwoSided_19 : decode cX11_isTwoSided 19 = .ok (.aload_n 0, 1) := by decide +kernel
theorem dX11_isTwoSided_20 : decode cX11_isTwoSided 20 = .ok (.getfield 70, 3) := by decide +kernel
theorem dX11_isTwoSided_23 : decode cX11_isTwoSided 23 = .ok (.aload_n 0, 1) := by decide +kernel
theorem dX11_isTwoSided_24 : decode cX11_isTwoSided 24 = .ok (.getfield 43, 3) := by decide +kernel
theorem dX11_isTwoSided_27 : decode cX11_isTwoSided 27 = .ok (.iload_n 1, 1) := by decide +kernel
theorem dX11_isTwoSided_28 : decode cX11_isTwoSided 28 = .ok (.aaload, 1) := by decide +kernel
theorem dX11_isTwoSided_29 : decode cX11_isTwoSided 29 = .ok (.invokevirtual 279, 3) := by decide +kernel
theorem dX11_isTwoSided_32 : decode cX11_isTwoSided 32 = .ok (.istore 4, 2) := by decide +kernel
theorem dX11_isTwoSided_34 : decode cX11_isTwoSided 34 = .ok (.iload 4, 2) := by decide +kernel
theorem dX11_isTwoSided_36 : decode cX11_isTwoSided 36 = .ok (.ifCond .eq 23, 3) := by decide +kernel
theorem dX11_isTwoSided_39 : decode cX11_isTwoSided 39 = .ok (.iload_n 2, 1) := by decide +kernel
theorem dX11_isTwoSided_40 : decode cX11_isTwoSided 40 = .ok (.iconst (-1), 1) := by decide +kernel
theorem dX11_isTwoSided_41 : decode cX11_isTwoSided 41 = .ok (.if_icmp .eq 18, 3) := by decide +kernel
theorem dX11_isTwoSided_44 : decode cX11_isTwoSided 44 = .ok (.aload_n 0, 1) := by decide +kernel
theorem dX11_isTwoSided_45 : decode cX11_isTwoSided 45 = .ok (.getfield 70, 3) := by decide +kernel
theorem dX11_isTwoSided_48 : decode cX11_isTwoSided 48 = .ok (.aload_n 0, 1) := by decide +kernel
theorem dX11_isTwoSided_49 : decode cX11_isTwoSided 49 = .ok (.getfield 43, 3) := by decide +kernel
theorem dX11_isTwoSided_52 : decode cX11_isTwoSided 52 = .ok (.iload_n 2, 1) := by decide +kernel
theorem dX11_isTwoSided_53 : decode cX11_isTwoSided 53 = .ok (.aaload, 1) := by decide +kernel
theorem dX11_isTwoSided_54 : decode cX11_isTwoSided 54 = .ok (.invokevirtual 279, 3) := by decide +kernel
theorem dX11_isTwoSided_57 : decode cX11_isTwoSided 57 = .ok (.istore 4, 2) := by decide +kernel
theorem dX11_isTwoSided_59 : decode cX11_isTwoSided 59 = .ok (.iload 4, 2) := by decide +kernel
theorem dX11_isTwoSided_61 : decode cX11_isTwoSided 61 = .ok (.ifCond .eq 7, 3) := by decide +kernel
theorem dX11_isTwoSided_64 : decode cX11_isTwoSided 64 = .ok (.iconst 1, 1) := by decide +kernel
theorem dX11_isTwoSided_65 : decode cX11_isTwoSided 65 = .ok (.goto 4, 3) := by decide +kernel
theorem dX11_isTwoSided_68 : decode cX11_isTwoSided 68 = .ok (.iconst 0, 1) := by decide +kernel
theorem dX11_isTwoSided_69 : decode cX11_isTwoSided 69 = .ok (.ireturn, 1) := by decide +kernel
theorem dX11_many_0 : decode cX11_many 0 = .ok (.aload_n 0, 1) := by decide +kernel
theorem dX11_many_1 : decode cX11_many 1 = .ok (.iload_n 1, 1) := by decide +kernel
theorem dX11_many_2 : decode cX11_many 2 = .ok (.invokevirtual 102, 3) := by decide +kernel
theorem dX11_many_5 : decode cX11_many 5 = .ok (.ifCond .eq 13, 3) := by decide +kernel
theorem dX11_many_8 : decode cX11_many 8 = .ok (.iload_n 2, 1) := by decide +kernel
theorem dX11_many_9 : decode cX11_many 9 = .ok (.ifCond .lt 9, 3) := by decide +kernel
theorem dX11_many_12 : decode cX11_many 12 = .ok (.iload_n 2, 1) := by decide +kernel
theorem dX11_many_13 : decode cX11_many 13 = .ok (.bipush 12, 2) := by decide +kernel
theorem dX11_many_15 : decode cX11_many 15 = .ok (.if_icmp .le 5, 3) := by decide +kernel
theorem dX11_many_18 : decode cX11_many 18 = .ok (.iconst (-1), 1) := by decide +kernel
theorem dX11_many_19 : decode cX11_many 19 = .ok (.ireturn, 1) := by decide +kernel
theorem dX11_many_20 : decode cX11_many 20 = .ok (.aload_n 0, 1) := by decide +kernel
theorem dX11_many_21 : decode cX11_many 21 = .ok (.getfield 27, 3) := by decide +kernel
theorem dX11_many_24 : decode cX11_many 24 = .ok (.iload_n 1, 1) := by decide +kernel
theorem dX11_many_25 : decode cX11_many 25 = .ok (.invokevirtual 106, 3) := by decide +kernel
theorem dX11_many_28 : decode cX11_many 28 = .ok (.ifCond .ge 14, 3) := by decide +kernel
theorem dX11_many_31 : decode cX11_many 31 = .ok (.aload_n 0, 1) := by decide +kernel
theorem dX11_many_32 : decode cX11_many 32 = .ok (.getfield 27, 3) := by decide +kernel
theorem dX11_many_35 : decode cX11_many 35 = .ok (.iload_n 1, 1) := by decide +kernel
theorem dX11_many_36 : decode cX11_many 36 = .ok (.invokevirtual 110, 3) := by decide +kernel
theorem dX11_many_39 : decode cX11_many 39 = .ok (.ifCond .lt 5, 3) := by decide +kernel
theorem dX11_many_42 : decode cX11_many 42 = .ok (.iconst (-1), 1) := by decide +kernel
theorem dX11_many_43 : decode cX11_many 43 = .ok (.ireturn, 1) := by decide +kernel
theorem dX11_many_44 : decode cX11_many 44 = .ok (.aload_n 0, 1) := by decide +kernel
theorem dX11_many_45 : decode cX11_many 45 = .ok (.getfield 49, 3) := by decide +kernel
theorem dX11_many_48 : decode cX11_many 48 = .ok (.iload_n 1, 1) := by decide +kernel
theorem dX11_many_49 : decode cX11_many 49 = .ok (.aaload, 1) := by decide +kernel
theorem dX11_many_50 : decode cX11_many 50 = .ok (.iload_n 2, 1) := by decide +kernel
theorem dX11_many_51 : decode cX11_many 51 = .ok (.invokevirtual 292, 3) := by decide +kernel
theorem dX11_many_54 : decode cX11_many 54 = .ok (.ireturn, 1) := by decide +kernel
theorem dX11_keptBits_0 : decode cX11_keptBits 0 = .ok (.iconst 0, 1) := by decide +kernel
theorem dX11_keptBits_1 : decode cX11_keptBits 1 = .ok (.istore_n 1, 1) := by decide +kernel
theorem dX11_keptBits_2 : decode cX11_keptBits 2 = .ok (.iconst 0, 1) := by decide +kernel
theorem dX11_keptBits_3 : decode cX11_keptBits 3 = .ok (.istore_n 2, 1) := by decide +kernel
theorem dX11_keptBits_4 : decode cX11_keptBits 4 = .ok (.iload_n 2, 1) := by decide +kernel
theorem dX11_keptBits_5 : decode cX11_keptBits 5 = .ok (.bipush 8, 2) := by decide +kernel
theorem dX11_keptBits_7 : decode cX11_keptBits 7 = .ok (.if_icmp .ge 31, 3) := by decide +kernel
theorem dX11_keptBits_10 : decode cX11_keptBits 10 = .ok (.iload_n 1, 1) := by decide +kernel
theorem dX11_keptBits_11 : decode cX11_keptBits 11 = .ok (.aload_n 0, 1) := by decide +kernel
theorem dX11_keptBits_12 : decode cX11_keptBits 12 = .ok (.getfield 43, 3) := by decide +kernel
theorem dX11_keptBits_15 : decode cX11_keptBits 15 = .ok (.iload_n 2, 1) := by decide +kernel
theorem dX11_keptBits_16 : decode cX11_keptBits 16 = .ok (.aaload, 1) := by decide +kernel
theorem dX11_keptBits_17 : decode cX11_keptBits 17 = .ok (.invokevirtual 199, 3) := by decide +kernel
theorem dX11_keptBits_20 : decode cX11_keptBits 20 = .ok (.ifCond .eq 9, 3) := by decide +kernel
theorem dX11_keptBits_23 : decode cX11_keptBits 23 = .ok (.iconst 1, 1) := by decide +kernel
theorem dX11_keptBits_24 : decode cX11_keptBits 24 = .ok (.iload_n 2, 1) := by decide +kernel
theorem dX11_keptBits_25 : decode cX11_keptBits 25 = .ok (.ishl, 1) := by decide +kernel
theorem dX11_keptBits_26 : decode cX11_keptBits 26 = .ok (.goto 4, 3) := by decide +kernel
theorem dX11_keptBits_29 : decode cX11_keptBits 29 = .ok (.iconst 0, 1) := by decide +kernel
theorem dX11_keptBits_30 : decode cX11_keptBits 30 = .ok (.ior, 1) := by decide +kernel
theorem dX11_keptBits_31 : decode cX11_keptBits 31 = .ok (.istore_n 1, 1) := by decide +kernel
theorem dX11_keptBits_32 : decode cX11_keptBits 32 = .ok (.iinc 2 1, 3) := by decide +kernel
theorem dX11_keptBits_35 : decode cX11_keptBits 35 = .ok (.goto (-31), 3) := by decide +kernel
theorem dX11_keptBits_38 : decode cX11_keptBits 38 = .ok (.iload_n 1, 1) := by decide +kernel
theorem dX11_keptBits_39 : decode cX11_keptBits 39 = .ok (.ireturn, 1) := by decide +kernel
theorem dX11_count_0 : decode cX11_count 0 = .ok (.iload_n 1, 1) := by decide +kernel
theorem dX11_count_1 : decode cX11_count 1 = .ok (.tableswitch 45 0 2 #[27, 35, 40], 27) := by decide +kernel
theorem dX11_count_28 : decode cX11_count 28 = .ok (.aload_n 0, 1) := by decide +kernel
theorem dX11_count_29 : decode cX11_count 29 = .ok (.getfield 27, 3) := by decide +kernel
theorem dX11_count_32 : decode cX11_count 32 = .ok (.invokevirtual 91, 3) := by decide +kernel
theorem dX11_count_35 : decode cX11_count 35 = .ok (.ireturn, 1) := by decide +kernel
theorem dX11_count_36 : decode cX11_count 36 = .ok (.aload_n 0, 1) := by decide +kernel
theorem dX11_count_37 : decode cX11_count 37 = .ok (.invokevirtual 295, 3) := by decide +kernel
theorem dX11_count_40 : decode cX11_count 40 = .ok (.ireturn, 1) := by decide +kernel
theorem dX11_count_41 : decode cX11_count 41 = .ok (.aload_n 0, 1) := by decide +kernel
theorem dX11_count_42 : decode cX11_count 42 = .ok (.getfield 13, 3) := by decide +kernel
theorem dX11_count_45 : decode cX11_count 45 = .ok (.ireturn, 1) := by decide +kernel
theorem dX11_count_46 : decode cX11_count 46 = .ok (.iconst (-1), 1) := by decide +kernel
theorem dX11_count_47 : decode cX11_count 47 = .ok (.ireturn, 1) := by decide +kernel
theorem dX12_thrown_0 : decode cX12_thrown 0 = .ok (.aload_n 0, 1) := by decide +kernel
theorem dX12_thrown_1 : decode cX12_thrown 1 = .ok (.getfield 75, 3) := by decide +kernel
theorem dX12_thrown_4 : decode cX12_thrown 4 = .ok (.ireturn, 1) := by decide +kernel
theorem dX12_within_0 : decode cX12_within 0 = .ok (.lload_n 0, 1) := by decide +kernel
theorem dX12_within_1 : decode cX12_within 1 = .ok (.lload_n 2, 1) := by decide +kernel
theorem dX12_within_2 : decode cX12_within 2 = .ok (.lcmp, 1) := by decide +kernel
theorem dX12_within_3 : decode cX12_within 3 = .ok (.ifCond .lt 14, 3) := by decide +kernel
theorem dX12_within_6 : decode cX12_within 6 = .ok (.lload_n 0, 1) := by decide +kernel
theorem dX12_within_7 : decode cX12_within 7 = .ok (.lload 4, 2) := by decide +kernel
theorem dX12_within_9 : decode cX12_within 9 = .ok (.lcmp, 1) := by decide +kernel
theorem dX12_within_10 : decode cX12_within 10 = .ok (.ifCond .gt 7, 3) := by decide +kernel
theorem dX12_within_13 : decode cX12_within 13 = .ok (.iconst 1, 1) := by decide +kernel
theorem dX12_within_14 : decode cX12_within 14 = .ok (.goto 4, 3) := by decide +kernel
theorem dX12_within_17 : decode cX12_within 17 = .ok (.iconst 0, 1) := by decide +kernel
theorem dX12_within_18 : decode cX12_within 18 = .ok (.ireturn, 1) := by decide +kernel
theorem dX12_puts_0 : decode cX12_puts 0 = .ok (.bipush 24, 2) := by decide +kernel
theorem dX12_puts_2 : decode cX12_puts 2 = .ok (.istore_n 2, 1) := by decide +kernel
theorem dX12_puts_3 : decode cX12_puts 3 = .ok (.iload_n 2, 1) := by decide +kernel
theorem dX12_puts_4 : decode cX12_puts 4 = .ok (.ifCond .lt 32, 3) := by decide +kernel
theorem dX12_puts_7 : decode cX12_puts 7 = .ok (.aload_n 0, 1) := by decide +kernel
theorem dX12_puts_8 : decode cX12_puts 8 = .ok (.getfield 7, 3) := by decide +kernel
theorem dX12_puts_11 : decode cX12_puts 11 = .ok (.aload_n 0, 1) := by decide +kernel
theorem dX12_puts_12 : decode cX12_puts 12 = .ok (.getfield 79, 3) := by decide +kernel
theorem dX12_puts_15 : decode cX12_puts 15 = .ok (.iload_n 1, 1) := by decide +kernel
theorem dX12_puts_16 : decode cX12_puts 16 = .ok (.iload_n 2, 1) := by decide +kernel
theorem dX12_puts_17 : decode cX12_puts 17 = .ok (.ishr, 1) := by decide +kernel
theorem dX12_puts_18 : decode cX12_puts 18 = .ok (.i2b, 1) := by decide +kernel
theorem dX12_puts_19 : decode cX12_puts 19 = .ok (.bastore, 1) := by decide +kernel
theorem dX12_puts_20 : decode cX12_puts 20 = .ok (.aload_n 0, 1) := by decide +kernel
theorem dX12_puts_21 : decode cX12_puts 21 = .ok (.dup, 1) := by decide +kernel
theorem dX12_puts_22 : decode cX12_puts 22 = .ok (.getfield 79, 3) := by decide +kernel
theorem dX12_puts_25 : decode cX12_puts 25 = .ok (.iconst 1, 1) := by decide +kernel
theorem dX12_puts_26 : decode cX12_puts 26 = .ok (.iadd, 1) := by decide +kernel
theorem dX12_puts_27 : decode cX12_puts 27 = .ok (.putfield 79, 3) := by decide +kernel
theorem dX12_puts_30 : decode cX12_puts 30 = .ok (.iinc 2 (-8), 3) := by decide +kernel
theorem dX12_puts_33 : decode cX12_puts 33 = .ok (.goto (-30), 3) := by decide +kernel
theorem dX12_puts_36 : decode cX12_puts 36 = .ok (.return_, 1) := by decide +kernel
theorem dX12_feed_0 : decode cX12_feed 0 = .ok (.aload_n 0, 1) := by decide +kernel
theorem dX12_feed_1 : decode cX12_feed 1 = .ok (.iconst 0, 1) := by decide +kernel
theorem dX12_feed_2 : decode cX12_feed 2 = .ok (.putfield 75, 3) := by decide +kernel
theorem dX12_feed_5 : decode cX12_feed 5 = .ok (.aload_n 0, 1) := by decide +kernel
theorem dX12_feed_6 : decode cX12_feed 6 = .ok (.getfield 79, 3) := by decide +kernel
theorem dX12_feed_9 : decode cX12_feed 9 = .ok (.bipush 20, 2) := by decide +kernel
theorem dX12_feed_11 : decode cX12_feed 11 = .ok (.iadd, 1) := by decide +kernel
theorem dX12_feed_12 : decode cX12_feed 12 = .ok (.sipush 600, 3) := by decide +kernel
theorem dX12_feed_15 : decode cX12_feed 15 = .ok (.if_icmp .le 5, 3) := by decide +kernel
theorem dX12_feed_18 : decode cX12_feed 18 = .ok (.iconst (-1), 1) := by decide +kernel
theorem dX12_feed_19 : decode cX12_feed 19 = .ok (.ireturn, 1) := by decide +kernel
theorem dX12_feed_20 : decode cX12_feed 20 = .ok (.aload_n 0, 1) := by decide +kernel
theorem dX12_feed_21 : decode cX12_feed 21 = .ok (.iload_n 1, 1) := by decide +kernel
theorem dX12_feed_22 : decode cX12_feed 22 = .ok (.invokevirtual 82, 3) := by decide +kernel
theorem dX12_feed_25 : decode cX12_feed 25 = .ok (.aload_n 0, 1) := by decide +kernel
theorem dX12_feed_26 : decode cX12_feed 26 = .ok (.iload_n 2, 1) := by decide +kernel
theorem dX12_feed_27 : decode cX12_feed 27 = .ok (.invokevirtual 82, 3) := by decide +kernel
theorem dX12_feed_30 : decode cX12_feed 30 = .ok (.aload_n 0, 1) := by decide +kernel
theorem dX12_feed_31 : decode cX12_feed 31 = .ok (.iload_n 3, 1) := by decide +kernel
theorem dX12_feed_32 : decode cX12_feed 32 = .ok (.invokevirtual 82, 3) := by decide +kernel
theorem dX12_feed_35 : decode cX12_feed 35 = .ok (.aload_n 0, 1) := by decide +kernel
theorem dX12_feed_36 : decode cX12_feed 36 = .ok (.iload 4, 2) := by decide +kernel
theorem dX12_feed_38 : decode cX12_feed 38 = .ok (.invokevirtual 82, 3) := by decide +kernel
theorem dX12_feed_41 : decode cX12_feed 41 = .ok (.aload_n 0, 1) := by decide +kernel
theorem dX12_feed_42 : decode cX12_feed 42 = .ok (.iload 5, 2) := by decide +kernel
theorem dX12_feed_44 : decode cX12_feed 44 = .ok (.invokevirtual 82, 3) := by decide +kernel
theorem dX12_feed_47 : decode cX12_feed 47 = .ok (.aload_n 0, 1) := by decide +kernel
theorem dX12_feed_48 : decode cX12_feed 48 = .ok (.getfield 79, 3) := by decide +kernel
theorem dX12_feed_51 : decode cX12_feed 51 = .ok (.ireturn, 1) := by decide +kernel
theorem dX12_see_0 : decode cX12_see 0 = .ok (.iload_n 1, 1) := by decide +kernel
theorem dX12_see_1 : decode cX12_see 1 = .ok (.aload_n 0, 1) := by decide +kernel
theorem dX12_see_2 : decode cX12_see 2 = .ok (.getfield 86, 3) := by decide +kernel
theorem dX12_see_5 : decode cX12_see 5 = .ok (.if_icmp .ge 16, 3) := by decide +kernel
theorem dX12_see_8 : decode cX12_see 8 = .ok (.aload_n 0, 1) := by decide +kernel
theorem dX12_see_9 : decode cX12_see 9 = .ok (.getfield 7, 3) := by decide +kernel
theorem dX12_see_12 : decode cX12_see 12 = .ok (.iload_n 1, 1) := by decide +kernel
theorem dX12_see_13 : decode cX12_see 13 = .ok (.baload, 1) := by decide +kernel
theorem dX12_see_14 : decode cX12_see 14 = .ok (.sipush 255, 3) := by decide +kernel
theorem dX12_see_17 : decode cX12_see 17 = .ok (.iand, 1) := by decide +kernel
theorem dX12_see_18 : decode cX12_see 18 = .ok (.goto 4, 3) := by decide +kernel
theorem dX12_see_21 : decode cX12_see 21 = .ok (.iconst (-1), 1) := by decide +kernel
theorem dX12_see_22 : decode cX12_see 22 = .ok (.ireturn, 1) := by decide +kernel
theorem dX12_steps_0 : decode cX12_steps 0 = .ok (.aload_n 0, 1) := by decide +kernel
theorem dX12_steps_1 : decode cX12_steps 1 = .ok (.aload_n 0, 1) := by decide +kernel
theorem dX12_steps_2 : decode cX12_steps 2 = .ok (.getfield 89, 3) := by decide +kernel
theorem dX12_steps_5 : decode cX12_steps 5 = .ok (.putfield 92, 3) := by decide +kernel
theorem dX12_steps_8 : decode cX12_steps 8 = .ok (.aload_n 0, 1) := by decide +kernel
theorem dX12_steps_9 : decode cX12_steps 9 = .ok (.aload_n 0, 1) := by decide +kernel
theorem dX12_steps_10 : decode cX12_steps 10 = .ok (.getfield 92, 3) := by decide +kernel
theorem dX12_steps_13 : decode cX12_steps 13 = .ok (.invokevirtual 95, 3) := by decide +kernel
theorem dX12_steps_16 : decode cX12_steps 16 = .ok (.bipush 32, 2) := by decide +kernel
theorem dX12_steps_18 : decode cX12_steps 18 = .ok (.if_icmp .eq 16, 3) := by decide +kernel
theorem dX12_steps_21 : decode cX12_steps 21 = .ok (.aload_n 0, 1) := by decide +kernel
theorem dX12_steps_22 : decode cX12_steps 22 = .ok (.aload_n 0, 1) := by decide +kernel
theorem dX12_steps_23 : decode cX12_steps 23 = .ok (.getfield 92, 3) := by decide +kernel
theorem dX12_steps_26 : decode cX12_steps 26 = .ok (.invokevirtual 95, 3) := by decide +kernel
theorem dX12_steps_29 : decode cX12_steps 29 = .ok (.bipush 10, 2) := by decide +kernel
theorem dX12_steps_31 : decode cX12_steps 31 = .ok (.if_icmp .ne 16, 3) := by decide +kernel
theorem dX12_steps_34 : decode cX12_steps 34 = .ok (.aload_n 0, 1) := by decide +kernel
theorem dX12_steps_35 : decode cX12_steps 35 = .ok (.dup, 1) := by decide +kernel
theorem dX12_steps_36 : decode cX12_steps 36 = .ok (.getfield 92, 3) := by decide +kernel
theorem dX12_steps_39 : decode cX12_steps 39 = .ok (.iconst 1, 1) := by decide +kernel
theorem dX12_steps_40 : decode cX12_steps 40 = .ok (.iadd, 1) := by decide +kernel
theorem dX12_steps_41 : decode cX12_steps 41 = .ok (.putfield 92, 3) := by decide +kernel
theorem dX12_steps_44 : decode cX12_steps 44 = .ok (.goto (-36), 3) := by decide +kernel
theorem dX12_steps_47 : decode cX12_steps 47 = .ok (.aload_n 0, 1) := by decide +kernel
theorem dX12_steps_48 : decode cX12_steps 48 = .ok (.aload_n 0, 1) := by decide +kernel
theorem dX12_steps_49 : decode cX12_steps 49 = .ok (.getfield 92, 3) := by decide +kernel
theorem dX12_steps_52 : decode cX12_steps 52 = .ok (.invokevirtual 95, 3) := by decide +kernel
theorem dX12_steps_55 : decode cX12_steps 55 = .ok (.istore_n 1, 1) := by decide +kernel
theorem dX12_steps_56 : decode cX12_steps 56 = .ok (.aload_n 0, 1) := by decide +kernel
theorem dX12_steps_57 : decode cX12_steps 57 = .ok (.aload_n 0, 1) := by decide +kernel
theorem dX12_steps_58 : decode cX12_steps 58 = .ok (.getfield 92, 3) := by decide +kernel
theorem dX12_steps_61 : decode cX12_steps 61 = .ok (.iconst 1, 1) := by decide +kernel
theorem dX12_steps_62 : decode cX12_steps 62 = .ok (.iadd, 1) := by decide +kernel
theorem dX12_steps_63 : decode cX12_steps 63 = .ok (.putfield 89, 3) := by decide +kernel
theorem dX12_steps_66 : decode cX12_steps 66 = .ok (.aload_n 0, 1) := by decide +kernel
theorem dX12_steps_67 : decode cX12_steps 67 = .ok (.iconst 4, 1) := by decide +kernel
theorem dX12_steps_68 : decode cX12_steps 68 = .ok (.putfield 99, 3) := by decide +kernel
theorem dX12_steps_71 : decode cX12_steps 71 = .ok (.aload_n 0, 1) := by decide +kernel
theorem dX12_steps_72 : decode cX12_steps 72 = .ok (.iconst 0, 1) := by decide +kernel
theorem dX12_steps_73 : decode cX12_steps 73 = .ok (.putfield 102, 3) := by decide +kernel
theorem dX12_steps_76 : decode cX12_steps 76 = .ok (.aload_n 0, 1) := by decide +kernel
theorem dX12_steps_77 : decode cX12_steps 77 = .ok (.lconst 0, 1) := by decide +kernel
theorem dX12_steps_78 : decode cX12_steps 78 = .ok (.putfield 105, 3) := by decide +kernel
theorem dX12_steps_81 : decode cX12_steps 81 = .ok (.iload_n 1, 1) := by decide +kernel
theorem dX12_steps_82 : decode cX12_steps 82 = .ok (.iconst (-1), 1) := by decide +kernel
theorem dX12_steps_83 : decode cX12_steps 83 = .ok (.if_icmp .ne 19, 3) := by decide +kernel
theorem dX12_steps_86 : decode cX12_steps 86 = .ok (.aload_n 0, 1) := by decide +kernel
theorem dX12_steps_87 : decode cX12_steps 87 = .ok (.aload_n 0, 1) := by decide +kernel
theorem dX12_steps_88 : decode cX12_steps 88 = .ok (.getfield 92, 3) := by decide +kernel
theorem dX12_steps_91 : decode cX12_steps 91 = .ok (.putfield 89, 3) := by decide +kernel
theorem dX12_steps_94 : decode cX12_steps 94 = .ok (.aload_n 0, 1) := by decide +kernel
theorem dX12_steps_95 : decode cX12_steps 95 = .ok (.iconst 0, 1) := by decide +kernel
theorem dX12_steps_96 : decode cX12_steps 96 = .ok (.putfield 99, 3) := by decide +kernel
theorem dX12_steps_99 : decode cX12_steps 99 = .ok (.goto 256, 3) := by decide +kernel
theorem dX12_steps_102 : decode cX12_steps 102 = .ok (.iload_n 1, 1) := by decide +kernel
theorem dX12_steps_103 : decode cX12_steps 103 = .ok (.bipush 59, 2) := by decide +kernel
theorem dX12_steps_105 : decode cX12_steps 105 = .ok (.if_icmp .eq 15, 3) := by decide +kernel
theorem dX12_steps_108 : decode cX12_steps 108 = .ok (.iload_n 1, 1) := by decide +kernel
theorem dX12_steps_109 : decode cX12_steps 109 = .ok (.bipush 43, 2) := by decide +kernel
theorem dX12_steps_111 : decode cX12_steps 111 = .ok (.if_icmp .eq 9, 3) := by decide +kernel
theorem dX12_steps_114 : decode cX12_steps 114 = .ok (.iload_n 1, 1) := by decide +kernel
theorem dX12_steps_115 : decode cX12_steps 115 = .ok (.bipush 45, 2) := by decide +kernel
theorem dX12_steps_117 : decode cX12_steps 117 = .ok (.if_icmp .ne 11, 3) := by decide +kernel
theorem dX12_steps_120 : decode cX12_steps 120 = .ok (.aload_n 0, 1) := by decide +kernel
theorem dX12_steps_121 : decode cX12_steps 121 = .ok (.iconst 3, 1) := by decide +kernel
theorem dX12_steps_122 : decode cX12_steps 122 = .ok (.putfield 99, 3) := by decide +kernel
theorem dX12_steps_125 : decode cX12_steps 125 = .ok (.goto 230, 3) := by decide +kernel
theorem dX12_steps_128 : decode cX12_steps 128 = .ok (.iload_n 1, 1) := by decide +kernel
theorem dX12_steps_129 : decode cX12_steps 129 = .ok (.i2l, 1) := by decide +kernel
theorem dX12_steps_130 : decode cX12_steps 130 = .ok (.ldc2_w 109, 3) := by decide +kernel
theorem dX12_steps_133 : decode cX12_steps 133 = .ok (.ldc2_w 111, 3) := by decide +kernel
theorem dX12_steps_136 : decode cX12_steps 136 = .ok (.invokestatic 113, 3) := by decide +kernel
theorem dX12_steps_139 : decode cX12_steps 139 = .ok (.ifCond .eq 116, 3) := by decide +kernel
theorem dX12_steps_142 : decode cX12_steps 142 = .ok (.aload_n 0, 1) := by decide +kernel
theorem dX12_steps_143 : decode cX12_steps 143 = .ok (.aload_n 0, 1) := by decide +kernel
theorem dX12_steps_144 : decode cX12_steps 144 = .ok (.getfield 92, 3) := by decide +kernel
theorem dX12_steps_147 : decode cX12_steps 147 = .ok (.putfield 89, 3) := by decide +kernel
theorem dX12_steps_150 : decode cX12_steps 150 = .ok (.aload_n 0, 1) := by decide +kernel
theorem dX12_steps_151 : decode cX12_steps 151 = .ok (.aload_n 0, 1) := by decide +kernel
theorem dX12_steps_152 : decode cX12_steps 152 = .ok (.getfield 89, 3) := by decide +kernel
theorem dX12_steps_155 : decode cX12_steps 155 = .ok (.invokevirtual 95, 3) := by decide +kernel
theorem dX12_steps_158 : decode cX12_steps 158 = .ok (.i2l, 1) := by decide +kernel
theorem dX12_steps_159 : decode cX12_steps 159 = .ok (.ldc2_w 109, 3) := by decide +kernel
theorem dX12_steps_162 : decode cX12_steps 162 = .ok (.ldc2_w 111, 3) := by decide +kernel
theorem dX12_steps_165 : decode cX12_steps 165 = .ok (.invokestatic 113, 3) := by decide +kernel
theorem dX12_steps_168 : decode cX12_steps 168 = .ok (.ifCond .eq 61, 3) := by decide +kernel
theorem dX12_steps_171 : decode cX12_steps 171 = .ok (.aload_n 0, 1) := by decide +kernel
theorem dX12_steps_172 : decode cX12_steps 172 = .ok (.aload_n 0, 1) := by decide +kernel
theorem dX12_steps_173 : decode cX12_steps 173 = .ok (.getfield 89, 3) := by decide +kernel
theorem dX12_steps_176 : decode cX12_steps 176 = .ok (.aload_n 0, 1) := by decide +kernel
theorem dX12_steps_177 : decode cX12_steps 177 = .ok (.getfield 92, 3) := by decide +kernel
theorem dX12_steps_180 : decode cX12_steps 180 = .ok (.isub, 1) := by decide +kernel
theorem dX12_steps_181 : decode cX12_steps 181 = .ok (.bipush 10, 2) := by decide +kernel
theorem dX12_steps_183 : decode cX12_steps 183 = .ok (.if_icmp .ge 26, 3) := by decide +kernel
theorem dX12_steps_186 : decode cX12_steps 186 = .ok (.aload_n 0, 1) := by decide +kernel
theorem dX12_steps_187 : decode cX12_steps 187 = .ok (.getfield 105, 3) := by decide +kernel
theorem dX12_steps_190 : decode cX12_steps 190 = .ok (.iconst 5, 1) := by decide +kernel
theorem dX12_steps_191 : decode cX12_steps 191 = .ok (.lshl, 1) := by decide +kernel
theorem dX12_steps_192 : decode cX12_steps 192 = .ok (.aload_n 0, 1) := by decide +kernel
theorem dX12_steps_193 : decode cX12_steps 193 = .ok (.aload_n 0, 1) := by decide +kernel
theorem dX12_steps_194 : decode cX12_steps 194 = .ok (.getfield 89, 3) := by decide +kernel
theorem dX12_steps_197 : decode cX12_steps 197 = .ok (.invokevirtual 95, 3) := by decide +kernel
theorem dX12_steps_200 : decode cX12_steps 200 = .ok (.i2l, 1) := by decide +kernel
theorem dX12_steps_201 : decode cX12_steps 201 = .ok (.ldc2_w 117, 3) := by decide +kernel
theorem dX12_steps_204 : decode cX12_steps 204 = .ok (.lsub, 1) := by decide +kernel
theorem dX12_steps_205 : decode cX12_steps 205 = .ok (.lor, 1) := by decide +kernel
theorem dX12_steps_206 : decode cX12_steps 206 = .ok (.goto 7, 3) := by decide +kernel
theorem dX12_steps_209 : decode cX12_steps 209 = .ok (.aload_n 0, 1) := by decide +kernel
theorem dX12_steps_210 : decode cX12_steps 210 = .ok (.getfield 105, 3) := by decide +kernel
theorem dX12_steps_213 : decode cX12_steps 213 = .ok (.putfield 105, 3) := by decide +kernel
theorem dX12_steps_216 : decode cX12_steps 216 = .ok (.aload_n 0, 1) := by decide +kernel
theorem dX12_steps_217 : decode cX12_steps 217 = .ok (.dup, 1) := by decide +kernel
theorem dX12_steps_218 : decode cX12_steps 218 = .ok (.getfield 89, 3) := by decide +kernel
theorem dX12_steps_221 : decode cX12_steps 221 = .ok (.iconst 1, 1) := by decide +kernel
theorem dX12_steps_222 : decode cX12_steps 222 = .ok (.iadd, 1) := by decide +kernel
theorem dX12_steps_223 : decode cX12_steps 223 = .ok (.putfield 89, 3) := by decide +kernel
theorem dX12_steps_226 : decode cX12_steps 226 = .ok (.goto (-76), 3) := by decide +kernel
theorem dX12_steps_229 : decode cX12_steps 229 = .ok (.aload_n 0, 1) := by decide +kernel
theorem dX12_steps_230 : decode cX12_steps 230 = .ok (.aload_n 0, 1) := by decide +kernel
theorem dX12_steps_231 : decode cX12_steps 231 = .ok (.getfield 89, 3) := by decide +kernel
theorem dX12_steps_234 : decode cX12_steps 234 = .ok (.aload_n 0, 1) := by decide +kernel
theorem dX12_steps_235 : decode cX12_steps 235 = .ok (.getfield 92, 3) := by decide +kernel
theorem dX12_steps_238 : decode cX12_steps 238 = .ok (.isub, 1) := by decide +kernel
theorem dX12_steps_239 : decode cX12_steps 239 = .ok (.bipush 11, 2) := by decide +kernel
theorem dX12_steps_241 : decode cX12_steps 241 = .ok (.if_icmp .ge 7, 3) := by decide +kernel
theorem dX12_steps_244 : decode cX12_steps 244 = .ok (.iconst 1, 1) := by decide +kernel
theorem dX12_steps_245 : decode cX12_steps 245 = .ok (.goto 4, 3) := by decide +kernel
theorem dX12_steps_248 : decode cX12_steps 248 = .ok (.iconst 4, 1) := by decide +kernel
theorem dX12_steps_249 : decode cX12_steps 249 = .ok (.putfield 99, 3) := by decide +kernel
theorem dX12_steps_252 : decode cX12_steps 252 = .ok (.goto 103, 3) := by decide +kernel
theorem dX12_steps_255 : decode cX12_steps 255 = .ok (.iload_n 1, 1) := by decide +kernel
theorem dX12_steps_256 : decode cX12_steps 256 = .ok (.i2l, 1) := by decide +kernel
theorem dX12_steps_257 : decode cX12_steps 257 = .ok (.ldc2_w 119, 3) := by decide +kernel
theorem dX12_steps_260 : decode cX12_steps 260 = .ok (.ldc2_w 121, 3) := by decide +kernel
theorem dX12_steps_263 : decode cX12_steps 263 = .ok (.invokestatic 113, 3) := by decide +kernel
theorem dX12_steps_266 : decode cX12_steps 266 = .ok (.ifCond .eq 89, 3) := by decide +kernel
theorem dX12_steps_269 : decode cX12_steps 269 = .ok (.aload_n 0, 1) := by decide +kernel
theorem dX12_steps_270 : decode cX12_steps 270 = .ok (.aload_n 0, 1) := by decide +kernel
theorem dX12_steps_271 : decode cX12_steps 271 = .ok (.getfield 92, 3) := by decide +kernel
theorem dX12_steps_274 : decode cX12_steps 274 = .ok (.putfield 89, 3) := by decide +kernel
theorem dX12_steps_277 : decode cX12_steps 277 = .ok (.aload_n 0, 1) := by decide +kernel
theorem dX12_steps_278 : decode cX12_steps 278 = .ok (.aload_n 0, 1) := by decide +kernel
theorem dX12_steps_279 : decode cX12_steps 279 = .ok (.getfield 89, 3) := by decide +kernel
theorem dX12_steps_282 : decode cX12_steps 282 = .ok (.invokevirtual 95, 3) := by decide +kernel
theorem dX12_steps_285 : decode cX12_steps 285 = .ok (.i2l, 1) := by decide +kernel
theorem dX12_steps_286 : decode cX12_steps 286 = .ok (.ldc2_w 119, 3) := by decide +kernel
theorem dX12_steps_289 : decode cX12_steps 289 = .ok (.ldc2_w 121, 3) := by decide +kernel
theorem dX12_steps_292 : decode cX12_steps 292 = .ok (.invokestatic 113, 3) := by decide +kernel
theorem dX12_steps_295 : decode cX12_steps 295 = .ok (.ifCond .eq 55, 3) := by decide +kernel
theorem dX12_steps_298 : decode cX12_steps 298 = .ok (.aload_n 0, 1) := by decide +kernel
theorem dX12_steps_299 : decode cX12_steps 299 = .ok (.aload_n 0, 1) := by decide +kernel
theorem dX12_steps_300 : decode cX12_steps 300 = .ok (.getfield 102, 3) := by decide +kernel
theorem dX12_steps_303 : decode cX12_steps 303 = .ok (.ldc 123, 2) := by decide +kernel
theorem dX12_steps_305 : decode cX12_steps 305 = .ok (.if_icmp .ge 25, 3) := by decide +kernel
theorem dX12_steps_308 : decode cX12_steps 308 = .ok (.bipush 10, 2) := by decide +kernel
theorem dX12_steps_310 : decode cX12_steps 310 = .ok (.aload_n 0, 1) := by decide +kernel
theorem dX12_steps_311 : decode cX12_steps 311 = .ok (.getfield 102, 3) := by decide +kernel
theorem dX12_steps_314 : decode cX12_steps 314 = .ok (.imul, 1) := by decide +kernel
theorem dX12_steps_315 : decode cX12_steps 315 = .ok (.aload_n 0, 1) := by decide +kernel
theorem dX12_steps_316 : decode cX12_steps 316 = .ok (.aload_n 0, 1) := by decide +kernel
theorem dX12_steps_317 : decode cX12_steps 317 = .ok (.getfield 89, 3) := by decide +kernel
theorem dX12_steps_320 : decode cX12_steps 320 = .ok (.invokevirtual 95, 3) := by decide +kernel
theorem dX12_steps_323 : decode cX12_steps 323 = .ok (.iadd, 1) := by decide +kernel
theorem dX12_steps_324 : decode cX12_steps 324 = .ok (.bipush 48, 2) := by decide +kernel
theorem dX12_steps_326 : decode cX12_steps 326 = .ok (.isub, 1) := by decide +kernel
theorem dX12_steps_327 : decode cX12_steps 327 = .ok (.goto 7, 3) := by decide +kernel
theorem dX12_steps_330 : decode cX12_steps 330 = .ok (.aload_n 0, 1) := by decide +kernel
theorem dX12_steps_331 : decode cX12_steps 331 = .ok (.getfield 102, 3) := by decide +kernel
theorem dX12_steps_334 : decode cX12_steps 334 = .ok (.putfield 102, 3) := by decide +kernel
theorem dX12_steps_337 : decode cX12_steps 337 = .ok (.aload_n 0, 1) := by decide +kernel
theorem dX12_steps_338 : decode cX12_steps 338 = .ok (.dup, 1) := by decide +kernel
theorem dX12_steps_339 : decode cX12_steps 339 = .ok (.getfield 89, 3) := by decide +kernel
theorem dX12_steps_342 : decode cX12_steps 342 = .ok (.iconst 1, 1) := by decide +kernel
theorem dX12_steps_343 : decode cX12_steps 343 = .ok (.iadd, 1) := by decide +kernel
theorem dX12_steps_344 : decode cX12_steps 344 = .ok (.putfield 89, 3) := by decide +kernel
theorem dX12_steps_347 : decode cX12_steps 347 = .ok (.goto (-70), 3) := by decide +kernel
theorem dX12_steps_350 : decode cX12_steps 350 = .ok (.aload_n 0, 1) := by decide +kernel
theorem dX12_steps_351 : decode cX12_steps 351 = .ok (.iconst 2, 1) := by decide +kernel
theorem dX12_steps_352 : decode cX12_steps 352 = .ok (.putfield 99, 3) := by decide +kernel
theorem dX12_steps_355 : decode cX12_steps 355 = .ok (.return_, 1) := by decide +kernel
theorem dX12_mustAt_0 : decode cX12_mustAt 0 = .ok (.aload_n 0, 1) := by decide +kernel
theorem dX12_mustAt_1 : decode cX12_mustAt 1 = .ok (.getfield 124, 3) := by decide +kernel
theorem dX12_mustAt_4 : decode cX12_mustAt 4 = .ok (.ifCond .ne 17, 3) := by decide +kernel
theorem dX12_mustAt_7 : decode cX12_mustAt 7 = .ok (.iload_n 1, 1) := by decide +kernel
theorem dX12_mustAt_8 : decode cX12_mustAt 8 = .ok (.ifCond .ne 13, 3) := by decide +kernel
theorem dX12_mustAt_11 : decode cX12_mustAt 11 = .ok (.aload_n 0, 1) := by decide +kernel
theorem dX12_mustAt_12 : decode cX12_mustAt 12 = .ok (.iload_n 2, 1) := by decide +kernel
theorem dX12_mustAt_13 : decode cX12_mustAt 13 = .ok (.putfield 124, 3) := by decide +kernel
theorem dX12_mustAt_16 : decode cX12_mustAt 16 = .ok (.aload_n 0, 1) := by decide +kernel
theorem dX12_mustAt_17 : decode cX12_mustAt 17 = .ok (.iload_n 3, 1) := by decide +kernel
theorem dX12_mustAt_18 : decode cX12_mustAt 18 = .ok (.putfield 127, 3) := by decide +kernel
theorem dX12_mustAt_21 : decode cX12_mustAt 21 = .ok (.aload_n 0, 1) := by decide +kernel
theorem dX12_mustAt_22 : decode cX12_mustAt 22 = .ok (.getfield 124, 3) := by decide +kernel
theorem dX12_mustAt_25 : decode cX12_mustAt 25 = .ok (.ifCond .ne 7, 3) := by decide +kernel
theorem dX12_mustAt_28 : decode cX12_mustAt 28 = .ok (.iconst 1, 1) := by decide +kernel
theorem dX12_mustAt_29 : decode cX12_mustAt 29 = .ok (.goto 4, 3) := by decide +kernel
theorem dX12_mustAt_32 : decode cX12_mustAt 32 = .ok (.iconst 0, 1) := by decide +kernel
theorem dX12_mustAt_33 : decode cX12_mustAt 33 = .ok (.ireturn, 1) := by decide +kernel
theorem dX12_must_0 : decode cX12_must 0 = .ok (.aload_n 0, 1) := by decide +kernel
theorem dX12_must_1 : decode cX12_must 1 = .ok (.iload_n 1, 1) := by decide +kernel
theorem dX12_must_2 : decode cX12_must 2 = .ok (.iload_n 2, 1) := by decide +kernel
theorem dX12_must_3 : decode cX12_must 3 = .ok (.aload_n 0, 1) := by decide +kernel
theorem dX12_must_4 : decode cX12_must 4 = .ok (.getfield 92, 3) := by decide +kernel
theorem dX12_must_7 : decode cX12_must 7 = .ok (.invokevirtual 130, 3) := by decide +kernel
theorem dX12_must_10 : decode cX12_must 10 = .ok (.ireturn, 1) := by decide +kernel
theorem dX12_isSign_0 : decode cX12_isSign 0 = .ok (.aload_n 0, 1) := by decide +kernel
theorem dX12_isSign_1 : decode cX12_isSign 1 = .ok (.getfield 99, 3) := by decide +kernel
theorem dX12_isSign_4 : decode cX12_isSign 4 = .ok (.iconst 3, 1) := by decide +kernel
theorem dX12_isSign_5 : decode cX12_isSign 5 = .ok (.if_icmp .ne 19, 3) := by decide +kernel
theorem dX12_isSign_8 : decode cX12_isSign 8 = .ok (.aload_n 0, 1) := by decide +kernel
theorem dX12_isSign_9 : decode cX12_isSign 9 = .ok (.aload_n 0, 1) := by decide +kernel
theorem dX12_isSign_10 : decode cX12_isSign 10 = .ok (.getfield 92, 3) := by decide +kernel
theorem dX12_isSign_13 : decode cX12_isSign 13 = .ok (.invokevirtual 95, 3) := by decide +kernel
theorem dX12_isSign_16 : decode cX12_isSign 16 = .ok (.iload_n 1, 1) := by decide +kernel
theorem dX12_isSign_17 : decode cX12_isSign 17 = .ok (.if_icmp .ne 7, 3) := by decide +kernel
theorem dX12_isSign_20 : decode cX12_isSign 20 = .ok (.iconst 1, 1) := by decide +kernel
theorem dX12_isSign_21 : decode cX12_isSign 21 = .ok (.goto 4, 3) := by decide +kernel
theorem dX12_isSign_24 : decode cX12_isSign 24 = .ok (.iconst 0, 1) := by decide +kernel
theorem dX12_isSign_25 : decode cX12_isSign 25 = .ok (.ireturn, 1) := by decide +kernel
theorem dX12_at_0 : decode cX12_at 0 = .ok (.bipush 8, 2) := by decide +kernel
theorem dX12_at_2 : decode cX12_at 2 = .ok (.aload_n 0, 1) := by decide +kernel
theorem dX12_at_3 : decode cX12_at 3 = .ok (.getfield 158, 3) := by decide +kernel
theorem dX12_at_6 : decode cX12_at 6 = .ok (.imul, 1) := by decide +kernel
theorem dX12_at_7 : decode cX12_at 7 = .ok (.iload_n 1, 1) := by decide +kernel
theorem dX12_at_8 : decode cX12_at 8 = .ok (.iadd, 1) := by decide +kernel
theorem dX12_at_9 : decode cX12_at 9 = .ok (.ireturn, 1) := by decide +kernel
theorem dX12_named_0 : decode cX12_named 0 = .ok (.iconst 0, 1) := by decide +kernel
theorem dX12_named_1 : decode cX12_named 1 = .ok (.istore_n 3, 1) := by decide +kernel
theorem dX12_named_2 : decode cX12_named 2 = .ok (.iload_n 3, 1) := by decide +kernel
theorem dX12_named_3 : decode cX12_named 3 = .ok (.aload_n 0, 1) := by decide +kernel
theorem dX12_named_4 : decode cX12_named 4 = .ok (.getfield 13, 3) := by decide +kernel
theorem dX12_named_7 : decode cX12_named 7 = .ok (.aload_n 0, 1) := by decide +kernel
theorem dX12_named_8 : decode cX12_named 8 = .ok (.getfield 158, 3) := by decide +kernel
theorem dX12_named_11 : decode cX12_named 11 = .ok (.iaload, 1) := by decide +kernel
theorem dX12_named_12 : decode cX12_named 12 = .ok (.if_icmp .ge 26, 3) := by decide +kernel
theorem dX12_named_15 : decode cX12_named 15 = .ok (.aload_n 0, 1) := by decide +kernel
theorem dX12_named_16 : decode cX12_named 16 = .ok (.getfield 17, 3) := by decide +kernel
theorem dX12_named_19 : decode cX12_named 19 = .ok (.aload_n 0, 1) := by decide +kernel
theorem dX12_named_20 : decode cX12_named 20 = .ok (.iload_n 3, 1) := by decide +kernel
theorem dX12_named_21 : decode cX12_named 21 = .ok (.invokevirtual 161, 3) := by decide +kernel
theorem dX12_named_24 : decode cX12_named 24 = .ok (.laload, 1) := by decide +kernel
theorem dX12_named_25 : decode cX12_named 25 = .ok (.lload_n 1, 1) := by decide +kernel
theorem dX12_named_26 : decode cX12_named 26 = .ok (.lcmp, 1) := by decide +kernel
theorem dX12_named_27 : decode cX12_named 27 = .ok (.ifCond .ne 5, 3) := by decide +kernel
theorem dX12_named_30 : decode cX12_named 30 = .ok (.iload_n 3, 1) := by decide +kernel
theorem dX12_named_31 : decode cX12_named 31 = .ok (.ireturn, 1) := by decide +kernel
theorem dX12_named_32 : decode cX12_named 32 = .ok (.iinc 3 1, 3) := by decide +kernel
theorem dX12_named_35 : decode cX12_named 35 = .ok (.goto (-33), 3) := by decide +kernel
theorem dX12_named_38 : decode cX12_named 38 = .ok (.iconst (-1), 1) := by decide +kernel
theorem dX12_named_39 : decode cX12_named 39 = .ok (.ireturn, 1) := by decide +kernel
theorem dX12_takesWhole_0 : decode cX12_takesWhole 0 = .ok (.aload_n 0, 1) := by decide +kernel
theorem dX12_takesWhole_1 : decode cX12_takesWhole 1 = .ok (.bipush 45, 2) := by decide +kernel
theorem dX12_takesWhole_3 : decode cX12_takesWhole 3 = .ok (.invokevirtual 164, 3) := by decide +kernel
theorem dX12_takesWhole_6 : decode cX12_takesWhole 6 = .ok (.istore_n 2, 1) := by decide +kernel
theorem dX12_takesWhole_7 : decode cX12_takesWhole 7 = .ok (.iload_n 2, 1) := by decide +kernel
theorem dX12_takesWhole_8 : decode cX12_takesWhole 8 = .ok (.ifCond .eq 7, 3) := by decide +kernel
theorem dX12_takesWhole_11 : decode cX12_takesWhole 11 = .ok (.aload_n 0, 1) := by decide +kernel
theorem dX12_takesWhole_12 : decode cX12_takesWhole 12 = .ok (.invokevirtual 168, 3) := by decide +kernel
theorem dX12_takesWhole_15 : decode cX12_takesWhole 15 = .ok (.aload_n 0, 1) := by decide +kernel
theorem dX12_takesWhole_16 : decode cX12_takesWhole 16 = .ok (.aload_n 0, 1) := by decide +kernel
theorem dX12_takesWhole_17 : decode cX12_takesWhole 17 = .ok (.getfield 99, 3) := by decide +kernel
theorem dX12_takesWhole_20 : decode cX12_takesWhole 20 = .ok (.iconst 2, 1) := by decide +kernel
theorem dX12_takesWhole_21 : decode cX12_takesWhole 21 = .ok (.if_icmp .ne 7, 3) := by decide +kernel
theorem dX12_takesWhole_24 : decode cX12_takesWhole 24 = .ok (.iconst 1, 1) := by decide +kernel
theorem dX12_takesWhole_25 : decode cX12_takesWhole 25 = .ok (.goto 4, 3) := by decide +kernel
theorem dX12_takesWhole_28 : decode cX12_takesWhole 28 = .ok (.iconst 0, 1) := by decide +kernel
theorem dX12_takesWhole_29 : decode cX12_takesWhole 29 = .ok (.iconst 1, 1) := by decide +kernel
theorem dX12_takesWhole_30 : decode cX12_takesWhole 30 = .ok (.invokevirtual 171, 3) := by decide +kernel
theorem dX12_takesWhole_33 : decode cX12_takesWhole 33 = .ok (.ifCond .eq 31, 3) := by decide +kernel
theorem dX12_takesWhole_36 : decode cX12_takesWhole 36 = .ok (.aload_n 0, 1) := by decide +kernel
theorem dX12_takesWhole_37 : decode cX12_takesWhole 37 = .ok (.aload_n 0, 1) := by decide +kernel
theorem dX12_takesWhole_38 : decode cX12_takesWhole 38 = .ok (.getfield 102, 3) := by decide +kernel
theorem dX12_takesWhole_41 : decode cX12_takesWhole 41 = .ok (.ifCond .le 15, 3) := by decide +kernel
theorem dX12_takesWhole_44 : decode cX12_takesWhole 44 = .ok (.aload_n 0, 1) := by decide +kernel
theorem dX12_takesWhole_45 : decode cX12_takesWhole 45 = .ok (.getfield 102, 3) := by decide +kernel
theorem dX12_takesWhole_48 : decode cX12_takesWhole 48 = .ok (.iload_n 1, 1) := by decide +kernel
theorem dX12_takesWhole_49 : decode cX12_takesWhole 49 = .ok (.if_icmp .gt 7, 3) := by decide +kernel
theorem dX12_takesWhole_52 : decode cX12_takesWhole 52 = .ok (.iconst 1, 1) := by decide +kernel
theorem dX12_takesWhole_53 : decode cX12_takesWhole 53 = .ok (.goto 4, 3) := by decide +kernel
theorem dX12_takesWhole_56 : decode cX12_takesWhole 56 = .ok (.iconst 0, 1) := by decide +kernel
theorem dX12_takesWhole_57 : decode cX12_takesWhole 57 = .ok (.iconst 4, 1) := by decide +kernel
theorem dX12_takesWhole_58 : decode cX12_takesWhole 58 = .ok (.invokevirtual 171, 3) := by decide +kernel
theorem dX12_takesWhole_61 : decode cX12_takesWhole 61 = .ok (.ifCond .ne 5, 3) := by decide +kernel
theorem dX12_takesWhole_64 : decode cX12_takesWhole 64 = .ok (.iconst 0, 1) := by decide +kernel
theorem dX12_takesWhole_65 : decode cX12_takesWhole 65 = .ok (.ireturn, 1) := by decide +kernel
theorem dX12_takesWhole_66 : decode cX12_takesWhole 66 = .ok (.aload_n 0, 1) := by decide +kernel
theorem dX12_takesWhole_67 : decode cX12_takesWhole 67 = .ok (.iload_n 2, 1) := by decide +kernel
theorem dX12_takesWhole_68 : decode cX12_takesWhole 68 = .ok (.ifCond .eq 11, 3) := by decide +kernel
theorem dX12_takesWhole_71 : decode cX12_takesWhole 71 = .ok (.aload_n 0, 1) := by decide +kernel
theorem dX12_takesWhole_72 : decode cX12_takesWhole 72 = .ok (.getfield 102, 3) := by decide +kernel
theorem dX12_takesWhole_75 : decode cX12_takesWhole 75 = .ok (.ineg, 1) := by decide +kernel
theorem dX12_takesWhole_76 : decode cX12_takesWhole 76 = .ok (.goto 7, 3) := by decide +kernel
theorem dX12_takesWhole_79 : decode cX12_takesWhole 79 = .ok (.aload_n 0, 1) := by decide +kernel
theorem dX12_takesWhole_80 : decode cX12_takesWhole 80 = .ok (.getfield 102, 3) := by decide +kernel
theorem dX12_takesWhole_83 : decode cX12_takesWhole 83 = .ok (.putfield 175, 3) := by decide +kernel
theorem dX12_takesWhole_86 : decode cX12_takesWhole 86 = .ok (.aload_n 0, 1) := by decide +kernel
theorem dX12_takesWhole_87 : decode cX12_takesWhole 87 = .ok (.aload_n 0, 1) := by decide +kernel
theorem dX12_takesWhole_88 : decode cX12_takesWhole 88 = .ok (.getfield 92, 3) := by decide +kernel
theorem dX12_takesWhole_91 : decode cX12_takesWhole 91 = .ok (.putfield 178, 3) := by decide +kernel
theorem dX12_takesWhole_94 : decode cX12_takesWhole 94 = .ok (.iconst 1, 1) := by decide +kernel
theorem dX12_takesWhole_95 : decode cX12_takesWhole 95 = .ok (.ireturn, 1) := by decide +kernel
theorem dX12_hasSquare_0 : decode cX12_hasSquare 0 = .ok (.iconst 2, 1) := by decide +kernel
theorem dX12_hasSquare_1 : decode cX12_hasSquare 1 = .ok (.istore_n 1, 1) := by decide +kernel
theorem dX12_hasSquare_2 : decode cX12_hasSquare 2 = .ok (.iload_n 1, 1) := by decide +kernel
theorem dX12_hasSquare_3 : decode cX12_hasSquare 3 = .ok (.iload_n 1, 1) := by decide +kernel
theorem dX12_hasSquare_4 : decode cX12_hasSquare 4 = .ok (.imul, 1) := by decide +kernel
theorem dX12_hasSquare_5 : decode cX12_hasSquare 5 = .ok (.iload_n 0, 1) := by decide +kernel
theorem dX12_hasSquare_6 : decode cX12_hasSquare 6 = .ok (.ifCond .ge 8, 3) := by decide +kernel
theorem dX12_hasSquare_9 : decode cX12_hasSquare 9 = .ok (.iload_n 0, 1) := by decide +kernel
theorem dX12_hasSquare_10 : decode cX12_hasSquare 10 = .ok (.ineg, 1) := by decide +kernel
theorem dX12_hasSquare_11 : decode cX12_hasSquare 11 = .ok (.goto 4, 3) := by decide +kernel
theorem dX12_hasSquare_14 : decode cX12_hasSquare 14 = .ok (.iload_n 0, 1) := by decide +kernel
theorem dX12_hasSquare_15 : decode cX12_hasSquare 15 = .ok (.if_icmp .gt 19, 3) := by decide +kernel
theorem dX12_hasSquare_18 : decode cX12_hasSquare 18 = .ok (.iload_n 0, 1) := by decide +kernel
theorem dX12_hasSquare_19 : decode cX12_hasSquare 19 = .ok (.iload_n 1, 1) := by decide +kernel
theorem dX12_hasSquare_20 : decode cX12_hasSquare 20 = .ok (.iload_n 1, 1) := by decide +kernel
theorem dX12_hasSquare_21 : decode cX12_hasSquare 21 = .ok (.imul, 1) := by decide +kernel
theorem dX12_hasSquare_22 : decode cX12_hasSquare 22 = .ok (.irem, 1) := by decide +kernel
theorem dX12_hasSquare_23 : decode cX12_hasSquare 23 = .ok (.ifCond .ne 5, 3) := by decide +kernel
theorem dX12_hasSquare_26 : decode cX12_hasSquare 26 = .ok (.iconst 1, 1) := by decide +kernel
theorem dX12_hasSquare_27 : decode cX12_hasSquare 27 = .ok (.ireturn, 1) := by decide +kernel
theorem dX12_hasSquare_28 : decode cX12_hasSquare 28 = .ok (.iinc 1 1, 3) := by decide +kernel
theorem dX12_hasSquare_31 : decode cX12_hasSquare 31 = .ok (.goto (-29), 3) := by decide +kernel
theorem dX12_hasSquare_34 : decode cX12_hasSquare 34 = .ok (.iconst 0, 1) := by decide +kernel
theorem dX12_hasSquare_35 : decode cX12_hasSquare 35 = .ok (.ireturn, 1) := by decide +kernel
theorem dX12_takesSide_0 : decode cX12_takesSide 0 = .ok (.aload_n 0, 1) := by decide +kernel
theorem dX12_takesSide_1 : decode cX12_takesSide 1 = .ok (.bipush 60, 2) := by decide +kernel
theorem dX12_takesSide_3 : decode cX12_takesSide 3 = .ok (.invokevirtual 181, 3) := by decide +kernel
theorem dX12_takesSide_6 : decode cX12_takesSide 6 = .ok (.ifCond .eq 26, 3) := by decide +kernel
theorem dX12_takesSide_9 : decode cX12_takesSide 9 = .ok (.aload_n 0, 1) := by decide +kernel
theorem dX12_takesSide_10 : decode cX12_takesSide 10 = .ok (.aload_n 0, 1) := by decide +kernel
theorem dX12_takesSide_11 : decode cX12_takesSide 11 = .ok (.getfield 175, 3) := by decide +kernel
theorem dX12_takesSide_14 : decode cX12_takesSide 14 = .ok (.invokestatic 184, 3) := by decide +kernel
theorem dX12_takesSide_17 : decode cX12_takesSide 17 = .ok (.ifCond .ne 7, 3) := by decide +kernel
theorem dX12_takesSide_20 : decode cX12_takesSide 20 = .ok (.iconst 1, 1) := by decide +kernel
theorem dX12_takesSide_21 : decode cX12_takesSide 21 = .ok (.goto 4, 3) := by decide +kernel
theorem dX12_takesSide_24 : decode cX12_takesSide 24 = .ok (.iconst 0, 1) := by decide +kernel
theorem dX12_takesSide_25 : decode cX12_takesSide 25 = .ok (.iconst 4, 1) := by decide +kernel
theorem dX12_takesSide_26 : decode cX12_takesSide 26 = .ok (.invokevirtual 171, 3) := by decide +kernel
theorem dX12_takesSide_29 : decode cX12_takesSide 29 = .ok (.ifCond .ne 5, 3) := by decide +kernel
theorem dX12_takesSide_32 : decode cX12_takesSide 32 = .ok (.iconst 0, 1) := by decide +kernel
theorem dX12_takesSide_33 : decode cX12_takesSide 33 = .ok (.ireturn, 1) := by decide +kernel
theorem dX12_takesSide_34 : decode cX12_takesSide 34 = .ok (.aload_n 0, 1) := by decide +kernel
theorem dX12_takesSide_35 : decode cX12_takesSide 35 = .ok (.invokevirtual 168, 3) := by decide +kernel
theorem dX12_takesSide_38 : decode cX12_takesSide 38 = .ok (.iconst 1, 1) := by decide +kernel
theorem dX12_takesSide_39 : decode cX12_takesSide 39 = .ok (.ireturn, 1) := by decide +kernel
theorem dX12_quaternionLine_0 : decode cX12_quaternionLine 0 = .ok (.aload_n 0, 1) := by decide +kernel
theorem dX12_quaternionLine_1 : decode cX12_quaternionLine 1 = .ok (.invokevirtual 195, 3) := by decide +kernel
theorem dX12_quaternionLine_4 : decode cX12_quaternionLine 4 = .ok (.ifCond .ne 5, 3) := by decide +kernel
theorem dX12_quaternionLine_7 : decode cX12_quaternionLine 7 = .ok (.iconst 0, 1) := by decide +kernel
theorem dX12_quaternionLine_8 : decode cX12_quaternionLine 8 = .ok (.ireturn, 1) := by decide +kernel
theorem dX12_quaternionLine_9 : decode cX12_quaternionLine 9 = .ok (.aload_n 0, 1) := by decide +kernel
theorem dX12_quaternionLine_10 : decode cX12_quaternionLine 10 = .ok (.getfield 24, 3) := by decide +kernel
theorem dX12_quaternionLine_13 : decode cX12_quaternionLine 13 = .ok (.aload_n 0, 1) := by decide +kernel
theorem dX12_quaternionLine_14 : decode cX12_quaternionLine 14 = .ok (.iload_n 1, 1) := by decide +kernel
theorem dX12_quaternionLine_15 : decode cX12_quaternionLine 15 = .ok (.invokevirtual 161, 3) := by decide +kernel
theorem dX12_quaternionLine_18 : decode cX12_quaternionLine 18 = .ok (.aload_n 0, 1) := by decide +kernel
theorem dX12_quaternionLine_19 : decode cX12_quaternionLine 19 = .ok (.getfield 175, 3) := by decide +kernel
theorem dX12_quaternionLine_22 : decode cX12_quaternionLine 22 = .ok (.iastore, 1) := by decide +kernel
theorem dX12_quaternionLine_23 : decode cX12_quaternionLine 23 = .ok (.aload_n 0, 1) := by decide +kernel
theorem dX12_quaternionLine_24 : decode cX12_quaternionLine 24 = .ok (.invokevirtual 195, 3) := by decide +kernel
theorem dX12_quaternionLine_27 : decode cX12_quaternionLine 27 = .ok (.ifCond .ne 5, 3) := by decide +kernel
theorem dX12_quaternionLine_30 : decode cX12_quaternionLine 30 = .ok (.iconst 0, 1) := by decide +kernel
theorem dX12_quaternionLine_31 : decode cX12_quaternionLine 31 = .ok (.ireturn, 1) := by decide +kernel
theorem dX12_quaternionLine_32 : decode cX12_quaternionLine 32 = .ok (.aload_n 0, 1) := by decide +kernel
theorem dX12_quaternionLine_33 : decode cX12_quaternionLine 33 = .ok (.getfield 27, 3) := by decide +kernel
theorem dX12_quaternionLine_36 : decode cX12_quaternionLine 36 = .ok (.aload_n 0, 1) := by decide +kernel
theorem dX12_quaternionLine_37 : decode cX12_quaternionLine 37 = .ok (.iload_n 1, 1) := by decide +kernel
theorem dX12_quaternionLine_38 : decode cX12_quaternionLine 38 = .ok (.invokevirtual 161, 3) := by decide +kernel
theorem dX12_quaternionLine_41 : decode cX12_quaternionLine 41 = .ok (.aload_n 0, 1) := by decide +kernel
theorem dX12_quaternionLine_42 : decode cX12_quaternionLine 42 = .ok (.getfield 175, 3) := by decide +kernel
theorem dX12_quaternionLine_45 : decode cX12_quaternionLine 45 = .ok (.iastore, 1) := by decide +kernel
theorem dX12_quaternionLine_46 : decode cX12_quaternionLine 46 = .ok (.iconst 1, 1) := by decide +kernel
theorem dX12_quaternionLine_47 : decode cX12_quaternionLine 47 = .ok (.ireturn, 1) := by decide +kernel
def mX11_inverse_B65 (v0 : Nat) (v1 : Int) (v2 : Int) (v3 : Nat) (v4 : Int) (t0 : Nat) (t1 : Int) (σ : mSt) : Option (Int × mSt) := mRef (σ v0 11) fun r1 => mCall (mX1_reflect t0 t1 r1 σ) fun b3 s4 => mG (isC v3 1) <| mCall (mJ9_abs_067f4 v4 s4) fun b7 s8 => mCall (mX11_keep v0 v2 (s4 v3 2) b7 s8) fun b10 s11 => some (b10, s11)
def mX11_inverse (v0 : Nat) (v1 : Int) (v2 : Int) (σ : mSt) : Option (Int × mSt) := mG (isC v0 10) <| mCall (mX11_isKept v0 v1 σ) fun b13 s14 => if wI b13 = 0 then (some ((-1), s14)) else mCall (mX11_isSlot v0 v2 s14) fun b17 s18 => if wI b17 = 0 then (some ((-1), s18)) else mRef (s18 v0 6) fun r21 => mG (ixOK r21 23 v1) <| mRef (s18 r21 (wI v1).toNat) fun r24 => mCall (mX11_formOf v0 r24 s18) fun b26 s27 => if wL b26 = 0 then (some ((-2), s27)) else mG (isC r24 1) <| mRef (s27 r24 0) fun r31 => if 0 ≤ wL b26 then (mX11_inverse_B65 v0 v1 v2 r24 b26 r31 (s27 r24 1) s27) else mX11_inverse_B65 v0 v1 v2 r24 b26 r31 (-(s27 r24 1)) s27
def mX11_isSplit_B44 (v0 : Nat) (v1 : Int) (σ : mSt) : Option (Int × mSt) := some (0, σ)
def mX11_isSplit (v0 : Nat) (v1 : Int) (σ : mSt) : Option (Int × mSt) := mG (isC v0 10) <| mRef (σ v0 5) fun r1 => mCall (mX7_indexOf r1 v1 σ) fun b3 s4 => if wI b3 = 1 then (mRef (s4 v0 9) fun r7 => mRef (s4 v0 3) fun r9 => mCall (mX0_first r9 v1 s4) fun b11 s12 => mRef (s12 v0 3) fun r14 => mCall (mX0_second r14 v1 s12) fun b16 s17 => mCall (mX9_solve r7 (wI b11) (wI b16) s17) fun b19 s20 => if wI b19 = 0 then (mX11_isSplit_B44 v0 v1 s20) else some (1, s20)) else mX11_isSplit_B44 v0 v1 s4
def mX11_solution (v0 : Nat) (v1 : Int) (v2 : Int) (σ : mSt) : Option (Int × mSt) := mG (isC v0 10) <| mCall (mX11_isQuaternion v0 v1 σ) fun b1 s2 => if wI b1 = 0 then (some ((-1), s2)) else if wI v2 < 0 then (some ((-1), s2)) else if wI v2 ≤ 2 then (mCall (mX11_isSplit v0 v1 s2) fun b7 s8 => if wI b7 = 0 then (some ((-2), s8)) else mRef (s8 v0 9) fun r11 => mCall (mX9_part r11 v2 s8) fun b13 s14 => some (b13, s14)) else some ((-1), s2)
def mX11_disc (v0 : Nat) (v1 : Int) (σ : mSt) : Option (Int × mSt) := mG (isC v0 10) <| mCall (mX11_isQuaternion v0 v1 σ) fun b1 s2 => if wI b1 = 0 then (some ((-1), s2)) else mRef (s2 v0 7) fun r5 => mG (ixOK r5 24 v1) <| mRef (s2 r5 (wI v1).toNat) fun r8 => mCall (mX6_discriminant r8 s2) fun b10 s11 => some (b10, s11)
def mX11_due (v0 : Nat) (v1 : Int) (σ : mSt) : Option (Int × mSt) := mG (isC v0 10) <| mCall (mX11_isQuaternion v0 v1 σ) fun b1 s2 => if wI b1 = 0 then (some ((-1), s2)) else mRef (s2 v0 5) fun r5 => mCall (mX7_product r5 v1 s2) fun b7 s8 => some (b7, s8)
def mX11_canGrow (v0 : Nat) (v1 : Int) (v2 : Int) (σ : mSt) : Option (Int × mSt) := mG (isC v0 10) <| mRef (σ v0 7) fun r1 => mG (ixOK r1 24 v1) <| mRef (σ r1 (wI v1).toNat) fun r4 => mCall (mX6_discriminant r4 σ) fun b6 s7 => mCall (mX5_howOften v2 b6 s7) fun b9 s10 => mRef (s10 v0 5) fun r12 => mCall (mX7_product r12 v1 s10) fun b14 s15 => mCall (mX5_howOften v2 b14 s15) fun b17 s18 => if wI b9 ≤ wI b17 then (some (0, s18)) else some (1, s18)
def mX11_enlarge (v0 : Nat) (v1 : Int) (v2 : Int) (σ : mSt) : Option (Int × mSt) := mG (isC v0 10) <| mCall (mX11_isQuaternion v0 v1 σ) fun b1 s2 => if wI b1 = 0 then (some ((-1), s2)) else if 60 < wI v2 then (some ((-1), s2)) else mCall (mX5_isPrime v2 s2) fun b6 s7 => if wI b6 = 0 then (some ((-1), s7)) else mCall (mX11_canGrow v0 v1 v2 s7) fun b10 s11 => if wI b10 = 0 then (some (0, s11)) else mRef (s11 v0 8) fun r14 => mRef (s11 v0 7) fun r16 => mG (ixOK r16 24 v1) <| mRef (s11 r16 (wI v1).toNat) fun r19 => mCall (mX2_grow r14 r19 v2 s11) fun b21 s22 => some (b21, s22)
def mX11_greatest_B101 (v0 : Nat) (v1 : Int) (v2 : Int) (σ : mSt) : Option (Int × mSt) := some (v2, σ)
def mX11_greatest_B95 (v0 : Nat) (v1 : Int) (c14 : Int → Int → mSt → Option (Int × mSt)) (x101 : Int → mSt → Option (Int × mSt)) (v2 : Int) (v3 : Int) (σ : mSt) : Option (Int × mSt) := bnd (v3 + 1) fun a1 => c14 v2 a1 σ
def mX11_greatest_B74 (v0 : Nat) (v1 : Int) (v3 : Int) (c29 : Int → Int → Int → mSt → Option (Int × mSt)) (x95 : Int → mSt → Option (Int × mSt)) (v2 : Int) (v5 : Int) (t0 : Int) (σ : mSt) : Option (Int × mSt) := if wI t0 = 0 then (bnd (v2 + 0) fun a4 => bnd (v5 + 1) fun a6 => c29 a4 t0 a6 σ) else bnd (v2 + 1) fun a8 => bnd (v5 + 1) fun a10 => c29 a8 t0 a10 σ
def mX11_greatest_L29 (v0 : Nat) (v1 : Int) (v3 : Int) (x95 : Int → mSt → Option (Int × mSt)) : Nat → Int → Int → Int → mSt → Option (Int × mSt)
  | 0, _, _, _, _ => none
  | n + 1, v2, v4, v5, σ => if 40 ≤ wI v5 then (x95 v2 σ) else if wI v4 = 0 then (x95 v2 σ) else mCall (mX11_canGrow v0 v1 v3 σ) fun b14 s15 => if wI b14 = 0 then (x95 v2 s15) else mRef (s15 v0 8) fun r18 => mRef (s15 v0 7) fun r20 => mG (ixOK r20 24 v1) <| mRef (s15 r20 (wI v1).toNat) fun r23 => mCall (mX2_grow r18 r23 v3 s15) fun b25 s26 => if wL b25 ≤ 0 then (mX11_greatest_B74 v0 v1 v3 (mX11_greatest_L29 v0 v1 v3 x95 n) x95 v2 v5 0 s26) else mX11_greatest_B74 v0 v1 v3 (mX11_greatest_L29 v0 v1 v3 x95 n) x95 v2 v5 1 s26
def mX11_greatest_L14 (v0 : Nat) (v1 : Int) (x101 : Int → mSt → Option (Int × mSt)) : Nat → Int → Int → mSt → Option (Int × mSt)
  | 0, _, _, _ => none
  | n + 1, v2, v3, σ => if 60 < wI v3 then (x101 v2 σ) else mCall (mX5_isPrime v3 σ) fun b30 s31 => mX11_greatest_L29 v0 v1 v3 (fun z2 zσ => mX11_greatest_B95 v0 v1 (mX11_greatest_L14 v0 v1 x101 n) x101 z2 v3 zσ) mF v2 b30 0 s31
def mX11_greatest (v0 : Nat) (v1 : Int) (σ : mSt) : Option (Int × mSt) := mG (isC v0 10) <| mCall (mX11_isQuaternion v0 v1 σ) fun b33 s34 => if wI b33 = 0 then (some ((-1), s34)) else mX11_greatest_L14 v0 v1 (fun z2 zσ => mX11_greatest_B101 v0 v1 z2 zσ) mF 0 2 s34
def mX11_plain (v0 : Nat) (v1 : Int) (σ : mSt) : Option (Int × mSt) := mG (isC v0 10) <| mCall (mX11_isQuaternion v0 v1 σ) fun b1 s2 => if wI b1 = 0 then (some (0, s2)) else mRef (s2 v0 7) fun r5 => mG (ixOK r5 24 v1) <| mRef (s2 r5 (wI v1).toNat) fun r8 => mRef (s2 v0 3) fun r10 => mCall (mX0_first r10 v1 s2) fun b12 s13 => mRef (s13 v0 3) fun r15 => mCall (mX0_second r15 v1 s13) fun b17 s18 => mCall (mX6_begin r8 (wI b12) (wI b17) s18) fun b20 s21 => some (1, s21)
def mX11_isInOrder (v0 : Nat) (v1 : Int) (σ : mSt) : Option (Int × mSt) := mG (isC v0 10) <| mRef (σ v0 7) fun r1 => mRef (σ v0 6) fun r3 => mG (ixOK r3 23 v1) <| mRef (σ r3 (wI v1).toNat) fun r6 => mG (isC r6 1) <| mG (ixOK r1 24 (σ r6 2)) <| mRef (σ r1 (wI (σ r6 2)).toNat) fun r10 => mRef (σ v0 6) fun r12 => mG (ixOK r12 23 v1) <| mRef (σ r12 (wI v1).toNat) fun r15 => mRef (σ v0 11) fun r17 => mCall (mX6_express r10 r15 r17 σ) fun b19 s20 => mG (b19 = 0 ∨ b19 = 1) <| some (b19, s20)
def mX11_isIn (v0 : Nat) (v1 : Int) (σ : mSt) : Option (Int × mSt) := mG (isC v0 10) <| mCall (mX11_isKept v0 v1 σ) fun b1 s2 => if wI b1 = 0 then (some ((-1), s2)) else mCall (mX11_isInOrder v0 v1 s2) fun b5 s6 => if wI b5 = 0 then (some (0, s6)) else some (1, s6)
def mX11_isIdealPair (v0 : Nat) (v1 : Int) (v2 : Int) (σ : mSt) : Option (Int × mSt) := mG (isC v0 10) <| if wI v2 = (-1) then (mCall (mX11_isKept v0 v1 σ) fun b6 s7 => mG (b6 = 0 ∨ b6 = 1) <| some (b6, s7)) else mCall (mX11_isPair v0 v1 v2 σ) fun b2 s3 => mG (b2 = 0 ∨ b2 = 1) <| some (b2, s3)
def mX11_idealFault_B97 (v0 : Nat) (v1 : Int) (v2 : Int) (σ : mSt) : Option (Int × mSt) := some ((-3), σ)
def mX11_idealFault_B73 (v0 : Nat) (v1 : Int) (v2 : Int) (t0 : Int) (σ : mSt) : Option (Int × mSt) := if wI t0 = 0 then (mX11_idealFault_B97 v0 v1 v2 σ) else mRef (σ v0 6) fun r2 => mG (ixOK r2 23 v1) <| mRef (σ r2 (wI v1).toNat) fun r5 => mCall (mX11_formOf v0 r5 σ) fun b7 s8 => if wL b7 = 0 then (mX11_idealFault_B97 v0 v1 v2 s8) else some (0, s8)
def mX11_idealFault_B72 (v0 : Nat) (v1 : Int) (v2 : Int) (σ : mSt) : Option (Int × mSt) := mX11_idealFault_B73 v0 v1 v2 0 σ
def mX11_idealFault_B68 (v0 : Nat) (v1 : Int) (v2 : Int) (σ : mSt) : Option (Int × mSt) := mX11_idealFault_B73 v0 v1 v2 1 σ
def mX11_idealFault_B35 (v0 : Nat) (v1 : Int) (v2 : Int) (σ : mSt) : Option (Int × mSt) := mRef (σ v0 6) fun r11 => mG (ixOK r11 23 v1) <| mRef (σ r11 (wI v1).toNat) fun r14 => mCall (mX1_isWithin r14 100 σ) fun b16 s17 => if wI b16 = 0 then (mX11_idealFault_B72 v0 v1 v2 s17) else if wI v2 = (-1) then (mX11_idealFault_B68 v0 v1 v2 s17) else mRef (s17 v0 6) fun r21 => mG (ixOK r21 23 v2) <| mRef (s17 r21 (wI v2).toNat) fun r24 => mCall (mX1_isWithin r24 100 s17) fun b26 s27 => if wI b26 = 0 then (mX11_idealFault_B72 v0 v1 v2 s27) else mX11_idealFault_B68 v0 v1 v2 s27
def mX11_idealFault (v0 : Nat) (v1 : Int) (v2 : Int) (σ : mSt) : Option (Int × mSt) := mG (isC v0 10) <| mCall (mX11_isIdealPair v0 v1 v2 σ) fun b30 s31 => if wI b30 = 0 then (some ((-1), s31)) else mCall (mX11_isInOrder v0 v1 s31) fun b34 s35 => if wI b34 = 0 then (some ((-2), s35)) else if wI v2 = (-1) then (mX11_idealFault_B35 v0 v1 v2 s35) else mCall (mX11_isInOrder v0 v2 s35) fun b39 s40 => if wI b39 = 0 then (some ((-2), s40)) else mX11_idealFault_B35 v0 v1 v2 s40
def mX11_makeIdeal (v0 : Nat) (v1 : Int) (v2 : Int) (σ : mSt) : Option (Int × mSt) := mG (isC v0 10) <| mRef (σ v0 10) fun r1 => mRef (σ v0 7) fun r3 => mRef (σ v0 6) fun r5 => mG (ixOK r5 23 v1) <| mRef (σ r5 (wI v1).toNat) fun r8 => mG (isC r8 1) <| mG (ixOK r3 24 (σ r8 2)) <| mRef (σ r3 (wI (σ r8 2)).toNat) fun r12 => mRef (σ v0 6) fun r14 => mG (ixOK r14 23 v1) <| mRef (σ r14 (wI v1).toNat) fun r17 => mCall (mX4_begin r1 r12 r17 σ) fun b19 s20 => mRef (s20 v0 10) fun r22 => mRef (s20 v0 6) fun r24 => mG (ixOK r24 23 v1) <| mRef (s20 r24 (wI v1).toNat) fun r27 => mCall (mX4_join r22 r27 s20) fun b29 s30 => if wI v2 = (-1) then (some (0, s30)) else mRef (s30 v0 10) fun r33 => mRef (s30 v0 6) fun r35 => mG (ixOK r35 23 v2) <| mRef (s30 r35 (wI v2).toNat) fun r38 => mCall (mX4_join r33 r38 s30) fun b40 s41 => some (0, s41)
def mX11_ideal (v0 : Nat) (v1 : Int) (v2 : Int) (σ : mSt) : Option (Int × mSt) := mG (isC v0 10) <| mCall (mX11_idealFault v0 v1 v2 σ) fun b1 s2 => if wI b1 = 0 then (mCall (mX11_makeIdeal v0 v1 v2 s2) fun b5 s6 => mRef (s6 v0 10) fun r8 => mCall (mX4_lots r8 s6) fun b10 s11 => some (b10, s11)) else some (wI b1, s2)
def mX11_isInIdeal (v0 : Nat) (v1 : Int) (v2 : Int) (v3 : Int) (σ : mSt) : Option (Int × mSt) := mG (isC v0 10) <| mCall (mX11_isIdealPair v0 v1 v2 σ) fun b1 s2 => if wI b1 = 0 then (some ((-1), s2)) else mCall (mX11_isPair v0 v1 v3 s2) fun b5 s6 => if wI b5 = 0 then (some ((-1), s6)) else mCall (mX11_idealFault v0 v1 v2 s6) fun b9 s10 => if wI b9 = 0 then (mCall (mX11_makeIdeal v0 v1 v2 s10) fun b13 s14 => mRef (s14 v0 10) fun r16 => mRef (s14 v0 6) fun r18 => mG (ixOK r18 23 v3) <| mRef (s14 r18 (wI v3).toNat) fun r21 => mCall (mX4_contains r16 r21 s14) fun b23 s24 => if wI b23 = 0 then (some (0, s24)) else some (1, s24)) else some (b9, s10)
def mX11_isTwoSided_B59 (v0 : Nat) (v1 : Int) (v2 : Int) (v4 : Int) (σ : mSt) : Option (Int × mSt) := if wI v4 = 0 then (some (0, σ)) else some (1, σ)
def mX11_isTwoSided (v0 : Nat) (v1 : Int) (v2 : Int) (σ : mSt) : Option (Int × mSt) := mG (isC v0 10) <| mCall (mX11_idealFault v0 v1 v2 σ) fun b2 s3 => if wI b2 = 0 then (mCall (mX11_makeIdeal v0 v1 v2 s3) fun b6 s7 => mRef (s7 v0 10) fun r9 => mRef (s7 v0 6) fun r11 => mG (ixOK r11 23 v1) <| mRef (s7 r11 (wI v1).toNat) fun r14 => mCall (mX4_takesRight r9 r14 s7) fun b16 s17 => if wI b16 = 0 then (mX11_isTwoSided_B59 v0 v1 v2 b16 s17) else if wI v2 = (-1) then (mX11_isTwoSided_B59 v0 v1 v2 b16 s17) else mRef (s17 v0 10) fun r21 => mRef (s17 v0 6) fun r23 => mG (ixOK r23 23 v2) <| mRef (s17 r23 (wI v2).toNat) fun r26 => mCall (mX4_takesRight r21 r26 s17) fun b28 s29 => mX11_isTwoSided_B59 v0 v1 v2 b28 s29) else some (b2, s3)
def mX11_many (v0 : Nat) (v1 : Int) (v2 : Int) (σ : mSt) : Option (Int × mSt) := mG (isC v0 10) <| mCall (mX11_isQuaternion v0 v1 σ) fun b1 s2 => if wI b1 = 0 then (some ((-1), s2)) else if wI v2 < 0 then (some ((-1), s2)) else if wI v2 ≤ 12 then (mRef (s2 v0 3) fun r7 => mCall (mX0_first r7 v1 s2) fun b9 s10 => if 0 ≤ wI b9 then (some ((-1), s10)) else mRef (s10 v0 3) fun r13 => mCall (mX0_second r13 v1 s10) fun b15 s16 => if wI b15 < 0 then (mRef (s16 v0 7) fun r19 => mG (ixOK r19 24 v1) <| mRef (s16 r19 (wI v1).toNat) fun r22 => mCall (mX6_countOfNorm r22 v2 s16) fun b24 s25 => some (b24, s25)) else some ((-1), s16)) else some ((-1), s2)
def mX11_keptBits_B38 (v0 : Nat) (v1 : Int) (σ : mSt) : Option (Int × mSt) := some (v1, σ)
def mX11_keptBits_L4 (v0 : Nat) (x38 : Int → mSt → Option (Int × mSt)) : Nat → Int → Int → mSt → Option (Int × mSt)
  | 0, _, _, _ => none
  | n + 1, v1, v2, σ => if 8 ≤ wI v2 then (x38 v1 σ) else mRef (σ v0 6) fun r2 => mG (ixOK r2 23 v2) <| mRef (σ r2 (wI v2).toNat) fun r5 => mCall (mX1_isThere r5 σ) fun b7 s8 => if wI b7 = 0 then (bnd (oOr v1 0) fun a11 => bnd (v2 + 1) fun a13 => mX11_keptBits_L4 v0 x38 n a11 a13 s8) else bnd (oOr v1 (oShl 1 v2)) fun a15 => bnd (v2 + 1) fun a17 => mX11_keptBits_L4 v0 x38 n a15 a17 s8
def mX11_keptBits (v0 : Nat) (σ : mSt) : Option (Int × mSt) := mG (isC v0 10) <| mX11_keptBits_L4 v0 (fun z1 zσ => mX11_keptBits_B38 v0 z1 zσ) mF 0 0 σ
def mX11_count (v0 : Nat) (v1 : Int) (σ : mSt) : Option (Int × mSt) := mG (isC v0 10) <| if wI v1 = 0 then (mRef (σ v0 3) fun r2 => mCall (mX0_size r2 σ) fun b4 s5 => some (b4, s5)) else if wI v1 = 1 then (mCall (mX11_keptBits v0 σ) fun b8 s9 => some (b8, s9)) else if wI v1 = 2 then (some (σ v0 1, σ)) else some ((-1), σ)
def mX12_thrown (v0 : Nat) (σ : mSt) : Option (Int × mSt) := mG (isC v0 11) <| some (σ v0 0, σ)
def mX12_within_B17 (v0 : Int) (v2 : Int) (v4 : Int) (σ : mSt) : Option (Int × mSt) := some (0, σ)
def mX12_within (v0 : Int) (v2 : Int) (v4 : Int) (σ : mSt) : Option (Int × mSt) := if wL v0 < wL v2 then (mX12_within_B17 v0 v2 v4 σ) else if wL v4 < wL v0 then (mX12_within_B17 v0 v2 v4 σ) else some (1, σ)
def mX12_puts_B36 (v0 : Nat) (v1 : Int) (σ : mSt) : Option (Int × mSt) := some (0, σ)
def mX12_puts_L3 (v0 : Nat) (v1 : Int) (x36 : mSt → Option (Int × mSt)) : Nat → Int → mSt → Option (Int × mSt)
  | 0, _, _ => none
  | n + 1, v2, σ => if wI v2 < 0 then (x36 σ) else mRef (σ v0 1) fun r2 => mG (ixOK r2 22 (σ v0 2)) <| mG (-128 ≤ wB (oShr v1 v2) ∧ wB (oShr v1 v2) < 128) <| bnd (upS σ r2 (wI (σ v0 2)).toNat (wB (oShr v1 v2))) fun s6 => bnd (upS s6 v0 2 ((s6 v0 2) + 1)) fun s8 => bnd (v2 + (-8)) fun a10 => mX12_puts_L3 v0 v1 x36 n a10 s8
def mX12_puts (v0 : Nat) (v1 : Int) (σ : mSt) : Option (Int × mSt) := mG (isC v0 11) <| mX12_puts_L3 v0 v1 (fun zσ => mX12_puts_B36 v0 v1 zσ) mF 24 σ
def mX12_feed (v0 : Nat) (v1 : Int) (v2 : Int) (v3 : Int) (v4 : Int) (v5 : Int) (σ : mSt) : Option (Int × mSt) := mG (isC v0 11) <| bnd (upS σ v0 0 0) fun s1 => if wI ((s1 v0 2) + 20) ≤ 600 then (mCall (mX12_puts v0 v1 s1) fun b4 s5 => mCall (mX12_puts v0 v2 s5) fun b7 s8 => mCall (mX12_puts v0 v3 s8) fun b10 s11 => mCall (mX12_puts v0 v4 s11) fun b13 s14 => mCall (mX12_puts v0 v5 s14) fun b16 s17 => some (s17 v0 2, s17)) else some ((-1), s1)
def mX12_see (v0 : Nat) (v1 : Int) (σ : mSt) : Option (Int × mSt) := mG (isC v0 11) <| if wI (σ v0 3) ≤ wI v1 then (some ((-1), σ)) else mRef (σ v0 1) fun r2 => mG (ixOK r2 22 v1) <| some (oAnd (σ r2 (wI v1).toNat) 255, σ)
def mX12_steps_B350 (v0 : Nat) (σ : mSt) : Option (Int × mSt) := bnd (upS σ v0 6 2) fun s1 => some (0, s1)
def mX12_steps_L277 (v0 : Nat) (x350 : mSt → Option (Int × mSt)) : Nat → mSt → Option (Int × mSt)
  | 0, _ => none
  | n + 1, σ => mCall (mX12_see v0 (σ v0 5) σ) fun b3 s4 => mCall (mX12_within (wI b3) 48 57 s4) fun b6 s7 => if wI b6 = 0 then (x350 s7) else if 100000 ≤ wI (s7 v0 7) then (bnd (upS s7 v0 7 (s7 v0 7)) fun s11 => bnd (upS s11 v0 5 ((s11 v0 5) + 1)) fun s13 => mX12_steps_L277 v0 x350 n s13) else mCall (mX12_see v0 (s7 v0 5) s7) fun b15 s16 => bnd (upS s16 v0 7 (((10 * (s7 v0 7)) + b15) - 48)) fun s18 => bnd (upS s18 v0 5 ((s18 v0 5) + 1)) fun s20 => mX12_steps_L277 v0 x350 n s20
def mX12_steps_B249 (v0 : Nat) (t0 : Nat) (t1 : Int) (σ : mSt) : Option (Int × mSt) := mG (isC t0 11) <| bnd (upS σ t0 6 t1) fun s23 => some (0, s23)
def mX12_steps_B229 (v0 : Nat) (σ : mSt) : Option (Int × mSt) := if 11 ≤ wI ((σ v0 5) - (σ v0 4)) then (mX12_steps_B249 v0 v0 4 σ) else mX12_steps_B249 v0 v0 1 σ
def mX12_steps_L150 (v0 : Nat) (x229 : mSt → Option (Int × mSt)) : Nat → mSt → Option (Int × mSt)
  | 0, _ => none
  | n + 1, σ => mCall (mX12_see v0 (σ v0 5) σ) fun b26 s27 => mCall (mX12_within (wI b26) 97 122 s27) fun b29 s30 => if wI b29 = 0 then (x229 s30) else if 10 ≤ wI ((s30 v0 5) - (s30 v0 4)) then (bnd (upS s30 v0 8 (s30 v0 8)) fun s34 => bnd (upS s34 v0 5 ((s34 v0 5) + 1)) fun s36 => mX12_steps_L150 v0 x229 n s36) else mCall (mX12_see v0 (s30 v0 5) s30) fun b38 s39 => bnd (upS s39 v0 8 (oOrL (oShlL (s30 v0 8) 5) ((wI b38) - 96))) fun s41 => bnd (upS s41 v0 5 ((s41 v0 5) + 1)) fun s43 => mX12_steps_L150 v0 x229 n s43
def mX12_steps_B47 (v0 : Nat) (σ : mSt) : Option (Int × mSt) := mCall (mX12_see v0 (σ v0 4) σ) fun b45 s46 => bnd (upS s46 v0 5 ((s46 v0 4) + 1)) fun s48 => bnd (upS s48 v0 6 4) fun s50 => bnd (upS s50 v0 7 0) fun s52 => bnd (upS s52 v0 8 0) fun s54 => if wI b45 = (-1) then (bnd (upS s54 v0 5 (s54 v0 4)) fun s78 => bnd (upS s78 v0 6 0) fun s80 => some (0, s80)) else if wI b45 = 59 then (bnd (upS s54 v0 6 3) fun s58 => some (0, s58)) else if wI b45 = 43 then (bnd (upS s54 v0 6 3) fun s61 => some (0, s61)) else if wI b45 = 45 then (bnd (upS s54 v0 6 3) fun s76 => some (0, s76)) else mCall (mX12_within (wI b45) 97 122 s54) fun b64 s65 => if wI b64 = 0 then (mCall (mX12_within (wI b45) 48 57 s65) fun b68 s69 => if wI b68 = 0 then (some (0, s69)) else bnd (upS s69 v0 5 (s69 v0 4)) fun s72 => mX12_steps_L277 v0 (fun zσ => mX12_steps_B350 v0 zσ) mF s72) else bnd (upS s65 v0 5 (s65 v0 4)) fun s74 => mX12_steps_L150 v0 (fun zσ => mX12_steps_B229 v0 zσ) mF s74
def mX12_steps_L8 (v0 : Nat) (x47 : mSt → Option (Int × mSt)) : Nat → mSt → Option (Int × mSt)
  | 0, _ => none
  | n + 1, σ => mCall (mX12_see v0 (σ v0 4) σ) fun b82 s83 => if wI b82 = 32 then (bnd (upS s83 v0 4 ((s83 v0 4) + 1)) fun s86 => mX12_steps_L8 v0 x47 n s86) else mCall (mX12_see v0 (s83 v0 4) s83) fun b88 s89 => if wI b88 = 10 then (bnd (upS s89 v0 4 ((s89 v0 4) + 1)) fun s92 => mX12_steps_L8 v0 x47 n s92) else x47 s89
def mX12_steps (v0 : Nat) (σ : mSt) : Option (Int × mSt) := mG (isC v0 11) <| bnd (upS σ v0 4 (σ v0 5)) fun s94 => mX12_steps_L8 v0 (fun zσ => mX12_steps_B47 v0 zσ) mF s94
def mX12_mustAt_B21 (v0 : Nat) (v1 : Int) (v2 : Int) (v3 : Int) (σ : mSt) : Option (Int × mSt) := if wI (σ v0 9) = 0 then (some (1, σ)) else some (0, σ)
def mX12_mustAt (v0 : Nat) (v1 : Int) (v2 : Int) (v3 : Int) (σ : mSt) : Option (Int × mSt) := mG (isC v0 11) <| if wI (σ v0 9) = 0 then (if wI v1 = 0 then (bnd (upS σ v0 9 v2) fun s4 => bnd (upS s4 v0 10 v3) fun s6 => mX12_mustAt_B21 v0 v1 v2 v3 s6) else mX12_mustAt_B21 v0 v1 v2 v3 σ) else mX12_mustAt_B21 v0 v1 v2 v3 σ
def mX12_must (v0 : Nat) (v1 : Int) (v2 : Int) (σ : mSt) : Option (Int × mSt) := mG (isC v0 11) <| mCall (mX12_mustAt v0 v1 v2 (σ v0 4) σ) fun b1 s2 => mG (b1 = 0 ∨ b1 = 1) <| some (b1, s2)
def mX12_isSign_B24 (v0 : Nat) (v1 : Int) (σ : mSt) : Option (Int × mSt) := some (0, σ)
def mX12_isSign (v0 : Nat) (v1 : Int) (σ : mSt) : Option (Int × mSt) := mG (isC v0 11) <| if wI (σ v0 6) = 3 then (mCall (mX12_see v0 (σ v0 4) σ) fun b2 s3 => if wI b2 = wI v1 then (some (1, s3)) else mX12_isSign_B24 v0 v1 s3) else mX12_isSign_B24 v0 v1 σ
def mX12_at (v0 : Nat) (v1 : Int) (σ : mSt) : Option (Int × mSt) := mG (isC v0 11) <| some ((8 * (σ v0 11)) + v1, σ)
def mX12_named_B38 (v0 : Nat) (v1 : Int) (σ : mSt) : Option (Int × mSt) := some ((-1), σ)
def mX12_named_L2 (v0 : Nat) (v1 : Int) (x38 : mSt → Option (Int × mSt)) : Nat → Int → mSt → Option (Int × mSt)
  | 0, _, _ => none
  | n + 1, v3, σ => mRef (σ v0 12) fun r1 => mG (ixOK r1 20 (σ v0 11)) <| if wI (σ r1 (wI (σ v0 11)).toNat) ≤ wI v3 then (x38 σ) else mRef (σ v0 13) fun r5 => mCall (mX12_at v0 v3 σ) fun b7 s8 => mG (ixOK r5 21 b7) <| if wL (s8 r5 (wI b7).toNat) = wL v1 then (some (v3, s8)) else bnd (v3 + 1) fun a12 => mX12_named_L2 v0 v1 x38 n a12 s8
def mX12_named (v0 : Nat) (v1 : Int) (σ : mSt) : Option (Int × mSt) := mG (isC v0 11) <| mX12_named_L2 v0 v1 (fun zσ => mX12_named_B38 v0 v1 zσ) mF 0 σ
def mX12_takesWhole_B57 (v0 : Nat) (v1 : Int) (v2 : Int) (t0 : Nat) (t1 : Int) (σ : mSt) : Option (Int × mSt) := mCall (mX12_must t0 t1 4 σ) fun b1 s2 => if wI b1 = 0 then (some (0, s2)) else if wI v2 = 0 then (bnd (upS s2 v0 19 (s2 v0 7)) fun s6 => bnd (upS s6 v0 20 (s6 v0 4)) fun s8 => some (1, s8)) else bnd (upS s2 v0 19 (-(s2 v0 7))) fun s10 => bnd (upS s10 v0 20 (s10 v0 4)) fun s12 => some (1, s12)
def mX12_takesWhole_B56 (v0 : Nat) (v1 : Int) (v2 : Int) (t0 : Nat) (σ : mSt) : Option (Int × mSt) := mX12_takesWhole_B57 v0 v1 v2 t0 0 σ
def mX12_takesWhole_B29 (v0 : Nat) (v1 : Int) (v2 : Int) (t0 : Nat) (t1 : Int) (σ : mSt) : Option (Int × mSt) := mCall (mX12_must t0 t1 1 σ) fun b14 s15 => if wI b14 = 0 then (some (0, s15)) else if wI (s15 v0 7) ≤ 0 then (mX12_takesWhole_B56 v0 v1 v2 v0 s15) else if wI v1 < wI (s15 v0 7) then (mX12_takesWhole_B56 v0 v1 v2 v0 s15) else mX12_takesWhole_B57 v0 v1 v2 v0 1 s15
def mX12_takesWhole_B15 (v0 : Nat) (v1 : Int) (v2 : Int) (σ : mSt) : Option (Int × mSt) := if wI (σ v0 6) = 2 then (mX12_takesWhole_B29 v0 v1 v2 v0 1 σ) else mX12_takesWhole_B29 v0 v1 v2 v0 0 σ
def mX12_takesWhole (v0 : Nat) (v1 : Int) (σ : mSt) : Option (Int × mSt) := mG (isC v0 11) <| mCall (mX12_isSign v0 45 σ) fun b21 s22 => if wI b21 = 0 then (mX12_takesWhole_B15 v0 v1 b21 s22) else mCall (mX12_steps v0 s22) fun b25 s26 => mX12_takesWhole_B15 v0 v1 b21 s26
def mX12_hasSquare_B34 (v0 : Int) (σ : mSt) : Option (Int × mSt) := some (0, σ)
def mX12_hasSquare_B15 (v0 : Int) (c2 : Int → mSt → Option (Int × mSt)) (x34 : mSt → Option (Int × mSt)) (v1 : Int) (t0 : Int) (t1 : Int) (σ : mSt) : Option (Int × mSt) := if wI t1 < wI t0 then (x34 σ) else mG (wI (v1 * v1) ≠ 0) <| if wI ((wI v0).tmod (wI (v1 * v1))) = 0 then (some (1, σ)) else bnd (v1 + 1) fun a4 => c2 a4 σ
def mX12_hasSquare_L2 (v0 : Int) (x34 : mSt → Option (Int × mSt)) : Nat → Int → mSt → Option (Int × mSt)
  | 0, _, _ => none
  | n + 1, v1, σ => if 0 ≤ wI v0 then (mX12_hasSquare_B15 v0 (mX12_hasSquare_L2 v0 x34 n) x34 v1 (v1 * v1) v0 σ) else mX12_hasSquare_B15 v0 (mX12_hasSquare_L2 v0 x34 n) x34 v1 (v1 * v1) (-v0) σ
def mX12_hasSquare (v0 : Int) (σ : mSt) : Option (Int × mSt) := mX12_hasSquare_L2 v0 (fun zσ => mX12_hasSquare_B34 v0 zσ) mF 2 σ
def mX12_takesSide_B25 (v0 : Nat) (t0 : Nat) (t1 : Int) (σ : mSt) : Option (Int × mSt) := mCall (mX12_must t0 t1 4 σ) fun b1 s2 => if wI b1 = 0 then (some (0, s2)) else mCall (mX12_steps v0 s2) fun b5 s6 => some (1, s6)
def mX12_takesSide (v0 : Nat) (σ : mSt) : Option (Int × mSt) := mG (isC v0 11) <| mCall (mX12_takesWhole v0 60 σ) fun b8 s9 => if wI b8 = 0 then (some (0, s9)) else mCall (mX12_hasSquare (s9 v0 19) s9) fun b12 s13 => if wI b12 = 0 then (mX12_takesSide_B25 v0 v0 1 s13) else mX12_takesSide_B25 v0 v0 0 s13
def mX12_quaternionLine (v0 : Nat) (v1 : Int) (σ : mSt) : Option (Int × mSt) := mG (isC v0 11) <| mCall (mX12_takesSide v0 σ) fun b1 s2 => if wI b1 = 0 then (some (0, s2)) else mRef (s2 v0 15) fun r5 => mCall (mX12_at v0 v1 s2) fun b7 s8 => mG (ixOK r5 20 b7) <| bnd (upS s8 r5 (wI b7).toNat (s8 v0 19)) fun s11 => mCall (mX12_takesSide v0 s11) fun b13 s14 => if wI b13 = 0 then (some (0, s14)) else mRef (s14 v0 16) fun r17 => mCall (mX12_at v0 v1 s14) fun b19 s20 => mG (ixOK r17 20 b19) <| bnd (upS s20 r17 (wI b19).toNat (s20 v0 19)) fun s23 => some (1, s23)
set_option maxRecDepth 100000 in
set_option maxHeartbeats 4000000 in
theorem wX11_inverse_B65 (l : Launch) (E : mE) (out : Int × mSt) {p : Program} {e : Env} {s : State} {m : MethodId} {args : Array Value} {below : List Frame} {meth : Method} {c : Code} (G : CallFix p m c cX11_inverse 6 s args mTs RX11) (hr : meth.sig.returnType = (some .int)) (hk : meth.locks = false) (v0 : Nat) (v1 : Int) (v2 : Int) (g0 : isC v0 10) : ∀ (v3 : Nat) (v4 : Int) (t0 : Nat) (t1 : Int) (σ : mSt) (H : Heap) (locs : List Loc) (ls : Array Slot), mX11_inverse_B65 v0 v1 v2 v3 v4 t0 t1 σ = some out → mM (mA E 276) E 276 σ s H locs → lv_has ls 6 [(0, .ref (eA E v0)), (2, vI v2), (3, .ref (eA E v3)), (4, vL v4)] → mGo l p e 4 103 s m args below meth c E (some (vI out.1)) out.2 H locs (F0 m 65 ls [vL t1, .ref (eA E t0)]) := by
  intro v3 v4 t0 t1 σ H locs ls hm hM hl
  unfold mX11_inverse_B65 at hm
  refine r_aload_n (np := 66) G hl 0 rfl dX11_inverse_65 rfl rfl ?_
  obtain ⟨r1, e2, hm⟩ := ref_t hm
  refine r_getR (np := 69) G hM (shp_lt g0 (by decide)) g0 e2 fdX11_11 lkX11_74 dX11_inverse_66 rfl ?_
  obtain ⟨b3, s4, e5, hm⟩ := call_t hm
  refine m_callSV (np := 72) G hM hl.1 [.ref (eA E t0), vL t1, .ref (eA E r1)] (qX1_reflect l E σ t0 t1 r1 _ e5) myX1_reflect lkX11_179 ⟨Nat.le_of_ble_eq_true rfl, Nat.le_of_ble_eq_true rfl⟩ ⟨Nat.le_of_ble_eq_true rfl, Nat.le_of_ble_eq_true rfl⟩ [] rfl (Nat.le_of_ble_eq_true rfl) dX11_inverse_69 rfl (fun H locs hM => ?_)
  refine r_aload_n (np := 73) G hl 0 rfl dX11_inverse_72 rfl rfl ?_
  refine r_iload_n (np := 74) G hl 1 rfl dX11_inverse_73 rfl rfl ?_
  refine r_aload_n (np := 75) G hl 2 rfl dX11_inverse_74 rfl rfl ?_
  obtain ⟨g6, hm⟩ := g_t hm
  refine r_getIN (np := 78) G hM (shp_lt g6 (by decide)) g6 fdX1_2 lkX11_165 dX11_inverse_75 rfl ?_
  refine r_lload (np := 80) G hl 3 rfl dX11_inverse_78 rfl ?_
  obtain ⟨b7, s8, e9, hm⟩ := call_t hm
  refine m_callSL (np := 83) G hM hl.1 [vL v4] (qJ9_abs_067f4 l E s4 v4 _ e9) myJ9_abs_067f4 lkX11_187 ⟨Nat.le_of_ble_eq_true rfl, Nat.le_of_ble_eq_true rfl⟩ ⟨Nat.le_of_ble_eq_true rfl, Nat.le_of_ble_eq_true rfl⟩ [vI (s4 v3 2), vI v2, .ref (eA E v0)] rfl (Nat.le_of_ble_eq_true rfl) dX11_inverse_80 rfl (fun H locs hM => ?_)
  obtain ⟨b10, s11, e12, hm⟩ := call_t hm
  refine m_callVI (np := 86) G hM hl.1 [vI v2, vI (s4 v3 2), vL b7] (qX11_keep l E s8 v0 v2 (s4 v3 2) b7 _ e12) myX11_keep (shp_lt (gX11_keep e12) (by decide)) (gX11_keep e12) rfl (by decide) lkX11_155 ⟨Nat.le_of_ble_eq_true rfl, Nat.le_of_ble_eq_true rfl⟩ ⟨Nat.le_of_ble_eq_true rfl, Nat.le_of_ble_eq_true rfl⟩ [] rfl (Nat.le_of_ble_eq_true rfl) dX11_inverse_83 rfl (fun H locs hM => ?_)
  exact r_iret G hr hk hM hm dX11_inverse_86
set_option maxRecDepth 100000 in
set_option maxHeartbeats 4000000 in
theorem qX11_inverse (l : Launch) (E : mE) (σ : mSt) (v0 : Nat) (v1 : Int) (v2 : Int) (out : Int × mSt) (hm : mX11_inverse v0 v1 v2 σ = some out) : mMet l yX11_inverse cX11_inverse 6 (some .int) 4 103 E 276 [.ref (eA E v0), vI v1, vI v2] σ (some (vI out.1)) out.2 := by
  unfold mX11_inverse at hm
  obtain ⟨g0, hm⟩ := g_t hm
  refine m_entry (by decide +kernel) (Nat.le_of_ble_eq_true rfl) (fun p e s m args below meth c G hr hk hM ls hl => ?_)
  have G : CallFix p m c cX11_inverse 6 s args mTs RX11 := G
  have hl : lv_has ls 6 [(0, .ref (eA E v0)), (1, vI v1), (2, vI v2)] := hl
  refine r_aload_n (np := 1) G hl 0 rfl dX11_inverse_0 rfl rfl ?_
  refine r_iload_n (np := 2) G hl 1 rfl dX11_inverse_1 rfl rfl ?_
  obtain ⟨b13, s14, e15, hm⟩ := call_t hm
  refine m_callVI (np := 5) G hM hl.1 [vI v1] (qX11_isKept l E σ v0 v1 _ e15) myX11_isKept (shp_lt (gX11_isKept e15) (by decide)) (gX11_isKept e15) rfl (by decide) lkX11_159 ⟨Nat.le_of_ble_eq_true rfl, Nat.le_of_ble_eq_true rfl⟩ ⟨Nat.le_of_ble_eq_true rfl, Nat.le_of_ble_eq_true rfl⟩ [] rfl (Nat.le_of_ble_eq_true rfl) dX11_inverse_2 rfl (fun H locs hM => ?_)
  refine r_if_eq (np := 8) (tgt := 16) G rfl dX11_inverse_5 (by decide) rfl (fun h16 => ?_) (fun h16 => ?_)
  · have hm := b_t h16 hm
    refine r_iconst (np := 17) G (-1) dX11_inverse_16 rfl ?_
    exact r_iret G hr hk hM hm dX11_inverse_17
  · have hm := b_f h16 hm
    refine r_aload_n (np := 9) G hl 0 rfl dX11_inverse_8 rfl rfl ?_
    refine r_iload_n (np := 10) G hl 2 rfl dX11_inverse_9 rfl rfl ?_
    obtain ⟨b17, s18, e19, hm⟩ := call_t hm
    refine m_callVI (np := 13) G hM hl.1 [vI v2] (qX11_isSlot l E s14 v0 v2 _ e19) myX11_isSlot (shp_lt (gX11_isSlot e19) (by decide)) (gX11_isSlot e19) rfl (by decide) lkX11_152 ⟨Nat.le_of_ble_eq_true rfl, Nat.le_of_ble_eq_true rfl⟩ ⟨Nat.le_of_ble_eq_true rfl, Nat.le_of_ble_eq_true rfl⟩ [] rfl (Nat.le_of_ble_eq_true rfl) dX11_inverse_10 rfl (fun H locs hM => ?_)
    refine r_if_ne (np := 16) (tgt := 18) G rfl dX11_inverse_13 (by decide) rfl (fun h20 => ?_) (fun h20 => ?_)
    · have hm := b_f h20 hm
      refine r_aload_n (np := 19) G hl 0 rfl dX11_inverse_18 rfl rfl ?_
      obtain ⟨r21, e22, hm⟩ := ref_t hm
      refine r_getR (np := 22) G hM (shp_lt g0 (by decide)) g0 e22 fdX11_6 lkX11_43 dX11_inverse_19 rfl ?_
      refine r_iload_n (np := 23) G hl 1 rfl dX11_inverse_22 rfl rfl ?_
      obtain ⟨g23, hm⟩ := g_t hm
      obtain ⟨r24, e25, hm⟩ := ref_t hm
      refine r_aaload (np := 24) G hM (t := 3) g23 rfl ⟨by decide, by decide⟩ rfl rfl e25 dX11_inverse_23 rfl ?_
      refine r_astore_n (np := 25) G hl rfl [(3, .ref (eA E r24)), (0, .ref (eA E v0)), (1, vI v1), (2, vI v2)] dX11_inverse_24 rfl rfl (by decide) rfl (fun ls hl => ?_)
      refine r_aload_n (np := 26) G hl 1 rfl dX11_inverse_25 rfl rfl ?_
      refine r_aload_n (np := 27) G hl 0 rfl dX11_inverse_26 rfl rfl ?_
      obtain ⟨b26, s27, e28, hm⟩ := call_t hm
      refine m_callVL (np := 30) G hM hl.1 [.ref (eA E r24)] (qX11_formOf l E s18 v0 r24 _ e28) myX11_formOf (shp_lt (gX11_formOf e28) (by decide)) (gX11_formOf e28) rfl (by decide) lkX11_183 ⟨Nat.le_of_ble_eq_true rfl, Nat.le_of_ble_eq_true rfl⟩ ⟨Nat.le_of_ble_eq_true rfl, Nat.le_of_ble_eq_true rfl⟩ [] rfl (Nat.le_of_ble_eq_true rfl) dX11_inverse_27 rfl (fun H locs hM => ?_)
      refine r_lstore (np := 32) G hl rfl [(4, vL b26), (3, .ref (eA E r24)), (0, .ref (eA E v0)), (1, vI v1), (2, vI v2)] dX11_inverse_30 rfl (by decide) rfl (fun ls hl => ?_)
      refine r_lload (np := 34) G hl 0 rfl dX11_inverse_32 rfl ?_
      refine r_lconst (np := 35) G 0 dX11_inverse_34 rfl rfl ?_
      refine r_lcmp_ne (np := 39) (tgt := 42) G rfl (wLk 0 rfl) dX11_inverse_35 dX11_inverse_36 (by decide) rfl (fun h29 => ?_) (fun h29 => ?_)
      · have hm := b_f h29 hm
        refine r_aload_n (np := 43) G hl 1 rfl dX11_inverse_42 rfl rfl ?_
        obtain ⟨g30, hm⟩ := g_t hm
        obtain ⟨r31, e32, hm⟩ := ref_t hm
        refine r_getRN (np := 46) G hM (shp_lt g30 (by decide)) g30 e32 fdX1_0 lkX11_162 dX11_inverse_43 rfl ?_
        refine r_lload (np := 48) G hl 0 rfl dX11_inverse_46 rfl ?_
        refine r_lconst (np := 49) G 0 dX11_inverse_48 rfl rfl ?_
        refine r_lcmp_ge (np := 53) (tgt := 61) G rfl (wLk 0 rfl) dX11_inverse_49 dX11_inverse_50 (by decide) rfl (fun h33 => ?_) (fun h33 => ?_)
        · have hm := b_t h33 hm
          refine r_aload_n (np := 62) G hl 1 rfl dX11_inverse_61 rfl rfl ?_
          refine r_getLN (np := 65) G hM (shp_lt g30 (by decide)) g30 fdX1_1 lkX11_168 dX11_inverse_62 rfl ?_
          exact wX11_inverse_B65 l E out G hr hk v0 v1 v2 g0 r24 b26 r31 (s27 r24 1) _ _ _ _ hm hM (lv_sub hl [2, 4, 1, 0] rfl)
        · have hm := b_f h33 hm
          refine r_aload_n (np := 54) G hl 1 rfl dX11_inverse_53 rfl rfl ?_
          refine r_getLN (np := 57) G hM (shp_lt g30 (by decide)) g30 fdX1_1 lkX11_168 dX11_inverse_54 rfl ?_
          refine r_lneg (np := 58) G dX11_inverse_57 rfl ?_
          refine r_goto (np := 65) G dX11_inverse_58 (by decide) ?_
          exact wX11_inverse_B65 l E out G hr hk v0 v1 v2 g0 r24 b26 r31 (-(s27 r24 1)) _ _ _ _ hm hM (lv_sub hl [2, 4, 1, 0] rfl)
      · have hm := b_t h29 hm
        refine r_bipush (np := 41) G (-2) dX11_inverse_39 (by decide) rfl ?_
        exact r_iret G hr hk hM hm dX11_inverse_41
    · have hm := b_t h20 hm
      refine r_iconst (np := 17) G (-1) dX11_inverse_16 rfl ?_
      exact r_iret G hr hk hM hm dX11_inverse_17
theorem gX11_inverse {v0 : Nat} {v1 : Int} {v2 : Int} {σ : mSt} {out : Int × mSt} (hm : mX11_inverse v0 v1 v2 σ = some out) : isC v0 10 := (g_t hm).1
set_option maxRecDepth 100000 in
set_option maxHeartbeats 4000000 in
theorem wX11_isSplit_B44 (l : Launch) (E : mE) (out : Int × mSt) {p : Program} {e : Env} {s : State} {m : MethodId} {args : Array Value} {below : List Frame} {meth : Method} {c : Code} (G : CallFix p m c cX11_isSplit 2 s args mTs RX11) (hr : meth.sig.returnType = (some .boolean)) (hk : meth.locks = false) (v0 : Nat) (v1 : Int) (g0 : isC v0 10) : ∀ (σ : mSt) (H : Heap) (locs : List Loc) (ls : Array Slot), mX11_isSplit_B44 v0 v1 σ = some out → mM (mA E 276) E 276 σ s H locs → lv_has ls 2 [] → mGo l p e 3 75 s m args below meth c E (some (vI out.1)) out.2 H locs (F0 m 44 ls []) := by
  intro σ H locs ls hm hM hl
  unfold mX11_isSplit_B44 at hm
  refine r_iconst (np := 45) G 0 dX11_isSplit_44 rfl ?_
  exact r_zret G hr hk hM (Or.inl rfl) hm dX11_isSplit_45
set_option maxRecDepth 100000 in
set_option maxHeartbeats 4000000 in
theorem qX11_isSplit (l : Launch) (E : mE) (σ : mSt) (v0 : Nat) (v1 : Int) (out : Int × mSt) (hm : mX11_isSplit v0 v1 σ = some out) : mMet l yX11_isSplit cX11_isSplit 2 (some .boolean) 3 75 E 276 [.ref (eA E v0), vI v1] σ (some (vI out.1)) out.2 := by
  unfold mX11_isSplit at hm
  obtain ⟨g0, hm⟩ := g_t hm
  refine m_entry (by decide +kernel) (Nat.le_of_ble_eq_true rfl) (fun p e s m args below meth c G hr hk hM ls hl => ?_)
  have G : CallFix p m c cX11_isSplit 2 s args mTs RX11 := G
  have hl : lv_has ls 2 [(0, .ref (eA E v0)), (1, vI v1)] := hl
  refine r_aload_n (np := 1) G hl 0 rfl dX11_isSplit_0 rfl rfl ?_
  obtain ⟨r1, e2, hm⟩ := ref_t hm
  refine r_getR (np := 4) G hM (shp_lt g0 (by decide)) g0 e2 fdX11_5 lkX11_37 dX11_isSplit_1 rfl ?_
  refine r_iload_n (np := 5) G hl 1 rfl dX11_isSplit_4 rfl rfl ?_
  obtain ⟨b3, s4, e5, hm⟩ := call_t hm
  refine m_callVI (np := 8) G hM hl.1 [vI v1] (qX7_indexOf l E σ r1 v1 _ e5) myX7_indexOf (shp_lt (gX7_indexOf e5) (by decide)) (gX7_indexOf e5) rfl (by decide) lkX11_145 ⟨Nat.le_of_ble_eq_true rfl, Nat.le_of_ble_eq_true rfl⟩ ⟨Nat.le_of_ble_eq_true rfl, Nat.le_of_ble_eq_true rfl⟩ [] rfl (Nat.le_of_ble_eq_true rfl) dX11_isSplit_5 rfl (fun H locs hM => ?_)
  refine r_iconst (np := 9) G 1 dX11_isSplit_8 rfl ?_
  refine r_icmp_ne (np := 12) (tgt := 44) G rfl (wIk 1 rfl) dX11_isSplit_9 (by decide) rfl (fun h6 => ?_) (fun h6 => ?_)
  · have hm := b_f h6 hm
    exact wX11_isSplit_B44 l E out G hr hk v0 v1 g0 _ _ _ _ hm hM (lv_sub hl [] rfl)
  · have hm := b_t h6 hm
    refine r_aload_n (np := 13) G hl 0 rfl dX11_isSplit_12 rfl rfl ?_
    obtain ⟨r7, e8, hm⟩ := ref_t hm
    refine r_getR (np := 16) G hM (shp_lt g0 (by decide)) g0 e8 fdX11_9 lkX11_63 dX11_isSplit_13 rfl ?_
    refine r_aload_n (np := 17) G hl 0 rfl dX11_isSplit_16 rfl rfl ?_
    obtain ⟨r9, e10, hm⟩ := ref_t hm
    refine r_getR (np := 20) G hM (shp_lt g0 (by decide)) g0 e10 fdX11_3 lkX11_27 dX11_isSplit_17 rfl ?_
    refine r_iload_n (np := 21) G hl 1 rfl dX11_isSplit_20 rfl rfl ?_
    obtain ⟨b11, s12, e13, hm⟩ := call_t hm
    refine m_callVI (np := 24) G hM hl.1 [vI v1] (qX0_first l E s4 r9 v1 _ e13) myX0_first (shp_lt (gX0_first e13) (by decide)) (gX0_first e13) rfl (by decide) lkX11_106 ⟨Nat.le_of_ble_eq_true rfl, Nat.le_of_ble_eq_true rfl⟩ ⟨Nat.le_of_ble_eq_true rfl, Nat.le_of_ble_eq_true rfl⟩ [.ref (eA E r7)] rfl (Nat.le_of_ble_eq_true rfl) dX11_isSplit_21 rfl (fun H locs hM => ?_)
    refine r_i2l (np := 25) G rfl dX11_isSplit_24 rfl ?_
    refine r_aload_n (np := 26) G hl 0 rfl dX11_isSplit_25 rfl rfl ?_
    obtain ⟨r14, e15, hm⟩ := ref_t hm
    refine r_getR (np := 29) G hM (shp_lt g0 (by decide)) g0 e15 fdX11_3 lkX11_27 dX11_isSplit_26 rfl ?_
    refine r_iload_n (np := 30) G hl 1 rfl dX11_isSplit_29 rfl rfl ?_
    obtain ⟨b16, s17, e18, hm⟩ := call_t hm
    refine m_callVI (np := 33) G hM hl.1 [vI v1] (qX0_second l E s12 r14 v1 _ e18) myX0_second (shp_lt (gX0_second e18) (by decide)) (gX0_second e18) rfl (by decide) lkX11_110 ⟨Nat.le_of_ble_eq_true rfl, Nat.le_of_ble_eq_true rfl⟩ ⟨Nat.le_of_ble_eq_true rfl, Nat.le_of_ble_eq_true rfl⟩ [vL (wI b11), .ref (eA E r7)] rfl (Nat.le_of_ble_eq_true rfl) dX11_isSplit_30 rfl (fun H locs hM => ?_)
    refine r_i2l (np := 34) G rfl dX11_isSplit_33 rfl ?_
    obtain ⟨b19, s20, e21, hm⟩ := call_t hm
    refine m_callVI (np := 37) G hM hl.1 [vL (wI b11), vL (wI b16)] (qX9_solve l E s17 r7 (wI b11) (wI b16) _ e21) myX9_solve (shp_lt (gX9_solve e21) (by decide)) (gX9_solve e21) rfl (by decide) lkX11_224 ⟨Nat.le_of_ble_eq_true rfl, Nat.le_of_ble_eq_true rfl⟩ ⟨Nat.le_of_ble_eq_true rfl, Nat.le_of_ble_eq_true rfl⟩ [] rfl (Nat.le_of_ble_eq_true rfl) dX11_isSplit_34 rfl (fun H locs hM => ?_)
    refine r_if_eq (np := 40) (tgt := 44) G rfl dX11_isSplit_37 (by decide) rfl (fun h22 => ?_) (fun h22 => ?_)
    · have hm := b_t h22 hm
      exact wX11_isSplit_B44 l E out G hr hk v0 v1 g0 _ _ _ _ hm hM (lv_sub hl [] rfl)
    · have hm := b_f h22 hm
      refine r_iconst (np := 41) G 1 dX11_isSplit_40 rfl ?_
      refine r_goto (np := 45) G dX11_isSplit_41 (by decide) ?_
      exact r_zret G hr hk hM (Or.inr rfl) hm dX11_isSplit_45
theorem gX11_isSplit {v0 : Nat} {v1 : Int} {σ : mSt} {out : Int × mSt} (hm : mX11_isSplit v0 v1 σ = some out) : isC v0 10 := (g_t hm).1
set_option maxRecDepth 100000 in
set_option maxHeartbeats 4000000 in
theorem qX11_solution (l : Launch) (E : mE) (σ : mSt) (v0 : Nat) (v1 : Int) (v2 : Int) (out : Int × mSt) (hm : mX11_solution v0 v1 v2 σ = some out) : mMet l yX11_solution cX11_solution 3 (some .int) 4 96 E 276 [.ref (eA E v0), vI v1, vI v2] σ (some (vI out.1)) out.2 := by
  unfold mX11_solution at hm
  obtain ⟨g0, hm⟩ := g_t hm
  refine m_entry (by decide +kernel) (Nat.le_of_ble_eq_true rfl) (fun p e s m args below meth c G hr hk hM ls hl => ?_)
  have G : CallFix p m c cX11_solution 3 s args mTs RX11 := G
  have hl : lv_has ls 3 [(0, .ref (eA E v0)), (1, vI v1), (2, vI v2)] := hl
  refine r_aload_n (np := 1) G hl 0 rfl dX11_solution_0 rfl rfl ?_
  refine r_iload_n (np := 2) G hl 1 rfl dX11_solution_1 rfl rfl ?_
  obtain ⟨b1, s2, e3, hm⟩ := call_t hm
  refine m_callVI (np := 5) G hM hl.1 [vI v1] (qX11_isQuaternion l E σ v0 v1 _ e3) myX11_isQuaternion (shp_lt (gX11_isQuaternion e3) (by decide)) (gX11_isQuaternion e3) rfl (by decide) lkX11_102 ⟨Nat.le_of_ble_eq_true rfl, Nat.le_of_ble_eq_true rfl⟩ ⟨Nat.le_of_ble_eq_true rfl, Nat.le_of_ble_eq_true rfl⟩ [] rfl (Nat.le_of_ble_eq_true rfl) dX11_solution_2 rfl (fun H locs hM => ?_)
  refine r_if_eq (np := 8) (tgt := 17) G rfl dX11_solution_5 (by decide) rfl (fun h4 => ?_) (fun h4 => ?_)
  · have hm := b_t h4 hm
    refine r_iconst (np := 18) G (-1) dX11_solution_17 rfl ?_
    exact r_iret G hr hk hM hm dX11_solution_18
  · have hm := b_f h4 hm
    refine r_iload_n (np := 9) G hl 2 rfl dX11_solution_8 rfl rfl ?_
    refine r_if_lt (np := 12) (tgt := 17) G rfl dX11_solution_9 (by decide) rfl (fun h5 => ?_) (fun h5 => ?_)
    · have hm := b_t h5 hm
      refine r_iconst (np := 18) G (-1) dX11_solution_17 rfl ?_
      exact r_iret G hr hk hM hm dX11_solution_18
    · have hm := b_f h5 hm
      refine r_iload_n (np := 13) G hl 2 rfl dX11_solution_12 rfl rfl ?_
      refine r_iconst (np := 14) G 2 dX11_solution_13 rfl ?_
      refine r_icmp_le (np := 17) (tgt := 19) G rfl (wIk 2 rfl) dX11_solution_14 (by decide) rfl (fun h6 => ?_) (fun h6 => ?_)
      · have hm := b_t h6 hm
        refine r_aload_n (np := 20) G hl 0 rfl dX11_solution_19 rfl rfl ?_
        refine r_iload_n (np := 21) G hl 1 rfl dX11_solution_20 rfl rfl ?_
        obtain ⟨b7, s8, e9, hm⟩ := call_t hm
        refine m_callVI (np := 24) G hM hl.1 [vI v1] (qX11_isSplit l E s2 v0 v1 _ e9) myX11_isSplit (shp_lt (gX11_isSplit e9) (by decide)) (gX11_isSplit e9) rfl (by decide) lkX11_211 ⟨Nat.le_of_ble_eq_true rfl, Nat.le_of_ble_eq_true rfl⟩ ⟨Nat.le_of_ble_eq_true rfl, Nat.le_of_ble_eq_true rfl⟩ [] rfl (Nat.le_of_ble_eq_true rfl) dX11_solution_21 rfl (fun H locs hM => ?_)
        refine r_if_ne (np := 27) (tgt := 30) G rfl dX11_solution_24 (by decide) rfl (fun h10 => ?_) (fun h10 => ?_)
        · have hm := b_f h10 hm
          refine r_aload_n (np := 31) G hl 0 rfl dX11_solution_30 rfl rfl ?_
          obtain ⟨r11, e12, hm⟩ := ref_t hm
          refine r_getR (np := 34) G hM (shp_lt g0 (by decide)) g0 e12 fdX11_9 lkX11_63 dX11_solution_31 rfl ?_
          refine r_iload_n (np := 35) G hl 2 rfl dX11_solution_34 rfl rfl ?_
          obtain ⟨b13, s14, e15, hm⟩ := call_t hm
          refine m_callVI (np := 38) G hM hl.1 [vI v2] (qX9_part l E s8 r11 v2 _ e15) myX9_part (shp_lt (gX9_part e15) (by decide)) (gX9_part e15) rfl (by decide) lkX11_214 ⟨Nat.le_of_ble_eq_true rfl, Nat.le_of_ble_eq_true rfl⟩ ⟨Nat.le_of_ble_eq_true rfl, Nat.le_of_ble_eq_true rfl⟩ [] rfl (Nat.le_of_ble_eq_true rfl) dX11_solution_35 rfl (fun H locs hM => ?_)
          exact r_iret G hr hk hM hm dX11_solution_38
        · have hm := b_t h10 hm
          refine r_bipush (np := 29) G (-2) dX11_solution_27 (by decide) rfl ?_
          exact r_iret G hr hk hM hm dX11_solution_29
      · have hm := b_f h6 hm
        refine r_iconst (np := 18) G (-1) dX11_solution_17 rfl ?_
        exact r_iret G hr hk hM hm dX11_solution_18
theorem gX11_solution {v0 : Nat} {v1 : Int} {v2 : Int} {σ : mSt} {out : Int × mSt} (hm : mX11_solution v0 v1 v2 σ = some out) : isC v0 10 := (g_t hm).1
set_option maxRecDepth 100000 in
set_option maxHeartbeats 4000000 in
theorem qX11_disc (l : Launch) (E : mE) (σ : mSt) (v0 : Nat) (v1 : Int) (out : Int × mSt) (hm : mX11_disc v0 v1 σ = some out) : mMet l yX11_disc cX11_disc 2 (some .int) 5 118 E 276 [.ref (eA E v0), vI v1] σ (some (vI out.1)) out.2 := by
  unfold mX11_disc at hm
  obtain ⟨g0, hm⟩ := g_t hm
  refine m_entry (by decide +kernel) (Nat.le_of_ble_eq_true rfl) (fun p e s m args below meth c G hr hk hM ls hl => ?_)
  have G : CallFix p m c cX11_disc 2 s args mTs RX11 := G
  have hl : lv_has ls 2 [(0, .ref (eA E v0)), (1, vI v1)] := hl
  refine r_aload_n (np := 1) G hl 0 rfl dX11_disc_0 rfl rfl ?_
  refine r_iload_n (np := 2) G hl 1 rfl dX11_disc_1 rfl rfl ?_
  obtain ⟨b1, s2, e3, hm⟩ := call_t hm
  refine m_callVI (np := 5) G hM hl.1 [vI v1] (qX11_isQuaternion l E σ v0 v1 _ e3) myX11_isQuaternion (shp_lt (gX11_isQuaternion e3) (by decide)) (gX11_isQuaternion e3) rfl (by decide) lkX11_102 ⟨Nat.le_of_ble_eq_true rfl, Nat.le_of_ble_eq_true rfl⟩ ⟨Nat.le_of_ble_eq_true rfl, Nat.le_of_ble_eq_true rfl⟩ [] rfl (Nat.le_of_ble_eq_true rfl) dX11_disc_2 rfl (fun H locs hM => ?_)
  refine r_if_eq (np := 8) (tgt := 21) G rfl dX11_disc_5 (by decide) rfl (fun h4 => ?_) (fun h4 => ?_)
  · have hm := b_t h4 hm
    refine r_iconst (np := 22) G (-1) dX11_disc_21 rfl ?_
    exact r_iret G hr hk hM hm dX11_disc_22
  · have hm := b_f h4 hm
    refine r_aload_n (np := 9) G hl 0 rfl dX11_disc_8 rfl rfl ?_
    obtain ⟨r5, e6, hm⟩ := ref_t hm
    refine r_getR (np := 12) G hM (shp_lt g0 (by decide)) g0 e6 fdX11_7 lkX11_49 dX11_disc_9 rfl ?_
    refine r_iload_n (np := 13) G hl 1 rfl dX11_disc_12 rfl rfl ?_
    obtain ⟨g7, hm⟩ := g_t hm
    obtain ⟨r8, e9, hm⟩ := ref_t hm
    refine r_aaload (np := 14) G hM (t := 4) g7 rfl ⟨by decide, by decide⟩ rfl rfl e9 dX11_disc_13 rfl ?_
    obtain ⟨b10, s11, e12, hm⟩ := call_t hm
    refine m_callVL (np := 17) G hM hl.1 [] (qX6_discriminant l E s2 r8 _ e12) myX6_discriminant (shp_lt (gX6_discriminant e12) (by decide)) (gX6_discriminant e12) rfl (by decide) lkX11_228 ⟨Nat.le_of_ble_eq_true rfl, Nat.le_of_ble_eq_true rfl⟩ ⟨Nat.le_of_ble_eq_true rfl, Nat.le_of_ble_eq_true rfl⟩ [] rfl (Nat.le_of_ble_eq_true rfl) dX11_disc_14 rfl (fun H locs hM => ?_)
    refine r_l2i (np := 18) G dX11_disc_17 rfl ?_
    refine r_goto (np := 22) G dX11_disc_18 (by decide) ?_
    exact r_iret G hr hk hM hm dX11_disc_22
theorem gX11_disc {v0 : Nat} {v1 : Int} {σ : mSt} {out : Int × mSt} (hm : mX11_disc v0 v1 σ = some out) : isC v0 10 := (g_t hm).1
set_option maxRecDepth 100000 in
set_option maxHeartbeats 4000000 in
theorem qX11_due (l : Launch) (E : mE) (σ : mSt) (v0 : Nat) (v1 : Int) (out : Int × mSt) (hm : mX11_due v0 v1 σ = some out) : mMet l yX11_due cX11_due 2 (some .int) 3 62 E 276 [.ref (eA E v0), vI v1] σ (some (vI out.1)) out.2 := by
  unfold mX11_due at hm
  obtain ⟨g0, hm⟩ := g_t hm
  refine m_entry (by decide +kernel) (Nat.le_of_ble_eq_true rfl) (fun p e s m args below meth c G hr hk hM ls hl => ?_)
  have G : CallFix p m c cX11_due 2 s args mTs RX11 := G
  have hl : lv_has ls 2 [(0, .ref (eA E v0)), (1, vI v1)] := hl
  refine r_aload_n (np := 1) G hl 0 rfl dX11_due_0 rfl rfl ?_
  refine r_iload_n (np := 2) G hl 1 rfl dX11_due_1 rfl rfl ?_
  obtain ⟨b1, s2, e3, hm⟩ := call_t hm
  refine m_callVI (np := 5) G hM hl.1 [vI v1] (qX11_isQuaternion l E σ v0 v1 _ e3) myX11_isQuaternion (shp_lt (gX11_isQuaternion e3) (by decide)) (gX11_isQuaternion e3) rfl (by decide) lkX11_102 ⟨Nat.le_of_ble_eq_true rfl, Nat.le_of_ble_eq_true rfl⟩ ⟨Nat.le_of_ble_eq_true rfl, Nat.le_of_ble_eq_true rfl⟩ [] rfl (Nat.le_of_ble_eq_true rfl) dX11_due_2 rfl (fun H locs hM => ?_)
  refine r_if_eq (np := 8) (tgt := 20) G rfl dX11_due_5 (by decide) rfl (fun h4 => ?_) (fun h4 => ?_)
  · have hm := b_t h4 hm
    refine r_iconst (np := 21) G (-1) dX11_due_20 rfl ?_
    exact r_iret G hr hk hM hm dX11_due_21
  · have hm := b_f h4 hm
    refine r_aload_n (np := 9) G hl 0 rfl dX11_due_8 rfl rfl ?_
    obtain ⟨r5, e6, hm⟩ := ref_t hm
    refine r_getR (np := 12) G hM (shp_lt g0 (by decide)) g0 e6 fdX11_5 lkX11_37 dX11_due_9 rfl ?_
    refine r_iload_n (np := 13) G hl 1 rfl dX11_due_12 rfl rfl ?_
    obtain ⟨b7, s8, e9, hm⟩ := call_t hm
    refine m_callVL (np := 16) G hM hl.1 [vI v1] (qX7_product l E s2 r5 v1 _ e9) myX7_product (shp_lt (gX7_product e9) (by decide)) (gX7_product e9) rfl (by decide) lkX11_231 ⟨Nat.le_of_ble_eq_true rfl, Nat.le_of_ble_eq_true rfl⟩ ⟨Nat.le_of_ble_eq_true rfl, Nat.le_of_ble_eq_true rfl⟩ [] rfl (Nat.le_of_ble_eq_true rfl) dX11_due_13 rfl (fun H locs hM => ?_)
    refine r_l2i (np := 17) G dX11_due_16 rfl ?_
    refine r_goto (np := 21) G dX11_due_17 (by decide) ?_
    exact r_iret G hr hk hM hm dX11_due_21
theorem gX11_due {v0 : Nat} {v1 : Int} {σ : mSt} {out : Int × mSt} (hm : mX11_due v0 v1 σ = some out) : isC v0 10 := (g_t hm).1
set_option maxRecDepth 100000 in
set_option maxHeartbeats 4000000 in
theorem qX11_canGrow (l : Launch) (E : mE) (σ : mSt) (v0 : Nat) (v1 : Int) (v2 : Int) (out : Int × mSt) (hm : mX11_canGrow v0 v1 v2 σ = some out) : mMet l yX11_canGrow cX11_canGrow 5 (some .boolean) 5 118 E 276 [.ref (eA E v0), vI v1, vI v2] σ (some (vI out.1)) out.2 := by
  unfold mX11_canGrow at hm
  obtain ⟨g0, hm⟩ := g_t hm
  refine m_entry (by decide +kernel) (Nat.le_of_ble_eq_true rfl) (fun p e s m args below meth c G hr hk hM ls hl => ?_)
  have G : CallFix p m c cX11_canGrow 5 s args mTs RX11 := G
  have hl : lv_has ls 5 [(0, .ref (eA E v0)), (1, vI v1), (2, vI v2)] := hl
  refine r_aload_n (np := 1) G hl 0 rfl dX11_canGrow_0 rfl rfl ?_
  obtain ⟨r1, e2, hm⟩ := ref_t hm
  refine r_getR (np := 4) G hM (shp_lt g0 (by decide)) g0 e2 fdX11_7 lkX11_49 dX11_canGrow_1 rfl ?_
  refine r_iload_n (np := 5) G hl 1 rfl dX11_canGrow_4 rfl rfl ?_
  obtain ⟨g3, hm⟩ := g_t hm
  obtain ⟨r4, e5, hm⟩ := ref_t hm
  refine r_aaload (np := 6) G hM (t := 4) g3 rfl ⟨by decide, by decide⟩ rfl rfl e5 dX11_canGrow_5 rfl ?_
  obtain ⟨b6, s7, e8, hm⟩ := call_t hm
  refine m_callVL (np := 9) G hM hl.1 [] (qX6_discriminant l E σ r4 _ e8) myX6_discriminant (shp_lt (gX6_discriminant e8) (by decide)) (gX6_discriminant e8) rfl (by decide) lkX11_228 ⟨Nat.le_of_ble_eq_true rfl, Nat.le_of_ble_eq_true rfl⟩ ⟨Nat.le_of_ble_eq_true rfl, Nat.le_of_ble_eq_true rfl⟩ [] rfl (Nat.le_of_ble_eq_true rfl) dX11_canGrow_6 rfl (fun H locs hM => ?_)
  refine r_lstore_n (np := 10) G hl rfl [(3, vL b6), (0, .ref (eA E v0)), (1, vI v1), (2, vI v2)] dX11_canGrow_9 rfl rfl (by decide) rfl (fun ls hl => ?_)
  refine r_iload_n (np := 11) G hl 3 rfl dX11_canGrow_10 rfl rfl ?_
  refine r_lload_n (np := 12) G hl 0 rfl dX11_canGrow_11 rfl rfl ?_
  obtain ⟨b9, s10, e11, hm⟩ := call_t hm
  refine m_callSI (np := 15) G hM hl.1 [vI v2, vL b6] (qX5_howOften l E s7 v2 b6 _ e11) myX5_howOften lkX11_247 ⟨Nat.le_of_ble_eq_true rfl, Nat.le_of_ble_eq_true rfl⟩ ⟨Nat.le_of_ble_eq_true rfl, Nat.le_of_ble_eq_true rfl⟩ [] rfl (Nat.le_of_ble_eq_true rfl) dX11_canGrow_12 rfl (fun H locs hM => ?_)
  refine r_iload_n (np := 16) G hl 3 rfl dX11_canGrow_15 rfl rfl ?_
  refine r_aload_n (np := 17) G hl 1 rfl dX11_canGrow_16 rfl rfl ?_
  obtain ⟨r12, e13, hm⟩ := ref_t hm
  refine r_getR (np := 20) G hM (shp_lt g0 (by decide)) g0 e13 fdX11_5 lkX11_37 dX11_canGrow_17 rfl ?_
  refine r_iload_n (np := 21) G hl 2 rfl dX11_canGrow_20 rfl rfl ?_
  obtain ⟨b14, s15, e16, hm⟩ := call_t hm
  refine m_callVL (np := 24) G hM hl.1 [vI v1] (qX7_product l E s10 r12 v1 _ e16) myX7_product (shp_lt (gX7_product e16) (by decide)) (gX7_product e16) rfl (by decide) lkX11_231 ⟨Nat.le_of_ble_eq_true rfl, Nat.le_of_ble_eq_true rfl⟩ ⟨Nat.le_of_ble_eq_true rfl, Nat.le_of_ble_eq_true rfl⟩ [vI v2, vI b9] rfl (Nat.le_of_ble_eq_true rfl) dX11_canGrow_21 rfl (fun H locs hM => ?_)
  obtain ⟨b17, s18, e19, hm⟩ := call_t hm
  refine m_callSI (np := 27) G hM hl.1 [vI v2, vL b14] (qX5_howOften l E s15 v2 b14 _ e19) myX5_howOften lkX11_247 ⟨Nat.le_of_ble_eq_true rfl, Nat.le_of_ble_eq_true rfl⟩ ⟨Nat.le_of_ble_eq_true rfl, Nat.le_of_ble_eq_true rfl⟩ [vI b9] rfl (Nat.le_of_ble_eq_true rfl) dX11_canGrow_24 rfl (fun H locs hM => ?_)
  refine r_icmp_le (np := 30) (tgt := 34) G rfl rfl dX11_canGrow_27 (by decide) rfl (fun h20 => ?_) (fun h20 => ?_)
  · have hm := b_t h20 hm
    refine r_iconst (np := 35) G 0 dX11_canGrow_34 rfl ?_
    exact r_zret G hr hk hM (Or.inl rfl) hm dX11_canGrow_35
  · have hm := b_f h20 hm
    refine r_iconst (np := 31) G 1 dX11_canGrow_30 rfl ?_
    refine r_goto (np := 35) G dX11_canGrow_31 (by decide) ?_
    exact r_zret G hr hk hM (Or.inr rfl) hm dX11_canGrow_35
theorem gX11_canGrow {v0 : Nat} {v1 : Int} {v2 : Int} {σ : mSt} {out : Int × mSt} (hm : mX11_canGrow v0 v1 v2 σ = some out) : isC v0 10 := (g_t hm).1
set_option maxRecDepth 100000 in
set_option maxHeartbeats 4000000 in
theorem qX11_enlarge (l : Launch) (E : mE) (σ : mSt) (v0 : Nat) (v1 : Int) (v2 : Int) (out : Int × mSt) (hm : mX11_enlarge v0 v1 v2 σ = some out) : mMet l yX11_enlarge cX11_enlarge 3 (some .int) 7 170 E 276 [.ref (eA E v0), vI v1, vI v2] σ (some (vI out.1)) out.2 := by
  unfold mX11_enlarge at hm
  obtain ⟨g0, hm⟩ := g_t hm
  refine m_entry (by decide +kernel) (Nat.le_of_ble_eq_true rfl) (fun p e s m args below meth c G hr hk hM ls hl => ?_)
  have G : CallFix p m c cX11_enlarge 3 s args mTs RX11 := G
  have hl : lv_has ls 3 [(0, .ref (eA E v0)), (1, vI v1), (2, vI v2)] := hl
  refine r_aload_n (np := 1) G hl 0 rfl dX11_enlarge_0 rfl rfl ?_
  refine r_iload_n (np := 2) G hl 1 rfl dX11_enlarge_1 rfl rfl ?_
  obtain ⟨b1, s2, e3, hm⟩ := call_t hm
  refine m_callVI (np := 5) G hM hl.1 [vI v1] (qX11_isQuaternion l E σ v0 v1 _ e3) myX11_isQuaternion (shp_lt (gX11_isQuaternion e3) (by decide)) (gX11_isQuaternion e3) rfl (by decide) lkX11_102 ⟨Nat.le_of_ble_eq_true rfl, Nat.le_of_ble_eq_true rfl⟩ ⟨Nat.le_of_ble_eq_true rfl, Nat.le_of_ble_eq_true rfl⟩ [] rfl (Nat.le_of_ble_eq_true rfl) dX11_enlarge_2 rfl (fun H locs hM => ?_)
  refine r_if_eq (np := 8) (tgt := 21) G rfl dX11_enlarge_5 (by decide) rfl (fun h4 => ?_) (fun h4 => ?_)
  · have hm := b_t h4 hm
    refine r_iconst (np := 22) G (-1) dX11_enlarge_21 rfl ?_
    exact r_iret G hr hk hM hm dX11_enlarge_22
  · have hm := b_f h4 hm
    refine r_iload_n (np := 9) G hl 2 rfl dX11_enlarge_8 rfl rfl ?_
    refine r_bipush (np := 11) G 60 dX11_enlarge_9 (by decide) rfl ?_
    refine r_icmp_gt (np := 14) (tgt := 21) G rfl (wIk 60 rfl) dX11_enlarge_11 (by decide) rfl (fun h5 => ?_) (fun h5 => ?_)
    · have hm := b_t h5 hm
      refine r_iconst (np := 22) G (-1) dX11_enlarge_21 rfl ?_
      exact r_iret G hr hk hM hm dX11_enlarge_22
    · have hm := b_f h5 hm
      refine r_iload_n (np := 15) G hl 2 rfl dX11_enlarge_14 rfl rfl ?_
      obtain ⟨b6, s7, e8, hm⟩ := call_t hm
      refine m_callSI (np := 18) G hM hl.1 [vI v2] (qX5_isPrime l E s2 v2 _ e8) myX5_isPrime lkX11_130 ⟨Nat.le_of_ble_eq_true rfl, Nat.le_of_ble_eq_true rfl⟩ ⟨Nat.le_of_ble_eq_true rfl, Nat.le_of_ble_eq_true rfl⟩ [] rfl (Nat.le_of_ble_eq_true rfl) dX11_enlarge_15 rfl (fun H locs hM => ?_)
      refine r_if_ne (np := 21) (tgt := 23) G rfl dX11_enlarge_18 (by decide) rfl (fun h9 => ?_) (fun h9 => ?_)
      · have hm := b_f h9 hm
        refine r_aload_n (np := 24) G hl 0 rfl dX11_enlarge_23 rfl rfl ?_
        refine r_iload_n (np := 25) G hl 1 rfl dX11_enlarge_24 rfl rfl ?_
        refine r_iload_n (np := 26) G hl 2 rfl dX11_enlarge_25 rfl rfl ?_
        obtain ⟨b10, s11, e12, hm⟩ := call_t hm
        refine m_callVI (np := 29) G hM hl.1 [vI v1, vI v2] (qX11_canGrow l E s7 v0 v1 v2 _ e12) myX11_canGrow (shp_lt (gX11_canGrow e12) (by decide)) (gX11_canGrow e12) rfl (by decide) lkX11_240 ⟨Nat.le_of_ble_eq_true rfl, Nat.le_of_ble_eq_true rfl⟩ ⟨Nat.le_of_ble_eq_true rfl, Nat.le_of_ble_eq_true rfl⟩ [] rfl (Nat.le_of_ble_eq_true rfl) dX11_enlarge_26 rfl (fun H locs hM => ?_)
        refine r_if_eq (np := 32) (tgt := 50) G rfl dX11_enlarge_29 (by decide) rfl (fun h13 => ?_) (fun h13 => ?_)
        · have hm := b_t h13 hm
          refine r_iconst (np := 51) G 0 dX11_enlarge_50 rfl ?_
          exact r_iret G hr hk hM hm dX11_enlarge_51
        · have hm := b_f h13 hm
          refine r_aload_n (np := 33) G hl 0 rfl dX11_enlarge_32 rfl rfl ?_
          obtain ⟨r14, e15, hm⟩ := ref_t hm
          refine r_getR (np := 36) G hM (shp_lt g0 (by decide)) g0 e15 fdX11_8 lkX11_56 dX11_enlarge_33 rfl ?_
          refine r_aload_n (np := 37) G hl 0 rfl dX11_enlarge_36 rfl rfl ?_
          obtain ⟨r16, e17, hm⟩ := ref_t hm
          refine r_getR (np := 40) G hM (shp_lt g0 (by decide)) g0 e17 fdX11_7 lkX11_49 dX11_enlarge_37 rfl ?_
          refine r_iload_n (np := 41) G hl 1 rfl dX11_enlarge_40 rfl rfl ?_
          obtain ⟨g18, hm⟩ := g_t hm
          obtain ⟨r19, e20, hm⟩ := ref_t hm
          refine r_aaload (np := 42) G hM (t := 4) g18 rfl ⟨by decide, by decide⟩ rfl rfl e20 dX11_enlarge_41 rfl ?_
          refine r_iload_n (np := 43) G hl 2 rfl dX11_enlarge_42 rfl rfl ?_
          obtain ⟨b21, s22, e23, hm⟩ := call_t hm
          refine m_callVL (np := 46) G hM hl.1 [.ref (eA E r19), vI v2] (qX2_grow l E s11 r14 r19 v2 _ e23) myX2_grow (shp_lt (gX2_grow e23) (by decide)) (gX2_grow e23) rfl (by decide) lkX11_243 ⟨Nat.le_of_ble_eq_true rfl, Nat.le_of_ble_eq_true rfl⟩ ⟨Nat.le_of_ble_eq_true rfl, Nat.le_of_ble_eq_true rfl⟩ [] rfl (Nat.le_of_ble_eq_true rfl) dX11_enlarge_43 rfl (fun H locs hM => ?_)
          refine r_l2i (np := 47) G dX11_enlarge_46 rfl ?_
          refine r_goto (np := 51) G dX11_enlarge_47 (by decide) ?_
          exact r_iret G hr hk hM hm dX11_enlarge_51
      · have hm := b_t h9 hm
        refine r_iconst (np := 22) G (-1) dX11_enlarge_21 rfl ?_
        exact r_iret G hr hk hM hm dX11_enlarge_22
theorem gX11_enlarge {v0 : Nat} {v1 : Int} {v2 : Int} {σ : mSt} {out : Int × mSt} (hm : mX11_enlarge v0 v1 v2 σ = some out) : isC v0 10 := (g_t hm).1
set_option maxRecDepth 100000 in
set_option maxHeartbeats 4000000 in
theorem wX11_greatest_B101 (l : Launch) (E : mE) (out : Int × mSt) {p : Program} {e : Env} {s : State} {m : MethodId} {args : Array Value} {below : List Frame} {meth : Method} {c : Code} (G : CallFix p m c cX11_greatest 6 s args mTs RX11) (hr : meth.sig.returnType = (some .int)) (hk : meth.locks = false) (v0 : Nat) (v1 : Int) (g0 : isC v0 10) : ∀ (v2 : Int) (σ : mSt) (H : Heap) (locs : List Loc) (ls : Array Slot), mX11_greatest_B101 v0 v1 v2 σ = some out → mM (mA E 276) E 276 σ s H locs → lv_has ls 6 [(2, vI v2)] → mGo l p e 7 170 s m args below meth c E (some (vI out.1)) out.2 H locs (F0 m 101 ls []) := by
  intro v2 σ H locs ls hm hM hl
  unfold mX11_greatest_B101 at hm
  refine r_iload_n (np := 102) G hl 0 rfl dX11_greatest_101 rfl rfl ?_
  exact r_iret G hr hk hM hm dX11_greatest_102
set_option maxRecDepth 100000 in
set_option maxHeartbeats 4000000 in
theorem wX11_greatest_B95 (l : Launch) (E : mE) (out : Int × mSt) {p : Program} {e : Env} {s : State} {m : MethodId} {args : Array Value} {below : List Frame} {meth : Method} {c : Code} (G : CallFix p m c cX11_greatest 6 s args mTs RX11) (hr : meth.sig.returnType = (some .int)) (hk : meth.locks = false) (v0 : Nat) (v1 : Int) (g0 : isC v0 10) (c14 : Int → Int → mSt → Option (Int × mSt)) (x101 : Int → mSt → Option (Int × mSt)) (hc14 : ∀ (v2 : Int) (v3 : Int) (σ : mSt) (H : Heap) (locs : List Loc) (ls : Array Slot), c14 v2 v3 σ = some out → mM (mA E 276) E 276 σ s H locs → lv_has ls 6 [(0, .ref (eA E v0)), (1, vI v1), (2, vI v2), (3, vI v3)] → mGo l p e 7 170 s m args below meth c E (some (vI out.1)) out.2 H locs (F0 m 14 ls [])) (hx101 : ∀ (v2 : Int) (σ : mSt) (H : Heap) (locs : List Loc) (ls : Array Slot), x101 v2 σ = some out → mM (mA E 276) E 276 σ s H locs → lv_has ls 6 [(2, vI v2)] → mGo l p e 7 170 s m args below meth c E (some (vI out.1)) out.2 H locs (F0 m 101 ls [])) : ∀ (v2 : Int) (v3 : Int) (σ : mSt) (H : Heap) (locs : List Loc) (ls : Array Slot), mX11_greatest_B95 v0 v1 c14 x101 v2 v3 σ = some out → mM (mA E 276) E 276 σ s H locs → lv_has ls 6 [(0, .ref (eA E v0)), (1, vI v1), (2, vI v2), (3, vI v3)] → mGo l p e 7 170 s m args below meth c E (some (vI out.1)) out.2 H locs (F0 m 95 ls []) := by
  intro v2 v3 σ H locs ls hm hM hl
  unfold mX11_greatest_B95 at hm
  obtain ⟨a1, e2, hm⟩ := bnd_t hm
  refine r_iinc (np := 98) G hl 3 rfl e2 [(3, vI a1), (0, .ref (eA E v0)), (1, vI v1), (2, vI v2)] dX11_greatest_95 rfl (by decide) rfl (fun ls hl => ?_)
  refine r_goto (np := 14) G dX11_greatest_98 (by decide) ?_
  exact hc14 v2 a1 _ _ _ _ hm hM (lv_sub hl [1, 2, 3, 0] rfl)
set_option maxRecDepth 100000 in
set_option maxHeartbeats 4000000 in
theorem wX11_greatest_B74 (l : Launch) (E : mE) (out : Int × mSt) {p : Program} {e : Env} {s : State} {m : MethodId} {args : Array Value} {below : List Frame} {meth : Method} {c : Code} (G : CallFix p m c cX11_greatest 6 s args mTs RX11) (hr : meth.sig.returnType = (some .int)) (hk : meth.locks = false) (v0 : Nat) (v1 : Int) (v3 : Int) (g0 : isC v0 10) (c29 : Int → Int → Int → mSt → Option (Int × mSt)) (x95 : Int → mSt → Option (Int × mSt)) (hc29 : ∀ (v2 : Int) (v4 : Int) (v5 : Int) (σ : mSt) (H : Heap) (locs : List Loc) (ls : Array Slot), c29 v2 v4 v5 σ = some out → mM (mA E 276) E 276 σ s H locs → lv_has ls 6 [(0, .ref (eA E v0)), (1, vI v1), (2, vI v2), (3, vI v3), (4, vI v4), (5, vI v5)] → mGo l p e 7 170 s m args below meth c E (some (vI out.1)) out.2 H locs (F0 m 29 ls [])) (hx95 : ∀ (v2 : Int) (σ : mSt) (H : Heap) (locs : List Loc) (ls : Array Slot), x95 v2 σ = some out → mM (mA E 276) E 276 σ s H locs → lv_has ls 6 [(0, .ref (eA E v0)), (1, vI v1), (2, vI v2), (3, vI v3)] → mGo l p e 7 170 s m args below meth c E (some (vI out.1)) out.2 H locs (F0 m 95 ls [])) : ∀ (v2 : Int) (v5 : Int) (t0 : Int) (σ : mSt) (H : Heap) (locs : List Loc) (ls : Array Slot), mX11_greatest_B74 v0 v1 v3 c29 x95 v2 v5 t0 σ = some out → mM (mA E 276) E 276 σ s H locs → lv_has ls 6 [(0, .ref (eA E v0)), (1, vI v1), (2, vI v2), (3, vI v3), (5, vI v5)] → mGo l p e 7 170 s m args below meth c E (some (vI out.1)) out.2 H locs (F0 m 74 ls [vI t0]) := by
  intro v2 v5 t0 σ H locs ls hm hM hl
  unfold mX11_greatest_B74 at hm
  refine r_istore (np := 76) G hl rfl [(4, vI t0), (0, .ref (eA E v0)), (1, vI v1), (2, vI v2), (3, vI v3), (5, vI v5)] dX11_greatest_74 rfl (by decide) rfl (fun ls hl => ?_)
  refine r_iload_n (np := 77) G hl 3 rfl dX11_greatest_76 rfl rfl ?_
  refine r_iload (np := 79) G hl 0 rfl dX11_greatest_77 rfl ?_
  refine r_if_eq (np := 82) (tgt := 86) G rfl dX11_greatest_79 (by decide) rfl (fun h3 => ?_) (fun h3 => ?_)
  · have hm := b_t h3 hm
    refine r_iconst (np := 87) G 0 dX11_greatest_86 rfl ?_
    refine r_iadd (np := 88) G dX11_greatest_87 rfl ?_
    obtain ⟨a4, e5, hm⟩ := bnd_t hm
    refine r_istore_n (np := 89) G hl e5 [(2, vI a4), (4, vI t0), (0, .ref (eA E v0)), (1, vI v1), (3, vI v3), (5, vI v5)] dX11_greatest_88 rfl rfl (by decide) rfl (fun ls hl => ?_)
    obtain ⟨a6, e7, hm⟩ := bnd_t hm
    refine r_iinc (np := 92) G hl 5 rfl e7 [(5, vI a6), (2, vI a4), (4, vI t0), (0, .ref (eA E v0)), (1, vI v1), (3, vI v3)] dX11_greatest_89 rfl (by decide) rfl (fun ls hl => ?_)
    refine r_goto (np := 29) G dX11_greatest_92 (by decide) ?_
    exact hc29 a4 t0 a6 _ _ _ _ hm hM (lv_sub hl [3, 4, 1, 5, 2, 0] rfl)
  · have hm := b_f h3 hm
    refine r_iconst (np := 83) G 1 dX11_greatest_82 rfl ?_
    refine r_goto (np := 87) G dX11_greatest_83 (by decide) ?_
    refine r_iadd (np := 88) G dX11_greatest_87 rfl ?_
    obtain ⟨a8, e9, hm⟩ := bnd_t hm
    refine r_istore_n (np := 89) G hl e9 [(2, vI a8), (4, vI t0), (0, .ref (eA E v0)), (1, vI v1), (3, vI v3), (5, vI v5)] dX11_greatest_88 rfl rfl (by decide) rfl (fun ls hl => ?_)
    obtain ⟨a10, e11, hm⟩ := bnd_t hm
    refine r_iinc (np := 92) G hl 5 rfl e11 [(5, vI a10), (2, vI a8), (4, vI t0), (0, .ref (eA E v0)), (1, vI v1), (3, vI v3)] dX11_greatest_89 rfl (by decide) rfl (fun ls hl => ?_)
    refine r_goto (np := 29) G dX11_greatest_92 (by decide) ?_
    exact hc29 a8 t0 a10 _ _ _ _ hm hM (lv_sub hl [3, 4, 1, 5, 2, 0] rfl)
set_option maxRecDepth 100000 in
set_option maxHeartbeats 4000000 in
theorem wX11_greatest_L29 (l : Launch) (E : mE) (out : Int × mSt) {p : Program} {e : Env} {s : State} {m : MethodId} {args : Array Value} {below : List Frame} {meth : Method} {c : Code} (G : CallFix p m c cX11_greatest 6 s args mTs RX11) (hr : meth.sig.returnType = (some .int)) (hk : meth.locks = false) (v0 : Nat) (v1 : Int) (v3 : Int) (g0 : isC v0 10) (x95 : Int → mSt → Option (Int × mSt)) (hx95 : ∀ (v2 : Int) (σ : mSt) (H : Heap) (locs : List Loc) (ls : Array Slot), x95 v2 σ = some out → mM (mA E 276) E 276 σ s H locs → lv_has ls 6 [(0, .ref (eA E v0)), (1, vI v1), (2, vI v2), (3, vI v3)] → mGo l p e 7 170 s m args below meth c E (some (vI out.1)) out.2 H locs (F0 m 95 ls [])) : ∀ (n : Nat) (v2 : Int) (v4 : Int) (v5 : Int) (σ : mSt) (H : Heap) (locs : List Loc) (ls : Array Slot), mX11_greatest_L29 v0 v1 v3 x95 n v2 v4 v5 σ = some out → mM (mA E 276) E 276 σ s H locs → lv_has ls 6 [(0, .ref (eA E v0)), (1, vI v1), (2, vI v2), (3, vI v3), (4, vI v4), (5, vI v5)] → mGo l p e 7 170 s m args below meth c E (some (vI out.1)) out.2 H locs (F0 m 29 ls []) := by
  intro n
  induction n with
  | zero =>
    intro v2 v4 v5 σ H locs ls hm hM hl
    exact absurd hm (by rw [mX11_greatest_L29.eq_1]; exact fun h => nomatch h)
  | succ n ih =>
    intro v2 v4 v5 σ H locs ls hm hM hl
    rw [mX11_greatest_L29.eq_2] at hm
    refine r_iload (np := 31) G hl 5 rfl dX11_greatest_29 rfl ?_
    refine r_bipush (np := 33) G 40 dX11_greatest_31 (by decide) rfl ?_
    refine r_icmp_ge (np := 36) (tgt := 95) G rfl (wIk 40 rfl) dX11_greatest_33 (by decide) rfl (fun h12 => ?_) (fun h12 => ?_)
    · have hm := b_t h12 hm
      exact hx95 v2 _ _ _ _ hm hM (lv_sub hl [0, 1, 2, 3] rfl)
    · have hm := b_f h12 hm
      refine r_iload (np := 38) G hl 4 rfl dX11_greatest_36 rfl ?_
      refine r_if_eq (np := 41) (tgt := 95) G rfl dX11_greatest_38 (by decide) rfl (fun h13 => ?_) (fun h13 => ?_)
      · have hm := b_t h13 hm
        exact hx95 v2 _ _ _ _ hm hM (lv_sub hl [0, 1, 2, 3] rfl)
      · have hm := b_f h13 hm
        refine r_aload_n (np := 42) G hl 0 rfl dX11_greatest_41 rfl rfl ?_
        refine r_iload_n (np := 43) G hl 1 rfl dX11_greatest_42 rfl rfl ?_
        refine r_iload_n (np := 44) G hl 3 rfl dX11_greatest_43 rfl rfl ?_
        obtain ⟨b14, s15, e16, hm⟩ := call_t hm
        refine m_callVI (np := 47) G hM hl.1 [vI v1, vI v3] (qX11_canGrow l E σ v0 v1 v3 _ e16) myX11_canGrow (shp_lt (gX11_canGrow e16) (by decide)) (gX11_canGrow e16) rfl (by decide) lkX11_240 ⟨Nat.le_of_ble_eq_true rfl, Nat.le_of_ble_eq_true rfl⟩ ⟨Nat.le_of_ble_eq_true rfl, Nat.le_of_ble_eq_true rfl⟩ [] rfl (Nat.le_of_ble_eq_true rfl) dX11_greatest_44 rfl (fun H locs hM => ?_)
        refine r_if_eq (np := 50) (tgt := 95) G rfl dX11_greatest_47 (by decide) rfl (fun h17 => ?_) (fun h17 => ?_)
        · have hm := b_t h17 hm
          exact hx95 v2 _ _ _ _ hm hM (lv_sub hl [0, 1, 2, 3] rfl)
        · have hm := b_f h17 hm
          refine r_aload_n (np := 51) G hl 0 rfl dX11_greatest_50 rfl rfl ?_
          obtain ⟨r18, e19, hm⟩ := ref_t hm
          refine r_getR (np := 54) G hM (shp_lt g0 (by decide)) g0 e19 fdX11_8 lkX11_56 dX11_greatest_51 rfl ?_
          refine r_aload_n (np := 55) G hl 0 rfl dX11_greatest_54 rfl rfl ?_
          obtain ⟨r20, e21, hm⟩ := ref_t hm
          refine r_getR (np := 58) G hM (shp_lt g0 (by decide)) g0 e21 fdX11_7 lkX11_49 dX11_greatest_55 rfl ?_
          refine r_iload_n (np := 59) G hl 1 rfl dX11_greatest_58 rfl rfl ?_
          obtain ⟨g22, hm⟩ := g_t hm
          obtain ⟨r23, e24, hm⟩ := ref_t hm
          refine r_aaload (np := 60) G hM (t := 4) g22 rfl ⟨by decide, by decide⟩ rfl rfl e24 dX11_greatest_59 rfl ?_
          refine r_iload_n (np := 61) G hl 3 rfl dX11_greatest_60 rfl rfl ?_
          obtain ⟨b25, s26, e27, hm⟩ := call_t hm
          refine m_callVL (np := 64) G hM hl.1 [.ref (eA E r23), vI v3] (qX2_grow l E s15 r18 r23 v3 _ e27) myX2_grow (shp_lt (gX2_grow e27) (by decide)) (gX2_grow e27) rfl (by decide) lkX11_243 ⟨Nat.le_of_ble_eq_true rfl, Nat.le_of_ble_eq_true rfl⟩ ⟨Nat.le_of_ble_eq_true rfl, Nat.le_of_ble_eq_true rfl⟩ [] rfl (Nat.le_of_ble_eq_true rfl) dX11_greatest_61 rfl (fun H locs hM => ?_)
          refine r_lconst (np := 65) G 0 dX11_greatest_64 rfl rfl ?_
          refine r_lcmp_le (np := 69) (tgt := 73) G rfl (wLk 0 rfl) dX11_greatest_65 dX11_greatest_66 (by decide) rfl (fun h28 => ?_) (fun h28 => ?_)
          · have hm := b_t h28 hm
            refine r_iconst (np := 74) G 0 dX11_greatest_73 rfl ?_
            exact wX11_greatest_B74 l E out G hr hk v0 v1 v3 g0 (mX11_greatest_L29 v0 v1 v3 x95 n) x95 ih hx95 v2 v5 0 _ _ _ _ hm hM (lv_sub hl [0, 1, 2, 3, 5] rfl)
          · have hm := b_f h28 hm
            refine r_iconst (np := 70) G 1 dX11_greatest_69 rfl ?_
            refine r_goto (np := 74) G dX11_greatest_70 (by decide) ?_
            exact wX11_greatest_B74 l E out G hr hk v0 v1 v3 g0 (mX11_greatest_L29 v0 v1 v3 x95 n) x95 ih hx95 v2 v5 1 _ _ _ _ hm hM (lv_sub hl [0, 1, 2, 3, 5] rfl)
set_option maxRecDepth 100000 in
set_option maxHeartbeats 4000000 in
theorem wX11_greatest_L14 (l : Launch) (E : mE) (out : Int × mSt) {p : Program} {e : Env} {s : State} {m : MethodId} {args : Array Value} {below : List Frame} {meth : Method} {c : Code} (G : CallFix p m c cX11_greatest 6 s args mTs RX11) (hr : meth.sig.returnType = (some .int)) (hk : meth.locks = false) (v0 : Nat) (v1 : Int) (g0 : isC v0 10) (x101 : Int → mSt → Option (Int × mSt)) (hx101 : ∀ (v2 : Int) (σ : mSt) (H : Heap) (locs : List Loc) (ls : Array Slot), x101 v2 σ = some out → mM (mA E 276) E 276 σ s H locs → lv_has ls 6 [(2, vI v2)] → mGo l p e 7 170 s m args below meth c E (some (vI out.1)) out.2 H locs (F0 m 101 ls [])) : ∀ (n : Nat) (v2 : Int) (v3 : Int) (σ : mSt) (H : Heap) (locs : List Loc) (ls : Array Slot), mX11_greatest_L14 v0 v1 x101 n v2 v3 σ = some out → mM (mA E 276) E 276 σ s H locs → lv_has ls 6 [(0, .ref (eA E v0)), (1, vI v1), (2, vI v2), (3, vI v3)] → mGo l p e 7 170 s m args below meth c E (some (vI out.1)) out.2 H locs (F0 m 14 ls []) := by
  intro n
  induction n with
  | zero =>
    intro v2 v3 σ H locs ls hm hM hl
    exact absurd hm (by rw [mX11_greatest_L14.eq_1]; exact fun h => nomatch h)
  | succ n ih =>
    intro v2 v3 σ H locs ls hm hM hl
    rw [mX11_greatest_L14.eq_2] at hm
    refine r_iload_n (np := 15) G hl 3 rfl dX11_greatest_14 rfl rfl ?_
    refine r_bipush (np := 17) G 60 dX11_greatest_15 (by decide) rfl ?_
    refine r_icmp_gt (np := 20) (tgt := 101) G rfl (wIk 60 rfl) dX11_greatest_17 (by decide) rfl (fun h29 => ?_) (fun h29 => ?_)
    · have hm := b_t h29 hm
      exact hx101 v2 _ _ _ _ hm hM (lv_sub hl [2] rfl)
    · have hm := b_f h29 hm
      refine r_iload_n (np := 21) G hl 3 rfl dX11_greatest_20 rfl rfl ?_
      obtain ⟨b30, s31, e32, hm⟩ := call_t hm
      refine m_callSI (np := 24) G hM hl.1 [vI v3] (qX5_isPrime l E σ v3 _ e32) myX5_isPrime lkX11_130 ⟨Nat.le_of_ble_eq_true rfl, Nat.le_of_ble_eq_true rfl⟩ ⟨Nat.le_of_ble_eq_true rfl, Nat.le_of_ble_eq_true rfl⟩ [] rfl (Nat.le_of_ble_eq_true rfl) dX11_greatest_21 rfl (fun H locs hM => ?_)
      refine r_istore (np := 26) G hl rfl [(4, vI b30), (0, .ref (eA E v0)), (1, vI v1), (2, vI v2), (3, vI v3)] dX11_greatest_24 rfl (by decide) rfl (fun ls hl => ?_)
      refine r_iconst (np := 27) G 0 dX11_greatest_26 rfl ?_
      refine r_istore (np := 29) G hl rfl [(5, vI 0), (4, vI b30), (0, .ref (eA E v0)), (1, vI v1), (2, vI v2), (3, vI v3)] dX11_greatest_27 rfl (by decide) rfl (fun ls hl => ?_)
      exact wX11_greatest_L29 l E out G hr hk v0 v1 v3 g0 (fun z2 zσ => mX11_greatest_B95 v0 v1 (mX11_greatest_L14 v0 v1 x101 n) x101 z2 v3 zσ) (fun z2 zσ zH zl zs zm zM zv => wX11_greatest_B95 l E out G hr hk v0 v1 g0 (mX11_greatest_L14 v0 v1 x101 n) x101 ih hx101 z2 v3 zσ zH zl zs zm zM zv) mF v2 b30 0 _ _ _ _ hm hM (lv_sub hl [2, 3, 4, 5, 1, 0] rfl)
set_option maxRecDepth 100000 in
set_option maxHeartbeats 4000000 in
theorem qX11_greatest (l : Launch) (E : mE) (σ : mSt) (v0 : Nat) (v1 : Int) (out : Int × mSt) (hm : mX11_greatest v0 v1 σ = some out) : mMet l yX11_greatest cX11_greatest 6 (some .int) 7 170 E 276 [.ref (eA E v0), vI v1] σ (some (vI out.1)) out.2 := by
  unfold mX11_greatest at hm
  obtain ⟨g0, hm⟩ := g_t hm
  refine m_entry (by decide +kernel) (Nat.le_of_ble_eq_true rfl) (fun p e s m args below meth c G hr hk hM ls hl => ?_)
  have G : CallFix p m c cX11_greatest 6 s args mTs RX11 := G
  have hl : lv_has ls 6 [(0, .ref (eA E v0)), (1, vI v1)] := hl
  refine r_aload_n (np := 1) G hl 0 rfl dX11_greatest_0 rfl rfl ?_
  refine r_iload_n (np := 2) G hl 1 rfl dX11_greatest_1 rfl rfl ?_
  obtain ⟨b33, s34, e35, hm⟩ := call_t hm
  refine m_callVI (np := 5) G hM hl.1 [vI v1] (qX11_isQuaternion l E σ v0 v1 _ e35) myX11_isQuaternion (shp_lt (gX11_isQuaternion e35) (by decide)) (gX11_isQuaternion e35) rfl (by decide) lkX11_102 ⟨Nat.le_of_ble_eq_true rfl, Nat.le_of_ble_eq_true rfl⟩ ⟨Nat.le_of_ble_eq_true rfl, Nat.le_of_ble_eq_true rfl⟩ [] rfl (Nat.le_of_ble_eq_true rfl) dX11_greatest_2 rfl (fun H locs hM => ?_)
  refine r_if_ne (np := 8) (tgt := 10) G rfl dX11_greatest_5 (by decide) rfl (fun h36 => ?_) (fun h36 => ?_)
  · have hm := b_f h36 hm
    refine r_iconst (np := 11) G 0 dX11_greatest_10 rfl ?_
    refine r_istore_n (np := 12) G hl rfl [(2, vI 0), (0, .ref (eA E v0)), (1, vI v1)] dX11_greatest_11 rfl rfl (by decide) rfl (fun ls hl => ?_)
    refine r_iconst (np := 13) G 2 dX11_greatest_12 rfl ?_
    refine r_istore_n (np := 14) G hl rfl [(3, vI 2), (2, vI 0), (0, .ref (eA E v0)), (1, vI v1)] dX11_greatest_13 rfl rfl (by decide) rfl (fun ls hl => ?_)
    exact wX11_greatest_L14 l E out G hr hk v0 v1 g0 (fun z2 zσ => mX11_greatest_B101 v0 v1 z2 zσ) (fun z2 zσ zH zl zs zm zM zv => wX11_greatest_B101 l E out G hr hk v0 v1 g0 z2 zσ zH zl zs zm zM zv) mF 0 2 _ _ _ _ hm hM (lv_sub hl [2, 3, 1, 0] rfl)
  · have hm := b_t h36 hm
    refine r_iconst (np := 9) G (-1) dX11_greatest_8 rfl ?_
    exact r_iret G hr hk hM hm dX11_greatest_9
theorem gX11_greatest {v0 : Nat} {v1 : Int} {σ : mSt} {out : Int × mSt} (hm : mX11_greatest v0 v1 σ = some out) : isC v0 10 := (g_t hm).1
set_option maxRecDepth 100000 in
set_option maxHeartbeats 4000000 in
theorem qX11_plain (l : Launch) (E : mE) (σ : mSt) (v0 : Nat) (v1 : Int) (out : Int × mSt) (hm : mX11_plain v0 v1 σ = some out) : mMet l yX11_plain cX11_plain 2 (some .boolean) 3 62 E 276 [.ref (eA E v0), vI v1] σ (some (vI out.1)) out.2 := by
  unfold mX11_plain at hm
  obtain ⟨g0, hm⟩ := g_t hm
  refine m_entry (by decide +kernel) (Nat.le_of_ble_eq_true rfl) (fun p e s m args below meth c G hr hk hM ls hl => ?_)
  have G : CallFix p m c cX11_plain 2 s args mTs RX11 := G
  have hl : lv_has ls 2 [(0, .ref (eA E v0)), (1, vI v1)] := hl
  refine r_aload_n (np := 1) G hl 0 rfl dX11_plain_0 rfl rfl ?_
  refine r_iload_n (np := 2) G hl 1 rfl dX11_plain_1 rfl rfl ?_
  obtain ⟨b1, s2, e3, hm⟩ := call_t hm
  refine m_callVI (np := 5) G hM hl.1 [vI v1] (qX11_isQuaternion l E σ v0 v1 _ e3) myX11_isQuaternion (shp_lt (gX11_isQuaternion e3) (by decide)) (gX11_isQuaternion e3) rfl (by decide) lkX11_102 ⟨Nat.le_of_ble_eq_true rfl, Nat.le_of_ble_eq_true rfl⟩ ⟨Nat.le_of_ble_eq_true rfl, Nat.le_of_ble_eq_true rfl⟩ [] rfl (Nat.le_of_ble_eq_true rfl) dX11_plain_2 rfl (fun H locs hM => ?_)
  refine r_if_ne (np := 8) (tgt := 10) G rfl dX11_plain_5 (by decide) rfl (fun h4 => ?_) (fun h4 => ?_)
  · have hm := b_f h4 hm
    refine r_aload_n (np := 11) G hl 0 rfl dX11_plain_10 rfl rfl ?_
    obtain ⟨r5, e6, hm⟩ := ref_t hm
    refine r_getR (np := 14) G hM (shp_lt g0 (by decide)) g0 e6 fdX11_7 lkX11_49 dX11_plain_11 rfl ?_
    refine r_iload_n (np := 15) G hl 1 rfl dX11_plain_14 rfl rfl ?_
    obtain ⟨g7, hm⟩ := g_t hm
    obtain ⟨r8, e9, hm⟩ := ref_t hm
    refine r_aaload (np := 16) G hM (t := 4) g7 rfl ⟨by decide, by decide⟩ rfl rfl e9 dX11_plain_15 rfl ?_
    refine r_aload_n (np := 17) G hl 0 rfl dX11_plain_16 rfl rfl ?_
    obtain ⟨r10, e11, hm⟩ := ref_t hm
    refine r_getR (np := 20) G hM (shp_lt g0 (by decide)) g0 e11 fdX11_3 lkX11_27 dX11_plain_17 rfl ?_
    refine r_iload_n (np := 21) G hl 1 rfl dX11_plain_20 rfl rfl ?_
    obtain ⟨b12, s13, e14, hm⟩ := call_t hm
    refine m_callVI (np := 24) G hM hl.1 [vI v1] (qX0_first l E s2 r10 v1 _ e14) myX0_first (shp_lt (gX0_first e14) (by decide)) (gX0_first e14) rfl (by decide) lkX11_106 ⟨Nat.le_of_ble_eq_true rfl, Nat.le_of_ble_eq_true rfl⟩ ⟨Nat.le_of_ble_eq_true rfl, Nat.le_of_ble_eq_true rfl⟩ [.ref (eA E r8)] rfl (Nat.le_of_ble_eq_true rfl) dX11_plain_21 rfl (fun H locs hM => ?_)
    refine r_i2l (np := 25) G rfl dX11_plain_24 rfl ?_
    refine r_aload_n (np := 26) G hl 0 rfl dX11_plain_25 rfl rfl ?_
    obtain ⟨r15, e16, hm⟩ := ref_t hm
    refine r_getR (np := 29) G hM (shp_lt g0 (by decide)) g0 e16 fdX11_3 lkX11_27 dX11_plain_26 rfl ?_
    refine r_iload_n (np := 30) G hl 1 rfl dX11_plain_29 rfl rfl ?_
    obtain ⟨b17, s18, e19, hm⟩ := call_t hm
    refine m_callVI (np := 33) G hM hl.1 [vI v1] (qX0_second l E s13 r15 v1 _ e19) myX0_second (shp_lt (gX0_second e19) (by decide)) (gX0_second e19) rfl (by decide) lkX11_110 ⟨Nat.le_of_ble_eq_true rfl, Nat.le_of_ble_eq_true rfl⟩ ⟨Nat.le_of_ble_eq_true rfl, Nat.le_of_ble_eq_true rfl⟩ [vL (wI b12), .ref (eA E r8)] rfl (Nat.le_of_ble_eq_true rfl) dX11_plain_30 rfl (fun H locs hM => ?_)
    refine r_i2l (np := 34) G rfl dX11_plain_33 rfl ?_
    obtain ⟨b20, s21, e22, hm⟩ := call_t hm
    refine m_callVV (np := 37) G hM hl.1 [vL (wI b12), vL (wI b17)] (qX6_begin l E s18 r8 (wI b12) (wI b17) _ e22) myX6_begin (shp_lt (gX6_begin e22) (by decide)) (gX6_begin e22) rfl (by decide) lkX11_113 ⟨Nat.le_of_ble_eq_true rfl, Nat.le_of_ble_eq_true rfl⟩ ⟨Nat.le_of_ble_eq_true rfl, Nat.le_of_ble_eq_true rfl⟩ [] rfl (Nat.le_of_ble_eq_true rfl) dX11_plain_34 rfl (fun H locs hM => ?_)
    refine r_iconst (np := 38) G 1 dX11_plain_37 rfl ?_
    exact r_zret G hr hk hM (Or.inr rfl) hm dX11_plain_38
  · have hm := b_t h4 hm
    refine r_iconst (np := 9) G 0 dX11_plain_8 rfl ?_
    exact r_zret G hr hk hM (Or.inl rfl) hm dX11_plain_9
theorem gX11_plain {v0 : Nat} {v1 : Int} {σ : mSt} {out : Int × mSt} (hm : mX11_plain v0 v1 σ = some out) : isC v0 10 := (g_t hm).1
set_option maxRecDepth 100000 in
set_option maxHeartbeats 4000000 in
theorem qX11_isInOrder (l : Launch) (E : mE) (σ : mSt) (v0 : Nat) (v1 : Int) (out : Int × mSt) (hm : mX11_isInOrder v0 v1 σ = some out) : mMet l yX11_isInOrder cX11_isInOrder 2 (some .boolean) 5 122 E 276 [.ref (eA E v0), vI v1] σ (some (vI out.1)) out.2 := by
  unfold mX11_isInOrder at hm
  obtain ⟨g0, hm⟩ := g_t hm
  refine m_entry (by decide +kernel) (Nat.le_of_ble_eq_true rfl) (fun p e s m args below meth c G hr hk hM ls hl => ?_)
  have G : CallFix p m c cX11_isInOrder 2 s args mTs RX11 := G
  have hl : lv_has ls 2 [(0, .ref (eA E v0)), (1, vI v1)] := hl
  refine r_aload_n (np := 1) G hl 0 rfl dX11_isInOrder_0 rfl rfl ?_
  obtain ⟨r1, e2, hm⟩ := ref_t hm
  refine r_getR (np := 4) G hM (shp_lt g0 (by decide)) g0 e2 fdX11_7 lkX11_49 dX11_isInOrder_1 rfl ?_
  refine r_aload_n (np := 5) G hl 0 rfl dX11_isInOrder_4 rfl rfl ?_
  obtain ⟨r3, e4, hm⟩ := ref_t hm
  refine r_getR (np := 8) G hM (shp_lt g0 (by decide)) g0 e4 fdX11_6 lkX11_43 dX11_isInOrder_5 rfl ?_
  refine r_iload_n (np := 9) G hl 1 rfl dX11_isInOrder_8 rfl rfl ?_
  obtain ⟨g5, hm⟩ := g_t hm
  obtain ⟨r6, e7, hm⟩ := ref_t hm
  refine r_aaload (np := 10) G hM (t := 3) g5 rfl ⟨by decide, by decide⟩ rfl rfl e7 dX11_isInOrder_9 rfl ?_
  obtain ⟨g8, hm⟩ := g_t hm
  refine r_getIN (np := 13) G hM (shp_lt g8 (by decide)) g8 fdX1_2 lkX11_165 dX11_isInOrder_10 rfl ?_
  obtain ⟨g9, hm⟩ := g_t hm
  obtain ⟨r10, e11, hm⟩ := ref_t hm
  refine r_aaload (np := 14) G hM (t := 4) g9 rfl ⟨by decide, by decide⟩ rfl rfl e11 dX11_isInOrder_13 rfl ?_
  refine r_aload_n (np := 15) G hl 0 rfl dX11_isInOrder_14 rfl rfl ?_
  obtain ⟨r12, e13, hm⟩ := ref_t hm
  refine r_getR (np := 18) G hM (shp_lt g0 (by decide)) g0 e13 fdX11_6 lkX11_43 dX11_isInOrder_15 rfl ?_
  refine r_iload_n (np := 19) G hl 1 rfl dX11_isInOrder_18 rfl rfl ?_
  obtain ⟨g14, hm⟩ := g_t hm
  obtain ⟨r15, e16, hm⟩ := ref_t hm
  refine r_aaload (np := 20) G hM (t := 3) g14 rfl ⟨by decide, by decide⟩ rfl rfl e16 dX11_isInOrder_19 rfl ?_
  refine r_aload_n (np := 21) G hl 0 rfl dX11_isInOrder_20 rfl rfl ?_
  obtain ⟨r17, e18, hm⟩ := ref_t hm
  refine r_getR (np := 24) G hM (shp_lt g0 (by decide)) g0 e18 fdX11_11 lkX11_74 dX11_isInOrder_21 rfl ?_
  obtain ⟨b19, s20, e21, hm⟩ := call_t hm
  refine m_callVI (np := 27) G hM hl.1 [.ref (eA E r15), .ref (eA E r17)] (qX6_express l E σ r10 r15 r17 _ e21) myX6_express (shp_lt (gX6_express e21) (by decide)) (gX6_express e21) rfl (by decide) lkX11_258 ⟨Nat.le_of_ble_eq_true rfl, Nat.le_of_ble_eq_true rfl⟩ ⟨Nat.le_of_ble_eq_true rfl, Nat.le_of_ble_eq_true rfl⟩ [] rfl (Nat.le_of_ble_eq_true rfl) dX11_isInOrder_24 rfl (fun H locs hM => ?_)
  obtain ⟨g22, hm⟩ := g_t hm
  exact r_zret G hr hk hM g22 hm dX11_isInOrder_27
theorem gX11_isInOrder {v0 : Nat} {v1 : Int} {σ : mSt} {out : Int × mSt} (hm : mX11_isInOrder v0 v1 σ = some out) : isC v0 10 := (g_t hm).1
set_option maxRecDepth 100000 in
set_option maxHeartbeats 4000000 in
theorem qX11_isIn (l : Launch) (E : mE) (σ : mSt) (v0 : Nat) (v1 : Int) (out : Int × mSt) (hm : mX11_isIn v0 v1 σ = some out) : mMet l yX11_isIn cX11_isIn 2 (some .int) 6 143 E 276 [.ref (eA E v0), vI v1] σ (some (vI out.1)) out.2 := by
  unfold mX11_isIn at hm
  obtain ⟨g0, hm⟩ := g_t hm
  refine m_entry (by decide +kernel) (Nat.le_of_ble_eq_true rfl) (fun p e s m args below meth c G hr hk hM ls hl => ?_)
  have G : CallFix p m c cX11_isIn 2 s args mTs RX11 := G
  have hl : lv_has ls 2 [(0, .ref (eA E v0)), (1, vI v1)] := hl
  refine r_aload_n (np := 1) G hl 0 rfl dX11_isIn_0 rfl rfl ?_
  refine r_iload_n (np := 2) G hl 1 rfl dX11_isIn_1 rfl rfl ?_
  obtain ⟨b1, s2, e3, hm⟩ := call_t hm
  refine m_callVI (np := 5) G hM hl.1 [vI v1] (qX11_isKept l E σ v0 v1 _ e3) myX11_isKept (shp_lt (gX11_isKept e3) (by decide)) (gX11_isKept e3) rfl (by decide) lkX11_159 ⟨Nat.le_of_ble_eq_true rfl, Nat.le_of_ble_eq_true rfl⟩ ⟨Nat.le_of_ble_eq_true rfl, Nat.le_of_ble_eq_true rfl⟩ [] rfl (Nat.le_of_ble_eq_true rfl) dX11_isIn_2 rfl (fun H locs hM => ?_)
  refine r_if_ne (np := 8) (tgt := 10) G rfl dX11_isIn_5 (by decide) rfl (fun h4 => ?_) (fun h4 => ?_)
  · have hm := b_f h4 hm
    refine r_aload_n (np := 11) G hl 0 rfl dX11_isIn_10 rfl rfl ?_
    refine r_iload_n (np := 12) G hl 1 rfl dX11_isIn_11 rfl rfl ?_
    obtain ⟨b5, s6, e7, hm⟩ := call_t hm
    refine m_callVI (np := 15) G hM hl.1 [vI v1] (qX11_isInOrder l E s2 v0 v1 _ e7) myX11_isInOrder (shp_lt (gX11_isInOrder e7) (by decide)) (gX11_isInOrder e7) rfl (by decide) lkX11_255 ⟨Nat.le_of_ble_eq_true rfl, Nat.le_of_ble_eq_true rfl⟩ ⟨Nat.le_of_ble_eq_true rfl, Nat.le_of_ble_eq_true rfl⟩ [] rfl (Nat.le_of_ble_eq_true rfl) dX11_isIn_12 rfl (fun H locs hM => ?_)
    refine r_if_eq (np := 18) (tgt := 22) G rfl dX11_isIn_15 (by decide) rfl (fun h8 => ?_) (fun h8 => ?_)
    · have hm := b_t h8 hm
      refine r_iconst (np := 23) G 0 dX11_isIn_22 rfl ?_
      exact r_iret G hr hk hM hm dX11_isIn_23
    · have hm := b_f h8 hm
      refine r_iconst (np := 19) G 1 dX11_isIn_18 rfl ?_
      refine r_goto (np := 23) G dX11_isIn_19 (by decide) ?_
      exact r_iret G hr hk hM hm dX11_isIn_23
  · have hm := b_t h4 hm
    refine r_iconst (np := 9) G (-1) dX11_isIn_8 rfl ?_
    exact r_iret G hr hk hM hm dX11_isIn_9
theorem gX11_isIn {v0 : Nat} {v1 : Int} {σ : mSt} {out : Int × mSt} (hm : mX11_isIn v0 v1 σ = some out) : isC v0 10 := (g_t hm).1
set_option maxRecDepth 100000 in
set_option maxHeartbeats 4000000 in
theorem qX11_isIdealPair (l : Launch) (E : mE) (σ : mSt) (v0 : Nat) (v1 : Int) (v2 : Int) (out : Int × mSt) (hm : mX11_isIdealPair v0 v1 v2 σ = some out) : mMet l yX11_isIdealPair cX11_isIdealPair 3 (some .boolean) 3 64 E 276 [.ref (eA E v0), vI v1, vI v2] σ (some (vI out.1)) out.2 := by
  unfold mX11_isIdealPair at hm
  obtain ⟨g0, hm⟩ := g_t hm
  refine m_entry (by decide +kernel) (Nat.le_of_ble_eq_true rfl) (fun p e s m args below meth c G hr hk hM ls hl => ?_)
  have G : CallFix p m c cX11_isIdealPair 3 s args mTs RX11 := G
  have hl : lv_has ls 3 [(0, .ref (eA E v0)), (1, vI v1), (2, vI v2)] := hl
  refine r_iload_n (np := 1) G hl 2 rfl dX11_isIdealPair_0 rfl rfl ?_
  refine r_iconst (np := 2) G (-1) dX11_isIdealPair_1 rfl ?_
  refine r_icmp_ne (np := 5) (tgt := 13) G rfl (wIk (-1) rfl) dX11_isIdealPair_2 (by decide) rfl (fun h1 => ?_) (fun h1 => ?_)
  · have hm := b_f h1 hm
    refine r_aload_n (np := 14) G hl 0 rfl dX11_isIdealPair_13 rfl rfl ?_
    refine r_iload_n (np := 15) G hl 1 rfl dX11_isIdealPair_14 rfl rfl ?_
    refine r_iload_n (np := 16) G hl 2 rfl dX11_isIdealPair_15 rfl rfl ?_
    obtain ⟨b2, s3, e4, hm⟩ := call_t hm
    refine m_callVI (np := 19) G hM hl.1 [vI v1, vI v2] (qX11_isPair l E σ v0 v1 v2 _ e4) myX11_isPair (shp_lt (gX11_isPair e4) (by decide)) (gX11_isPair e4) rfl (by decide) lkX11_172 ⟨Nat.le_of_ble_eq_true rfl, Nat.le_of_ble_eq_true rfl⟩ ⟨Nat.le_of_ble_eq_true rfl, Nat.le_of_ble_eq_true rfl⟩ [] rfl (Nat.le_of_ble_eq_true rfl) dX11_isIdealPair_16 rfl (fun H locs hM => ?_)
    obtain ⟨g5, hm⟩ := g_t hm
    exact r_zret G hr hk hM g5 hm dX11_isIdealPair_19
  · have hm := b_t h1 hm
    refine r_aload_n (np := 6) G hl 0 rfl dX11_isIdealPair_5 rfl rfl ?_
    refine r_iload_n (np := 7) G hl 1 rfl dX11_isIdealPair_6 rfl rfl ?_
    obtain ⟨b6, s7, e8, hm⟩ := call_t hm
    refine m_callVI (np := 10) G hM hl.1 [vI v1] (qX11_isKept l E σ v0 v1 _ e8) myX11_isKept (shp_lt (gX11_isKept e8) (by decide)) (gX11_isKept e8) rfl (by decide) lkX11_159 ⟨Nat.le_of_ble_eq_true rfl, Nat.le_of_ble_eq_true rfl⟩ ⟨Nat.le_of_ble_eq_true rfl, Nat.le_of_ble_eq_true rfl⟩ [] rfl (Nat.le_of_ble_eq_true rfl) dX11_isIdealPair_7 rfl (fun H locs hM => ?_)
    refine r_goto (np := 19) G dX11_isIdealPair_10 (by decide) ?_
    obtain ⟨g9, hm⟩ := g_t hm
    exact r_zret G hr hk hM g9 hm dX11_isIdealPair_19
theorem gX11_isIdealPair {v0 : Nat} {v1 : Int} {v2 : Int} {σ : mSt} {out : Int × mSt} (hm : mX11_isIdealPair v0 v1 v2 σ = some out) : isC v0 10 := (g_t hm).1
set_option maxRecDepth 100000 in
set_option maxHeartbeats 4000000 in
theorem wX11_idealFault_B97 (l : Launch) (E : mE) (out : Int × mSt) {p : Program} {e : Env} {s : State} {m : MethodId} {args : Array Value} {below : List Frame} {meth : Method} {c : Code} (G : CallFix p m c cX11_idealFault 4 s args mTs RX11) (hr : meth.sig.returnType = (some .int)) (hk : meth.locks = false) (v0 : Nat) (v1 : Int) (v2 : Int) (g0 : isC v0 10) : ∀ (σ : mSt) (H : Heap) (locs : List Loc) (ls : Array Slot), mX11_idealFault_B97 v0 v1 v2 σ = some out → mM (mA E 276) E 276 σ s H locs → lv_has ls 4 [] → mGo l p e 6 143 s m args below meth c E (some (vI out.1)) out.2 H locs (F0 m 97 ls []) := by
  intro σ H locs ls hm hM hl
  unfold mX11_idealFault_B97 at hm
  refine r_bipush (np := 99) G (-3) dX11_idealFault_97 (by decide) rfl ?_
  exact r_iret G hr hk hM hm dX11_idealFault_99
set_option maxRecDepth 100000 in
set_option maxHeartbeats 4000000 in
theorem wX11_idealFault_B73 (l : Launch) (E : mE) (out : Int × mSt) {p : Program} {e : Env} {s : State} {m : MethodId} {args : Array Value} {below : List Frame} {meth : Method} {c : Code} (G : CallFix p m c cX11_idealFault 4 s args mTs RX11) (hr : meth.sig.returnType = (some .int)) (hk : meth.locks = false) (v0 : Nat) (v1 : Int) (v2 : Int) (g0 : isC v0 10) : ∀ (t0 : Int) (σ : mSt) (H : Heap) (locs : List Loc) (ls : Array Slot), mX11_idealFault_B73 v0 v1 v2 t0 σ = some out → mM (mA E 276) E 276 σ s H locs → lv_has ls 4 [(0, .ref (eA E v0)), (1, vI v1)] → mGo l p e 6 143 s m args below meth c E (some (vI out.1)) out.2 H locs (F0 m 73 ls [vI t0]) := by
  intro t0 σ H locs ls hm hM hl
  unfold mX11_idealFault_B73 at hm
  refine r_istore_n (np := 74) G hl rfl [(3, vI t0), (0, .ref (eA E v0)), (1, vI v1)] dX11_idealFault_73 rfl rfl (by decide) rfl (fun ls hl => ?_)
  refine r_iload_n (np := 75) G hl 0 rfl dX11_idealFault_74 rfl rfl ?_
  refine r_if_eq (np := 78) (tgt := 97) G rfl dX11_idealFault_75 (by decide) rfl (fun h1 => ?_) (fun h1 => ?_)
  · have hm := b_t h1 hm
    exact wX11_idealFault_B97 l E out G hr hk v0 v1 v2 g0 _ _ _ _ hm hM (lv_sub hl [] rfl)
  · have hm := b_f h1 hm
    refine r_aload_n (np := 79) G hl 1 rfl dX11_idealFault_78 rfl rfl ?_
    refine r_aload_n (np := 80) G hl 1 rfl dX11_idealFault_79 rfl rfl ?_
    obtain ⟨r2, e3, hm⟩ := ref_t hm
    refine r_getR (np := 83) G hM (shp_lt g0 (by decide)) g0 e3 fdX11_6 lkX11_43 dX11_idealFault_80 rfl ?_
    refine r_iload_n (np := 84) G hl 2 rfl dX11_idealFault_83 rfl rfl ?_
    obtain ⟨g4, hm⟩ := g_t hm
    obtain ⟨r5, e6, hm⟩ := ref_t hm
    refine r_aaload (np := 85) G hM (t := 3) g4 rfl ⟨by decide, by decide⟩ rfl rfl e6 dX11_idealFault_84 rfl ?_
    obtain ⟨b7, s8, e9, hm⟩ := call_t hm
    refine m_callVL (np := 88) G hM hl.1 [.ref (eA E r5)] (qX11_formOf l E σ v0 r5 _ e9) myX11_formOf (shp_lt (gX11_formOf e9) (by decide)) (gX11_formOf e9) rfl (by decide) lkX11_183 ⟨Nat.le_of_ble_eq_true rfl, Nat.le_of_ble_eq_true rfl⟩ ⟨Nat.le_of_ble_eq_true rfl, Nat.le_of_ble_eq_true rfl⟩ [] rfl (Nat.le_of_ble_eq_true rfl) dX11_idealFault_85 rfl (fun H locs hM => ?_)
    refine r_lconst (np := 89) G 0 dX11_idealFault_88 rfl rfl ?_
    refine r_lcmp_eq (np := 93) (tgt := 97) G rfl (wLk 0 rfl) dX11_idealFault_89 dX11_idealFault_90 (by decide) rfl (fun h10 => ?_) (fun h10 => ?_)
    · have hm := b_t h10 hm
      exact wX11_idealFault_B97 l E out G hr hk v0 v1 v2 g0 _ _ _ _ hm hM (lv_sub hl [] rfl)
    · have hm := b_f h10 hm
      refine r_iconst (np := 94) G 0 dX11_idealFault_93 rfl ?_
      refine r_goto (np := 99) G dX11_idealFault_94 (by decide) ?_
      exact r_iret G hr hk hM hm dX11_idealFault_99
set_option maxRecDepth 100000 in
set_option maxHeartbeats 4000000 in
theorem wX11_idealFault_B72 (l : Launch) (E : mE) (out : Int × mSt) {p : Program} {e : Env} {s : State} {m : MethodId} {args : Array Value} {below : List Frame} {meth : Method} {c : Code} (G : CallFix p m c cX11_idealFault 4 s args mTs RX11) (hr : meth.sig.returnType = (some .int)) (hk : meth.locks = false) (v0 : Nat) (v1 : Int) (v2 : Int) (g0 : isC v0 10) : ∀ (σ : mSt) (H : Heap) (locs : List Loc) (ls : Array Slot), mX11_idealFault_B72 v0 v1 v2 σ = some out → mM (mA E 276) E 276 σ s H locs → lv_has ls 4 [(0, .ref (eA E v0)), (1, vI v1)] → mGo l p e 6 143 s m args below meth c E (some (vI out.1)) out.2 H locs (F0 m 72 ls []) := by
  intro σ H locs ls hm hM hl
  unfold mX11_idealFault_B72 at hm
  refine r_iconst (np := 73) G 0 dX11_idealFault_72 rfl ?_
  exact wX11_idealFault_B73 l E out G hr hk v0 v1 v2 g0 0 _ _ _ _ hm hM (lv_sub hl [0, 1] rfl)
set_option maxRecDepth 100000 in
set_option maxHeartbeats 4000000 in
theorem wX11_idealFault_B68 (l : Launch) (E : mE) (out : Int × mSt) {p : Program} {e : Env} {s : State} {m : MethodId} {args : Array Value} {below : List Frame} {meth : Method} {c : Code} (G : CallFix p m c cX11_idealFault 4 s args mTs RX11) (hr : meth.sig.returnType = (some .int)) (hk : meth.locks = false) (v0 : Nat) (v1 : Int) (v2 : Int) (g0 : isC v0 10) : ∀ (σ : mSt) (H : Heap) (locs : List Loc) (ls : Array Slot), mX11_idealFault_B68 v0 v1 v2 σ = some out → mM (mA E 276) E 276 σ s H locs → lv_has ls 4 [(0, .ref (eA E v0)), (1, vI v1)] → mGo l p e 6 143 s m args below meth c E (some (vI out.1)) out.2 H locs (F0 m 68 ls []) := by
  intro σ H locs ls hm hM hl
  unfold mX11_idealFault_B68 at hm
  refine r_iconst (np := 69) G 1 dX11_idealFault_68 rfl ?_
  refine r_goto (np := 73) G dX11_idealFault_69 (by decide) ?_
  exact wX11_idealFault_B73 l E out G hr hk v0 v1 v2 g0 1 _ _ _ _ hm hM (lv_sub hl [0, 1] rfl)
set_option maxRecDepth 100000 in
set_option maxHeartbeats 4000000 in
theorem wX11_idealFault_B35 (l : Launch) (E : mE) (out : Int × mSt) {p : Program} {e : Env} {s : State} {m : MethodId} {args : Array Value} {below : List Frame} {meth : Method} {c : Code} (G : CallFix p m c cX11_idealFault 4 s args mTs RX11) (hr : meth.sig.returnType = (some .int)) (hk : meth.locks = false) (v0 : Nat) (v1 : Int) (v2 : Int) (g0 : isC v0 10) : ∀ (σ : mSt) (H : Heap) (locs : List Loc) (ls : Array Slot), mX11_idealFault_B35 v0 v1 v2 σ = some out → mM (mA E 276) E 276 σ s H locs → lv_has ls 4 [(0, .ref (eA E v0)), (1, vI v1), (2, vI v2)] → mGo l p e 6 143 s m args below meth c E (some (vI out.1)) out.2 H locs (F0 m 35 ls []) := by
  intro σ H locs ls hm hM hl
  unfold mX11_idealFault_B35 at hm
  refine r_aload_n (np := 36) G hl 0 rfl dX11_idealFault_35 rfl rfl ?_
  obtain ⟨r11, e12, hm⟩ := ref_t hm
  refine r_getR (np := 39) G hM (shp_lt g0 (by decide)) g0 e12 fdX11_6 lkX11_43 dX11_idealFault_36 rfl ?_
  refine r_iload_n (np := 40) G hl 1 rfl dX11_idealFault_39 rfl rfl ?_
  obtain ⟨g13, hm⟩ := g_t hm
  obtain ⟨r14, e15, hm⟩ := ref_t hm
  refine r_aaload (np := 41) G hM (t := 3) g13 rfl ⟨by decide, by decide⟩ rfl rfl e15 dX11_idealFault_40 rfl ?_
  refine r_bipush (np := 43) G 100 dX11_idealFault_41 (by decide) rfl ?_
  obtain ⟨b16, s17, e18, hm⟩ := call_t hm
  refine m_callVI (np := 46) G hM hl.1 [vI 100] (qX1_isWithin l E σ r14 100 _ e18) myX1_isWithin (shp_lt (gX1_isWithin e18) (by decide)) (gX1_isWithin e18) rfl (by decide) lkX11_282 ⟨Nat.le_of_ble_eq_true rfl, Nat.le_of_ble_eq_true rfl⟩ ⟨Nat.le_of_ble_eq_true rfl, Nat.le_of_ble_eq_true rfl⟩ [] rfl (Nat.le_of_ble_eq_true rfl) dX11_idealFault_43 rfl (fun H locs hM => ?_)
  refine r_if_eq (np := 49) (tgt := 72) G rfl dX11_idealFault_46 (by decide) rfl (fun h19 => ?_) (fun h19 => ?_)
  · have hm := b_t h19 hm
    exact wX11_idealFault_B72 l E out G hr hk v0 v1 v2 g0 _ _ _ _ hm hM (lv_sub hl [0, 1] rfl)
  · have hm := b_f h19 hm
    refine r_iload_n (np := 50) G hl 2 rfl dX11_idealFault_49 rfl rfl ?_
    refine r_iconst (np := 51) G (-1) dX11_idealFault_50 rfl ?_
    refine r_icmp_eq (np := 54) (tgt := 68) G rfl (wIk (-1) rfl) dX11_idealFault_51 (by decide) rfl (fun h20 => ?_) (fun h20 => ?_)
    · have hm := b_t h20 hm
      exact wX11_idealFault_B68 l E out G hr hk v0 v1 v2 g0 _ _ _ _ hm hM (lv_sub hl [0, 1] rfl)
    · have hm := b_f h20 hm
      refine r_aload_n (np := 55) G hl 0 rfl dX11_idealFault_54 rfl rfl ?_
      obtain ⟨r21, e22, hm⟩ := ref_t hm
      refine r_getR (np := 58) G hM (shp_lt g0 (by decide)) g0 e22 fdX11_6 lkX11_43 dX11_idealFault_55 rfl ?_
      refine r_iload_n (np := 59) G hl 2 rfl dX11_idealFault_58 rfl rfl ?_
      obtain ⟨g23, hm⟩ := g_t hm
      obtain ⟨r24, e25, hm⟩ := ref_t hm
      refine r_aaload (np := 60) G hM (t := 3) g23 rfl ⟨by decide, by decide⟩ rfl rfl e25 dX11_idealFault_59 rfl ?_
      refine r_bipush (np := 62) G 100 dX11_idealFault_60 (by decide) rfl ?_
      obtain ⟨b26, s27, e28, hm⟩ := call_t hm
      refine m_callVI (np := 65) G hM hl.1 [vI 100] (qX1_isWithin l E s17 r24 100 _ e28) myX1_isWithin (shp_lt (gX1_isWithin e28) (by decide)) (gX1_isWithin e28) rfl (by decide) lkX11_282 ⟨Nat.le_of_ble_eq_true rfl, Nat.le_of_ble_eq_true rfl⟩ ⟨Nat.le_of_ble_eq_true rfl, Nat.le_of_ble_eq_true rfl⟩ [] rfl (Nat.le_of_ble_eq_true rfl) dX11_idealFault_62 rfl (fun H locs hM => ?_)
      refine r_if_eq (np := 68) (tgt := 72) G rfl dX11_idealFault_65 (by decide) rfl (fun h29 => ?_) (fun h29 => ?_)
      · have hm := b_t h29 hm
        exact wX11_idealFault_B72 l E out G hr hk v0 v1 v2 g0 _ _ _ _ hm hM (lv_sub hl [0, 1] rfl)
      · have hm := b_f h29 hm
        exact wX11_idealFault_B68 l E out G hr hk v0 v1 v2 g0 _ _ _ _ hm hM (lv_sub hl [0, 1] rfl)
set_option maxRecDepth 100000 in
set_option maxHeartbeats 4000000 in
theorem qX11_idealFault (l : Launch) (E : mE) (σ : mSt) (v0 : Nat) (v1 : Int) (v2 : Int) (out : Int × mSt) (hm : mX11_idealFault v0 v1 v2 σ = some out) : mMet l yX11_idealFault cX11_idealFault 4 (some .int) 6 143 E 276 [.ref (eA E v0), vI v1, vI v2] σ (some (vI out.1)) out.2 := by
  unfold mX11_idealFault at hm
  obtain ⟨g0, hm⟩ := g_t hm
  refine m_entry (by decide +kernel) (Nat.le_of_ble_eq_true rfl) (fun p e s m args below meth c G hr hk hM ls hl => ?_)
  have G : CallFix p m c cX11_idealFault 4 s args mTs RX11 := G
  have hl : lv_has ls 4 [(0, .ref (eA E v0)), (1, vI v1), (2, vI v2)] := hl
  refine r_aload_n (np := 1) G hl 0 rfl dX11_idealFault_0 rfl rfl ?_
  refine r_iload_n (np := 2) G hl 1 rfl dX11_idealFault_1 rfl rfl ?_
  refine r_iload_n (np := 3) G hl 2 rfl dX11_idealFault_2 rfl rfl ?_
  obtain ⟨b30, s31, e32, hm⟩ := call_t hm
  refine m_callVI (np := 6) G hM hl.1 [vI v1, vI v2] (qX11_isIdealPair l E σ v0 v1 v2 _ e32) myX11_isIdealPair (shp_lt (gX11_isIdealPair e32) (by decide)) (gX11_isIdealPair e32) rfl (by decide) lkX11_272 ⟨Nat.le_of_ble_eq_true rfl, Nat.le_of_ble_eq_true rfl⟩ ⟨Nat.le_of_ble_eq_true rfl, Nat.le_of_ble_eq_true rfl⟩ [] rfl (Nat.le_of_ble_eq_true rfl) dX11_idealFault_3 rfl (fun H locs hM => ?_)
  refine r_if_ne (np := 9) (tgt := 11) G rfl dX11_idealFault_6 (by decide) rfl (fun h33 => ?_) (fun h33 => ?_)
  · have hm := b_f h33 hm
    refine r_aload_n (np := 12) G hl 0 rfl dX11_idealFault_11 rfl rfl ?_
    refine r_iload_n (np := 13) G hl 1 rfl dX11_idealFault_12 rfl rfl ?_
    obtain ⟨b34, s35, e36, hm⟩ := call_t hm
    refine m_callVI (np := 16) G hM hl.1 [vI v1] (qX11_isInOrder l E s31 v0 v1 _ e36) myX11_isInOrder (shp_lt (gX11_isInOrder e36) (by decide)) (gX11_isInOrder e36) rfl (by decide) lkX11_255 ⟨Nat.le_of_ble_eq_true rfl, Nat.le_of_ble_eq_true rfl⟩ ⟨Nat.le_of_ble_eq_true rfl, Nat.le_of_ble_eq_true rfl⟩ [] rfl (Nat.le_of_ble_eq_true rfl) dX11_idealFault_13 rfl (fun H locs hM => ?_)
    refine r_if_eq (np := 19) (tgt := 32) G rfl dX11_idealFault_16 (by decide) rfl (fun h37 => ?_) (fun h37 => ?_)
    · have hm := b_t h37 hm
      refine r_bipush (np := 34) G (-2) dX11_idealFault_32 (by decide) rfl ?_
      exact r_iret G hr hk hM hm dX11_idealFault_34
    · have hm := b_f h37 hm
      refine r_iload_n (np := 20) G hl 2 rfl dX11_idealFault_19 rfl rfl ?_
      refine r_iconst (np := 21) G (-1) dX11_idealFault_20 rfl ?_
      refine r_icmp_eq (np := 24) (tgt := 35) G rfl (wIk (-1) rfl) dX11_idealFault_21 (by decide) rfl (fun h38 => ?_) (fun h38 => ?_)
      · have hm := b_t h38 hm
        exact wX11_idealFault_B35 l E out G hr hk v0 v1 v2 g0 _ _ _ _ hm hM (lv_sub hl [0, 1, 2] rfl)
      · have hm := b_f h38 hm
        refine r_aload_n (np := 25) G hl 0 rfl dX11_idealFault_24 rfl rfl ?_
        refine r_iload_n (np := 26) G hl 2 rfl dX11_idealFault_25 rfl rfl ?_
        obtain ⟨b39, s40, e41, hm⟩ := call_t hm
        refine m_callVI (np := 29) G hM hl.1 [vI v2] (qX11_isInOrder l E s35 v0 v2 _ e41) myX11_isInOrder (shp_lt (gX11_isInOrder e41) (by decide)) (gX11_isInOrder e41) rfl (by decide) lkX11_255 ⟨Nat.le_of_ble_eq_true rfl, Nat.le_of_ble_eq_true rfl⟩ ⟨Nat.le_of_ble_eq_true rfl, Nat.le_of_ble_eq_true rfl⟩ [] rfl (Nat.le_of_ble_eq_true rfl) dX11_idealFault_26 rfl (fun H locs hM => ?_)
        refine r_if_ne (np := 32) (tgt := 35) G rfl dX11_idealFault_29 (by decide) rfl (fun h42 => ?_) (fun h42 => ?_)
        · have hm := b_f h42 hm
          exact wX11_idealFault_B35 l E out G hr hk v0 v1 v2 g0 _ _ _ _ hm hM (lv_sub hl [0, 1, 2] rfl)
        · have hm := b_t h42 hm
          refine r_bipush (np := 34) G (-2) dX11_idealFault_32 (by decide) rfl ?_
          exact r_iret G hr hk hM hm dX11_idealFault_34
  · have hm := b_t h33 hm
    refine r_iconst (np := 10) G (-1) dX11_idealFault_9 rfl ?_
    exact r_iret G hr hk hM hm dX11_idealFault_10
theorem gX11_idealFault {v0 : Nat} {v1 : Int} {v2 : Int} {σ : mSt} {out : Int × mSt} (hm : mX11_idealFault v0 v1 v2 σ = some out) : isC v0 10 := (g_t hm).1
set_option maxRecDepth 100000 in
set_option maxHeartbeats 4000000 in
theorem qX11_makeIdeal (l : Launch) (E : mE) (σ : mSt) (v0 : Nat) (v1 : Int) (v2 : Int) (out : Int × mSt) (hm : mX11_makeIdeal v0 v1 v2 σ = some out) : mMet l yX11_makeIdeal cX11_makeIdeal 3 none 6 147 E 276 [.ref (eA E v0), vI v1, vI v2] σ none out.2 := by
  unfold mX11_makeIdeal at hm
  obtain ⟨g0, hm⟩ := g_t hm
  refine m_entry (by decide +kernel) (Nat.le_of_ble_eq_true rfl) (fun p e s m args below meth c G hr hk hM ls hl => ?_)
  have G : CallFix p m c cX11_makeIdeal 3 s args mTs RX11 := G
  have hl : lv_has ls 3 [(0, .ref (eA E v0)), (1, vI v1), (2, vI v2)] := hl
  refine r_aload_n (np := 1) G hl 0 rfl dX11_makeIdeal_0 rfl rfl ?_
  obtain ⟨r1, e2, hm⟩ := ref_t hm
  refine r_getR (np := 4) G hM (shp_lt g0 (by decide)) g0 e2 fdX11_10 lkX11_70 dX11_makeIdeal_1 rfl ?_
  refine r_aload_n (np := 5) G hl 0 rfl dX11_makeIdeal_4 rfl rfl ?_
  obtain ⟨r3, e4, hm⟩ := ref_t hm
  refine r_getR (np := 8) G hM (shp_lt g0 (by decide)) g0 e4 fdX11_7 lkX11_49 dX11_makeIdeal_5 rfl ?_
  refine r_aload_n (np := 9) G hl 0 rfl dX11_makeIdeal_8 rfl rfl ?_
  obtain ⟨r5, e6, hm⟩ := ref_t hm
  refine r_getR (np := 12) G hM (shp_lt g0 (by decide)) g0 e6 fdX11_6 lkX11_43 dX11_makeIdeal_9 rfl ?_
  refine r_iload_n (np := 13) G hl 1 rfl dX11_makeIdeal_12 rfl rfl ?_
  obtain ⟨g7, hm⟩ := g_t hm
  obtain ⟨r8, e9, hm⟩ := ref_t hm
  refine r_aaload (np := 14) G hM (t := 3) g7 rfl ⟨by decide, by decide⟩ rfl rfl e9 dX11_makeIdeal_13 rfl ?_
  obtain ⟨g10, hm⟩ := g_t hm
  refine r_getIN (np := 17) G hM (shp_lt g10 (by decide)) g10 fdX1_2 lkX11_165 dX11_makeIdeal_14 rfl ?_
  obtain ⟨g11, hm⟩ := g_t hm
  obtain ⟨r12, e13, hm⟩ := ref_t hm
  refine r_aaload (np := 18) G hM (t := 4) g11 rfl ⟨by decide, by decide⟩ rfl rfl e13 dX11_makeIdeal_17 rfl ?_
  refine r_aload_n (np := 19) G hl 0 rfl dX11_makeIdeal_18 rfl rfl ?_
  obtain ⟨r14, e15, hm⟩ := ref_t hm
  refine r_getR (np := 22) G hM (shp_lt g0 (by decide)) g0 e15 fdX11_6 lkX11_43 dX11_makeIdeal_19 rfl ?_
  refine r_iload_n (np := 23) G hl 1 rfl dX11_makeIdeal_22 rfl rfl ?_
  obtain ⟨g16, hm⟩ := g_t hm
  obtain ⟨r17, e18, hm⟩ := ref_t hm
  refine r_aaload (np := 24) G hM (t := 3) g16 rfl ⟨by decide, by decide⟩ rfl rfl e18 dX11_makeIdeal_23 rfl ?_
  obtain ⟨b19, s20, e21, hm⟩ := call_t hm
  refine m_callVV (np := 27) G hM hl.1 [.ref (eA E r12), .ref (eA E r17)] (qX4_begin l E σ r1 r12 r17 _ e21) myX4_begin (shp_lt (gX4_begin e21) (by decide)) (gX4_begin e21) rfl (by decide) lkX11_285 ⟨Nat.le_of_ble_eq_true rfl, Nat.le_of_ble_eq_true rfl⟩ ⟨Nat.le_of_ble_eq_true rfl, Nat.le_of_ble_eq_true rfl⟩ [] rfl (Nat.le_of_ble_eq_true rfl) dX11_makeIdeal_24 rfl (fun H locs hM => ?_)
  refine r_aload_n (np := 28) G hl 0 rfl dX11_makeIdeal_27 rfl rfl ?_
  obtain ⟨r22, e23, hm⟩ := ref_t hm
  refine r_getR (np := 31) G hM (shp_lt g0 (by decide)) g0 e23 fdX11_10 lkX11_70 dX11_makeIdeal_28 rfl ?_
  refine r_aload_n (np := 32) G hl 0 rfl dX11_makeIdeal_31 rfl rfl ?_
  obtain ⟨r24, e25, hm⟩ := ref_t hm
  refine r_getR (np := 35) G hM (shp_lt g0 (by decide)) g0 e25 fdX11_6 lkX11_43 dX11_makeIdeal_32 rfl ?_
  refine r_iload_n (np := 36) G hl 1 rfl dX11_makeIdeal_35 rfl rfl ?_
  obtain ⟨g26, hm⟩ := g_t hm
  obtain ⟨r27, e28, hm⟩ := ref_t hm
  refine r_aaload (np := 37) G hM (t := 3) g26 rfl ⟨by decide, by decide⟩ rfl rfl e28 dX11_makeIdeal_36 rfl ?_
  obtain ⟨b29, s30, e31, hm⟩ := call_t hm
  refine m_callVV (np := 40) G hM hl.1 [.ref (eA E r27)] (qX4_join l E s20 r22 r27 _ e31) myX4_join (shp_lt (gX4_join e31) (by decide)) (gX4_join e31) rfl (by decide) lkX11_288 ⟨Nat.le_of_ble_eq_true rfl, Nat.le_of_ble_eq_true rfl⟩ ⟨Nat.le_of_ble_eq_true rfl, Nat.le_of_ble_eq_true rfl⟩ [] rfl (Nat.le_of_ble_eq_true rfl) dX11_makeIdeal_37 rfl (fun H locs hM => ?_)
  refine r_iload_n (np := 41) G hl 2 rfl dX11_makeIdeal_40 rfl rfl ?_
  refine r_iconst (np := 42) G (-1) dX11_makeIdeal_41 rfl ?_
  refine r_icmp_eq (np := 45) (tgt := 58) G rfl (wIk (-1) rfl) dX11_makeIdeal_42 (by decide) rfl (fun h32 => ?_) (fun h32 => ?_)
  · have hm := b_t h32 hm
    exact r_vret G hr hk hM hm dX11_makeIdeal_58
  · have hm := b_f h32 hm
    refine r_aload_n (np := 46) G hl 0 rfl dX11_makeIdeal_45 rfl rfl ?_
    obtain ⟨r33, e34, hm⟩ := ref_t hm
    refine r_getR (np := 49) G hM (shp_lt g0 (by decide)) g0 e34 fdX11_10 lkX11_70 dX11_makeIdeal_46 rfl ?_
    refine r_aload_n (np := 50) G hl 0 rfl dX11_makeIdeal_49 rfl rfl ?_
    obtain ⟨r35, e36, hm⟩ := ref_t hm
    refine r_getR (np := 53) G hM (shp_lt g0 (by decide)) g0 e36 fdX11_6 lkX11_43 dX11_makeIdeal_50 rfl ?_
    refine r_iload_n (np := 54) G hl 2 rfl dX11_makeIdeal_53 rfl rfl ?_
    obtain ⟨g37, hm⟩ := g_t hm
    obtain ⟨r38, e39, hm⟩ := ref_t hm
    refine r_aaload (np := 55) G hM (t := 3) g37 rfl ⟨by decide, by decide⟩ rfl rfl e39 dX11_makeIdeal_54 rfl ?_
    obtain ⟨b40, s41, e42, hm⟩ := call_t hm
    refine m_callVV (np := 58) G hM hl.1 [.ref (eA E r38)] (qX4_join l E s30 r33 r38 _ e42) myX4_join (shp_lt (gX4_join e42) (by decide)) (gX4_join e42) rfl (by decide) lkX11_288 ⟨Nat.le_of_ble_eq_true rfl, Nat.le_of_ble_eq_true rfl⟩ ⟨Nat.le_of_ble_eq_true rfl, Nat.le_of_ble_eq_true rfl⟩ [] rfl (Nat.le_of_ble_eq_true rfl) dX11_makeIdeal_55 rfl (fun H locs hM => ?_)
    exact r_vret G hr hk hM hm dX11_makeIdeal_58
theorem gX11_makeIdeal {v0 : Nat} {v1 : Int} {v2 : Int} {σ : mSt} {out : Int × mSt} (hm : mX11_makeIdeal v0 v1 v2 σ = some out) : isC v0 10 := (g_t hm).1
set_option maxRecDepth 100000 in
set_option maxHeartbeats 4000000 in
theorem qX11_ideal (l : Launch) (E : mE) (σ : mSt) (v0 : Nat) (v1 : Int) (v2 : Int) (out : Int × mSt) (hm : mX11_ideal v0 v1 v2 σ = some out) : mMet l yX11_ideal cX11_ideal 4 (some .long) 7 169 E 276 [.ref (eA E v0), vI v1, vI v2] σ (some (vL out.1)) out.2 := by
  unfold mX11_ideal at hm
  obtain ⟨g0, hm⟩ := g_t hm
  refine m_entry (by decide +kernel) (Nat.le_of_ble_eq_true rfl) (fun p e s m args below meth c G hr hk hM ls hl => ?_)
  have G : CallFix p m c cX11_ideal 4 s args mTs RX11 := G
  have hl : lv_has ls 4 [(0, .ref (eA E v0)), (1, vI v1), (2, vI v2)] := hl
  refine r_aload_n (np := 1) G hl 0 rfl dX11_ideal_0 rfl rfl ?_
  refine r_iload_n (np := 2) G hl 1 rfl dX11_ideal_1 rfl rfl ?_
  refine r_iload_n (np := 3) G hl 2 rfl dX11_ideal_2 rfl rfl ?_
  obtain ⟨b1, s2, e3, hm⟩ := call_t hm
  refine m_callVI (np := 6) G hM hl.1 [vI v1, vI v2] (qX11_idealFault l E σ v0 v1 v2 _ e3) myX11_idealFault (shp_lt (gX11_idealFault e3) (by decide)) (gX11_idealFault e3) rfl (by decide) lkX11_262 ⟨Nat.le_of_ble_eq_true rfl, Nat.le_of_ble_eq_true rfl⟩ ⟨Nat.le_of_ble_eq_true rfl, Nat.le_of_ble_eq_true rfl⟩ [] rfl (Nat.le_of_ble_eq_true rfl) dX11_ideal_3 rfl (fun H locs hM => ?_)
  refine r_istore_n (np := 7) G hl rfl [(3, vI b1), (0, .ref (eA E v0)), (1, vI v1), (2, vI v2)] dX11_ideal_6 rfl rfl (by decide) rfl (fun ls hl => ?_)
  refine r_iload_n (np := 8) G hl 0 rfl dX11_ideal_7 rfl rfl ?_
  refine r_if_eq (np := 11) (tgt := 14) G rfl dX11_ideal_8 (by decide) rfl (fun h4 => ?_) (fun h4 => ?_)
  · have hm := b_t h4 hm
    refine r_aload_n (np := 15) G hl 1 rfl dX11_ideal_14 rfl rfl ?_
    refine r_iload_n (np := 16) G hl 2 rfl dX11_ideal_15 rfl rfl ?_
    refine r_iload_n (np := 17) G hl 3 rfl dX11_ideal_16 rfl rfl ?_
    obtain ⟨b5, s6, e7, hm⟩ := call_t hm
    refine m_callVV (np := 20) G hM hl.1 [vI v1, vI v2] (qX11_makeIdeal l E s2 v0 v1 v2 _ e7) myX11_makeIdeal (shp_lt (gX11_makeIdeal e7) (by decide)) (gX11_makeIdeal e7) rfl (by decide) lkX11_265 ⟨Nat.le_of_ble_eq_true rfl, Nat.le_of_ble_eq_true rfl⟩ ⟨Nat.le_of_ble_eq_true rfl, Nat.le_of_ble_eq_true rfl⟩ [] rfl (Nat.le_of_ble_eq_true rfl) dX11_ideal_17 rfl (fun H locs hM => ?_)
    refine r_aload_n (np := 21) G hl 1 rfl dX11_ideal_20 rfl rfl ?_
    obtain ⟨r8, e9, hm⟩ := ref_t hm
    refine r_getR (np := 24) G hM (shp_lt g0 (by decide)) g0 e9 fdX11_10 lkX11_70 dX11_ideal_21 rfl ?_
    obtain ⟨b10, s11, e12, hm⟩ := call_t hm
    refine m_callVL (np := 27) G hM hl.1 [] (qX4_lots l E s6 r8 _ e12) myX4_lots (shp_lt (gX4_lots e12) (by decide)) (gX4_lots e12) rfl (by decide) lkX11_269 ⟨Nat.le_of_ble_eq_true rfl, Nat.le_of_ble_eq_true rfl⟩ ⟨Nat.le_of_ble_eq_true rfl, Nat.le_of_ble_eq_true rfl⟩ [] rfl (Nat.le_of_ble_eq_true rfl) dX11_ideal_24 rfl (fun H locs hM => ?_)
    exact r_lret G hr hk hM hm dX11_ideal_27
  · have hm := b_f h4 hm
    refine r_iload_n (np := 12) G hl 0 rfl dX11_ideal_11 rfl rfl ?_
    refine r_i2l (np := 13) G rfl dX11_ideal_12 rfl ?_
    exact r_lret G hr hk hM hm dX11_ideal_13
theorem gX11_ideal {v0 : Nat} {v1 : Int} {v2 : Int} {σ : mSt} {out : Int × mSt} (hm : mX11_ideal v0 v1 v2 σ = some out) : isC v0 10 := (g_t hm).1
set_option maxRecDepth 100000 in
set_option maxHeartbeats 4000000 in
theorem qX11_isInIdeal (l : Launch) (E : mE) (σ : mSt) (v0 : Nat) (v1 : Int) (v2 : Int) (v3 : Int) (out : Int × mSt) (hm : mX11_isInIdeal v0 v1 v2 v3 σ = some out) : mMet l yX11_isInIdeal cX11_isInIdeal 5 (some .int) 7 169 E 276 [.ref (eA E v0), vI v1, vI v2, vI v3] σ (some (vI out.1)) out.2 := by
  unfold mX11_isInIdeal at hm
  obtain ⟨g0, hm⟩ := g_t hm
  refine m_entry (by decide +kernel) (Nat.le_of_ble_eq_true rfl) (fun p e s m args below meth c G hr hk hM ls hl => ?_)
  have G : CallFix p m c cX11_isInIdeal 5 s args mTs RX11 := G
  have hl : lv_has ls 5 [(0, .ref (eA E v0)), (1, vI v1), (2, vI v2), (3, vI v3)] := hl
  refine r_aload_n (np := 1) G hl 0 rfl dX11_isInIdeal_0 rfl rfl ?_
  refine r_iload_n (np := 2) G hl 1 rfl dX11_isInIdeal_1 rfl rfl ?_
  refine r_iload_n (np := 3) G hl 2 rfl dX11_isInIdeal_2 rfl rfl ?_
  obtain ⟨b1, s2, e3, hm⟩ := call_t hm
  refine m_callVI (np := 6) G hM hl.1 [vI v1, vI v2] (qX11_isIdealPair l E σ v0 v1 v2 _ e3) myX11_isIdealPair (shp_lt (gX11_isIdealPair e3) (by decide)) (gX11_isIdealPair e3) rfl (by decide) lkX11_272 ⟨Nat.le_of_ble_eq_true rfl, Nat.le_of_ble_eq_true rfl⟩ ⟨Nat.le_of_ble_eq_true rfl, Nat.le_of_ble_eq_true rfl⟩ [] rfl (Nat.le_of_ble_eq_true rfl) dX11_isInIdeal_3 rfl (fun H locs hM => ?_)
  refine r_if_eq (np := 9) (tgt := 18) G rfl dX11_isInIdeal_6 (by decide) rfl (fun h4 => ?_) (fun h4 => ?_)
  · have hm := b_t h4 hm
    refine r_iconst (np := 19) G (-1) dX11_isInIdeal_18 rfl ?_
    exact r_iret G hr hk hM hm dX11_isInIdeal_19
  · have hm := b_f h4 hm
    refine r_aload_n (np := 10) G hl 0 rfl dX11_isInIdeal_9 rfl rfl ?_
    refine r_iload_n (np := 11) G hl 1 rfl dX11_isInIdeal_10 rfl rfl ?_
    refine r_iload_n (np := 12) G hl 3 rfl dX11_isInIdeal_11 rfl rfl ?_
    obtain ⟨b5, s6, e7, hm⟩ := call_t hm
    refine m_callVI (np := 15) G hM hl.1 [vI v1, vI v3] (qX11_isPair l E s2 v0 v1 v3 _ e7) myX11_isPair (shp_lt (gX11_isPair e7) (by decide)) (gX11_isPair e7) rfl (by decide) lkX11_172 ⟨Nat.le_of_ble_eq_true rfl, Nat.le_of_ble_eq_true rfl⟩ ⟨Nat.le_of_ble_eq_true rfl, Nat.le_of_ble_eq_true rfl⟩ [] rfl (Nat.le_of_ble_eq_true rfl) dX11_isInIdeal_12 rfl (fun H locs hM => ?_)
    refine r_if_ne (np := 18) (tgt := 20) G rfl dX11_isInIdeal_15 (by decide) rfl (fun h8 => ?_) (fun h8 => ?_)
    · have hm := b_f h8 hm
      refine r_aload_n (np := 21) G hl 0 rfl dX11_isInIdeal_20 rfl rfl ?_
      refine r_iload_n (np := 22) G hl 1 rfl dX11_isInIdeal_21 rfl rfl ?_
      refine r_iload_n (np := 23) G hl 2 rfl dX11_isInIdeal_22 rfl rfl ?_
      obtain ⟨b9, s10, e11, hm⟩ := call_t hm
      refine m_callVI (np := 26) G hM hl.1 [vI v1, vI v2] (qX11_idealFault l E s6 v0 v1 v2 _ e11) myX11_idealFault (shp_lt (gX11_idealFault e11) (by decide)) (gX11_idealFault e11) rfl (by decide) lkX11_262 ⟨Nat.le_of_ble_eq_true rfl, Nat.le_of_ble_eq_true rfl⟩ ⟨Nat.le_of_ble_eq_true rfl, Nat.le_of_ble_eq_true rfl⟩ [] rfl (Nat.le_of_ble_eq_true rfl) dX11_isInIdeal_23 rfl (fun H locs hM => ?_)
      refine r_istore (np := 28) G hl rfl [(4, vI b9), (0, .ref (eA E v0)), (1, vI v1), (2, vI v2), (3, vI v3)] dX11_isInIdeal_26 rfl (by decide) rfl (fun ls hl => ?_)
      refine r_iload (np := 30) G hl 0 rfl dX11_isInIdeal_28 rfl ?_
      refine r_if_eq (np := 33) (tgt := 36) G rfl dX11_isInIdeal_30 (by decide) rfl (fun h12 => ?_) (fun h12 => ?_)
      · have hm := b_t h12 hm
        refine r_aload_n (np := 37) G hl 1 rfl dX11_isInIdeal_36 rfl rfl ?_
        refine r_iload_n (np := 38) G hl 2 rfl dX11_isInIdeal_37 rfl rfl ?_
        refine r_iload_n (np := 39) G hl 3 rfl dX11_isInIdeal_38 rfl rfl ?_
        obtain ⟨b13, s14, e15, hm⟩ := call_t hm
        refine m_callVV (np := 42) G hM hl.1 [vI v1, vI v2] (qX11_makeIdeal l E s10 v0 v1 v2 _ e15) myX11_makeIdeal (shp_lt (gX11_makeIdeal e15) (by decide)) (gX11_makeIdeal e15) rfl (by decide) lkX11_265 ⟨Nat.le_of_ble_eq_true rfl, Nat.le_of_ble_eq_true rfl⟩ ⟨Nat.le_of_ble_eq_true rfl, Nat.le_of_ble_eq_true rfl⟩ [] rfl (Nat.le_of_ble_eq_true rfl) dX11_isInIdeal_39 rfl (fun H locs hM => ?_)
        refine r_aload_n (np := 43) G hl 1 rfl dX11_isInIdeal_42 rfl rfl ?_
        obtain ⟨r16, e17, hm⟩ := ref_t hm
        refine r_getR (np := 46) G hM (shp_lt g0 (by decide)) g0 e17 fdX11_10 lkX11_70 dX11_isInIdeal_43 rfl ?_
        refine r_aload_n (np := 47) G hl 1 rfl dX11_isInIdeal_46 rfl rfl ?_
        obtain ⟨r18, e19, hm⟩ := ref_t hm
        refine r_getR (np := 50) G hM (shp_lt g0 (by decide)) g0 e19 fdX11_6 lkX11_43 dX11_isInIdeal_47 rfl ?_
        refine r_iload_n (np := 51) G hl 4 rfl dX11_isInIdeal_50 rfl rfl ?_
        obtain ⟨g20, hm⟩ := g_t hm
        obtain ⟨r21, e22, hm⟩ := ref_t hm
        refine r_aaload (np := 52) G hM (t := 3) g20 rfl ⟨by decide, by decide⟩ rfl rfl e22 dX11_isInIdeal_51 rfl ?_
        obtain ⟨b23, s24, e25, hm⟩ := call_t hm
        refine m_callVI (np := 55) G hM hl.1 [.ref (eA E r21)] (qX4_contains l E s14 r16 r21 _ e25) myX4_contains (shp_lt (gX4_contains e25) (by decide)) (gX4_contains e25) rfl (by decide) lkX11_275 ⟨Nat.le_of_ble_eq_true rfl, Nat.le_of_ble_eq_true rfl⟩ ⟨Nat.le_of_ble_eq_true rfl, Nat.le_of_ble_eq_true rfl⟩ [] rfl (Nat.le_of_ble_eq_true rfl) dX11_isInIdeal_52 rfl (fun H locs hM => ?_)
        refine r_if_eq (np := 58) (tgt := 62) G rfl dX11_isInIdeal_55 (by decide) rfl (fun h26 => ?_) (fun h26 => ?_)
        · have hm := b_t h26 hm
          refine r_iconst (np := 63) G 0 dX11_isInIdeal_62 rfl ?_
          exact r_iret G hr hk hM hm dX11_isInIdeal_63
        · have hm := b_f h26 hm
          refine r_iconst (np := 59) G 1 dX11_isInIdeal_58 rfl ?_
          refine r_goto (np := 63) G dX11_isInIdeal_59 (by decide) ?_
          exact r_iret G hr hk hM hm dX11_isInIdeal_63
      · have hm := b_f h12 hm
        refine r_iload (np := 35) G hl 0 rfl dX11_isInIdeal_33 rfl ?_
        exact r_iret G hr hk hM hm dX11_isInIdeal_35
    · have hm := b_t h8 hm
      refine r_iconst (np := 19) G (-1) dX11_isInIdeal_18 rfl ?_
      exact r_iret G hr hk hM hm dX11_isInIdeal_19
theorem gX11_isInIdeal {v0 : Nat} {v1 : Int} {v2 : Int} {v3 : Int} {σ : mSt} {out : Int × mSt} (hm : mX11_isInIdeal v0 v1 v2 v3 σ = some out) : isC v0 10 := (g_t hm).1
set_option maxRecDepth 100000 in
set_option maxHeartbeats 4000000 in
theorem wX11_isTwoSided_B59 (l : Launch) (E : mE) (out : Int × mSt) {p : Program} {e : Env} {s : State} {m : MethodId} {args : Array Value} {below : List Frame} {meth : Method} {c : Code} (G : CallFix p m c cX11_isTwoSided 5 s args mTs RX11) (hr : meth.sig.returnType = (some .int)) (hk : meth.locks = false) (v0 : Nat) (v1 : Int) (v2 : Int) (g0 : isC v0 10) : ∀ (v4 : Int) (σ : mSt) (H : Heap) (locs : List Loc) (ls : Array Slot), mX11_isTwoSided_B59 v0 v1 v2 v4 σ = some out → mM (mA E 276) E 276 σ s H locs → lv_has ls 5 [(4, vI v4)] → mGo l p e 7 169 s m args below meth c E (some (vI out.1)) out.2 H locs (F0 m 59 ls []) := by
  intro v4 σ H locs ls hm hM hl
  unfold mX11_isTwoSided_B59 at hm
  refine r_iload (np := 61) G hl 0 rfl dX11_isTwoSided_59 rfl ?_
  refine r_if_eq (np := 64) (tgt := 68) G rfl dX11_isTwoSided_61 (by decide) rfl (fun h1 => ?_) (fun h1 => ?_)
  · have hm := b_t h1 hm
    refine r_iconst (np := 69) G 0 dX11_isTwoSided_68 rfl ?_
    exact r_iret G hr hk hM hm dX11_isTwoSided_69
  · have hm := b_f h1 hm
    refine r_iconst (np := 65) G 1 dX11_isTwoSided_64 rfl ?_
    refine r_goto (np := 69) G dX11_isTwoSided_65 (by decide) ?_
    exact r_iret G hr hk hM hm dX11_isTwoSided_69
set_option maxRecDepth 100000 in
set_option maxHeartbeats 4000000 in
theorem qX11_isTwoSided (l : Launch) (E : mE) (σ : mSt) (v0 : Nat) (v1 : Int) (v2 : Int) (out : Int × mSt) (hm : mX11_isTwoSided v0 v1 v2 σ = some out) : mMet l yX11_isTwoSided cX11_isTwoSided 5 (some .int) 7 169 E 276 [.ref (eA E v0), vI v1, vI v2] σ (some (vI out.1)) out.2 := by
  unfold mX11_isTwoSided at hm
  obtain ⟨g0, hm⟩ := g_t hm
  refine m_entry (by decide +kernel) (Nat.le_of_ble_eq_true rfl) (fun p e s m args below meth c G hr hk hM ls hl => ?_)
  have G : CallFix p m c cX11_isTwoSided 5 s args mTs RX11 := G
  have hl : lv_has ls 5 [(0, .ref (eA E v0)), (1, vI v1), (2, vI v2)] := hl
  refine r_aload_n (np := 1) G hl 0 rfl dX11_isTwoSided_0 rfl rfl ?_
  refine r_iload_n (np := 2) G hl 1 rfl dX11_isTwoSided_1 rfl rfl ?_
  refine r_iload_n (np := 3) G hl 2 rfl dX11_isTwoSided_2 rfl rfl ?_
  obtain ⟨b2, s3, e4, hm⟩ := call_t hm
  refine m_callVI (np := 6) G hM hl.1 [vI v1, vI v2] (qX11_idealFault l E σ v0 v1 v2 _ e4) myX11_idealFault (shp_lt (gX11_idealFault e4) (by decide)) (gX11_idealFault e4) rfl (by decide) lkX11_262 ⟨Nat.le_of_ble_eq_true rfl, Nat.le_of_ble_eq_true rfl⟩ ⟨Nat.le_of_ble_eq_true rfl, Nat.le_of_ble_eq_true rfl⟩ [] rfl (Nat.le_of_ble_eq_true rfl) dX11_isTwoSided_3 rfl (fun H locs hM => ?_)
  refine r_istore_n (np := 7) G hl rfl [(3, vI b2), (0, .ref (eA E v0)), (1, vI v1), (2, vI v2)] dX11_isTwoSided_6 rfl rfl (by decide) rfl (fun ls hl => ?_)
  refine r_iload_n (np := 8) G hl 0 rfl dX11_isTwoSided_7 rfl rfl ?_
  refine r_if_eq (np := 11) (tgt := 13) G rfl dX11_isTwoSided_8 (by decide) rfl (fun h5 => ?_) (fun h5 => ?_)
  · have hm := b_t h5 hm
    refine r_aload_n (np := 14) G hl 1 rfl dX11_isTwoSided_13 rfl rfl ?_
    refine r_iload_n (np := 15) G hl 2 rfl dX11_isTwoSided_14 rfl rfl ?_
    refine r_iload_n (np := 16) G hl 3 rfl dX11_isTwoSided_15 rfl rfl ?_
    obtain ⟨b6, s7, e8, hm⟩ := call_t hm
    refine m_callVV (np := 19) G hM hl.1 [vI v1, vI v2] (qX11_makeIdeal l E s3 v0 v1 v2 _ e8) myX11_makeIdeal (shp_lt (gX11_makeIdeal e8) (by decide)) (gX11_makeIdeal e8) rfl (by decide) lkX11_265 ⟨Nat.le_of_ble_eq_true rfl, Nat.le_of_ble_eq_true rfl⟩ ⟨Nat.le_of_ble_eq_true rfl, Nat.le_of_ble_eq_true rfl⟩ [] rfl (Nat.le_of_ble_eq_true rfl) dX11_isTwoSided_16 rfl (fun H locs hM => ?_)
    refine r_aload_n (np := 20) G hl 1 rfl dX11_isTwoSided_19 rfl rfl ?_
    obtain ⟨r9, e10, hm⟩ := ref_t hm
    refine r_getR (np := 23) G hM (shp_lt g0 (by decide)) g0 e10 fdX11_10 lkX11_70 dX11_isTwoSided_20 rfl ?_
    refine r_aload_n (np := 24) G hl 1 rfl dX11_isTwoSided_23 rfl rfl ?_
    obtain ⟨r11, e12, hm⟩ := ref_t hm
    refine r_getR (np := 27) G hM (shp_lt g0 (by decide)) g0 e12 fdX11_6 lkX11_43 dX11_isTwoSided_24 rfl ?_
    refine r_iload_n (np := 28) G hl 2 rfl dX11_isTwoSided_27 rfl rfl ?_
    obtain ⟨g13, hm⟩ := g_t hm
    obtain ⟨r14, e15, hm⟩ := ref_t hm
    refine r_aaload (np := 29) G hM (t := 3) g13 rfl ⟨by decide, by decide⟩ rfl rfl e15 dX11_isTwoSided_28 rfl ?_
    obtain ⟨b16, s17, e18, hm⟩ := call_t hm
    refine m_callVI (np := 32) G hM hl.1 [.ref (eA E r14)] (qX4_takesRight l E s7 r9 r14 _ e18) myX4_takesRight (shp_lt (gX4_takesRight e18) (by decide)) (gX4_takesRight e18) rfl (by decide) lkX11_279 ⟨Nat.le_of_ble_eq_true rfl, Nat.le_of_ble_eq_true rfl⟩ ⟨Nat.le_of_ble_eq_true rfl, Nat.le_of_ble_eq_true rfl⟩ [] rfl (Nat.le_of_ble_eq_true rfl) dX11_isTwoSided_29 rfl (fun H locs hM => ?_)
    refine r_istore (np := 34) G hl rfl [(4, vI b16), (3, vI b2), (0, .ref (eA E v0)), (1, vI v1), (2, vI v2)] dX11_isTwoSided_32 rfl (by decide) rfl (fun ls hl => ?_)
    refine r_iload (np := 36) G hl 0 rfl dX11_isTwoSided_34 rfl ?_
    refine r_if_eq (np := 39) (tgt := 59) G rfl dX11_isTwoSided_36 (by decide) rfl (fun h19 => ?_) (fun h19 => ?_)
    · have hm := b_t h19 hm
      exact wX11_isTwoSided_B59 l E out G hr hk v0 v1 v2 g0 b16 _ _ _ _ hm hM (lv_sub hl [0] rfl)
    · have hm := b_f h19 hm
      refine r_iload_n (np := 40) G hl 4 rfl dX11_isTwoSided_39 rfl rfl ?_
      refine r_iconst (np := 41) G (-1) dX11_isTwoSided_40 rfl ?_
      refine r_icmp_eq (np := 44) (tgt := 59) G rfl (wIk (-1) rfl) dX11_isTwoSided_41 (by decide) rfl (fun h20 => ?_) (fun h20 => ?_)
      · have hm := b_t h20 hm
        exact wX11_isTwoSided_B59 l E out G hr hk v0 v1 v2 g0 b16 _ _ _ _ hm hM (lv_sub hl [0] rfl)
      · have hm := b_f h20 hm
        refine r_aload_n (np := 45) G hl 2 rfl dX11_isTwoSided_44 rfl rfl ?_
        obtain ⟨r21, e22, hm⟩ := ref_t hm
        refine r_getR (np := 48) G hM (shp_lt g0 (by decide)) g0 e22 fdX11_10 lkX11_70 dX11_isTwoSided_45 rfl ?_
        refine r_aload_n (np := 49) G hl 2 rfl dX11_isTwoSided_48 rfl rfl ?_
        obtain ⟨r23, e24, hm⟩ := ref_t hm
        refine r_getR (np := 52) G hM (shp_lt g0 (by decide)) g0 e24 fdX11_6 lkX11_43 dX11_isTwoSided_49 rfl ?_
        refine r_iload_n (np := 53) G hl 4 rfl dX11_isTwoSided_52 rfl rfl ?_
        obtain ⟨g25, hm⟩ := g_t hm
        obtain ⟨r26, e27, hm⟩ := ref_t hm
        refine r_aaload (np := 54) G hM (t := 3) g25 rfl ⟨by decide, by decide⟩ rfl rfl e27 dX11_isTwoSided_53 rfl ?_
        obtain ⟨b28, s29, e30, hm⟩ := call_t hm
        refine m_callVI (np := 57) G hM hl.1 [.ref (eA E r26)] (qX4_takesRight l E s17 r21 r26 _ e30) myX4_takesRight (shp_lt (gX4_takesRight e30) (by decide)) (gX4_takesRight e30) rfl (by decide) lkX11_279 ⟨Nat.le_of_ble_eq_true rfl, Nat.le_of_ble_eq_true rfl⟩ ⟨Nat.le_of_ble_eq_true rfl, Nat.le_of_ble_eq_true rfl⟩ [] rfl (Nat.le_of_ble_eq_true rfl) dX11_isTwoSided_54 rfl (fun H locs hM => ?_)
        refine r_istore (np := 59) G hl rfl [(4, vI b28), (3, vI b2), (0, .ref (eA E v0)), (1, vI v1), (2, vI v2)] dX11_isTwoSided_57 rfl (by decide) rfl (fun ls hl => ?_)
        exact wX11_isTwoSided_B59 l E out G hr hk v0 v1 v2 g0 b28 _ _ _ _ hm hM (lv_sub hl [0] rfl)
  · have hm := b_f h5 hm
    refine r_iload_n (np := 12) G hl 0 rfl dX11_isTwoSided_11 rfl rfl ?_
    exact r_iret G hr hk hM hm dX11_isTwoSided_12
theorem gX11_isTwoSided {v0 : Nat} {v1 : Int} {v2 : Int} {σ : mSt} {out : Int × mSt} (hm : mX11_isTwoSided v0 v1 v2 σ = some out) : isC v0 10 := (g_t hm).1
set_option maxRecDepth 100000 in
set_option maxHeartbeats 4000000 in
theorem qX11_many (l : Launch) (E : mE) (σ : mSt) (v0 : Nat) (v1 : Int) (v2 : Int) (out : Int × mSt) (hm : mX11_many v0 v1 v2 σ = some out) : mMet l yX11_many cX11_many 3 (some .int) 6 180 E 276 [.ref (eA E v0), vI v1, vI v2] σ (some (vI out.1)) out.2 := by
  unfold mX11_many at hm
  obtain ⟨g0, hm⟩ := g_t hm
  refine m_entry (by decide +kernel) (Nat.le_of_ble_eq_true rfl) (fun p e s m args below meth c G hr hk hM ls hl => ?_)
  have G : CallFix p m c cX11_many 3 s args mTs RX11 := G
  have hl : lv_has ls 3 [(0, .ref (eA E v0)), (1, vI v1), (2, vI v2)] := hl
  refine r_aload_n (np := 1) G hl 0 rfl dX11_many_0 rfl rfl ?_
  refine r_iload_n (np := 2) G hl 1 rfl dX11_many_1 rfl rfl ?_
  obtain ⟨b1, s2, e3, hm⟩ := call_t hm
  refine m_callVI (np := 5) G hM hl.1 [vI v1] (qX11_isQuaternion l E σ v0 v1 _ e3) myX11_isQuaternion (shp_lt (gX11_isQuaternion e3) (by decide)) (gX11_isQuaternion e3) rfl (by decide) lkX11_102 ⟨Nat.le_of_ble_eq_true rfl, Nat.le_of_ble_eq_true rfl⟩ ⟨Nat.le_of_ble_eq_true rfl, Nat.le_of_ble_eq_true rfl⟩ [] rfl (Nat.le_of_ble_eq_true rfl) dX11_many_2 rfl (fun H locs hM => ?_)
  refine r_if_eq (np := 8) (tgt := 18) G rfl dX11_many_5 (by decide) rfl (fun h4 => ?_) (fun h4 => ?_)
  · have hm := b_t h4 hm
    refine r_iconst (np := 19) G (-1) dX11_many_18 rfl ?_
    exact r_iret G hr hk hM hm dX11_many_19
  · have hm := b_f h4 hm
    refine r_iload_n (np := 9) G hl 2 rfl dX11_many_8 rfl rfl ?_
    refine r_if_lt (np := 12) (tgt := 18) G rfl dX11_many_9 (by decide) rfl (fun h5 => ?_) (fun h5 => ?_)
    · have hm := b_t h5 hm
      refine r_iconst (np := 19) G (-1) dX11_many_18 rfl ?_
      exact r_iret G hr hk hM hm dX11_many_19
    · have hm := b_f h5 hm
      refine r_iload_n (np := 13) G hl 2 rfl dX11_many_12 rfl rfl ?_
      refine r_bipush (np := 15) G 12 dX11_many_13 (by decide) rfl ?_
      refine r_icmp_le (np := 18) (tgt := 20) G rfl (wIk 12 rfl) dX11_many_15 (by decide) rfl (fun h6 => ?_) (fun h6 => ?_)
      · have hm := b_t h6 hm
        refine r_aload_n (np := 21) G hl 0 rfl dX11_many_20 rfl rfl ?_
        obtain ⟨r7, e8, hm⟩ := ref_t hm
        refine r_getR (np := 24) G hM (shp_lt g0 (by decide)) g0 e8 fdX11_3 lkX11_27 dX11_many_21 rfl ?_
        refine r_iload_n (np := 25) G hl 1 rfl dX11_many_24 rfl rfl ?_
        obtain ⟨b9, s10, e11, hm⟩ := call_t hm
        refine m_callVI (np := 28) G hM hl.1 [vI v1] (qX0_first l E s2 r7 v1 _ e11) myX0_first (shp_lt (gX0_first e11) (by decide)) (gX0_first e11) rfl (by decide) lkX11_106 ⟨Nat.le_of_ble_eq_true rfl, Nat.le_of_ble_eq_true rfl⟩ ⟨Nat.le_of_ble_eq_true rfl, Nat.le_of_ble_eq_true rfl⟩ [] rfl (Nat.le_of_ble_eq_true rfl) dX11_many_25 rfl (fun H locs hM => ?_)
        refine r_if_ge (np := 31) (tgt := 42) G rfl dX11_many_28 (by decide) rfl (fun h12 => ?_) (fun h12 => ?_)
        · have hm := b_t h12 hm
          refine r_iconst (np := 43) G (-1) dX11_many_42 rfl ?_
          exact r_iret G hr hk hM hm dX11_many_43
        · have hm := b_f h12 hm
          refine r_aload_n (np := 32) G hl 0 rfl dX11_many_31 rfl rfl ?_
          obtain ⟨r13, e14, hm⟩ := ref_t hm
          refine r_getR (np := 35) G hM (shp_lt g0 (by decide)) g0 e14 fdX11_3 lkX11_27 dX11_many_32 rfl ?_
          refine r_iload_n (np := 36) G hl 1 rfl dX11_many_35 rfl rfl ?_
          obtain ⟨b15, s16, e17, hm⟩ := call_t hm
          refine m_callVI (np := 39) G hM hl.1 [vI v1] (qX0_second l E s10 r13 v1 _ e17) myX0_second (shp_lt (gX0_second e17) (by decide)) (gX0_second e17) rfl (by decide) lkX11_110 ⟨Nat.le_of_ble_eq_true rfl, Nat.le_of_ble_eq_true rfl⟩ ⟨Nat.le_of_ble_eq_true rfl, Nat.le_of_ble_eq_true rfl⟩ [] rfl (Nat.le_of_ble_eq_true rfl) dX11_many_36 rfl (fun H locs hM => ?_)
          refine r_if_lt (np := 42) (tgt := 44) G rfl dX11_many_39 (by decide) rfl (fun h18 => ?_) (fun h18 => ?_)
          · have hm := b_t h18 hm
            refine r_aload_n (np := 45) G hl 0 rfl dX11_many_44 rfl rfl ?_
            obtain ⟨r19, e20, hm⟩ := ref_t hm
            refine r_getR (np := 48) G hM (shp_lt g0 (by decide)) g0 e20 fdX11_7 lkX11_49 dX11_many_45 rfl ?_
            refine r_iload_n (np := 49) G hl 1 rfl dX11_many_48 rfl rfl ?_
            obtain ⟨g21, hm⟩ := g_t hm
            obtain ⟨r22, e23, hm⟩ := ref_t hm
            refine r_aaload (np := 50) G hM (t := 4) g21 rfl ⟨by decide, by decide⟩ rfl rfl e23 dX11_many_49 rfl ?_
            refine r_iload_n (np := 51) G hl 2 rfl dX11_many_50 rfl rfl ?_
            obtain ⟨b24, s25, e26, hm⟩ := call_t hm
            refine m_callVI (np := 54) G hM hl.1 [vI v2] (qX6_countOfNorm l E s16 r22 v2 _ e26) myX6_countOfNorm (shp_lt (gX6_countOfNorm e26) (by decide)) (gX6_countOfNorm e26) rfl (by decide) lkX11_292 ⟨Nat.le_of_ble_eq_true rfl, Nat.le_of_ble_eq_true rfl⟩ ⟨Nat.le_of_ble_eq_true rfl, Nat.le_of_ble_eq_true rfl⟩ [] rfl (Nat.le_of_ble_eq_true rfl) dX11_many_51 rfl (fun H locs hM => ?_)
            exact r_iret G hr hk hM hm dX11_many_54
          · have hm := b_f h18 hm
            refine r_iconst (np := 43) G (-1) dX11_many_42 rfl ?_
            exact r_iret G hr hk hM hm dX11_many_43
      · have hm := b_f h6 hm
        refine r_iconst (np := 19) G (-1) dX11_many_18 rfl ?_
        exact r_iret G hr hk hM hm dX11_many_19
theorem gX11_many {v0 : Nat} {v1 : Int} {v2 : Int} {σ : mSt} {out : Int × mSt} (hm : mX11_many v0 v1 v2 σ = some out) : isC v0 10 := (g_t hm).1
set_option maxRecDepth 100000 in
set_option maxHeartbeats 4000000 in
theorem wX11_keptBits_B38 (l : Launch) (E : mE) (out : Int × mSt) {p : Program} {e : Env} {s : State} {m : MethodId} {args : Array Value} {below : List Frame} {meth : Method} {c : Code} (G : CallFix p m c cX11_keptBits 3 s args mTs RX11) (hr : meth.sig.returnType = (some .int)) (hk : meth.locks = false) (v0 : Nat) (g0 : isC v0 10) : ∀ (v1 : Int) (σ : mSt) (H : Heap) (locs : List Loc) (ls : Array Slot), mX11_keptBits_B38 v0 v1 σ = some out → mM (mA E 276) E 276 σ s H locs → lv_has ls 3 [(1, vI v1)] → mGo l p e 1 20 s m args below meth c E (some (vI out.1)) out.2 H locs (F0 m 38 ls []) := by
  intro v1 σ H locs ls hm hM hl
  unfold mX11_keptBits_B38 at hm
  refine r_iload_n (np := 39) G hl 0 rfl dX11_keptBits_38 rfl rfl ?_
  exact r_iret G hr hk hM hm dX11_keptBits_39
set_option maxRecDepth 100000 in
set_option maxHeartbeats 4000000 in
theorem wX11_keptBits_L4 (l : Launch) (E : mE) (out : Int × mSt) {p : Program} {e : Env} {s : State} {m : MethodId} {args : Array Value} {below : List Frame} {meth : Method} {c : Code} (G : CallFix p m c cX11_keptBits 3 s args mTs RX11) (hr : meth.sig.returnType = (some .int)) (hk : meth.locks = false) (v0 : Nat) (g0 : isC v0 10) (x38 : Int → mSt → Option (Int × mSt)) (hx38 : ∀ (v1 : Int) (σ : mSt) (H : Heap) (locs : List Loc) (ls : Array Slot), x38 v1 σ = some out → mM (mA E 276) E 276 σ s H locs → lv_has ls 3 [(1, vI v1)] → mGo l p e 1 20 s m args below meth c E (some (vI out.1)) out.2 H locs (F0 m 38 ls [])) : ∀ (n : Nat) (v1 : Int) (v2 : Int) (σ : mSt) (H : Heap) (locs : List Loc) (ls : Array Slot), mX11_keptBits_L4 v0 x38 n v1 v2 σ = some out → mM (mA E 276) E 276 σ s H locs → lv_has ls 3 [(0, .ref (eA E v0)), (1, vI v1), (2, vI v2)] → mGo l p e 1 20 s m args below meth c E (some (vI out.1)) out.2 H locs (F0 m 4 ls []) := by
  intro n
  induction n with
  | zero =>
    intro v1 v2 σ H locs ls hm hM hl
    exact absurd hm (by rw [mX11_keptBits_L4.eq_1]; exact fun h => nomatch h)
  | succ n ih =>
    intro v1 v2 σ H locs ls hm hM hl
    rw [mX11_keptBits_L4.eq_2] at hm
    refine r_iload_n (np := 5) G hl 2 rfl dX11_keptBits_4 rfl rfl ?_
    refine r_bipush (np := 7) G 8 dX11_keptBits_5 (by decide) rfl ?_
    refine r_icmp_ge (np := 10) (tgt := 38) G rfl (wIk 8 rfl) dX11_keptBits_7 (by decide) rfl (fun h1 => ?_) (fun h1 => ?_)
    · have hm := b_t h1 hm
      exact hx38 v1 _ _ _ _ hm hM (lv_sub hl [1] rfl)
    · have hm := b_f h1 hm
      refine r_iload_n (np := 11) G hl 1 rfl dX11_keptBits_10 rfl rfl ?_
      refine r_aload_n (np := 12) G hl 0 rfl dX11_keptBits_11 rfl rfl ?_
      obtain ⟨r2, e3, hm⟩ := ref_t hm
      refine r_getR (np := 15) G hM (shp_lt g0 (by decide)) g0 e3 fdX11_6 lkX11_43 dX11_keptBits_12 rfl ?_
      refine r_iload_n (np := 16) G hl 2 rfl dX11_keptBits_15 rfl rfl ?_
      obtain ⟨g4, hm⟩ := g_t hm
      obtain ⟨r5, e6, hm⟩ := ref_t hm
      refine r_aaload (np := 17) G hM (t := 3) g4 rfl ⟨by decide, by decide⟩ rfl rfl e6 dX11_keptBits_16 rfl ?_
      obtain ⟨b7, s8, e9, hm⟩ := call_t hm
      refine m_callVI (np := 20) G hM hl.1 [] (qX1_isThere l E σ r5 _ e9) myX1_isThere (shp_lt (gX1_isThere e9) (by decide)) (gX1_isThere e9) rfl (by decide) lkX11_199 ⟨Nat.le_of_ble_eq_true rfl, Nat.le_of_ble_eq_true rfl⟩ ⟨Nat.le_of_ble_eq_true rfl, Nat.le_of_ble_eq_true rfl⟩ [vI v1] rfl (Nat.le_of_ble_eq_true rfl) dX11_keptBits_17 rfl (fun H locs hM => ?_)
      refine r_if_eq (np := 23) (tgt := 29) G rfl dX11_keptBits_20 (by decide) rfl (fun h10 => ?_) (fun h10 => ?_)
      · have hm := b_t h10 hm
        refine r_iconst (np := 30) G 0 dX11_keptBits_29 rfl ?_
        refine r_ior (np := 31) G dX11_keptBits_30 rfl ?_
        obtain ⟨a11, e12, hm⟩ := bnd_t hm
        refine r_istore_n (np := 32) G hl e12 [(1, vI a11), (0, .ref (eA E v0)), (2, vI v2)] dX11_keptBits_31 rfl rfl (by decide) rfl (fun ls hl => ?_)
        obtain ⟨a13, e14, hm⟩ := bnd_t hm
        refine r_iinc (np := 35) G hl 2 rfl e14 [(2, vI a13), (1, vI a11), (0, .ref (eA E v0))] dX11_keptBits_32 rfl (by decide) rfl (fun ls hl => ?_)
        refine r_goto (np := 4) G dX11_keptBits_35 (by decide) ?_
        exact ih a11 a13 _ _ _ _ hm hM (lv_sub hl [2, 1, 0] rfl)
      · have hm := b_f h10 hm
        refine r_iconst (np := 24) G 1 dX11_keptBits_23 rfl ?_
        refine r_iload_n (np := 25) G hl 2 rfl dX11_keptBits_24 rfl rfl ?_
        refine r_ishl (np := 26) G dX11_keptBits_25 rfl ?_
        refine r_goto (np := 30) G dX11_keptBits_26 (by decide) ?_
        refine r_ior (np := 31) G dX11_keptBits_30 rfl ?_
        obtain ⟨a15, e16, hm⟩ := bnd_t hm
        refine r_istore_n (np := 32) G hl e16 [(1, vI a15), (0, .ref (eA E v0)), (2, vI v2)] dX11_keptBits_31 rfl rfl (by decide) rfl (fun ls hl => ?_)
        obtain ⟨a17, e18, hm⟩ := bnd_t hm
        refine r_iinc (np := 35) G hl 2 rfl e18 [(2, vI a17), (1, vI a15), (0, .ref (eA E v0))] dX11_keptBits_32 rfl (by decide) rfl (fun ls hl => ?_)
        refine r_goto (np := 4) G dX11_keptBits_35 (by decide) ?_
        exact ih a15 a17 _ _ _ _ hm hM (lv_sub hl [2, 1, 0] rfl)
set_option maxRecDepth 100000 in
set_option maxHeartbeats 4000000 in
theorem qX11_keptBits (l : Launch) (E : mE) (σ : mSt) (v0 : Nat) (out : Int × mSt) (hm : mX11_keptBits v0 σ = some out) : mMet l yX11_keptBits cX11_keptBits 3 (some .int) 1 20 E 276 [.ref (eA E v0)] σ (some (vI out.1)) out.2 := by
  unfold mX11_keptBits at hm
  obtain ⟨g0, hm⟩ := g_t hm
  refine m_entry (by decide +kernel) (Nat.le_of_ble_eq_true rfl) (fun p e s m args below meth c G hr hk hM ls hl => ?_)
  have G : CallFix p m c cX11_keptBits 3 s args mTs RX11 := G
  have hl : lv_has ls 3 [(0, .ref (eA E v0))] := hl
  refine r_iconst (np := 1) G 0 dX11_keptBits_0 rfl ?_
  refine r_istore_n (np := 2) G hl rfl [(1, vI 0), (0, .ref (eA E v0))] dX11_keptBits_1 rfl rfl (by decide) rfl (fun ls hl => ?_)
  refine r_iconst (np := 3) G 0 dX11_keptBits_2 rfl ?_
  refine r_istore_n (np := 4) G hl rfl [(2, vI 0), (1, vI 0), (0, .ref (eA E v0))] dX11_keptBits_3 rfl rfl (by decide) rfl (fun ls hl => ?_)
  exact wX11_keptBits_L4 l E out G hr hk v0 g0 (fun z1 zσ => mX11_keptBits_B38 v0 z1 zσ) (fun z1 zσ zH zl zs zm zM zv => wX11_keptBits_B38 l E out G hr hk v0 g0 z1 zσ zH zl zs zm zM zv) mF 0 0 _ _ _ _ hm hM (lv_sub hl [2, 1, 0] rfl)
theorem gX11_keptBits {v0 : Nat} {σ : mSt} {out : Int × mSt} (hm : mX11_keptBits v0 σ = some out) : isC v0 10 := (g_t hm).1
set_option maxRecDepth 100000 in
set_option maxHeartbeats 4000000 in
theorem qX11_count (l : Launch) (E : mE) (σ : mSt) (v0 : Nat) (v1 : Int) (out : Int × mSt) (hm : mX11_count v0 v1 σ = some out) : mMet l yX11_count cX11_count 2 (some .int) 2 42 E 276 [.ref (eA E v0), vI v1] σ (some (vI out.1)) out.2 := by
  unfold mX11_count at hm
  obtain ⟨g0, hm⟩ := g_t hm
  refine m_entry (by decide +kernel) (Nat.le_of_ble_eq_true rfl) (fun p e s m args below meth c G hr hk hM ls hl => ?_)
  have G : CallFix p m c cX11_count 2 s args mTs RX11 := G
  have hl : lv_has ls 2 [(0, .ref (eA E v0)), (1, vI v1)] := hl
  refine r_iload_n (np := 1) G hl 1 rfl dX11_count_0 rfl rfl ?_
  rcases ite_c hm with ⟨h1, hm⟩ | ⟨h1, hm⟩
  · refine r_tswIn (tgt := 28) G h1 dX11_count_1 (by decide) (by decide) rfl (by decide) ?_
    refine r_aload_n (np := 29) G hl 0 rfl dX11_count_28 rfl rfl ?_
    obtain ⟨r2, e3, hm⟩ := ref_t hm
    refine r_getR (np := 32) G hM (shp_lt g0 (by decide)) g0 e3 fdX11_3 lkX11_27 dX11_count_29 rfl ?_
    obtain ⟨b4, s5, e6, hm⟩ := call_t hm
    refine m_callVI (np := 35) G hM hl.1 [] (qX0_size l E σ r2 _ e6) myX0_size (shp_lt (gX0_size e6) (by decide)) (gX0_size e6) rfl (by decide) lkX11_91 ⟨Nat.le_of_ble_eq_true rfl, Nat.le_of_ble_eq_true rfl⟩ ⟨Nat.le_of_ble_eq_true rfl, Nat.le_of_ble_eq_true rfl⟩ [] rfl (Nat.le_of_ble_eq_true rfl) dX11_count_32 rfl (fun H locs hM => ?_)
    exact r_iret G hr hk hM hm dX11_count_35
  ·
    rcases ite_c hm with ⟨h7, hm⟩ | ⟨h7, hm⟩
    · refine r_tswIn (tgt := 36) G h7 dX11_count_1 (by decide) (by decide) rfl (by decide) ?_
      refine r_aload_n (np := 37) G hl 0 rfl dX11_count_36 rfl rfl ?_
      obtain ⟨b8, s9, e10, hm⟩ := call_t hm
      refine m_callVI (np := 40) G hM hl.1 [] (qX11_keptBits l E σ v0 _ e10) myX11_keptBits (shp_lt (gX11_keptBits e10) (by decide)) (gX11_keptBits e10) rfl (by decide) lkX11_295 ⟨Nat.le_of_ble_eq_true rfl, Nat.le_of_ble_eq_true rfl⟩ ⟨Nat.le_of_ble_eq_true rfl, Nat.le_of_ble_eq_true rfl⟩ [] rfl (Nat.le_of_ble_eq_true rfl) dX11_count_37 rfl (fun H locs hM => ?_)
      exact r_iret G hr hk hM hm dX11_count_40
    ·
      rcases ite_c hm with ⟨h11, hm⟩ | ⟨h11, hm⟩
      · refine r_tswIn (tgt := 41) G h11 dX11_count_1 (by decide) (by decide) rfl (by decide) ?_
        refine r_aload_n (np := 42) G hl 0 rfl dX11_count_41 rfl rfl ?_
        refine r_getI (np := 45) G hM (shp_lt g0 (by decide)) g0 fdX11_1 lkX11_13 dX11_count_42 rfl ?_
        exact r_iret G hr hk hM hm dX11_count_45
      ·
        refine r_tswOut (tgt := 46) G (by omega) dX11_count_1 (by decide) ?_
        refine r_iconst (np := 47) G (-1) dX11_count_46 rfl ?_
        exact r_iret G hr hk hM hm dX11_count_47
theorem gX11_count {v0 : Nat} {v1 : Int} {σ : mSt} {out : Int × mSt} (hm : mX11_count v0 v1 σ = some out) : isC v0 10 := (g_t hm).1
set_option maxRecDepth 100000 in
set_option maxHeartbeats 4000000 in
theorem qX12_thrown (l : Launch) (E : mE) (σ : mSt) (v0 : Nat) (out : Int × mSt) (hm : mX12_thrown v0 σ = some out) : mMet l yX12_thrown cX12_thrown 1 (some .int) 0 0 E 276 [.ref (eA E v0)] σ (some (vI out.1)) out.2 := by
  unfold mX12_thrown at hm
  obtain ⟨g0, hm⟩ := g_t hm
  refine m_entry (by decide +kernel) (Nat.le_of_ble_eq_true rfl) (fun p e s m args below meth c G hr hk hM ls hl => ?_)
  have G : CallFix p m c cX12_thrown 1 s args mTs RX12 := G
  have hl : lv_has ls 1 [(0, .ref (eA E v0))] := hl
  refine r_aload_n (np := 1) G hl 0 rfl dX12_thrown_0 rfl rfl ?_
  refine r_getI (np := 4) G hM (shp_lt g0 (by decide)) g0 fdX12_0 lkX12_75 dX12_thrown_1 rfl ?_
  exact r_iret G hr hk hM hm dX12_thrown_4
theorem gX12_thrown {v0 : Nat} {σ : mSt} {out : Int × mSt} (hm : mX12_thrown v0 σ = some out) : isC v0 11 := (g_t hm).1
set_option maxRecDepth 100000 in
set_option maxHeartbeats 4000000 in
theorem wX12_within_B17 (l : Launch) (E : mE) (out : Int × mSt) {p : Program} {e : Env} {s : State} {m : MethodId} {args : Array Value} {below : List Frame} {meth : Method} {c : Code} (G : CallFix p m c cX12_within 6 s args mTs RX12) (hr : meth.sig.returnType = (some .boolean)) (hk : meth.locks = false) (v0 : Int) (v2 : Int) (v4 : Int) : ∀ (σ : mSt) (H : Heap) (locs : List Loc) (ls : Array Slot), mX12_within_B17 v0 v2 v4 σ = some out → mM (mA E 276) E 276 σ s H locs → lv_has ls 6 [] → mGo l p e 0 0 s m args below meth c E (some (vI out.1)) out.2 H locs (F0 m 17 ls []) := by
  intro σ H locs ls hm hM hl
  unfold mX12_within_B17 at hm
  refine r_iconst (np := 18) G 0 dX12_within_17 rfl ?_
  exact r_zret G hr hk hM (Or.inl rfl) hm dX12_within_18
set_option maxRecDepth 100000 in
set_option maxHeartbeats 4000000 in
theorem qX12_within (l : Launch) (E : mE) (σ : mSt) (v0 : Int) (v2 : Int) (v4 : Int) (out : Int × mSt) (hm : mX12_within v0 v2 v4 σ = some out) : mMet l yX12_within cX12_within 6 (some .boolean) 0 0 E 276 [vL v0, vL v2, vL v4] σ (some (vI out.1)) out.2 := by
  unfold mX12_within at hm
  refine m_entry (by decide +kernel) (Nat.le_of_ble_eq_true rfl) (fun p e s m args below meth c G hr hk hM ls hl => ?_)
  have G : CallFix p m c cX12_within 6 s args mTs RX12 := G
  have hl : lv_has ls 6 [(0, vL v0), (2, vL v2), (4, vL v4)] := hl
  refine r_lload_n (np := 1) G hl 0 rfl dX12_within_0 rfl rfl ?_
  refine r_lload_n (np := 2) G hl 1 rfl dX12_within_1 rfl rfl ?_
  refine r_lcmp_lt (np := 6) (tgt := 17) G rfl rfl dX12_within_2 dX12_within_3 (by decide) rfl (fun h1 => ?_) (fun h1 => ?_)
  · have hm := b_t h1 hm
    exact wX12_within_B17 l E out G hr hk v0 v2 v4 _ _ _ _ hm hM (lv_sub hl [] rfl)
  · have hm := b_f h1 hm
    refine r_lload_n (np := 7) G hl 0 rfl dX12_within_6 rfl rfl ?_
    refine r_lload (np := 9) G hl 2 rfl dX12_within_7 rfl ?_
    refine r_lcmp_gt (np := 13) (tgt := 17) G rfl rfl dX12_within_9 dX12_within_10 (by decide) rfl (fun h2 => ?_) (fun h2 => ?_)
    · have hm := b_t h2 hm
      exact wX12_within_B17 l E out G hr hk v0 v2 v4 _ _ _ _ hm hM (lv_sub hl [] rfl)
    · have hm := b_f h2 hm
      refine r_iconst (np := 14) G 1 dX12_within_13 rfl ?_
      refine r_goto (np := 18) G dX12_within_14 (by decide) ?_
      exact r_zret G hr hk hM (Or.inr rfl) hm dX12_within_18
set_option maxRecDepth 100000 in
set_option maxHeartbeats 4000000 in
theorem wX12_puts_B36 (l : Launch) (E : mE) (out : Int × mSt) {p : Program} {e : Env} {s : State} {m : MethodId} {args : Array Value} {below : List Frame} {meth : Method} {c : Code} (G : CallFix p m c cX12_puts 3 s args mTs RX12) (hr : meth.sig.returnType = none) (hk : meth.locks = false) (v0 : Nat) (v1 : Int) (g0 : isC v0 11) : ∀ (σ : mSt) (H : Heap) (locs : List Loc) (ls : Array Slot), mX12_puts_B36 v0 v1 σ = some out → mM (mA E 276) E 276 σ s H locs → lv_has ls 3 [] → mGo l p e 0 0 s m args below meth c E none out.2 H locs (F0 m 36 ls []) := by
  intro σ H locs ls hm hM hl
  unfold mX12_puts_B36 at hm
  exact r_vret G hr hk hM hm dX12_puts_36
set_option maxRecDepth 100000 in
set_option maxHeartbeats 4000000 in
theorem wX12_puts_L3 (l : Launch) (E : mE) (out : Int × mSt) {p : Program} {e : Env} {s : State} {m : MethodId} {args : Array Value} {below : List Frame} {meth : Method} {c : Code} (G : CallFix p m c cX12_puts 3 s args mTs RX12) (hr : meth.sig.returnType = none) (hk : meth.locks = false) (v0 : Nat) (v1 : Int) (g0 : isC v0 11) (x36 : mSt → Option (Int × mSt)) (hx36 : ∀ (σ : mSt) (H : Heap) (locs : List Loc) (ls : Array Slot), x36 σ = some out → mM (mA E 276) E 276 σ s H locs → lv_has ls 3 [] → mGo l p e 0 0 s m args below meth c E none out.2 H locs (F0 m 36 ls [])) : ∀ (n : Nat) (v2 : Int) (σ : mSt) (H : Heap) (locs : List Loc) (ls : Array Slot), mX12_puts_L3 v0 v1 x36 n v2 σ = some out → mM (mA E 276) E 276 σ s H locs → lv_has ls 3 [(0, .ref (eA E v0)), (1, vI v1), (2, vI v2)] → mGo l p e 0 0 s m args below meth c E none out.2 H locs (F0 m 3 ls []) := by
  intro n
  induction n with
  | zero =>
    intro v2 σ H locs ls hm hM hl
    exact absurd hm (by rw [mX12_puts_L3.eq_1]; exact fun h => nomatch h)
  | succ n ih =>
    intro v2 σ H locs ls hm hM hl
    rw [mX12_puts_L3.eq_2] at hm
    refine r_iload_n (np := 4) G hl 2 rfl dX12_puts_3 rfl rfl ?_
    refine r_if_lt (np := 7) (tgt := 36) G rfl dX12_puts_4 (by decide) rfl (fun h1 => ?_) (fun h1 => ?_)
    · have hm := b_t h1 hm
      exact hx36 _ _ _ _ hm hM (lv_sub hl [] rfl)
    · have hm := b_f h1 hm
      refine r_aload_n (np := 8) G hl 0 rfl dX12_puts_7 rfl rfl ?_
      obtain ⟨r2, e3, hm⟩ := ref_t hm
      refine r_getR (np := 11) G hM (shp_lt g0 (by decide)) g0 e3 fdX12_1 lkX12_7 dX12_puts_8 rfl ?_
      refine r_aload_n (np := 12) G hl 0 rfl dX12_puts_11 rfl rfl ?_
      refine r_getI (np := 15) G hM (shp_lt g0 (by decide)) g0 fdX12_2 lkX12_79 dX12_puts_12 rfl ?_
      refine r_iload_n (np := 16) G hl 1 rfl dX12_puts_15 rfl rfl ?_
      refine r_iload_n (np := 17) G hl 2 rfl dX12_puts_16 rfl rfl ?_
      refine r_ishr (np := 18) G dX12_puts_17 rfl ?_
      refine r_i2b (np := 19) G dX12_puts_18 rfl ?_
      obtain ⟨g4, hm⟩ := g_t hm
      obtain ⟨g5, hm⟩ := g_t hm
      obtain ⟨s6, e7, hm⟩ := bnd_t hm
      refine r_bastore (np := 20) G hM g4 rfl g5 s6 e7 dX12_puts_19 rfl (fun H locs hM => ?_)
      refine r_aload_n (np := 21) G hl 0 rfl dX12_puts_20 rfl rfl ?_
      refine r_dup (np := 22) G dX12_puts_21 rfl rfl ?_
      refine r_getI (np := 25) G hM (shp_lt g0 (by decide)) g0 fdX12_2 lkX12_79 dX12_puts_22 rfl ?_
      refine r_iconst (np := 26) G 1 dX12_puts_25 rfl ?_
      refine r_iadd (np := 27) G dX12_puts_26 rfl ?_
      obtain ⟨s8, e9, hm⟩ := bnd_t hm
      refine r_putI (np := 30) G hM (shp_lt g0 (by decide)) g0 ptX12_2 rfl lkX12_79 s8 e9 dX12_puts_27 rfl (fun H locs hM => ?_)
      obtain ⟨a10, e11, hm⟩ := bnd_t hm
      refine r_iinc (np := 33) G hl 2 rfl e11 [(2, vI a10), (0, .ref (eA E v0)), (1, vI v1)] dX12_puts_30 rfl (by decide) rfl (fun ls hl => ?_)
      refine r_goto (np := 3) G dX12_puts_33 (by decide) ?_
      exact ih a10 _ _ _ _ hm hM (lv_sub hl [1, 2, 0] rfl)
set_option maxRecDepth 100000 in
set_option maxHeartbeats 4000000 in
theorem qX12_puts (l : Launch) (E : mE) (σ : mSt) (v0 : Nat) (v1 : Int) (out : Int × mSt) (hm : mX12_puts v0 v1 σ = some out) : mMet l yX12_puts cX12_puts 3 none 0 0 E 276 [.ref (eA E v0), vI v1] σ none out.2 := by
  unfold mX12_puts at hm
  obtain ⟨g0, hm⟩ := g_t hm
  refine m_entry (by decide +kernel) (Nat.le_of_ble_eq_true rfl) (fun p e s m args below meth c G hr hk hM ls hl => ?_)
  have G : CallFix p m c cX12_puts 3 s args mTs RX12 := G
  have hl : lv_has ls 3 [(0, .ref (eA E v0)), (1, vI v1)] := hl
  refine r_bipush (np := 2) G 24 dX12_puts_0 (by decide) rfl ?_
  refine r_istore_n (np := 3) G hl rfl [(2, vI 24), (0, .ref (eA E v0)), (1, vI v1)] dX12_puts_2 rfl rfl (by decide) rfl (fun ls hl => ?_)
  exact wX12_puts_L3 l E out G hr hk v0 v1 g0 (fun zσ => mX12_puts_B36 v0 v1 zσ) (fun zσ zH zl zs zm zM zv => wX12_puts_B36 l E out G hr hk v0 v1 g0 zσ zH zl zs zm zM zv) mF 24 _ _ _ _ hm hM (lv_sub hl [1, 2, 0] rfl)
theorem gX12_puts {v0 : Nat} {v1 : Int} {σ : mSt} {out : Int × mSt} (hm : mX12_puts v0 v1 σ = some out) : isC v0 11 := (g_t hm).1
set_option maxRecDepth 100000 in
set_option maxHeartbeats 4000000 in
theorem qX12_feed (l : Launch) (E : mE) (σ : mSt) (v0 : Nat) (v1 : Int) (v2 : Int) (v3 : Int) (v4 : Int) (v5 : Int) (out : Int × mSt) (hm : mX12_feed v0 v1 v2 v3 v4 v5 σ = some out) : mMet l yX12_feed cX12_feed 6 (some .int) 1 22 E 276 [.ref (eA E v0), vI v1, vI v2, vI v3, vI v4, vI v5] σ (some (vI out.1)) out.2 := by
  unfold mX12_feed at hm
  obtain ⟨g0, hm⟩ := g_t hm
  refine m_entry (by decide +kernel) (Nat.le_of_ble_eq_true rfl) (fun p e s m args below meth c G hr hk hM ls hl => ?_)
  have G : CallFix p m c cX12_feed 6 s args mTs RX12 := G
  have hl : lv_has ls 6 [(0, .ref (eA E v0)), (1, vI v1), (2, vI v2), (3, vI v3), (4, vI v4), (5, vI v5)] := hl
  refine r_aload_n (np := 1) G hl 0 rfl dX12_feed_0 rfl rfl ?_
  refine r_iconst (np := 2) G 0 dX12_feed_1 rfl ?_
  obtain ⟨s1, e2, hm⟩ := bnd_t hm
  refine r_putI (np := 5) G hM (shp_lt g0 (by decide)) g0 ptX12_0 rfl lkX12_75 s1 e2 dX12_feed_2 rfl (fun H locs hM => ?_)
  refine r_aload_n (np := 6) G hl 0 rfl dX12_feed_5 rfl rfl ?_
  refine r_getI (np := 9) G hM (shp_lt g0 (by decide)) g0 fdX12_2 lkX12_79 dX12_feed_6 rfl ?_
  refine r_bipush (np := 11) G 20 dX12_feed_9 (by decide) rfl ?_
  refine r_iadd (np := 12) G dX12_feed_11 rfl ?_
  refine r_sipush (np := 15) G 600 dX12_feed_12 (by decide) rfl ?_
  refine r_icmp_le (np := 18) (tgt := 20) G rfl (wIk 600 rfl) dX12_feed_15 (by decide) rfl (fun h3 => ?_) (fun h3 => ?_)
  · have hm := b_t h3 hm
    refine r_aload_n (np := 21) G hl 0 rfl dX12_feed_20 rfl rfl ?_
    refine r_iload_n (np := 22) G hl 1 rfl dX12_feed_21 rfl rfl ?_
    obtain ⟨b4, s5, e6, hm⟩ := call_t hm
    refine m_callVV (np := 25) G hM hl.1 [vI v1] (qX12_puts l E s1 v0 v1 _ e6) myX12_puts (shp_lt (gX12_puts e6) (by decide)) (gX12_puts e6) rfl (by decide) lkX12_82 ⟨Nat.le_of_ble_eq_true rfl, Nat.le_of_ble_eq_true rfl⟩ ⟨Nat.le_of_ble_eq_true rfl, Nat.le_of_ble_eq_true rfl⟩ [] rfl (Nat.le_of_ble_eq_true rfl) dX12_feed_22 rfl (fun H locs hM => ?_)
    refine r_aload_n (np := 26) G hl 0 rfl dX12_feed_25 rfl rfl ?_
    refine r_iload_n (np := 27) G hl 2 rfl dX12_feed_26 rfl rfl ?_
    obtain ⟨b7, s8, e9, hm⟩ := call_t hm
    refine m_callVV (np := 30) G hM hl.1 [vI v2] (qX12_puts l E s5 v0 v2 _ e9) myX12_puts (shp_lt (gX12_puts e9) (by decide)) (gX12_puts e9) rfl (by decide) lkX12_82 ⟨Nat.le_of_ble_eq_true rfl, Nat.le_of_ble_eq_true rfl⟩ ⟨Nat.le_of_ble_eq_true rfl, Nat.le_of_ble_eq_true rfl⟩ [] rfl (Nat.le_of_ble_eq_true rfl) dX12_feed_27 rfl (fun H locs hM => ?_)
    refine r_aload_n (np := 31) G hl 0 rfl dX12_feed_30 rfl rfl ?_
    refine r_iload_n (np := 32) G hl 3 rfl dX12_feed_31 rfl rfl ?_
    obtain ⟨b10, s11, e12, hm⟩ := call_t hm
    refine m_callVV (np := 35) G hM hl.1 [vI v3] (qX12_puts l E s8 v0 v3 _ e12) myX12_puts (shp_lt (gX12_puts e12) (by decide)) (gX12_puts e12) rfl (by decide) lkX12_82 ⟨Nat.le_of_ble_eq_true rfl, Nat.le_of_ble_eq_true rfl⟩ ⟨Nat.le_of_ble_eq_true rfl, Nat.le_of_ble_eq_true rfl⟩ [] rfl (Nat.le_of_ble_eq_true rfl) dX12_feed_32 rfl (fun H locs hM => ?_)
    refine r_aload_n (np := 36) G hl 0 rfl dX12_feed_35 rfl rfl ?_
    refine r_iload (np := 38) G hl 4 rfl dX12_feed_36 rfl ?_
    obtain ⟨b13, s14, e15, hm⟩ := call_t hm
    refine m_callVV (np := 41) G hM hl.1 [vI v4] (qX12_puts l E s11 v0 v4 _ e15) myX12_puts (shp_lt (gX12_puts e15) (by decide)) (gX12_puts e15) rfl (by decide) lkX12_82 ⟨Nat.le_of_ble_eq_true rfl, Nat.le_of_ble_eq_true rfl⟩ ⟨Nat.le_of_ble_eq_true rfl, Nat.le_of_ble_eq_true rfl⟩ [] rfl (Nat.le_of_ble_eq_true rfl) dX12_feed_38 rfl (fun H locs hM => ?_)
    refine r_aload_n (np := 42) G hl 0 rfl dX12_feed_41 rfl rfl ?_
    refine r_iload (np := 44) G hl 5 rfl dX12_feed_42 rfl ?_
    obtain ⟨b16, s17, e18, hm⟩ := call_t hm
    refine m_callVV (np := 47) G hM hl.1 [vI v5] (qX12_puts l E s14 v0 v5 _ e18) myX12_puts (shp_lt (gX12_puts e18) (by decide)) (gX12_puts e18) rfl (by decide) lkX12_82 ⟨Nat.le_of_ble_eq_true rfl, Nat.le_of_ble_eq_true rfl⟩ ⟨Nat.le_of_ble_eq_true rfl, Nat.le_of_ble_eq_true rfl⟩ [] rfl (Nat.le_of_ble_eq_true rfl) dX12_feed_44 rfl (fun H locs hM => ?_)
    refine r_aload_n (np := 48) G hl 0 rfl dX12_feed_47 rfl rfl ?_
    refine r_getI (np := 51) G hM (shp_lt g0 (by decide)) g0 fdX12_2 lkX12_79 dX12_feed_48 rfl ?_
    exact r_iret G hr hk hM hm dX12_feed_51
  · have hm := b_f h3 hm
    refine r_iconst (np := 19) G (-1) dX12_feed_18 rfl ?_
    exact r_iret G hr hk hM hm dX12_feed_19
theorem gX12_feed {v0 : Nat} {v1 : Int} {v2 : Int} {v3 : Int} {v4 : Int} {v5 : Int} {σ : mSt} {out : Int × mSt} (hm : mX12_feed v0 v1 v2 v3 v4 v5 σ = some out) : isC v0 11 := (g_t hm).1
set_option maxRecDepth 100000 in
set_option maxHeartbeats 4000000 in
theorem qX12_see (l : Launch) (E : mE) (σ : mSt) (v0 : Nat) (v1 : Int) (out : Int × mSt) (hm : mX12_see v0 v1 σ = some out) : mMet l yX12_see cX12_see 2 (some .int) 0 0 E 276 [.ref (eA E v0), vI v1] σ (some (vI out.1)) out.2 := by
  unfold mX12_see at hm
  obtain ⟨g0, hm⟩ := g_t hm
  refine m_entry (by decide +kernel) (Nat.le_of_ble_eq_true rfl) (fun p e s m args below meth c G hr hk hM ls hl => ?_)
  have G : CallFix p m c cX12_see 2 s args mTs RX12 := G
  have hl : lv_has ls 2 [(0, .ref (eA E v0)), (1, vI v1)] := hl
  refine r_iload_n (np := 1) G hl 1 rfl dX12_see_0 rfl rfl ?_
  refine r_aload_n (np := 2) G hl 0 rfl dX12_see_1 rfl rfl ?_
  refine r_getI (np := 5) G hM (shp_lt g0 (by decide)) g0 fdX12_3 lkX12_86 dX12_see_2 rfl ?_
  refine r_icmp_ge (np := 8) (tgt := 21) G rfl rfl dX12_see_5 (by decide) rfl (fun h1 => ?_) (fun h1 => ?_)
  · have hm := b_t h1 hm
    refine r_iconst (np := 22) G (-1) dX12_see_21 rfl ?_
    exact r_iret G hr hk hM hm dX12_see_22
  · have hm := b_f h1 hm
    refine r_aload_n (np := 9) G hl 0 rfl dX12_see_8 rfl rfl ?_
    obtain ⟨r2, e3, hm⟩ := ref_t hm
    refine r_getR (np := 12) G hM (shp_lt g0 (by decide)) g0 e3 fdX12_1 lkX12_7 dX12_see_9 rfl ?_
    refine r_iload_n (np := 13) G hl 1 rfl dX12_see_12 rfl rfl ?_
    obtain ⟨g4, hm⟩ := g_t hm
    refine r_baload (np := 14) G hM g4 rfl dX12_see_13 rfl ?_
    refine r_sipush (np := 17) G 255 dX12_see_14 (by decide) rfl ?_
    refine r_iand (np := 18) G dX12_see_17 rfl ?_
    refine r_goto (np := 22) G dX12_see_18 (by decide) ?_
    exact r_iret G hr hk hM hm dX12_see_22
theorem gX12_see {v0 : Nat} {v1 : Int} {σ : mSt} {out : Int × mSt} (hm : mX12_see v0 v1 σ = some out) : isC v0 11 := (g_t hm).1
set_option maxRecDepth 100000 in
set_option maxHeartbeats 4000000 in
theorem wX12_steps_B350 (l : Launch) (E : mE) (out : Int × mSt) {p : Program} {e : Env} {s : State} {m : MethodId} {args : Array Value} {below : List Frame} {meth : Method} {c : Code} (G : CallFix p m c cX12_steps 2 s args mTs RX12) (hr : meth.sig.returnType = none) (hk : meth.locks = false) (v0 : Nat) (g0 : isC v0 11) : ∀ (σ : mSt) (H : Heap) (locs : List Loc) (ls : Array Slot), mX12_steps_B350 v0 σ = some out → mM (mA E 276) E 276 σ s H locs → lv_has ls 2 [(0, .ref (eA E v0))] → mGo l p e 1 25 s m args below meth c E none out.2 H locs (F0 m 350 ls []) := by
  intro σ H locs ls hm hM hl
  unfold mX12_steps_B350 at hm
  refine r_aload_n (np := 351) G hl 0 rfl dX12_steps_350 rfl rfl ?_
  refine r_iconst (np := 352) G 2 dX12_steps_351 rfl ?_
  obtain ⟨s1, e2, hm⟩ := bnd_t hm
  refine r_putI (np := 355) G hM (shp_lt g0 (by decide)) g0 ptX12_6 rfl lkX12_99 s1 e2 dX12_steps_352 rfl (fun H locs hM => ?_)
  exact r_vret G hr hk hM hm dX12_steps_355
set_option maxRecDepth 100000 in
set_option maxHeartbeats 4000000 in
theorem wX12_steps_L277 (l : Launch) (E : mE) (out : Int × mSt) {p : Program} {e : Env} {s : State} {m : MethodId} {args : Array Value} {below : List Frame} {meth : Method} {c : Code} (G : CallFix p m c cX12_steps 2 s args mTs RX12) (hr : meth.sig.returnType = none) (hk : meth.locks = false) (v0 : Nat) (g0 : isC v0 11) (x350 : mSt → Option (Int × mSt)) (hx350 : ∀ (σ : mSt) (H : Heap) (locs : List Loc) (ls : Array Slot), x350 σ = some out → mM (mA E 276) E 276 σ s H locs → lv_has ls 2 [(0, .ref (eA E v0))] → mGo l p e 1 25 s m args below meth c E none out.2 H locs (F0 m 350 ls [])) : ∀ (n : Nat) (σ : mSt) (H : Heap) (locs : List Loc) (ls : Array Slot), mX12_steps_L277 v0 x350 n σ = some out → mM (mA E 276) E 276 σ s H locs → lv_has ls 2 [(0, .ref (eA E v0))] → mGo l p e 1 25 s m args below meth c E none out.2 H locs (F0 m 277 ls []) := by
  intro n
  induction n with
  | zero =>
    intro σ H locs ls hm hM hl
    exact absurd hm (by rw [mX12_steps_L277.eq_1]; exact fun h => nomatch h)
  | succ n ih =>
    intro σ H locs ls hm hM hl
    rw [mX12_steps_L277.eq_2] at hm
    refine r_aload_n (np := 278) G hl 0 rfl dX12_steps_277 rfl rfl ?_
    refine r_aload_n (np := 279) G hl 0 rfl dX12_steps_278 rfl rfl ?_
    refine r_getI (np := 282) G hM (shp_lt g0 (by decide)) g0 fdX12_5 lkX12_89 dX12_steps_279 rfl ?_
    obtain ⟨b3, s4, e5, hm⟩ := call_t hm
    refine m_callVI (np := 285) G hM hl.1 [vI (σ v0 5)] (qX12_see l E σ v0 (σ v0 5) _ e5) myX12_see (shp_lt (gX12_see e5) (by decide)) (gX12_see e5) rfl (by decide) lkX12_95 ⟨Nat.le_of_ble_eq_true rfl, Nat.le_of_ble_eq_true rfl⟩ ⟨Nat.le_of_ble_eq_true rfl, Nat.le_of_ble_eq_true rfl⟩ [] rfl (Nat.le_of_ble_eq_true rfl) dX12_steps_282 rfl (fun H locs hM => ?_)
    refine r_i2l (np := 286) G rfl dX12_steps_285 rfl ?_
    refine r_ldc2 (np := 289) G 48 dX12_steps_286 lkX12_119 rfl rfl ?_
    refine r_ldc2 (np := 292) G 57 dX12_steps_289 lkX12_121 rfl rfl ?_
    obtain ⟨b6, s7, e8, hm⟩ := call_t hm
    refine m_callSI (np := 295) G hM hl.1 [vL (wI b3), vL 48, vL 57] (qX12_within l E s4 (wI b3) 48 57 _ e8) myX12_within lkX12_113 ⟨Nat.le_of_ble_eq_true rfl, Nat.le_of_ble_eq_true rfl⟩ ⟨Nat.le_of_ble_eq_true rfl, Nat.le_of_ble_eq_true rfl⟩ [] rfl (Nat.le_of_ble_eq_true rfl) dX12_steps_292 rfl (fun H locs hM => ?_)
    refine r_if_eq (np := 298) (tgt := 350) G rfl dX12_steps_295 (by decide) rfl (fun h9 => ?_) (fun h9 => ?_)
    · have hm := b_t h9 hm
      exact hx350 _ _ _ _ hm hM (lv_sub hl [0] rfl)
    · have hm := b_f h9 hm
      refine r_aload_n (np := 299) G hl 0 rfl dX12_steps_298 rfl rfl ?_
      refine r_aload_n (np := 300) G hl 0 rfl dX12_steps_299 rfl rfl ?_
      refine r_getI (np := 303) G hM (shp_lt g0 (by decide)) g0 fdX12_7 lkX12_102 dX12_steps_300 rfl ?_
      refine r_ldc (np := 305) G 100000 dX12_steps_303 lkX12_123 rfl rfl ?_
      refine r_icmp_ge (np := 308) (tgt := 330) G rfl (wIk 100000 rfl) dX12_steps_305 (by decide) rfl (fun h10 => ?_) (fun h10 => ?_)
      · have hm := b_t h10 hm
        refine r_aload_n (np := 331) G hl 0 rfl dX12_steps_330 rfl rfl ?_
        refine r_getI (np := 334) G hM (shp_lt g0 (by decide)) g0 fdX12_7 lkX12_102 dX12_steps_331 rfl ?_
        obtain ⟨s11, e12, hm⟩ := bnd_t hm
        refine r_putI (np := 337) G hM (shp_lt g0 (by decide)) g0 ptX12_7 rfl lkX12_102 s11 e12 dX12_steps_334 rfl (fun H locs hM => ?_)
        refine r_aload_n (np := 338) G hl 0 rfl dX12_steps_337 rfl rfl ?_
        refine r_dup (np := 339) G dX12_steps_338 rfl rfl ?_
        refine r_getI (np := 342) G hM (shp_lt g0 (by decide)) g0 fdX12_5 lkX12_89 dX12_steps_339 rfl ?_
        refine r_iconst (np := 343) G 1 dX12_steps_342 rfl ?_
        refine r_iadd (np := 344) G dX12_steps_343 rfl ?_
        obtain ⟨s13, e14, hm⟩ := bnd_t hm
        refine r_putI (np := 347) G hM (shp_lt g0 (by decide)) g0 ptX12_5 rfl lkX12_89 s13 e14 dX12_steps_344 rfl (fun H locs hM => ?_)
        refine r_goto (np := 277) G dX12_steps_347 (by decide) ?_
        exact ih _ _ _ _ hm hM (lv_sub hl [0] rfl)
      · have hm := b_f h10 hm
        refine r_bipush (np := 310) G 10 dX12_steps_308 (by decide) rfl ?_
        refine r_aload_n (np := 311) G hl 0 rfl dX12_steps_310 rfl rfl ?_
        refine r_getI (np := 314) G hM (shp_lt g0 (by decide)) g0 fdX12_7 lkX12_102 dX12_steps_311 rfl ?_
        refine r_imul (np := 315) G dX12_steps_314 rfl ?_
        refine r_aload_n (np := 316) G hl 0 rfl dX12_steps_315 rfl rfl ?_
        refine r_aload_n (np := 317) G hl 0 rfl dX12_steps_316 rfl rfl ?_
        refine r_getI (np := 320) G hM (shp_lt g0 (by decide)) g0 fdX12_5 lkX12_89 dX12_steps_317 rfl ?_
        obtain ⟨b15, s16, e17, hm⟩ := call_t hm
        refine m_callVI (np := 323) G hM hl.1 [vI (s7 v0 5)] (qX12_see l E s7 v0 (s7 v0 5) _ e17) myX12_see (shp_lt (gX12_see e17) (by decide)) (gX12_see e17) rfl (by decide) lkX12_95 ⟨Nat.le_of_ble_eq_true rfl, Nat.le_of_ble_eq_true rfl⟩ ⟨Nat.le_of_ble_eq_true rfl, Nat.le_of_ble_eq_true rfl⟩ [vI (10 * (s7 v0 7)), .ref (eA E v0)] rfl (Nat.le_of_ble_eq_true rfl) dX12_steps_320 rfl (fun H locs hM => ?_)
        refine r_iadd (np := 324) G dX12_steps_323 rfl ?_
        refine r_bipush (np := 326) G 48 dX12_steps_324 (by decide) rfl ?_
        refine r_isub (np := 327) G dX12_steps_326 rfl ?_
        refine r_goto (np := 334) G dX12_steps_327 (by decide) ?_
        obtain ⟨s18, e19, hm⟩ := bnd_t hm
        refine r_putI (np := 337) G hM (shp_lt g0 (by decide)) g0 ptX12_7 rfl lkX12_102 s18 e19 dX12_steps_334 rfl (fun H locs hM => ?_)
        refine r_aload_n (np := 338) G hl 0 rfl dX12_steps_337 rfl rfl ?_
        refine r_dup (np := 339) G dX12_steps_338 rfl rfl ?_
        refine r_getI (np := 342) G hM (shp_lt g0 (by decide)) g0 fdX12_5 lkX12_89 dX12_steps_339 rfl ?_
        refine r_iconst (np := 343) G 1 dX12_steps_342 rfl ?_
        refine r_iadd (np := 344) G dX12_steps_343 rfl ?_
        obtain ⟨s20, e21, hm⟩ := bnd_t hm
        refine r_putI (np := 347) G hM (shp_lt g0 (by decide)) g0 ptX12_5 rfl lkX12_89 s20 e21 dX12_steps_344 rfl (fun H locs hM => ?_)
        refine r_goto (np := 277) G dX12_steps_347 (by decide) ?_
        exact ih _ _ _ _ hm hM (lv_sub hl [0] rfl)
set_option maxRecDepth 100000 in
set_option maxHeartbeats 4000000 in
theorem wX12_steps_B249 (l : Launch) (E : mE) (out : Int × mSt) {p : Program} {e : Env} {s : State} {m : MethodId} {args : Array Value} {below : List Frame} {meth : Method} {c : Code} (G : CallFix p m c cX12_steps 2 s args mTs RX12) (hr : meth.sig.returnType = none) (hk : meth.locks = false) (v0 : Nat) (g0 : isC v0 11) : ∀ (t0 : Nat) (t1 : Int) (σ : mSt) (H : Heap) (locs : List Loc) (ls : Array Slot), mX12_steps_B249 v0 t0 t1 σ = some out → mM (mA E 276) E 276 σ s H locs → lv_has ls 2 [] → mGo l p e 1 25 s m args below meth c E none out.2 H locs (F0 m 249 ls [vI t1, .ref (eA E t0)]) := by
  intro t0 t1 σ H locs ls hm hM hl
  unfold mX12_steps_B249 at hm
  obtain ⟨g22, hm⟩ := g_t hm
  obtain ⟨s23, e24, hm⟩ := bnd_t hm
  refine r_putI (np := 252) G hM (shp_lt g22 (by decide)) g22 ptX12_6 rfl lkX12_99 s23 e24 dX12_steps_249 rfl (fun H locs hM => ?_)
  refine r_goto (np := 355) G dX12_steps_252 (by decide) ?_
  exact r_vret G hr hk hM hm dX12_steps_355
set_option maxRecDepth 100000 in
set_option maxHeartbeats 4000000 in
theorem wX12_steps_B229 (l : Launch) (E : mE) (out : Int × mSt) {p : Program} {e : Env} {s : State} {m : MethodId} {args : Array Value} {below : List Frame} {meth : Method} {c : Code} (G : CallFix p m c cX12_steps 2 s args mTs RX12) (hr : meth.sig.returnType = none) (hk : meth.locks = false) (v0 : Nat) (g0 : isC v0 11) : ∀ (σ : mSt) (H : Heap) (locs : List Loc) (ls : Array Slot), mX12_steps_B229 v0 σ = some out → mM (mA E 276) E 276 σ s H locs → lv_has ls 2 [(0, .ref (eA E v0))] → mGo l p e 1 25 s m args below meth c E none out.2 H locs (F0 m 229 ls []) := by
  intro σ H locs ls hm hM hl
  unfold mX12_steps_B229 at hm
  refine r_aload_n (np := 230) G hl 0 rfl dX12_steps_229 rfl rfl ?_
  refine r_aload_n (np := 231) G hl 0 rfl dX12_steps_230 rfl rfl ?_
  refine r_getI (np := 234) G hM (shp_lt g0 (by decide)) g0 fdX12_5 lkX12_89 dX12_steps_231 rfl ?_
  refine r_aload_n (np := 235) G hl 0 rfl dX12_steps_234 rfl rfl ?_
  refine r_getI (np := 238) G hM (shp_lt g0 (by decide)) g0 fdX12_4 lkX12_92 dX12_steps_235 rfl ?_
  refine r_isub (np := 239) G dX12_steps_238 rfl ?_
  refine r_bipush (np := 241) G 11 dX12_steps_239 (by decide) rfl ?_
  refine r_icmp_ge (np := 244) (tgt := 248) G rfl (wIk 11 rfl) dX12_steps_241 (by decide) rfl (fun h25 => ?_) (fun h25 => ?_)
  · have hm := b_t h25 hm
    refine r_iconst (np := 249) G 4 dX12_steps_248 rfl ?_
    exact wX12_steps_B249 l E out G hr hk v0 g0 v0 4 _ _ _ _ hm hM (lv_sub hl [] rfl)
  · have hm := b_f h25 hm
    refine r_iconst (np := 245) G 1 dX12_steps_244 rfl ?_
    refine r_goto (np := 249) G dX12_steps_245 (by decide) ?_
    exact wX12_steps_B249 l E out G hr hk v0 g0 v0 1 _ _ _ _ hm hM (lv_sub hl [] rfl)
set_option maxRecDepth 100000 in
set_option maxHeartbeats 4000000 in
theorem wX12_steps_L150 (l : Launch) (E : mE) (out : Int × mSt) {p : Program} {e : Env} {s : State} {m : MethodId} {args : Array Value} {below : List Frame} {meth : Method} {c : Code} (G : CallFix p m c cX12_steps 2 s args mTs RX12) (hr : meth.sig.returnType = none) (hk : meth.locks = false) (v0 : Nat) (g0 : isC v0 11) (x229 : mSt → Option (Int × mSt)) (hx229 : ∀ (σ : mSt) (H : Heap) (locs : List Loc) (ls : Array Slot), x229 σ = some out → mM (mA E 276) E 276 σ s H locs → lv_has ls 2 [(0, .ref (eA E v0))] → mGo l p e 1 25 s m args below meth c E none out.2 H locs (F0 m 229 ls [])) : ∀ (n : Nat) (σ : mSt) (H : Heap) (locs : List Loc) (ls : Array Slot), mX12_steps_L150 v0 x229 n σ = some out → mM (mA E 276) E 276 σ s H locs → lv_has ls 2 [(0, .ref (eA E v0))] → mGo l p e 1 25 s m args below meth c E none out.2 H locs (F0 m 150 ls []) := by
  intro n
  induction n with
  | zero =>
    intro σ H locs ls hm hM hl
    exact absurd hm (by rw [mX12_steps_L150.eq_1]; exact fun h => nomatch h)
  | succ n ih =>
    intro σ H locs ls hm hM hl
    rw [mX12_steps_L150.eq_2] at hm
    refine r_aload_n (np := 151) G hl 0 rfl dX12_steps_150 rfl rfl ?_
    refine r_aload_n (np := 152) G hl 0 rfl dX12_steps_151 rfl rfl ?_
    refine r_getI (np := 155) G hM (shp_lt g0 (by decide)) g0 fdX12_5 lkX12_89 dX12_steps_152 rfl ?_
    obtain ⟨b26, s27, e28, hm⟩ := call_t hm
    refine m_callVI (np := 158) G hM hl.1 [vI (σ v0 5)] (qX12_see l E σ v0 (σ v0 5) _ e28) myX12_see (shp_lt (gX12_see e28) (by decide)) (gX12_see e28) rfl (by decide) lkX12_95 ⟨Nat.le_of_ble_eq_true rfl, Nat.le_of_ble_eq_true rfl⟩ ⟨Nat.le_of_ble_eq_true rfl, Nat.le_of_ble_eq_true rfl⟩ [] rfl (Nat.le_of_ble_eq_true rfl) dX12_steps_155 rfl (fun H locs hM => ?_)
    refine r_i2l (np := 159) G rfl dX12_steps_158 rfl ?_
    refine r_ldc2 (np := 162) G 97 dX12_steps_159 lkX12_109 rfl rfl ?_
    refine r_ldc2 (np := 165) G 122 dX12_steps_162 lkX12_111 rfl rfl ?_
    obtain ⟨b29, s30, e31, hm⟩ := call_t hm
    refine m_callSI (np := 168) G hM hl.1 [vL (wI b26), vL 97, vL 122] (qX12_within l E s27 (wI b26) 97 122 _ e31) myX12_within lkX12_113 ⟨Nat.le_of_ble_eq_true rfl, Nat.le_of_ble_eq_true rfl⟩ ⟨Nat.le_of_ble_eq_true rfl, Nat.le_of_ble_eq_true rfl⟩ [] rfl (Nat.le_of_ble_eq_true rfl) dX12_steps_165 rfl (fun H locs hM => ?_)
    refine r_if_eq (np := 171) (tgt := 229) G rfl dX12_steps_168 (by decide) rfl (fun h32 => ?_) (fun h32 => ?_)
    · have hm := b_t h32 hm
      exact hx229 _ _ _ _ hm hM (lv_sub hl [0] rfl)
    · have hm := b_f h32 hm
      refine r_aload_n (np := 172) G hl 0 rfl dX12_steps_171 rfl rfl ?_
      refine r_aload_n (np := 173) G hl 0 rfl dX12_steps_172 rfl rfl ?_
      refine r_getI (np := 176) G hM (shp_lt g0 (by decide)) g0 fdX12_5 lkX12_89 dX12_steps_173 rfl ?_
      refine r_aload_n (np := 177) G hl 0 rfl dX12_steps_176 rfl rfl ?_
      refine r_getI (np := 180) G hM (shp_lt g0 (by decide)) g0 fdX12_4 lkX12_92 dX12_steps_177 rfl ?_
      refine r_isub (np := 181) G dX12_steps_180 rfl ?_
      refine r_bipush (np := 183) G 10 dX12_steps_181 (by decide) rfl ?_
      refine r_icmp_ge (np := 186) (tgt := 209) G rfl (wIk 10 rfl) dX12_steps_183 (by decide) rfl (fun h33 => ?_) (fun h33 => ?_)
      · have hm := b_t h33 hm
        refine r_aload_n (np := 210) G hl 0 rfl dX12_steps_209 rfl rfl ?_
        refine r_getL (np := 213) G hM (shp_lt g0 (by decide)) g0 fdX12_8 lkX12_105 dX12_steps_210 rfl ?_
        obtain ⟨s34, e35, hm⟩ := bnd_t hm
        refine r_putL (np := 216) G hM (shp_lt g0 (by decide)) g0 ptX12_8 rfl lkX12_105 s34 e35 dX12_steps_213 rfl (fun H locs hM => ?_)
        refine r_aload_n (np := 217) G hl 0 rfl dX12_steps_216 rfl rfl ?_
        refine r_dup (np := 218) G dX12_steps_217 rfl rfl ?_
        refine r_getI (np := 221) G hM (shp_lt g0 (by decide)) g0 fdX12_5 lkX12_89 dX12_steps_218 rfl ?_
        refine r_iconst (np := 222) G 1 dX12_steps_221 rfl ?_
        refine r_iadd (np := 223) G dX12_steps_222 rfl ?_
        obtain ⟨s36, e37, hm⟩ := bnd_t hm
        refine r_putI (np := 226) G hM (shp_lt g0 (by decide)) g0 ptX12_5 rfl lkX12_89 s36 e37 dX12_steps_223 rfl (fun H locs hM => ?_)
        refine r_goto (np := 150) G dX12_steps_226 (by decide) ?_
        exact ih _ _ _ _ hm hM (lv_sub hl [0] rfl)
      · have hm := b_f h33 hm
        refine r_aload_n (np := 187) G hl 0 rfl dX12_steps_186 rfl rfl ?_
        refine r_getL (np := 190) G hM (shp_lt g0 (by decide)) g0 fdX12_8 lkX12_105 dX12_steps_187 rfl ?_
        refine r_iconst (np := 191) G 5 dX12_steps_190 rfl ?_
        refine r_lshl (np := 192) G dX12_steps_191 rfl ?_
        refine r_aload_n (np := 193) G hl 0 rfl dX12_steps_192 rfl rfl ?_
        refine r_aload_n (np := 194) G hl 0 rfl dX12_steps_193 rfl rfl ?_
        refine r_getI (np := 197) G hM (shp_lt g0 (by decide)) g0 fdX12_5 lkX12_89 dX12_steps_194 rfl ?_
        obtain ⟨b38, s39, e40, hm⟩ := call_t hm
        refine m_callVI (np := 200) G hM hl.1 [vI (s30 v0 5)] (qX12_see l E s30 v0 (s30 v0 5) _ e40) myX12_see (shp_lt (gX12_see e40) (by decide)) (gX12_see e40) rfl (by decide) lkX12_95 ⟨Nat.le_of_ble_eq_true rfl, Nat.le_of_ble_eq_true rfl⟩ ⟨Nat.le_of_ble_eq_true rfl, Nat.le_of_ble_eq_true rfl⟩ [vL (oShlL (s30 v0 8) 5), .ref (eA E v0)] rfl (Nat.le_of_ble_eq_true rfl) dX12_steps_197 rfl (fun H locs hM => ?_)
        refine r_i2l (np := 201) G rfl dX12_steps_200 rfl ?_
        refine r_ldc2 (np := 204) G 96 dX12_steps_201 lkX12_117 rfl rfl ?_
        refine r_lsub (np := 205) G dX12_steps_204 rfl ?_
        refine r_lor (np := 206) G dX12_steps_205 rfl ?_
        refine r_goto (np := 213) G dX12_steps_206 (by decide) ?_
        obtain ⟨s41, e42, hm⟩ := bnd_t hm
        refine r_putL (np := 216) G hM (shp_lt g0 (by decide)) g0 ptX12_8 rfl lkX12_105 s41 e42 dX12_steps_213 rfl (fun H locs hM => ?_)
        refine r_aload_n (np := 217) G hl 0 rfl dX12_steps_216 rfl rfl ?_
        refine r_dup (np := 218) G dX12_steps_217 rfl rfl ?_
        refine r_getI (np := 221) G hM (shp_lt g0 (by decide)) g0 fdX12_5 lkX12_89 dX12_steps_218 rfl ?_
        refine r_iconst (np := 222) G 1 dX12_steps_221 rfl ?_
        refine r_iadd (np := 223) G dX12_steps_222 rfl ?_
        obtain ⟨s43, e44, hm⟩ := bnd_t hm
        refine r_putI (np := 226) G hM (shp_lt g0 (by decide)) g0 ptX12_5 rfl lkX12_89 s43 e44 dX12_steps_223 rfl (fun H locs hM => ?_)
        refine r_goto (np := 150) G dX12_steps_226 (by decide) ?_
        exact ih _ _ _ _ hm hM (lv_sub hl [0] rfl)
set_option maxRecDepth 100000 in
set_option maxHeartbeats 4000000 in
theorem wX12_steps_B47 (l : Launch) (E : mE) (out : Int × mSt) {p : Program} {e : Env} {s : State} {m : MethodId} {args : Array Value} {below : List Frame} {meth : Method} {c : Code} (G : CallFix p m c cX12_steps 2 s args mTs RX12) (hr : meth.sig.returnType = none) (hk : meth.locks = false) (v0 : Nat) (g0 : isC v0 11) : ∀ (σ : mSt) (H : Heap) (locs : List Loc) (ls : Array Slot), mX12_steps_B47 v0 σ = some out → mM (mA E 276) E 276 σ s H locs → lv_has ls 2 [(0, .ref (eA E v0))] → mGo l p e 1 25 s m args below meth c E none out.2 H locs (F0 m 47 ls []) := by
  intro σ H locs ls hm hM hl
  unfold mX12_steps_B47 at hm
  refine r_aload_n (np := 48) G hl 0 rfl dX12_steps_47 rfl rfl ?_
  refine r_aload_n (np := 49) G hl 0 rfl dX12_steps_48 rfl rfl ?_
  refine r_getI (np := 52) G hM (shp_lt g0 (by decide)) g0 fdX12_4 lkX12_92 dX12_steps_49 rfl ?_
  obtain ⟨b45, s46, e47, hm⟩ := call_t hm
  refine m_callVI (np := 55) G hM hl.1 [vI (σ v0 4)] (qX12_see l E σ v0 (σ v0 4) _ e47) myX12_see (shp_lt (gX12_see e47) (by decide)) (gX12_see e47) rfl (by decide) lkX12_95 ⟨Nat.le_of_ble_eq_true rfl, Nat.le_of_ble_eq_true rfl⟩ ⟨Nat.le_of_ble_eq_true rfl, Nat.le_of_ble_eq_true rfl⟩ [] rfl (Nat.le_of_ble_eq_true rfl) dX12_steps_52 rfl (fun H locs hM => ?_)
  refine r_istore_n (np := 56) G hl rfl [(1, vI b45), (0, .ref (eA E v0))] dX12_steps_55 rfl rfl (by decide) rfl (fun ls hl => ?_)
  refine r_aload_n (np := 57) G hl 1 rfl dX12_steps_56 rfl rfl ?_
  refine r_aload_n (np := 58) G hl 1 rfl dX12_steps_57 rfl rfl ?_
  refine r_getI (np := 61) G hM (shp_lt g0 (by decide)) g0 fdX12_4 lkX12_92 dX12_steps_58 rfl ?_
  refine r_iconst (np := 62) G 1 dX12_steps_61 rfl ?_
  refine r_iadd (np := 63) G dX12_steps_62 rfl ?_
  obtain ⟨s48, e49, hm⟩ := bnd_t hm
  refine r_putI (np := 66) G hM (shp_lt g0 (by decide)) g0 ptX12_5 rfl lkX12_89 s48 e49 dX12_steps_63 rfl (fun H locs hM => ?_)
  refine r_aload_n (np := 67) G hl 1 rfl dX12_steps_66 rfl rfl ?_
  refine r_iconst (np := 68) G 4 dX12_steps_67 rfl ?_
  obtain ⟨s50, e51, hm⟩ := bnd_t hm
  refine r_putI (np := 71) G hM (shp_lt g0 (by decide)) g0 ptX12_6 rfl lkX12_99 s50 e51 dX12_steps_68 rfl (fun H locs hM => ?_)
  refine r_aload_n (np := 72) G hl 1 rfl dX12_steps_71 rfl rfl ?_
  refine r_iconst (np := 73) G 0 dX12_steps_72 rfl ?_
  obtain ⟨s52, e53, hm⟩ := bnd_t hm
  refine r_putI (np := 76) G hM (shp_lt g0 (by decide)) g0 ptX12_7 rfl lkX12_102 s52 e53 dX12_steps_73 rfl (fun H locs hM => ?_)
  refine r_aload_n (np := 77) G hl 1 rfl dX12_steps_76 rfl rfl ?_
  refine r_lconst (np := 78) G 0 dX12_steps_77 rfl rfl ?_
  obtain ⟨s54, e55, hm⟩ := bnd_t hm
  refine r_putL (np := 81) G hM (shp_lt g0 (by decide)) g0 ptX12_8 rfl lkX12_105 s54 e55 dX12_steps_78 rfl (fun H locs hM => ?_)
  refine r_iload_n (np := 82) G hl 0 rfl dX12_steps_81 rfl rfl ?_
  refine r_iconst (np := 83) G (-1) dX12_steps_82 rfl ?_
  refine r_icmp_ne (np := 86) (tgt := 102) G rfl (wIk (-1) rfl) dX12_steps_83 (by decide) rfl (fun h56 => ?_) (fun h56 => ?_)
  · have hm := b_f h56 hm
    refine r_iload_n (np := 103) G hl 0 rfl dX12_steps_102 rfl rfl ?_
    refine r_bipush (np := 105) G 59 dX12_steps_103 (by decide) rfl ?_
    refine r_icmp_eq (np := 108) (tgt := 120) G rfl (wIk 59 rfl) dX12_steps_105 (by decide) rfl (fun h57 => ?_) (fun h57 => ?_)
    · have hm := b_t h57 hm
      refine r_aload_n (np := 121) G hl 1 rfl dX12_steps_120 rfl rfl ?_
      refine r_iconst (np := 122) G 3 dX12_steps_121 rfl ?_
      obtain ⟨s58, e59, hm⟩ := bnd_t hm
      refine r_putI (np := 125) G hM (shp_lt g0 (by decide)) g0 ptX12_6 rfl lkX12_99 s58 e59 dX12_steps_122 rfl (fun H locs hM => ?_)
      refine r_goto (np := 355) G dX12_steps_125 (by decide) ?_
      exact r_vret G hr hk hM hm dX12_steps_355
    · have hm := b_f h57 hm
      refine r_iload_n (np := 109) G hl 0 rfl dX12_steps_108 rfl rfl ?_
      refine r_bipush (np := 111) G 43 dX12_steps_109 (by decide) rfl ?_
      refine r_icmp_eq (np := 114) (tgt := 120) G rfl (wIk 43 rfl) dX12_steps_111 (by decide) rfl (fun h60 => ?_) (fun h60 => ?_)
      · have hm := b_t h60 hm
        refine r_aload_n (np := 121) G hl 1 rfl dX12_steps_120 rfl rfl ?_
        refine r_iconst (np := 122) G 3 dX12_steps_121 rfl ?_
        obtain ⟨s61, e62, hm⟩ := bnd_t hm
        refine r_putI (np := 125) G hM (shp_lt g0 (by decide)) g0 ptX12_6 rfl lkX12_99 s61 e62 dX12_steps_122 rfl (fun H locs hM => ?_)
        refine r_goto (np := 355) G dX12_steps_125 (by decide) ?_
        exact r_vret G hr hk hM hm dX12_steps_355
      · have hm := b_f h60 hm
        refine r_iload_n (np := 115) G hl 0 rfl dX12_steps_114 rfl rfl ?_
        refine r_bipush (np := 117) G 45 dX12_steps_115 (by decide) rfl ?_
        refine r_icmp_ne (np := 120) (tgt := 128) G rfl (wIk 45 rfl) dX12_steps_117 (by decide) rfl (fun h63 => ?_) (fun h63 => ?_)
        · have hm := b_f h63 hm
          refine r_iload_n (np := 129) G hl 0 rfl dX12_steps_128 rfl rfl ?_
          refine r_i2l (np := 130) G rfl dX12_steps_129 rfl ?_
          refine r_ldc2 (np := 133) G 97 dX12_steps_130 lkX12_109 rfl rfl ?_
          refine r_ldc2 (np := 136) G 122 dX12_steps_133 lkX12_111 rfl rfl ?_
          obtain ⟨b64, s65, e66, hm⟩ := call_t hm
          refine m_callSI (np := 139) G hM hl.1 [vL (wI b45), vL 97, vL 122] (qX12_within l E s54 (wI b45) 97 122 _ e66) myX12_within lkX12_113 ⟨Nat.le_of_ble_eq_true rfl, Nat.le_of_ble_eq_true rfl⟩ ⟨Nat.le_of_ble_eq_true rfl, Nat.le_of_ble_eq_true rfl⟩ [] rfl (Nat.le_of_ble_eq_true rfl) dX12_steps_136 rfl (fun H locs hM => ?_)
          refine r_if_eq (np := 142) (tgt := 255) G rfl dX12_steps_139 (by decide) rfl (fun h67 => ?_) (fun h67 => ?_)
          · have hm := b_t h67 hm
            refine r_iload_n (np := 256) G hl 0 rfl dX12_steps_255 rfl rfl ?_
            refine r_i2l (np := 257) G rfl dX12_steps_256 rfl ?_
            refine r_ldc2 (np := 260) G 48 dX12_steps_257 lkX12_119 rfl rfl ?_
            refine r_ldc2 (np := 263) G 57 dX12_steps_260 lkX12_121 rfl rfl ?_
            obtain ⟨b68, s69, e70, hm⟩ := call_t hm
            refine m_callSI (np := 266) G hM hl.1 [vL (wI b45), vL 48, vL 57] (qX12_within l E s65 (wI b45) 48 57 _ e70) myX12_within lkX12_113 ⟨Nat.le_of_ble_eq_true rfl, Nat.le_of_ble_eq_true rfl⟩ ⟨Nat.le_of_ble_eq_true rfl, Nat.le_of_ble_eq_true rfl⟩ [] rfl (Nat.le_of_ble_eq_true rfl) dX12_steps_263 rfl (fun H locs hM => ?_)
            refine r_if_eq (np := 269) (tgt := 355) G rfl dX12_steps_266 (by decide) rfl (fun h71 => ?_) (fun h71 => ?_)
            · have hm := b_t h71 hm
              exact r_vret G hr hk hM hm dX12_steps_355
            · have hm := b_f h71 hm
              refine r_aload_n (np := 270) G hl 1 rfl dX12_steps_269 rfl rfl ?_
              refine r_aload_n (np := 271) G hl 1 rfl dX12_steps_270 rfl rfl ?_
              refine r_getI (np := 274) G hM (shp_lt g0 (by decide)) g0 fdX12_4 lkX12_92 dX12_steps_271 rfl ?_
              obtain ⟨s72, e73, hm⟩ := bnd_t hm
              refine r_putI (np := 277) G hM (shp_lt g0 (by decide)) g0 ptX12_5 rfl lkX12_89 s72 e73 dX12_steps_274 rfl (fun H locs hM => ?_)
              exact wX12_steps_L277 l E out G hr hk v0 g0 (fun zσ => mX12_steps_B350 v0 zσ) (fun zσ zH zl zs zm zM zv => wX12_steps_B350 l E out G hr hk v0 g0 zσ zH zl zs zm zM zv) mF _ _ _ _ hm hM (lv_sub hl [1] rfl)
          · have hm := b_f h67 hm
            refine r_aload_n (np := 143) G hl 1 rfl dX12_steps_142 rfl rfl ?_
            refine r_aload_n (np := 144) G hl 1 rfl dX12_steps_143 rfl rfl ?_
            refine r_getI (np := 147) G hM (shp_lt g0 (by decide)) g0 fdX12_4 lkX12_92 dX12_steps_144 rfl ?_
            obtain ⟨s74, e75, hm⟩ := bnd_t hm
            refine r_putI (np := 150) G hM (shp_lt g0 (by decide)) g0 ptX12_5 rfl lkX12_89 s74 e75 dX12_steps_147 rfl (fun H locs hM => ?_)
            exact wX12_steps_L150 l E out G hr hk v0 g0 (fun zσ => mX12_steps_B229 v0 zσ) (fun zσ zH zl zs zm zM zv => wX12_steps_B229 l E out G hr hk v0 g0 zσ zH zl zs zm zM zv) mF _ _ _ _ hm hM (lv_sub hl [1] rfl)
        · have hm := b_t h63 hm
          refine r_aload_n (np := 121) G hl 1 rfl dX12_steps_120 rfl rfl ?_
          refine r_iconst (np := 122) G 3 dX12_steps_121 rfl ?_
          obtain ⟨s76, e77, hm⟩ := bnd_t hm
          refine r_putI (np := 125) G hM (shp_lt g0 (by decide)) g0 ptX12_6 rfl lkX12_99 s76 e77 dX12_steps_122 rfl (fun H locs hM => ?_)
          refine r_goto (np := 355) G dX12_steps_125 (by decide) ?_
          exact r_vret G hr hk hM hm dX12_steps_355
  · have hm := b_t h56 hm
    refine r_aload_n (np := 87) G hl 1 rfl dX12_steps_86 rfl rfl ?_
    refine r_aload_n (np := 88) G hl 1 rfl dX12_steps_87 rfl rfl ?_
    refine r_getI (np := 91) G hM (shp_lt g0 (by decide)) g0 fdX12_4 lkX12_92 dX12_steps_88 rfl ?_
    obtain ⟨s78, e79, hm⟩ := bnd_t hm
    refine r_putI (np := 94) G hM (shp_lt g0 (by decide)) g0 ptX12_5 rfl lkX12_89 s78 e79 dX12_steps_91 rfl (fun H locs hM => ?_)
    refine r_aload_n (np := 95) G hl 1 rfl dX12_steps_94 rfl rfl ?_
    refine r_iconst (np := 96) G 0 dX12_steps_95 rfl ?_
    obtain ⟨s80, e81, hm⟩ := bnd_t hm
    refine r_putI (np := 99) G hM (shp_lt g0 (by decide)) g0 ptX12_6 rfl lkX12_99 s80 e81 dX12_steps_96 rfl (fun H locs hM => ?_)
    refine r_goto (np := 355) G dX12_steps_99 (by decide) ?_
    exact r_vret G hr hk hM hm dX12_steps_355
set_option maxRecDepth 100000 in
set_option maxHeartbeats 4000000 in
theorem wX12_steps_L8 (l : Launch) (E : mE) (out : Int × mSt) {p : Program} {e : Env} {s : State} {m : MethodId} {args : Array Value} {below : List Frame} {meth : Method} {c : Code} (G : CallFix p m c cX12_steps 2 s args mTs RX12) (hr : meth.sig.returnType = none) (hk : meth.locks = false) (v0 : Nat) (g0 : isC v0 11) (x47 : mSt → Option (Int × mSt)) (hx47 : ∀ (σ : mSt) (H : Heap) (locs : List Loc) (ls : Array Slot), x47 σ = some out → mM (mA E 276) E 276 σ s H locs → lv_has ls 2 [(0, .ref (eA E v0))] → mGo l p e 1 25 s m args below meth c E none out.2 H locs (F0 m 47 ls [])) : ∀ (n : Nat) (σ : mSt) (H : Heap) (locs : List Loc) (ls : Array Slot), mX12_steps_L8 v0 x47 n σ = some out → mM (mA E 276) E 276 σ s H locs → lv_has ls 2 [(0, .ref (eA E v0))] → mGo l p e 1 25 s m args below meth c E none out.2 H locs (F0 m 8 ls []) := by
  intro n
  induction n with
  | zero =>
    intro σ H locs ls hm hM hl
    exact absurd hm (by rw [mX12_steps_L8.eq_1]; exact fun h => nomatch h)
  | succ n ih =>
    intro σ H locs ls hm hM hl
    rw [mX12_steps_L8.eq_2] at hm
    refine r_aload_n (np := 9) G hl 0 rfl dX12_steps_8 rfl rfl ?_
    refine r_aload_n (np := 10) G hl 0 rfl dX12_steps_9 rfl rfl ?_
    refine r_getI (np := 13) G hM (shp_lt g0 (by decide)) g0 fdX12_4 lkX12_92 dX12_steps_10 rfl ?_
    obtain ⟨b82, s83, e84, hm⟩ := call_t hm
    refine m_callVI (np := 16) G hM hl.1 [vI (σ v0 4)] (qX12_see l E σ v0 (σ v0 4) _ e84) myX12_see (shp_lt (gX12_see e84) (by decide)) (gX12_see e84) rfl (by decide) lkX12_95 ⟨Nat.le_of_ble_eq_true rfl, Nat.le_of_ble_eq_true rfl⟩ ⟨Nat.le_of_ble_eq_true rfl, Nat.le_of_ble_eq_true rfl⟩ [] rfl (Nat.le_of_ble_eq_true rfl) dX12_steps_13 rfl (fun H locs hM => ?_)
    refine r_bipush (np := 18) G 32 dX12_steps_16 (by decide) rfl ?_
    refine r_icmp_eq (np := 21) (tgt := 34) G rfl (wIk 32 rfl) dX12_steps_18 (by decide) rfl (fun h85 => ?_) (fun h85 => ?_)
    · have hm := b_t h85 hm
      refine r_aload_n (np := 35) G hl 0 rfl dX12_steps_34 rfl rfl ?_
      refine r_dup (np := 36) G dX12_steps_35 rfl rfl ?_
      refine r_getI (np := 39) G hM (shp_lt g0 (by decide)) g0 fdX12_4 lkX12_92 dX12_steps_36 rfl ?_
      refine r_iconst (np := 40) G 1 dX12_steps_39 rfl ?_
      refine r_iadd (np := 41) G dX12_steps_40 rfl ?_
      obtain ⟨s86, e87, hm⟩ := bnd_t hm
      refine r_putI (np := 44) G hM (shp_lt g0 (by decide)) g0 ptX12_4 rfl lkX12_92 s86 e87 dX12_steps_41 rfl (fun H locs hM => ?_)
      refine r_goto (np := 8) G dX12_steps_44 (by decide) ?_
      exact ih _ _ _ _ hm hM (lv_sub hl [0] rfl)
    · have hm := b_f h85 hm
      refine r_aload_n (np := 22) G hl 0 rfl dX12_steps_21 rfl rfl ?_
      refine r_aload_n (np := 23) G hl 0 rfl dX12_steps_22 rfl rfl ?_
      refine r_getI (np := 26) G hM (shp_lt g0 (by decide)) g0 fdX12_4 lkX12_92 dX12_steps_23 rfl ?_
      obtain ⟨b88, s89, e90, hm⟩ := call_t hm
      refine m_callVI (np := 29) G hM hl.1 [vI (s83 v0 4)] (qX12_see l E s83 v0 (s83 v0 4) _ e90) myX12_see (shp_lt (gX12_see e90) (by decide)) (gX12_see e90) rfl (by decide) lkX12_95 ⟨Nat.le_of_ble_eq_true rfl, Nat.le_of_ble_eq_true rfl⟩ ⟨Nat.le_of_ble_eq_true rfl, Nat.le_of_ble_eq_true rfl⟩ [] rfl (Nat.le_of_ble_eq_true rfl) dX12_steps_26 rfl (fun H locs hM => ?_)
      refine r_bipush (np := 31) G 10 dX12_steps_29 (by decide) rfl ?_
      refine r_icmp_ne (np := 34) (tgt := 47) G rfl (wIk 10 rfl) dX12_steps_31 (by decide) rfl (fun h91 => ?_) (fun h91 => ?_)
      · have hm := b_f h91 hm
        exact hx47 _ _ _ _ hm hM (lv_sub hl [0] rfl)
      · have hm := b_t h91 hm
        refine r_aload_n (np := 35) G hl 0 rfl dX12_steps_34 rfl rfl ?_
        refine r_dup (np := 36) G dX12_steps_35 rfl rfl ?_
        refine r_getI (np := 39) G hM (shp_lt g0 (by decide)) g0 fdX12_4 lkX12_92 dX12_steps_36 rfl ?_
        refine r_iconst (np := 40) G 1 dX12_steps_39 rfl ?_
        refine r_iadd (np := 41) G dX12_steps_40 rfl ?_
        obtain ⟨s92, e93, hm⟩ := bnd_t hm
        refine r_putI (np := 44) G hM (shp_lt g0 (by decide)) g0 ptX12_4 rfl lkX12_92 s92 e93 dX12_steps_41 rfl (fun H locs hM => ?_)
        refine r_goto (np := 8) G dX12_steps_44 (by decide) ?_
        exact ih _ _ _ _ hm hM (lv_sub hl [0] rfl)
set_option maxRecDepth 100000 in
set_option maxHeartbeats 4000000 in
theorem qX12_steps (l : Launch) (E : mE) (σ : mSt) (v0 : Nat) (out : Int × mSt) (hm : mX12_steps v0 σ = some out) : mMet l yX12_steps cX12_steps 2 none 1 25 E 276 [.ref (eA E v0)] σ none out.2 := by
  unfold mX12_steps at hm
  obtain ⟨g0, hm⟩ := g_t hm
  refine m_entry (by decide +kernel) (Nat.le_of_ble_eq_true rfl) (fun p e s m args below meth c G hr hk hM ls hl => ?_)
  have G : CallFix p m c cX12_steps 2 s args mTs RX12 := G
  have hl : lv_has ls 2 [(0, .ref (eA E v0))] := hl
  refine r_aload_n (np := 1) G hl 0 rfl dX12_steps_0 rfl rfl ?_
  refine r_aload_n (np := 2) G hl 0 rfl dX12_steps_1 rfl rfl ?_
  refine r_getI (np := 5) G hM (shp_lt g0 (by decide)) g0 fdX12_5 lkX12_89 dX12_steps_2 rfl ?_
  obtain ⟨s94, e95, hm⟩ := bnd_t hm
  refine r_putI (np := 8) G hM (shp_lt g0 (by decide)) g0 ptX12_4 rfl lkX12_92 s94 e95 dX12_steps_5 rfl (fun H locs hM => ?_)
  exact wX12_steps_L8 l E out G hr hk v0 g0 (fun zσ => mX12_steps_B47 v0 zσ) (fun zσ zH zl zs zm zM zv => wX12_steps_B47 l E out G hr hk v0 g0 zσ zH zl zs zm zM zv) mF _ _ _ _ hm hM (lv_sub hl [0] rfl)
theorem gX12_steps {v0 : Nat} {σ : mSt} {out : Int × mSt} (hm : mX12_steps v0 σ = some out) : isC v0 11 := (g_t hm).1
set_option maxRecDepth 100000 in
set_option maxHeartbeats 4000000 in
theorem wX12_mustAt_B21 (l : Launch) (E : mE) (out : Int × mSt) {p : Program} {e : Env} {s : State} {m : MethodId} {args : Array Value} {below : List Frame} {meth : Method} {c : Code} (G : CallFix p m c cX12_mustAt 4 s args mTs RX12) (hr : meth.sig.returnType = (some .boolean)) (hk : meth.locks = false) (v0 : Nat) (v1 : Int) (v2 : Int) (v3 : Int) (g0 : isC v0 11) : ∀ (σ : mSt) (H : Heap) (locs : List Loc) (ls : Array Slot), mX12_mustAt_B21 v0 v1 v2 v3 σ = some out → mM (mA E 276) E 276 σ s H locs → lv_has ls 4 [(0, .ref (eA E v0))] → mGo l p e 0 0 s m args below meth c E (some (vI out.1)) out.2 H locs (F0 m 21 ls []) := by
  intro σ H locs ls hm hM hl
  unfold mX12_mustAt_B21 at hm
  refine r_aload_n (np := 22) G hl 0 rfl dX12_mustAt_21 rfl rfl ?_
  refine r_getI (np := 25) G hM (shp_lt g0 (by decide)) g0 fdX12_9 lkX12_124 dX12_mustAt_22 rfl ?_
  refine r_if_ne (np := 28) (tgt := 32) G rfl dX12_mustAt_25 (by decide) rfl (fun h1 => ?_) (fun h1 => ?_)
  · have hm := b_f h1 hm
    refine r_iconst (np := 33) G 0 dX12_mustAt_32 rfl ?_
    exact r_zret G hr hk hM (Or.inl rfl) hm dX12_mustAt_33
  · have hm := b_t h1 hm
    refine r_iconst (np := 29) G 1 dX12_mustAt_28 rfl ?_
    refine r_goto (np := 33) G dX12_mustAt_29 (by decide) ?_
    exact r_zret G hr hk hM (Or.inr rfl) hm dX12_mustAt_33
set_option maxRecDepth 100000 in
set_option maxHeartbeats 4000000 in
theorem qX12_mustAt (l : Launch) (E : mE) (σ : mSt) (v0 : Nat) (v1 : Int) (v2 : Int) (v3 : Int) (out : Int × mSt) (hm : mX12_mustAt v0 v1 v2 v3 σ = some out) : mMet l yX12_mustAt cX12_mustAt 4 (some .boolean) 0 0 E 276 [.ref (eA E v0), vI v1, vI v2, vI v3] σ (some (vI out.1)) out.2 := by
  unfold mX12_mustAt at hm
  obtain ⟨g0, hm⟩ := g_t hm
  refine m_entry (by decide +kernel) (Nat.le_of_ble_eq_true rfl) (fun p e s m args below meth c G hr hk hM ls hl => ?_)
  have G : CallFix p m c cX12_mustAt 4 s args mTs RX12 := G
  have hl : lv_has ls 4 [(0, .ref (eA E v0)), (1, vI v1), (2, vI v2), (3, vI v3)] := hl
  refine r_aload_n (np := 1) G hl 0 rfl dX12_mustAt_0 rfl rfl ?_
  refine r_getI (np := 4) G hM (shp_lt g0 (by decide)) g0 fdX12_9 lkX12_124 dX12_mustAt_1 rfl ?_
  refine r_if_ne (np := 7) (tgt := 21) G rfl dX12_mustAt_4 (by decide) rfl (fun h2 => ?_) (fun h2 => ?_)
  · have hm := b_f h2 hm
    exact wX12_mustAt_B21 l E out G hr hk v0 v1 v2 v3 g0 _ _ _ _ hm hM (lv_sub hl [0] rfl)
  · have hm := b_t h2 hm
    refine r_iload_n (np := 8) G hl 1 rfl dX12_mustAt_7 rfl rfl ?_
    refine r_if_ne (np := 11) (tgt := 21) G rfl dX12_mustAt_8 (by decide) rfl (fun h3 => ?_) (fun h3 => ?_)
    · have hm := b_f h3 hm
      exact wX12_mustAt_B21 l E out G hr hk v0 v1 v2 v3 g0 _ _ _ _ hm hM (lv_sub hl [0] rfl)
    · have hm := b_t h3 hm
      refine r_aload_n (np := 12) G hl 0 rfl dX12_mustAt_11 rfl rfl ?_
      refine r_iload_n (np := 13) G hl 2 rfl dX12_mustAt_12 rfl rfl ?_
      obtain ⟨s4, e5, hm⟩ := bnd_t hm
      refine r_putI (np := 16) G hM (shp_lt g0 (by decide)) g0 ptX12_9 rfl lkX12_124 s4 e5 dX12_mustAt_13 rfl (fun H locs hM => ?_)
      refine r_aload_n (np := 17) G hl 0 rfl dX12_mustAt_16 rfl rfl ?_
      refine r_iload_n (np := 18) G hl 3 rfl dX12_mustAt_17 rfl rfl ?_
      obtain ⟨s6, e7, hm⟩ := bnd_t hm
      refine r_putI (np := 21) G hM (shp_lt g0 (by decide)) g0 ptX12_10 rfl lkX12_127 s6 e7 dX12_mustAt_18 rfl (fun H locs hM => ?_)
      exact wX12_mustAt_B21 l E out G hr hk v0 v1 v2 v3 g0 _ _ _ _ hm hM (lv_sub hl [0] rfl)
theorem gX12_mustAt {v0 : Nat} {v1 : Int} {v2 : Int} {v3 : Int} {σ : mSt} {out : Int × mSt} (hm : mX12_mustAt v0 v1 v2 v3 σ = some out) : isC v0 11 := (g_t hm).1
set_option maxRecDepth 100000 in
set_option maxHeartbeats 4000000 in
theorem qX12_must (l : Launch) (E : mE) (σ : mSt) (v0 : Nat) (v1 : Int) (v2 : Int) (out : Int × mSt) (hm : mX12_must v0 v1 v2 σ = some out) : mMet l yX12_must cX12_must 3 (some .boolean) 1 23 E 276 [.ref (eA E v0), vI v1, vI v2] σ (some (vI out.1)) out.2 := by
  unfold mX12_must at hm
  obtain ⟨g0, hm⟩ := g_t hm
  refine m_entry (by decide +kernel) (Nat.le_of_ble_eq_true rfl) (fun p e s m args below meth c G hr hk hM ls hl => ?_)
  have G : CallFix p m c cX12_must 3 s args mTs RX12 := G
  have hl : lv_has ls 3 [(0, .ref (eA E v0)), (1, vI v1), (2, vI v2)] := hl
  refine r_aload_n (np := 1) G hl 0 rfl dX12_must_0 rfl rfl ?_
  refine r_iload_n (np := 2) G hl 1 rfl dX12_must_1 rfl rfl ?_
  refine r_iload_n (np := 3) G hl 2 rfl dX12_must_2 rfl rfl ?_
  refine r_aload_n (np := 4) G hl 0 rfl dX12_must_3 rfl rfl ?_
  refine r_getI (np := 7) G hM (shp_lt g0 (by decide)) g0 fdX12_4 lkX12_92 dX12_must_4 rfl ?_
  obtain ⟨b1, s2, e3, hm⟩ := call_t hm
  refine m_callVI (np := 10) G hM hl.1 [vI v1, vI v2, vI (σ v0 4)] (qX12_mustAt l E σ v0 v1 v2 (σ v0 4) _ e3) myX12_mustAt (shp_lt (gX12_mustAt e3) (by decide)) (gX12_mustAt e3) rfl (by decide) lkX12_130 ⟨Nat.le_of_ble_eq_true rfl, Nat.le_of_ble_eq_true rfl⟩ ⟨Nat.le_of_ble_eq_true rfl, Nat.le_of_ble_eq_true rfl⟩ [] rfl (Nat.le_of_ble_eq_true rfl) dX12_must_7 rfl (fun H locs hM => ?_)
  obtain ⟨g4, hm⟩ := g_t hm
  exact r_zret G hr hk hM g4 hm dX12_must_10
theorem gX12_must {v0 : Nat} {v1 : Int} {v2 : Int} {σ : mSt} {out : Int × mSt} (hm : mX12_must v0 v1 v2 σ = some out) : isC v0 11 := (g_t hm).1
set_option maxRecDepth 100000 in
set_option maxHeartbeats 4000000 in
theorem wX12_isSign_B24 (l : Launch) (E : mE) (out : Int × mSt) {p : Program} {e : Env} {s : State} {m : MethodId} {args : Array Value} {below : List Frame} {meth : Method} {c : Code} (G : CallFix p m c cX12_isSign 2 s args mTs RX12) (hr : meth.sig.returnType = (some .boolean)) (hk : meth.locks = false) (v0 : Nat) (v1 : Int) (g0 : isC v0 11) : ∀ (σ : mSt) (H : Heap) (locs : List Loc) (ls : Array Slot), mX12_isSign_B24 v0 v1 σ = some out → mM (mA E 276) E 276 σ s H locs → lv_has ls 2 [] → mGo l p e 1 21 s m args below meth c E (some (vI out.1)) out.2 H locs (F0 m 24 ls []) := by
  intro σ H locs ls hm hM hl
  unfold mX12_isSign_B24 at hm
  refine r_iconst (np := 25) G 0 dX12_isSign_24 rfl ?_
  exact r_zret G hr hk hM (Or.inl rfl) hm dX12_isSign_25
set_option maxRecDepth 100000 in
set_option maxHeartbeats 4000000 in
theorem qX12_isSign (l : Launch) (E : mE) (σ : mSt) (v0 : Nat) (v1 : Int) (out : Int × mSt) (hm : mX12_isSign v0 v1 σ = some out) : mMet l yX12_isSign cX12_isSign 2 (some .boolean) 1 21 E 276 [.ref (eA E v0), vI v1] σ (some (vI out.1)) out.2 := by
  unfold mX12_isSign at hm
  obtain ⟨g0, hm⟩ := g_t hm
  refine m_entry (by decide +kernel) (Nat.le_of_ble_eq_true rfl) (fun p e s m args below meth c G hr hk hM ls hl => ?_)
  have G : CallFix p m c cX12_isSign 2 s args mTs RX12 := G
  have hl : lv_has ls 2 [(0, .ref (eA E v0)), (1, vI v1)] := hl
  refine r_aload_n (np := 1) G hl 0 rfl dX12_isSign_0 rfl rfl ?_
  refine r_getI (np := 4) G hM (shp_lt g0 (by decide)) g0 fdX12_6 lkX12_99 dX12_isSign_1 rfl ?_
  refine r_iconst (np := 5) G 3 dX12_isSign_4 rfl ?_
  refine r_icmp_ne (np := 8) (tgt := 24) G rfl (wIk 3 rfl) dX12_isSign_5 (by decide) rfl (fun h1 => ?_) (fun h1 => ?_)
  · have hm := b_f h1 hm
    exact wX12_isSign_B24 l E out G hr hk v0 v1 g0 _ _ _ _ hm hM (lv_sub hl [] rfl)
  · have hm := b_t h1 hm
    refine r_aload_n (np := 9) G hl 0 rfl dX12_isSign_8 rfl rfl ?_
    refine r_aload_n (np := 10) G hl 0 rfl dX12_isSign_9 rfl rfl ?_
    refine r_getI (np := 13) G hM (shp_lt g0 (by decide)) g0 fdX12_4 lkX12_92 dX12_isSign_10 rfl ?_
    obtain ⟨b2, s3, e4, hm⟩ := call_t hm
    refine m_callVI (np := 16) G hM hl.1 [vI (σ v0 4)] (qX12_see l E σ v0 (σ v0 4) _ e4) myX12_see (shp_lt (gX12_see e4) (by decide)) (gX12_see e4) rfl (by decide) lkX12_95 ⟨Nat.le_of_ble_eq_true rfl, Nat.le_of_ble_eq_true rfl⟩ ⟨Nat.le_of_ble_eq_true rfl, Nat.le_of_ble_eq_true rfl⟩ [] rfl (Nat.le_of_ble_eq_true rfl) dX12_isSign_13 rfl (fun H locs hM => ?_)
    refine r_iload_n (np := 17) G hl 1 rfl dX12_isSign_16 rfl rfl ?_
    refine r_icmp_ne (np := 20) (tgt := 24) G rfl rfl dX12_isSign_17 (by decide) rfl (fun h5 => ?_) (fun h5 => ?_)
    · have hm := b_f h5 hm
      exact wX12_isSign_B24 l E out G hr hk v0 v1 g0 _ _ _ _ hm hM (lv_sub hl [] rfl)
    · have hm := b_t h5 hm
      refine r_iconst (np := 21) G 1 dX12_isSign_20 rfl ?_
      refine r_goto (np := 25) G dX12_isSign_21 (by decide) ?_
      exact r_zret G hr hk hM (Or.inr rfl) hm dX12_isSign_25
theorem gX12_isSign {v0 : Nat} {v1 : Int} {σ : mSt} {out : Int × mSt} (hm : mX12_isSign v0 v1 σ = some out) : isC v0 11 := (g_t hm).1
set_option maxRecDepth 100000 in
set_option maxHeartbeats 4000000 in
theorem qX12_at (l : Launch) (E : mE) (σ : mSt) (v0 : Nat) (v1 : Int) (out : Int × mSt) (hm : mX12_at v0 v1 σ = some out) : mMet l yX12_at cX12_at 2 (some .int) 0 0 E 276 [.ref (eA E v0), vI v1] σ (some (vI out.1)) out.2 := by
  unfold mX12_at at hm
  obtain ⟨g0, hm⟩ := g_t hm
  refine m_entry (by decide +kernel) (Nat.le_of_ble_eq_true rfl) (fun p e s m args below meth c G hr hk hM ls hl => ?_)
  have G : CallFix p m c cX12_at 2 s args mTs RX12 := G
  have hl : lv_has ls 2 [(0, .ref (eA E v0)), (1, vI v1)] := hl
  refine r_bipush (np := 2) G 8 dX12_at_0 (by decide) rfl ?_
  refine r_aload_n (np := 3) G hl 0 rfl dX12_at_2 rfl rfl ?_
  refine r_getI (np := 6) G hM (shp_lt g0 (by decide)) g0 fdX12_11 lkX12_158 dX12_at_3 rfl ?_
  refine r_imul (np := 7) G dX12_at_6 rfl ?_
  refine r_iload_n (np := 8) G hl 1 rfl dX12_at_7 rfl rfl ?_
  refine r_iadd (np := 9) G dX12_at_8 rfl ?_
  exact r_iret G hr hk hM hm dX12_at_9
theorem gX12_at {v0 : Nat} {v1 : Int} {σ : mSt} {out : Int × mSt} (hm : mX12_at v0 v1 σ = some out) : isC v0 11 := (g_t hm).1
set_option maxRecDepth 100000 in
set_option maxHeartbeats 4000000 in
theorem wX12_named_B38 (l : Launch) (E : mE) (out : Int × mSt) {p : Program} {e : Env} {s : State} {m : MethodId} {args : Array Value} {below : List Frame} {meth : Method} {c : Code} (G : CallFix p m c cX12_named 4 s args mTs RX12) (hr : meth.sig.returnType = (some .int)) (hk : meth.locks = false) (v0 : Nat) (v1 : Int) (g0 : isC v0 11) : ∀ (σ : mSt) (H : Heap) (locs : List Loc) (ls : Array Slot), mX12_named_B38 v0 v1 σ = some out → mM (mA E 276) E 276 σ s H locs → lv_has ls 4 [] → mGo l p e 1 21 s m args below meth c E (some (vI out.1)) out.2 H locs (F0 m 38 ls []) := by
  intro σ H locs ls hm hM hl
  unfold mX12_named_B38 at hm
  refine r_iconst (np := 39) G (-1) dX12_named_38 rfl ?_
  exact r_iret G hr hk hM hm dX12_named_39
set_option maxRecDepth 100000 in
set_option maxHeartbeats 4000000 in
theorem wX12_named_L2 (l : Launch) (E : mE) (out : Int × mSt) {p : Program} {e : Env} {s : State} {m : MethodId} {args : Array Value} {below : List Frame} {meth : Method} {c : Code} (G : CallFix p m c cX12_named 4 s args mTs RX12) (hr : meth.sig.returnType = (some .int)) (hk : meth.locks = false) (v0 : Nat) (v1 : Int) (g0 : isC v0 11) (x38 : mSt → Option (Int × mSt)) (hx38 : ∀ (σ : mSt) (H : Heap) (locs : List Loc) (ls : Array Slot), x38 σ = some out → mM (mA E 276) E 276 σ s H locs → lv_has ls 4 [] → mGo l p e 1 21 s m args below meth c E (some (vI out.1)) out.2 H locs (F0 m 38 ls [])) : ∀ (n : Nat) (v3 : Int) (σ : mSt) (H : Heap) (locs : List Loc) (ls : Array Slot), mX12_named_L2 v0 v1 x38 n v3 σ = some out → mM (mA E 276) E 276 σ s H locs → lv_has ls 4 [(0, .ref (eA E v0)), (1, vL v1), (3, vI v3)] → mGo l p e 1 21 s m args below meth c E (some (vI out.1)) out.2 H locs (F0 m 2 ls []) := by
  intro n
  induction n with
  | zero =>
    intro v3 σ H locs ls hm hM hl
    exact absurd hm (by rw [mX12_named_L2.eq_1]; exact fun h => nomatch h)
  | succ n ih =>
    intro v3 σ H locs ls hm hM hl
    rw [mX12_named_L2.eq_2] at hm
    refine r_iload_n (np := 3) G hl 2 rfl dX12_named_2 rfl rfl ?_
    refine r_aload_n (np := 4) G hl 0 rfl dX12_named_3 rfl rfl ?_
    obtain ⟨r1, e2, hm⟩ := ref_t hm
    refine r_getR (np := 7) G hM (shp_lt g0 (by decide)) g0 e2 fdX12_12 lkX12_13 dX12_named_4 rfl ?_
    refine r_aload_n (np := 8) G hl 0 rfl dX12_named_7 rfl rfl ?_
    refine r_getI (np := 11) G hM (shp_lt g0 (by decide)) g0 fdX12_11 lkX12_158 dX12_named_8 rfl ?_
    obtain ⟨g3, hm⟩ := g_t hm
    refine r_iaload (np := 12) G hM g3 rfl dX12_named_11 rfl ?_
    refine r_icmp_ge (np := 15) (tgt := 38) G rfl rfl dX12_named_12 (by decide) rfl (fun h4 => ?_) (fun h4 => ?_)
    · have hm := b_t h4 hm
      exact hx38 _ _ _ _ hm hM (lv_sub hl [] rfl)
    · have hm := b_f h4 hm
      refine r_aload_n (np := 16) G hl 0 rfl dX12_named_15 rfl rfl ?_
      obtain ⟨r5, e6, hm⟩ := ref_t hm
      refine r_getR (np := 19) G hM (shp_lt g0 (by decide)) g0 e6 fdX12_13 lkX12_17 dX12_named_16 rfl ?_
      refine r_aload_n (np := 20) G hl 0 rfl dX12_named_19 rfl rfl ?_
      refine r_iload_n (np := 21) G hl 2 rfl dX12_named_20 rfl rfl ?_
      obtain ⟨b7, s8, e9, hm⟩ := call_t hm
      refine m_callVI (np := 24) G hM hl.1 [vI v3] (qX12_at l E σ v0 v3 _ e9) myX12_at (shp_lt (gX12_at e9) (by decide)) (gX12_at e9) rfl (by decide) lkX12_161 ⟨Nat.le_of_ble_eq_true rfl, Nat.le_of_ble_eq_true rfl⟩ ⟨Nat.le_of_ble_eq_true rfl, Nat.le_of_ble_eq_true rfl⟩ [.ref (eA E r5)] rfl (Nat.le_of_ble_eq_true rfl) dX12_named_21 rfl (fun H locs hM => ?_)
      obtain ⟨g10, hm⟩ := g_t hm
      refine r_laload (np := 25) G hM g10 rfl dX12_named_24 rfl ?_
      refine r_lload_n (np := 26) G hl 1 rfl dX12_named_25 rfl rfl ?_
      refine r_lcmp_ne (np := 30) (tgt := 32) G rfl rfl dX12_named_26 dX12_named_27 (by decide) rfl (fun h11 => ?_) (fun h11 => ?_)
      · have hm := b_f h11 hm
        obtain ⟨a12, e13, hm⟩ := bnd_t hm
        refine r_iinc (np := 35) G hl 2 rfl e13 [(3, vI a12), (0, .ref (eA E v0)), (1, vL v1)] dX12_named_32 rfl (by decide) rfl (fun ls hl => ?_)
        refine r_goto (np := 2) G dX12_named_35 (by decide) ?_
        exact ih a12 _ _ _ _ hm hM (lv_sub hl [1, 2, 0] rfl)
      · have hm := b_t h11 hm
        refine r_iload_n (np := 31) G hl 2 rfl dX12_named_30 rfl rfl ?_
        exact r_iret G hr hk hM hm dX12_named_31
set_option maxRecDepth 100000 in
set_option maxHeartbeats 4000000 in
theorem qX12_named (l : Launch) (E : mE) (σ : mSt) (v0 : Nat) (v1 : Int) (out : Int × mSt) (hm : mX12_named v0 v1 σ = some out) : mMet l yX12_named cX12_named 4 (some .int) 1 21 E 276 [.ref (eA E v0), vL v1] σ (some (vI out.1)) out.2 := by
  unfold mX12_named at hm
  obtain ⟨g0, hm⟩ := g_t hm
  refine m_entry (by decide +kernel) (Nat.le_of_ble_eq_true rfl) (fun p e s m args below meth c G hr hk hM ls hl => ?_)
  have G : CallFix p m c cX12_named 4 s args mTs RX12 := G
  have hl : lv_has ls 4 [(0, .ref (eA E v0)), (1, vL v1)] := hl
  refine r_iconst (np := 1) G 0 dX12_named_0 rfl ?_
  refine r_istore_n (np := 2) G hl rfl [(3, vI 0), (0, .ref (eA E v0)), (1, vL v1)] dX12_named_1 rfl rfl (by decide) rfl (fun ls hl => ?_)
  exact wX12_named_L2 l E out G hr hk v0 v1 g0 (fun zσ => mX12_named_B38 v0 v1 zσ) (fun zσ zH zl zs zm zM zv => wX12_named_B38 l E out G hr hk v0 v1 g0 zσ zH zl zs zm zM zv) mF 0 _ _ _ _ hm hM (lv_sub hl [1, 2, 0] rfl)
theorem gX12_named {v0 : Nat} {v1 : Int} {σ : mSt} {out : Int × mSt} (hm : mX12_named v0 v1 σ = some out) : isC v0 11 := (g_t hm).1
set_option maxRecDepth 100000 in
set_option maxHeartbeats 4000000 in
theorem wX12_takesWhole_B57 (l : Launch) (E : mE) (out : Int × mSt) {p : Program} {e : Env} {s : State} {m : MethodId} {args : Array Value} {below : List Frame} {meth : Method} {c : Code} (G : CallFix p m c cX12_takesWhole 3 s args mTs RX12) (hr : meth.sig.returnType = (some .boolean)) (hk : meth.locks = false) (v0 : Nat) (v1 : Int) (g0 : isC v0 11) : ∀ (v2 : Int) (t0 : Nat) (t1 : Int) (σ : mSt) (H : Heap) (locs : List Loc) (ls : Array Slot), mX12_takesWhole_B57 v0 v1 v2 t0 t1 σ = some out → mM (mA E 276) E 276 σ s H locs → lv_has ls 3 [(0, .ref (eA E v0)), (2, vI v2)] → mGo l p e 2 46 s m args below meth c E (some (vI out.1)) out.2 H locs (F0 m 57 ls [vI t1, .ref (eA E t0)]) := by
  intro v2 t0 t1 σ H locs ls hm hM hl
  unfold mX12_takesWhole_B57 at hm
  refine r_iconst (np := 58) G 4 dX12_takesWhole_57 rfl ?_
  obtain ⟨b1, s2, e3, hm⟩ := call_t hm
  refine m_callVI (np := 61) G hM hl.1 [vI t1, vI 4] (qX12_must l E σ t0 t1 4 _ e3) myX12_must (shp_lt (gX12_must e3) (by decide)) (gX12_must e3) rfl (by decide) lkX12_171 ⟨Nat.le_of_ble_eq_true rfl, Nat.le_of_ble_eq_true rfl⟩ ⟨Nat.le_of_ble_eq_true rfl, Nat.le_of_ble_eq_true rfl⟩ [] rfl (Nat.le_of_ble_eq_true rfl) dX12_takesWhole_58 rfl (fun H locs hM => ?_)
  refine r_if_ne (np := 64) (tgt := 66) G rfl dX12_takesWhole_61 (by decide) rfl (fun h4 => ?_) (fun h4 => ?_)
  · have hm := b_f h4 hm
    refine r_aload_n (np := 67) G hl 0 rfl dX12_takesWhole_66 rfl rfl ?_
    refine r_iload_n (np := 68) G hl 1 rfl dX12_takesWhole_67 rfl rfl ?_
    refine r_if_eq (np := 71) (tgt := 79) G rfl dX12_takesWhole_68 (by decide) rfl (fun h5 => ?_) (fun h5 => ?_)
    · have hm := b_t h5 hm
      refine r_aload_n (np := 80) G hl 0 rfl dX12_takesWhole_79 rfl rfl ?_
      refine r_getI (np := 83) G hM (shp_lt g0 (by decide)) g0 fdX12_7 lkX12_102 dX12_takesWhole_80 rfl ?_
      obtain ⟨s6, e7, hm⟩ := bnd_t hm
      refine r_putI (np := 86) G hM (shp_lt g0 (by decide)) g0 ptX12_19 rfl lkX12_175 s6 e7 dX12_takesWhole_83 rfl (fun H locs hM => ?_)
      refine r_aload_n (np := 87) G hl 0 rfl dX12_takesWhole_86 rfl rfl ?_
      refine r_aload_n (np := 88) G hl 0 rfl dX12_takesWhole_87 rfl rfl ?_
      refine r_getI (np := 91) G hM (shp_lt g0 (by decide)) g0 fdX12_4 lkX12_92 dX12_takesWhole_88 rfl ?_
      obtain ⟨s8, e9, hm⟩ := bnd_t hm
      refine r_putI (np := 94) G hM (shp_lt g0 (by decide)) g0 ptX12_20 rfl lkX12_178 s8 e9 dX12_takesWhole_91 rfl (fun H locs hM => ?_)
      refine r_iconst (np := 95) G 1 dX12_takesWhole_94 rfl ?_
      exact r_zret G hr hk hM (Or.inr rfl) hm dX12_takesWhole_95
    · have hm := b_f h5 hm
      refine r_aload_n (np := 72) G hl 0 rfl dX12_takesWhole_71 rfl rfl ?_
      refine r_getI (np := 75) G hM (shp_lt g0 (by decide)) g0 fdX12_7 lkX12_102 dX12_takesWhole_72 rfl ?_
      refine r_ineg (np := 76) G dX12_takesWhole_75 rfl ?_
      refine r_goto (np := 83) G dX12_takesWhole_76 (by decide) ?_
      obtain ⟨s10, e11, hm⟩ := bnd_t hm
      refine r_putI (np := 86) G hM (shp_lt g0 (by decide)) g0 ptX12_19 rfl lkX12_175 s10 e11 dX12_takesWhole_83 rfl (fun H locs hM => ?_)
      refine r_aload_n (np := 87) G hl 0 rfl dX12_takesWhole_86 rfl rfl ?_
      refine r_aload_n (np := 88) G hl 0 rfl dX12_takesWhole_87 rfl rfl ?_
      refine r_getI (np := 91) G hM (shp_lt g0 (by decide)) g0 fdX12_4 lkX12_92 dX12_takesWhole_88 rfl ?_
      obtain ⟨s12, e13, hm⟩ := bnd_t hm
      refine r_putI (np := 94) G hM (shp_lt g0 (by decide)) g0 ptX12_20 rfl lkX12_178 s12 e13 dX12_takesWhole_91 rfl (fun H locs hM => ?_)
      refine r_iconst (np := 95) G 1 dX12_takesWhole_94 rfl ?_
      exact r_zret G hr hk hM (Or.inr rfl) hm dX12_takesWhole_95
  · have hm := b_t h4 hm
    refine r_iconst (np := 65) G 0 dX12_takesWhole_64 rfl ?_
    exact r_zret G hr hk hM (Or.inl rfl) hm dX12_takesWhole_65
set_option maxRecDepth 100000 in
set_option maxHeartbeats 4000000 in
theorem wX12_takesWhole_B56 (l : Launch) (E : mE) (out : Int × mSt) {p : Program} {e : Env} {s : State} {m : MethodId} {args : Array Value} {below : List Frame} {meth : Method} {c : Code} (G : CallFix p m c cX12_takesWhole 3 s args mTs RX12) (hr : meth.sig.returnType = (some .boolean)) (hk : meth.locks = false) (v0 : Nat) (v1 : Int) (g0 : isC v0 11) : ∀ (v2 : Int) (t0 : Nat) (σ : mSt) (H : Heap) (locs : List Loc) (ls : Array Slot), mX12_takesWhole_B56 v0 v1 v2 t0 σ = some out → mM (mA E 276) E 276 σ s H locs → lv_has ls 3 [(0, .ref (eA E v0)), (2, vI v2)] → mGo l p e 2 46 s m args below meth c E (some (vI out.1)) out.2 H locs (F0 m 56 ls [.ref (eA E t0)]) := by
  intro v2 t0 σ H locs ls hm hM hl
  unfold mX12_takesWhole_B56 at hm
  refine r_iconst (np := 57) G 0 dX12_takesWhole_56 rfl ?_
  exact wX12_takesWhole_B57 l E out G hr hk v0 v1 g0 v2 t0 0 _ _ _ _ hm hM (lv_sub hl [0, 1] rfl)
set_option maxRecDepth 100000 in
set_option maxHeartbeats 4000000 in
theorem wX12_takesWhole_B29 (l : Launch) (E : mE) (out : Int × mSt) {p : Program} {e : Env} {s : State} {m : MethodId} {args : Array Value} {below : List Frame} {meth : Method} {c : Code} (G : CallFix p m c cX12_takesWhole 3 s args mTs RX12) (hr : meth.sig.returnType = (some .boolean)) (hk : meth.locks = false) (v0 : Nat) (v1 : Int) (g0 : isC v0 11) : ∀ (v2 : Int) (t0 : Nat) (t1 : Int) (σ : mSt) (H : Heap) (locs : List Loc) (ls : Array Slot), mX12_takesWhole_B29 v0 v1 v2 t0 t1 σ = some out → mM (mA E 276) E 276 σ s H locs → lv_has ls 3 [(0, .ref (eA E v0)), (1, vI v1), (2, vI v2)] → mGo l p e 2 46 s m args below meth c E (some (vI out.1)) out.2 H locs (F0 m 29 ls [vI t1, .ref (eA E t0)]) := by
  intro v2 t0 t1 σ H locs ls hm hM hl
  unfold mX12_takesWhole_B29 at hm
  refine r_iconst (np := 30) G 1 dX12_takesWhole_29 rfl ?_
  obtain ⟨b14, s15, e16, hm⟩ := call_t hm
  refine m_callVI (np := 33) G hM hl.1 [vI t1, vI 1] (qX12_must l E σ t0 t1 1 _ e16) myX12_must (shp_lt (gX12_must e16) (by decide)) (gX12_must e16) rfl (by decide) lkX12_171 ⟨Nat.le_of_ble_eq_true rfl, Nat.le_of_ble_eq_true rfl⟩ ⟨Nat.le_of_ble_eq_true rfl, Nat.le_of_ble_eq_true rfl⟩ [] rfl (Nat.le_of_ble_eq_true rfl) dX12_takesWhole_30 rfl (fun H locs hM => ?_)
  refine r_if_eq (np := 36) (tgt := 64) G rfl dX12_takesWhole_33 (by decide) rfl (fun h17 => ?_) (fun h17 => ?_)
  · have hm := b_t h17 hm
    refine r_iconst (np := 65) G 0 dX12_takesWhole_64 rfl ?_
    exact r_zret G hr hk hM (Or.inl rfl) hm dX12_takesWhole_65
  · have hm := b_f h17 hm
    refine r_aload_n (np := 37) G hl 0 rfl dX12_takesWhole_36 rfl rfl ?_
    refine r_aload_n (np := 38) G hl 0 rfl dX12_takesWhole_37 rfl rfl ?_
    refine r_getI (np := 41) G hM (shp_lt g0 (by decide)) g0 fdX12_7 lkX12_102 dX12_takesWhole_38 rfl ?_
    refine r_if_le (np := 44) (tgt := 56) G rfl dX12_takesWhole_41 (by decide) rfl (fun h18 => ?_) (fun h18 => ?_)
    · have hm := b_t h18 hm
      exact wX12_takesWhole_B56 l E out G hr hk v0 v1 g0 v2 v0 _ _ _ _ hm hM (lv_sub hl [0, 2] rfl)
    · have hm := b_f h18 hm
      refine r_aload_n (np := 45) G hl 0 rfl dX12_takesWhole_44 rfl rfl ?_
      refine r_getI (np := 48) G hM (shp_lt g0 (by decide)) g0 fdX12_7 lkX12_102 dX12_takesWhole_45 rfl ?_
      refine r_iload_n (np := 49) G hl 1 rfl dX12_takesWhole_48 rfl rfl ?_
      refine r_icmp_gt (np := 52) (tgt := 56) G rfl rfl dX12_takesWhole_49 (by decide) rfl (fun h19 => ?_) (fun h19 => ?_)
      · have hm := b_t h19 hm
        exact wX12_takesWhole_B56 l E out G hr hk v0 v1 g0 v2 v0 _ _ _ _ hm hM (lv_sub hl [0, 2] rfl)
      · have hm := b_f h19 hm
        refine r_iconst (np := 53) G 1 dX12_takesWhole_52 rfl ?_
        refine r_goto (np := 57) G dX12_takesWhole_53 (by decide) ?_
        exact wX12_takesWhole_B57 l E out G hr hk v0 v1 g0 v2 v0 1 _ _ _ _ hm hM (lv_sub hl [0, 2] rfl)
set_option maxRecDepth 100000 in
set_option maxHeartbeats 4000000 in
theorem wX12_takesWhole_B15 (l : Launch) (E : mE) (out : Int × mSt) {p : Program} {e : Env} {s : State} {m : MethodId} {args : Array Value} {below : List Frame} {meth : Method} {c : Code} (G : CallFix p m c cX12_takesWhole 3 s args mTs RX12) (hr : meth.sig.returnType = (some .boolean)) (hk : meth.locks = false) (v0 : Nat) (v1 : Int) (g0 : isC v0 11) : ∀ (v2 : Int) (σ : mSt) (H : Heap) (locs : List Loc) (ls : Array Slot), mX12_takesWhole_B15 v0 v1 v2 σ = some out → mM (mA E 276) E 276 σ s H locs → lv_has ls 3 [(0, .ref (eA E v0)), (1, vI v1), (2, vI v2)] → mGo l p e 2 46 s m args below meth c E (some (vI out.1)) out.2 H locs (F0 m 15 ls []) := by
  intro v2 σ H locs ls hm hM hl
  unfold mX12_takesWhole_B15 at hm
  refine r_aload_n (np := 16) G hl 0 rfl dX12_takesWhole_15 rfl rfl ?_
  refine r_aload_n (np := 17) G hl 0 rfl dX12_takesWhole_16 rfl rfl ?_
  refine r_getI (np := 20) G hM (shp_lt g0 (by decide)) g0 fdX12_6 lkX12_99 dX12_takesWhole_17 rfl ?_
  refine r_iconst (np := 21) G 2 dX12_takesWhole_20 rfl ?_
  refine r_icmp_ne (np := 24) (tgt := 28) G rfl (wIk 2 rfl) dX12_takesWhole_21 (by decide) rfl (fun h20 => ?_) (fun h20 => ?_)
  · have hm := b_f h20 hm
    refine r_iconst (np := 29) G 0 dX12_takesWhole_28 rfl ?_
    exact wX12_takesWhole_B29 l E out G hr hk v0 v1 g0 v2 v0 0 _ _ _ _ hm hM (lv_sub hl [0, 1, 2] rfl)
  · have hm := b_t h20 hm
    refine r_iconst (np := 25) G 1 dX12_takesWhole_24 rfl ?_
    refine r_goto (np := 29) G dX12_takesWhole_25 (by decide) ?_
    exact wX12_takesWhole_B29 l E out G hr hk v0 v1 g0 v2 v0 1 _ _ _ _ hm hM (lv_sub hl [0, 1, 2] rfl)
set_option maxRecDepth 100000 in
set_option maxHeartbeats 4000000 in
theorem qX12_takesWhole (l : Launch) (E : mE) (σ : mSt) (v0 : Nat) (v1 : Int) (out : Int × mSt) (hm : mX12_takesWhole v0 v1 σ = some out) : mMet l yX12_takesWhole cX12_takesWhole 3 (some .boolean) 2 46 E 276 [.ref (eA E v0), vI v1] σ (some (vI out.1)) out.2 := by
  unfold mX12_takesWhole at hm
  obtain ⟨g0, hm⟩ := g_t hm
  refine m_entry (by decide +kernel) (Nat.le_of_ble_eq_true rfl) (fun p e s m args below meth c G hr hk hM ls hl => ?_)
  have G : CallFix p m c cX12_takesWhole 3 s args mTs RX12 := G
  have hl : lv_has ls 3 [(0, .ref (eA E v0)), (1, vI v1)] := hl
  refine r_aload_n (np := 1) G hl 0 rfl dX12_takesWhole_0 rfl rfl ?_
  refine r_bipush (np := 3) G 45 dX12_takesWhole_1 (by decide) rfl ?_
  obtain ⟨b21, s22, e23, hm⟩ := call_t hm
  refine m_callVI (np := 6) G hM hl.1 [vI 45] (qX12_isSign l E σ v0 45 _ e23) myX12_isSign (shp_lt (gX12_isSign e23) (by decide)) (gX12_isSign e23) rfl (by decide) lkX12_164 ⟨Nat.le_of_ble_eq_true rfl, Nat.le_of_ble_eq_true rfl⟩ ⟨Nat.le_of_ble_eq_true rfl, Nat.le_of_ble_eq_true rfl⟩ [] rfl (Nat.le_of_ble_eq_true rfl) dX12_takesWhole_3 rfl (fun H locs hM => ?_)
  refine r_istore_n (np := 7) G hl rfl [(2, vI b21), (0, .ref (eA E v0)), (1, vI v1)] dX12_takesWhole_6 rfl rfl (by decide) rfl (fun ls hl => ?_)
  refine r_iload_n (np := 8) G hl 0 rfl dX12_takesWhole_7 rfl rfl ?_
  refine r_if_eq (np := 11) (tgt := 15) G rfl dX12_takesWhole_8 (by decide) rfl (fun h24 => ?_) (fun h24 => ?_)
  · have hm := b_t h24 hm
    exact wX12_takesWhole_B15 l E out G hr hk v0 v1 g0 b21 _ _ _ _ hm hM (lv_sub hl [1, 2, 0] rfl)
  · have hm := b_f h24 hm
    refine r_aload_n (np := 12) G hl 1 rfl dX12_takesWhole_11 rfl rfl ?_
    obtain ⟨b25, s26, e27, hm⟩ := call_t hm
    refine m_callVV (np := 15) G hM hl.1 [] (qX12_steps l E s22 v0 _ e27) myX12_steps (shp_lt (gX12_steps e27) (by decide)) (gX12_steps e27) rfl (by decide) lkX12_168 ⟨Nat.le_of_ble_eq_true rfl, Nat.le_of_ble_eq_true rfl⟩ ⟨Nat.le_of_ble_eq_true rfl, Nat.le_of_ble_eq_true rfl⟩ [] rfl (Nat.le_of_ble_eq_true rfl) dX12_takesWhole_12 rfl (fun H locs hM => ?_)
    exact wX12_takesWhole_B15 l E out G hr hk v0 v1 g0 b21 _ _ _ _ hm hM (lv_sub hl [1, 2, 0] rfl)
theorem gX12_takesWhole {v0 : Nat} {v1 : Int} {σ : mSt} {out : Int × mSt} (hm : mX12_takesWhole v0 v1 σ = some out) : isC v0 11 := (g_t hm).1
set_option maxRecDepth 100000 in
set_option maxHeartbeats 4000000 in
theorem wX12_hasSquare_B34 (l : Launch) (E : mE) (out : Int × mSt) {p : Program} {e : Env} {s : State} {m : MethodId} {args : Array Value} {below : List Frame} {meth : Method} {c : Code} (G : CallFix p m c cX12_hasSquare 2 s args mTs RX12) (hr : meth.sig.returnType = (some .boolean)) (hk : meth.locks = false) (v0 : Int) : ∀ (σ : mSt) (H : Heap) (locs : List Loc) (ls : Array Slot), mX12_hasSquare_B34 v0 σ = some out → mM (mA E 276) E 276 σ s H locs → lv_has ls 2 [] → mGo l p e 0 0 s m args below meth c E (some (vI out.1)) out.2 H locs (F0 m 34 ls []) := by
  intro σ H locs ls hm hM hl
  unfold mX12_hasSquare_B34 at hm
  refine r_iconst (np := 35) G 0 dX12_hasSquare_34 rfl ?_
  exact r_zret G hr hk hM (Or.inl rfl) hm dX12_hasSquare_35
set_option maxRecDepth 100000 in
set_option maxHeartbeats 4000000 in
theorem wX12_hasSquare_B15 (l : Launch) (E : mE) (out : Int × mSt) {p : Program} {e : Env} {s : State} {m : MethodId} {args : Array Value} {below : List Frame} {meth : Method} {c : Code} (G : CallFix p m c cX12_hasSquare 2 s args mTs RX12) (hr : meth.sig.returnType = (some .boolean)) (hk : meth.locks = false) (v0 : Int) (c2 : Int → mSt → Option (Int × mSt)) (x34 : mSt → Option (Int × mSt)) (hc2 : ∀ (v1 : Int) (σ : mSt) (H : Heap) (locs : List Loc) (ls : Array Slot), c2 v1 σ = some out → mM (mA E 276) E 276 σ s H locs → lv_has ls 2 [(0, vI v0), (1, vI v1)] → mGo l p e 0 0 s m args below meth c E (some (vI out.1)) out.2 H locs (F0 m 2 ls [])) (hx34 : ∀ (σ : mSt) (H : Heap) (locs : List Loc) (ls : Array Slot), x34 σ = some out → mM (mA E 276) E 276 σ s H locs → lv_has ls 2 [] → mGo l p e 0 0 s m args below meth c E (some (vI out.1)) out.2 H locs (F0 m 34 ls [])) : ∀ (v1 : Int) (t0 : Int) (t1 : Int) (σ : mSt) (H : Heap) (locs : List Loc) (ls : Array Slot), mX12_hasSquare_B15 v0 c2 x34 v1 t0 t1 σ = some out → mM (mA E 276) E 276 σ s H locs → lv_has ls 2 [(0, vI v0), (1, vI v1)] → mGo l p e 0 0 s m args below meth c E (some (vI out.1)) out.2 H locs (F0 m 15 ls [vI t1, vI t0]) := by
  intro v1 t0 t1 σ H locs ls hm hM hl
  unfold mX12_hasSquare_B15 at hm
  refine r_icmp_gt (np := 18) (tgt := 34) G rfl rfl dX12_hasSquare_15 (by decide) rfl (fun h1 => ?_) (fun h1 => ?_)
  · have hm := b_t h1 hm
    exact hx34 _ _ _ _ hm hM (lv_sub hl [] rfl)
  · have hm := b_f h1 hm
    refine r_iload_n (np := 19) G hl 0 rfl dX12_hasSquare_18 rfl rfl ?_
    refine r_iload_n (np := 20) G hl 1 rfl dX12_hasSquare_19 rfl rfl ?_
    refine r_iload_n (np := 21) G hl 1 rfl dX12_hasSquare_20 rfl rfl ?_
    refine r_imul (np := 22) G dX12_hasSquare_21 rfl ?_
    obtain ⟨g2, hm⟩ := g_t hm
    refine r_irem (np := 23) G g2 dX12_hasSquare_22 rfl ?_
    refine r_if_ne (np := 26) (tgt := 28) G rfl dX12_hasSquare_23 (by decide) rfl (fun h3 => ?_) (fun h3 => ?_)
    · have hm := b_f h3 hm
      obtain ⟨a4, e5, hm⟩ := bnd_t hm
      refine r_iinc (np := 31) G hl 1 rfl e5 [(1, vI a4), (0, vI v0)] dX12_hasSquare_28 rfl (by decide) rfl (fun ls hl => ?_)
      refine r_goto (np := 2) G dX12_hasSquare_31 (by decide) ?_
      exact hc2 a4 _ _ _ _ hm hM (lv_sub hl [1, 0] rfl)
    · have hm := b_t h3 hm
      refine r_iconst (np := 27) G 1 dX12_hasSquare_26 rfl ?_
      exact r_zret G hr hk hM (Or.inr rfl) hm dX12_hasSquare_27
set_option maxRecDepth 100000 in
set_option maxHeartbeats 4000000 in
theorem wX12_hasSquare_L2 (l : Launch) (E : mE) (out : Int × mSt) {p : Program} {e : Env} {s : State} {m : MethodId} {args : Array Value} {below : List Frame} {meth : Method} {c : Code} (G : CallFix p m c cX12_hasSquare 2 s args mTs RX12) (hr : meth.sig.returnType = (some .boolean)) (hk : meth.locks = false) (v0 : Int) (x34 : mSt → Option (Int × mSt)) (hx34 : ∀ (σ : mSt) (H : Heap) (locs : List Loc) (ls : Array Slot), x34 σ = some out → mM (mA E 276) E 276 σ s H locs → lv_has ls 2 [] → mGo l p e 0 0 s m args below meth c E (some (vI out.1)) out.2 H locs (F0 m 34 ls [])) : ∀ (n : Nat) (v1 : Int) (σ : mSt) (H : Heap) (locs : List Loc) (ls : Array Slot), mX12_hasSquare_L2 v0 x34 n v1 σ = some out → mM (mA E 276) E 276 σ s H locs → lv_has ls 2 [(0, vI v0), (1, vI v1)] → mGo l p e 0 0 s m args below meth c E (some (vI out.1)) out.2 H locs (F0 m 2 ls []) := by
  intro n
  induction n with
  | zero =>
    intro v1 σ H locs ls hm hM hl
    exact absurd hm (by rw [mX12_hasSquare_L2.eq_1]; exact fun h => nomatch h)
  | succ n ih =>
    intro v1 σ H locs ls hm hM hl
    rw [mX12_hasSquare_L2.eq_2] at hm
    refine r_iload_n (np := 3) G hl 1 rfl dX12_hasSquare_2 rfl rfl ?_
    refine r_iload_n (np := 4) G hl 1 rfl dX12_hasSquare_3 rfl rfl ?_
    refine r_imul (np := 5) G dX12_hasSquare_4 rfl ?_
    refine r_iload_n (np := 6) G hl 0 rfl dX12_hasSquare_5 rfl rfl ?_
    refine r_if_ge (np := 9) (tgt := 14) G rfl dX12_hasSquare_6 (by decide) rfl (fun h6 => ?_) (fun h6 => ?_)
    · have hm := b_t h6 hm
      refine r_iload_n (np := 15) G hl 0 rfl dX12_hasSquare_14 rfl rfl ?_
      exact wX12_hasSquare_B15 l E out G hr hk v0 (mX12_hasSquare_L2 v0 x34 n) x34 ih hx34 v1 (v1 * v1) v0 _ _ _ _ hm hM (lv_sub hl [0, 1] rfl)
    · have hm := b_f h6 hm
      refine r_iload_n (np := 10) G hl 0 rfl dX12_hasSquare_9 rfl rfl ?_
      refine r_ineg (np := 11) G dX12_hasSquare_10 rfl ?_
      refine r_goto (np := 15) G dX12_hasSquare_11 (by decide) ?_
      exact wX12_hasSquare_B15 l E out G hr hk v0 (mX12_hasSquare_L2 v0 x34 n) x34 ih hx34 v1 (v1 * v1) (-v0) _ _ _ _ hm hM (lv_sub hl [0, 1] rfl)
set_option maxRecDepth 100000 in
set_option maxHeartbeats 4000000 in
theorem qX12_hasSquare (l : Launch) (E : mE) (σ : mSt) (v0 : Int) (out : Int × mSt) (hm : mX12_hasSquare v0 σ = some out) : mMet l yX12_hasSquare cX12_hasSquare 2 (some .boolean) 0 0 E 276 [vI v0] σ (some (vI out.1)) out.2 := by
  unfold mX12_hasSquare at hm
  refine m_entry (by decide +kernel) (Nat.le_of_ble_eq_true rfl) (fun p e s m args below meth c G hr hk hM ls hl => ?_)
  have G : CallFix p m c cX12_hasSquare 2 s args mTs RX12 := G
  have hl : lv_has ls 2 [(0, vI v0)] := hl
  refine r_iconst (np := 1) G 2 dX12_hasSquare_0 rfl ?_
  refine r_istore_n (np := 2) G hl rfl [(1, vI 2), (0, vI v0)] dX12_hasSquare_1 rfl rfl (by decide) rfl (fun ls hl => ?_)
  exact wX12_hasSquare_L2 l E out G hr hk v0 (fun zσ => mX12_hasSquare_B34 v0 zσ) (fun zσ zH zl zs zm zM zv => wX12_hasSquare_B34 l E out G hr hk v0 zσ zH zl zs zm zM zv) mF 2 _ _ _ _ hm hM (lv_sub hl [1, 0] rfl)
set_option maxRecDepth 100000 in
set_option maxHeartbeats 4000000 in
theorem wX12_takesSide_B25 (l : Launch) (E : mE) (out : Int × mSt) {p : Program} {e : Env} {s : State} {m : MethodId} {args : Array Value} {below : List Frame} {meth : Method} {c : Code} (G : CallFix p m c cX12_takesSide 1 s args mTs RX12) (hr : meth.sig.returnType = (some .boolean)) (hk : meth.locks = false) (v0 : Nat) (g0 : isC v0 11) : ∀ (t0 : Nat) (t1 : Int) (σ : mSt) (H : Heap) (locs : List Loc) (ls : Array Slot), mX12_takesSide_B25 v0 t0 t1 σ = some out → mM (mA E 276) E 276 σ s H locs → lv_has ls 1 [(0, .ref (eA E v0))] → mGo l p e 3 68 s m args below meth c E (some (vI out.1)) out.2 H locs (F0 m 25 ls [vI t1, .ref (eA E t0)]) := by
  intro t0 t1 σ H locs ls hm hM hl
  unfold mX12_takesSide_B25 at hm
  refine r_iconst (np := 26) G 4 dX12_takesSide_25 rfl ?_
  obtain ⟨b1, s2, e3, hm⟩ := call_t hm
  refine m_callVI (np := 29) G hM hl.1 [vI t1, vI 4] (qX12_must l E σ t0 t1 4 _ e3) myX12_must (shp_lt (gX12_must e3) (by decide)) (gX12_must e3) rfl (by decide) lkX12_171 ⟨Nat.le_of_ble_eq_true rfl, Nat.le_of_ble_eq_true rfl⟩ ⟨Nat.le_of_ble_eq_true rfl, Nat.le_of_ble_eq_true rfl⟩ [] rfl (Nat.le_of_ble_eq_true rfl) dX12_takesSide_26 rfl (fun H locs hM => ?_)
  refine r_if_ne (np := 32) (tgt := 34) G rfl dX12_takesSide_29 (by decide) rfl (fun h4 => ?_) (fun h4 => ?_)
  · have hm := b_f h4 hm
    refine r_aload_n (np := 35) G hl 0 rfl dX12_takesSide_34 rfl rfl ?_
    obtain ⟨b5, s6, e7, hm⟩ := call_t hm
    refine m_callVV (np := 38) G hM hl.1 [] (qX12_steps l E s2 v0 _ e7) myX12_steps (shp_lt (gX12_steps e7) (by decide)) (gX12_steps e7) rfl (by decide) lkX12_168 ⟨Nat.le_of_ble_eq_true rfl, Nat.le_of_ble_eq_true rfl⟩ ⟨Nat.le_of_ble_eq_true rfl, Nat.le_of_ble_eq_true rfl⟩ [] rfl (Nat.le_of_ble_eq_true rfl) dX12_takesSide_35 rfl (fun H locs hM => ?_)
    refine r_iconst (np := 39) G 1 dX12_takesSide_38 rfl ?_
    exact r_zret G hr hk hM (Or.inr rfl) hm dX12_takesSide_39
  · have hm := b_t h4 hm
    refine r_iconst (np := 33) G 0 dX12_takesSide_32 rfl ?_
    exact r_zret G hr hk hM (Or.inl rfl) hm dX12_takesSide_33
set_option maxRecDepth 100000 in
set_option maxHeartbeats 4000000 in
theorem qX12_takesSide (l : Launch) (E : mE) (σ : mSt) (v0 : Nat) (out : Int × mSt) (hm : mX12_takesSide v0 σ = some out) : mMet l yX12_takesSide cX12_takesSide 1 (some .boolean) 3 68 E 276 [.ref (eA E v0)] σ (some (vI out.1)) out.2 := by
  unfold mX12_takesSide at hm
  obtain ⟨g0, hm⟩ := g_t hm
  refine m_entry (by decide +kernel) (Nat.le_of_ble_eq_true rfl) (fun p e s m args below meth c G hr hk hM ls hl => ?_)
  have G : CallFix p m c cX12_takesSide 1 s args mTs RX12 := G
  have hl : lv_has ls 1 [(0, .ref (eA E v0))] := hl
  refine r_aload_n (np := 1) G hl 0 rfl dX12_takesSide_0 rfl rfl ?_
  refine r_bipush (np := 3) G 60 dX12_takesSide_1 (by decide) rfl ?_
  obtain ⟨b8, s9, e10, hm⟩ := call_t hm
  refine m_callVI (np := 6) G hM hl.1 [vI 60] (qX12_takesWhole l E σ v0 60 _ e10) myX12_takesWhole (shp_lt (gX12_takesWhole e10) (by decide)) (gX12_takesWhole e10) rfl (by decide) lkX12_181 ⟨Nat.le_of_ble_eq_true rfl, Nat.le_of_ble_eq_true rfl⟩ ⟨Nat.le_of_ble_eq_true rfl, Nat.le_of_ble_eq_true rfl⟩ [] rfl (Nat.le_of_ble_eq_true rfl) dX12_takesSide_3 rfl (fun H locs hM => ?_)
  refine r_if_eq (np := 9) (tgt := 32) G rfl dX12_takesSide_6 (by decide) rfl (fun h11 => ?_) (fun h11 => ?_)
  · have hm := b_t h11 hm
    refine r_iconst (np := 33) G 0 dX12_takesSide_32 rfl ?_
    exact r_zret G hr hk hM (Or.inl rfl) hm dX12_takesSide_33
  · have hm := b_f h11 hm
    refine r_aload_n (np := 10) G hl 0 rfl dX12_takesSide_9 rfl rfl ?_
    refine r_aload_n (np := 11) G hl 0 rfl dX12_takesSide_10 rfl rfl ?_
    refine r_getI (np := 14) G hM (shp_lt g0 (by decide)) g0 fdX12_19 lkX12_175 dX12_takesSide_11 rfl ?_
    obtain ⟨b12, s13, e14, hm⟩ := call_t hm
    refine m_callSI (np := 17) G hM hl.1 [vI (s9 v0 19)] (qX12_hasSquare l E s9 (s9 v0 19) _ e14) myX12_hasSquare lkX12_184 ⟨Nat.le_of_ble_eq_true rfl, Nat.le_of_ble_eq_true rfl⟩ ⟨Nat.le_of_ble_eq_true rfl, Nat.le_of_ble_eq_true rfl⟩ [.ref (eA E v0)] rfl (Nat.le_of_ble_eq_true rfl) dX12_takesSide_14 rfl (fun H locs hM => ?_)
    refine r_if_ne (np := 20) (tgt := 24) G rfl dX12_takesSide_17 (by decide) rfl (fun h15 => ?_) (fun h15 => ?_)
    · have hm := b_f h15 hm
      refine r_iconst (np := 25) G 0 dX12_takesSide_24 rfl ?_
      exact wX12_takesSide_B25 l E out G hr hk v0 g0 v0 0 _ _ _ _ hm hM (lv_sub hl [0] rfl)
    · have hm := b_t h15 hm
      refine r_iconst (np := 21) G 1 dX12_takesSide_20 rfl ?_
      refine r_goto (np := 25) G dX12_takesSide_21 (by decide) ?_
      exact wX12_takesSide_B25 l E out G hr hk v0 g0 v0 1 _ _ _ _ hm hM (lv_sub hl [0] rfl)
theorem gX12_takesSide {v0 : Nat} {σ : mSt} {out : Int × mSt} (hm : mX12_takesSide v0 σ = some out) : isC v0 11 := (g_t hm).1
set_option maxRecDepth 100000 in
set_option maxHeartbeats 4000000 in
theorem qX12_quaternionLine (l : Launch) (E : mE) (σ : mSt) (v0 : Nat) (v1 : Int) (out : Int × mSt) (hm : mX12_quaternionLine v0 v1 σ = some out) : mMet l yX12_quaternionLine cX12_quaternionLine 2 (some .boolean) 4 88 E 276 [.ref (eA E v0), vI v1] σ (some (vI out.1)) out.2 := by
  unfold mX12_quaternionLine at hm
  obtain ⟨g0, hm⟩ := g_t hm
  refine m_entry (by decide +kernel) (Nat.le_of_ble_eq_true rfl) (fun p e s m args below meth c G hr hk hM ls hl => ?_)
  have G : CallFix p m c cX12_quaternionLine 2 s args mTs RX12 := G
  have hl : lv_has ls 2 [(0, .ref (eA E v0)), (1, vI v1)] := hl
  refine r_aload_n (np := 1) G hl 0 rfl dX12_quaternionLine_0 rfl rfl ?_
  obtain ⟨b1, s2, e3, hm⟩ := call_t hm
  refine m_callVI (np := 4) G hM hl.1 [] (qX12_takesSide l E σ v0 _ e3) myX12_takesSide (shp_lt (gX12_takesSide e3) (by decide)) (gX12_takesSide e3) rfl (by decide) lkX12_195 ⟨Nat.le_of_ble_eq_true rfl, Nat.le_of_ble_eq_true rfl⟩ ⟨Nat.le_of_ble_eq_true rfl, Nat.le_of_ble_eq_true rfl⟩ [] rfl (Nat.le_of_ble_eq_true rfl) dX12_quaternionLine_1 rfl (fun H locs hM => ?_)
  refine r_if_ne (np := 7) (tgt := 9) G rfl dX12_quaternionLine_4 (by decide) rfl (fun h4 => ?_) (fun h4 => ?_)
  · have hm := b_f h4 hm
    refine r_aload_n (np := 10) G hl 0 rfl dX12_quaternionLine_9 rfl rfl ?_
    obtain ⟨r5, e6, hm⟩ := ref_t hm
    refine r_getR (np := 13) G hM (shp_lt g0 (by decide)) g0 e6 fdX12_15 lkX12_24 dX12_quaternionLine_10 rfl ?_
    refine r_aload_n (np := 14) G hl 0 rfl dX12_quaternionLine_13 rfl rfl ?_
    refine r_iload_n (np := 15) G hl 1 rfl dX12_quaternionLine_14 rfl rfl ?_
    obtain ⟨b7, s8, e9, hm⟩ := call_t hm
    refine m_callVI (np := 18) G hM hl.1 [vI v1] (qX12_at l E s2 v0 v1 _ e9) myX12_at (shp_lt (gX12_at e9) (by decide)) (gX12_at e9) rfl (by decide) lkX12_161 ⟨Nat.le_of_ble_eq_true rfl, Nat.le_of_ble_eq_true rfl⟩ ⟨Nat.le_of_ble_eq_true rfl, Nat.le_of_ble_eq_true rfl⟩ [.ref (eA E r5)] rfl (Nat.le_of_ble_eq_true rfl) dX12_quaternionLine_15 rfl (fun H locs hM => ?_)
    refine r_aload_n (np := 19) G hl 0 rfl dX12_quaternionLine_18 rfl rfl ?_
    refine r_getI (np := 22) G hM (shp_lt g0 (by decide)) g0 fdX12_19 lkX12_175 dX12_quaternionLine_19 rfl ?_
    obtain ⟨g10, hm⟩ := g_t hm
    obtain ⟨s11, e12, hm⟩ := bnd_t hm
    refine r_iastore (np := 23) G hM g10 rfl s11 e12 dX12_quaternionLine_22 rfl (fun H locs hM => ?_)
    refine r_aload_n (np := 24) G hl 0 rfl dX12_quaternionLine_23 rfl rfl ?_
    obtain ⟨b13, s14, e15, hm⟩ := call_t hm
    refine m_callVI (np := 27) G hM hl.1 [] (qX12_takesSide l E s11 v0 _ e15) myX12_takesSide (shp_lt (gX12_takesSide e15) (by decide)) (gX12_takesSide e15) rfl (by decide) lkX12_195 ⟨Nat.le_of_ble_eq_true rfl, Nat.le_of_ble_eq_true rfl⟩ ⟨Nat.le_of_ble_eq_true rfl, Nat.le_of_ble_eq_true rfl⟩ [] rfl (Nat.le_of_ble_eq_true rfl) dX12_quaternionLine_24 rfl (fun H locs hM => ?_)
    refine r_if_ne (np := 30) (tgt := 32) G rfl dX12_quaternionLine_27 (by decide) rfl (fun h16 => ?_) (fun h16 => ?_)
    · have hm := b_f h16 hm
      refine r_aload_n (np := 33) G hl 0 rfl dX12_quaternionLine_32 rfl rfl ?_
      obtain ⟨r17, e18, hm⟩ := ref_t hm
      refine r_getR (np := 36) G hM (shp_lt g0 (by decide)) g0 e18 fdX12_16 lkX12_27 dX12_quaternionLine_33 rfl ?_
      refine r_aload_n (np := 37) G hl 0 rfl dX12_quaternionLine_36 rfl rfl ?_
      refine r_iload_n (np := 38) G hl 1 rfl dX12_quaternionLine_37 rfl rfl ?_
      obtain ⟨b19, s20, e21, hm⟩ := call_t hm
      refine m_callVI (np := 41) G hM hl.1 [vI v1] (qX12_at l E s14 v0 v1 _ e21) myX12_at (shp_lt (gX12_at e21) (by decide)) (gX12_at e21) rfl (by decide) lkX12_161 ⟨Nat.le_of_ble_eq_true rfl, Nat.le_of_ble_eq_true rfl⟩ ⟨Nat.le_of_ble_eq_true rfl, Nat.le_of_ble_eq_true rfl⟩ [.ref (eA E r17)] rfl (Nat.le_of_ble_eq_true rfl) dX12_quaternionLine_38 rfl (fun H locs hM => ?_)
      refine r_aload_n (np := 42) G hl 0 rfl dX12_quaternionLine_41 rfl rfl ?_
      refine r_getI (np := 45) G hM (shp_lt g0 (by decide)) g0 fdX12_19 lkX12_175 dX12_quaternionLine_42 rfl ?_
      obtain ⟨g22, hm⟩ := g_t hm
      obtain ⟨s23, e24, hm⟩ := bnd_t hm
      refine r_iastore (np := 46) G hM g22 rfl s23 e24 dX12_quaternionLine_45 rfl (fun H locs hM => ?_)
      refine r_iconst (np := 47) G 1 dX12_quaternionLine_46 rfl ?_
      exact r_zret G hr hk hM (Or.inr rfl) hm dX12_quaternionLine_47
    · have hm := b_t h16 hm
      refine r_iconst (np := 31) G 0 dX12_quaternionLine_30 rfl ?_
      exact r_zret G hr hk hM (Or.inl rfl) hm dX12_quaternionLine_31
  · have hm := b_t h4 hm
    refine r_iconst (np := 8) G 0 dX12_quaternionLine_7 rfl ?_
    exact r_zret G hr hk hM (Or.inl rfl) hm dX12_quaternionLine_8
theorem gX12_quaternionLine {v0 : Nat} {v1 : Int} {σ : mSt} {out : Int × mSt} (hm : mX12_quaternionLine v0 v1 σ = some out) : isC v0 11 := (g_t hm).1
