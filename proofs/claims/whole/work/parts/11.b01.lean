theorem lkX6_43 : Cond.constantLong RX6 43 (4) ∈ mTs := mTs_in 912 (by decide +kernel) (by decide +kernel)
theorem lkX6_7 : Cond.fieldLink RX6 7 (TX6 0).1 (TX6 0).2.1 (TX6 0).2.2.1 ∈ mTs := mTs_in 281 (by decide +kernel) (by decide +kernel)
theorem lkX6_13 : Cond.fieldLink RX6 13 (TX6 1).1 (TX6 1).2.1 (TX6 1).2.2.1 ∈ mTs := mTs_in 284 (by decide +kernel) (by decide +kernel)
theorem lkX6_45 : Cond.methodLink RX6 45 yJ9_abs_067f4 ∈ mTs := mTs_in 913 (by decide +kernel) (by decide +kernel)
theorem lkX6_51 : Cond.methodLink RX6 51 yX3_lotsByWhole ∈ mTs := mTs_in 914 (by decide +kernel) (by decide +kernel)
theorem myX3_lotsByWhole : mYV yX3_lotsByWhole cX3_lotsByWhole 6 (some .long) 1 := ⟨⟨mTs_in 917 (by decide +kernel) (by decide +kernel), mTs_in 123 (by decide +kernel) (by decide +kernel), ⟨by decide, by decide⟩, by decide +kernel⟩, mTs_in 915 (by decide +kernel) (by decide +kernel), mTs_in 916 (by decide +kernel) (by decide +kernel)⟩
theorem lkX6_54 : Cond.methodLink RX6 54 yX5_divides ∈ mTs := mTs_in 919 (by decide +kernel) (by decide +kernel)
theorem lkX6_60 : Cond.methodLink RX6 60 yX5_quotient ∈ mTs := mTs_in 922 (by decide +kernel) (by decide +kernel)
theorem lkX2_27 : Cond.fieldLink RX2 27 (TX2 3).1 (TX2 3).2.1 (TX2 3).2.2.1 ∈ mTs := mTs_in 305 (by decide +kernel) (by decide +kernel)
theorem fdX2_3 : mFld 2 3 2 7 RX2 TX2 := ⟨rfl, inX2, by decide, rfl, by decide⟩
theorem lkX2_122 : Cond.methodLink RX2 122 yX3_numbersOf ∈ mTs := mTs_in 999 (by decide +kernel) (by decide +kernel)
theorem lkX2_127 : Cond.methodLink RX2 127 yX1_pairing ∈ mTs := mTs_in 1000 (by decide +kernel) (by decide +kernel)
theorem myX1_pairing : mYS yX1_pairing cX1_pairing 6 (some .long) 4 := ⟨⟨mTs_in 1002 (by decide +kernel) (by decide +kernel), mTs_in 126 (by decide +kernel) (by decide +kernel), ⟨by decide, by decide⟩, by decide +kernel⟩, mTs_in 1001 (by decide +kernel) (by decide +kernel)⟩
theorem lkX2_119 : Cond.methodLink RX2 119 yX3_modulus ∈ mTs := mTs_in 998 (by decide +kernel) (by decide +kernel)
theorem lkX2_90 : Cond.methodLink RX2 90 yX1_form ∈ mTs := mTs_in 970 (by decide +kernel) (by decide +kernel)
theorem myX1_form : mYS yX1_form cX1_form 5 (some .long) 3 := ⟨⟨mTs_in 877 (by decide +kernel) (by decide +kernel), mTs_in 126 (by decide +kernel) (by decide +kernel), ⟨by decide, by decide⟩, by decide +kernel⟩, mTs_in 876 (by decide +kernel) (by decide +kernel)⟩
theorem lkX2_31 : Cond.fieldLink RX2 31 (TX2 4).1 (TX2 4).2.1 (TX2 4).2.2.1 ∈ mTs := mTs_in 306 (by decide +kernel) (by decide +kernel)
theorem fdX2_4 : mFld 2 4 2 7 RX2 TX2 := ⟨rfl, inX2, by decide, rfl, by decide⟩
theorem lkX2_100 : Cond.methodLink RX2 100 yX3_settle ∈ mTs := mTs_in 980 (by decide +kernel) (by decide +kernel)
theorem myX3_settle : mYV yX3_settle cX3_settle 6 none 0 := ⟨⟨mTs_in 983 (by decide +kernel) (by decide +kernel), mTs_in 123 (by decide +kernel) (by decide +kernel), ⟨by decide, by decide⟩, by decide +kernel⟩, mTs_in 981 (by decide +kernel) (by decide +kernel), mTs_in 982 (by decide +kernel) (by decide +kernel)⟩
theorem lkX2_103 : Cond.methodLink RX2 103 yX3_lower ∈ mTs := mTs_in 984 (by decide +kernel) (by decide +kernel)
theorem myX3_lower : mYV yX3_lower cX3_lower 5 none 0 := ⟨⟨mTs_in 987 (by decide +kernel) (by decide +kernel), mTs_in 123 (by decide +kernel) (by decide +kernel), ⟨by decide, by decide⟩, by decide +kernel⟩, mTs_in 985 (by decide +kernel) (by decide +kernel), mTs_in 986 (by decide +kernel) (by decide +kernel)⟩
theorem lkX2_39 : Cond.fieldLink RX2 39 (TX2 6).1 (TX2 6).2.1 (TX2 6).2.2.1 ∈ mTs := mTs_in 308 (by decide +kernel) (by decide +kernel)
theorem fdX2_6 : mFld 2 6 2 7 RX2 TX2 := ⟨rfl, inX2, by decide, rfl, by decide⟩
theorem lkX2_123 : Cond.methodLink RX2 123 yX1_multiply ∈ mTs := mTs_in 1008 (by decide +kernel) (by decide +kernel)
theorem myX1_multiply : mYS yX1_multiply cX1_multiply 7 none 5 := ⟨⟨mTs_in 855 (by decide +kernel) (by decide +kernel), mTs_in 126 (by decide +kernel) (by decide +kernel), ⟨by decide, by decide⟩, by decide +kernel⟩, mTs_in 854 (by decide +kernel) (by decide +kernel)⟩
theorem lkX2_96 : Cond.methodLink RX2 96 yX3_add ∈ mTs := mTs_in 975 (by decide +kernel) (by decide +kernel)
theorem myX3_add : mYV yX3_add cX3_add 10 none 1 := ⟨⟨mTs_in 978 (by decide +kernel) (by decide +kernel), mTs_in 123 (by decide +kernel) (by decide +kernel), ⟨by decide, by decide⟩, by decide +kernel⟩, mTs_in 976 (by decide +kernel) (by decide +kernel), mTs_in 977 (by decide +kernel) (by decide +kernel)⟩
theorem lkX2_64 : Cond.methodLink RX2 64 yX3_copy ∈ mTs := mTs_in 971 (by decide +kernel) (by decide +kernel)
theorem myX3_copy : mYV yX3_copy cX3_copy 6 none 2 := ⟨⟨mTs_in 974 (by decide +kernel) (by decide +kernel), mTs_in 123 (by decide +kernel) (by decide +kernel), ⟨by decide, by decide⟩, by decide +kernel⟩, mTs_in 972 (by decide +kernel) (by decide +kernel), mTs_in 973 (by decide +kernel) (by decide +kernel)⟩
theorem lkX2_109 : Cond.methodLink RX2 109 yX6_discriminantOf ∈ mTs := mTs_in 993 (by decide +kernel) (by decide +kernel)
theorem myX6_discriminantOf : mYV yX6_discriminantOf cX6_discriminantOf 6 (some .long) 1 := ⟨⟨mTs_in 911 (by decide +kernel) (by decide +kernel), mTs_in 122 (by decide +kernel) (by decide +kernel), ⟨by decide, by decide⟩, by decide +kernel⟩, mTs_in 909 (by decide +kernel) (by decide +kernel), mTs_in 910 (by decide +kernel) (by decide +kernel)⟩
theorem lkX2_113 : Cond.methodLink RX2 113 yX2_isWhole ∈ mTs := mTs_in 994 (by decide +kernel) (by decide +kernel)
theorem myX2_isWhole : mYV yX2_isWhole cX2_isWhole 7 (some .boolean) 0 := ⟨⟨mTs_in 997 (by decide +kernel) (by decide +kernel), mTs_in 121 (by decide +kernel) (by decide +kernel), ⟨by decide, by decide⟩, by decide +kernel⟩, mTs_in 996 (by decide +kernel) (by decide +kernel), mTs_in 38 (by decide +kernel) (by decide +kernel)⟩
theorem lkX2_116 : Cond.methodLink RX2 116 yX2_multiplyTrial ∈ mTs := mTs_in 1004 (by decide +kernel) (by decide +kernel)
theorem myX2_multiplyTrial : mYV yX2_multiplyTrial cX2_multiplyTrial 3 none 0 := ⟨⟨mTs_in 1007 (by decide +kernel) (by decide +kernel), mTs_in 121 (by decide +kernel) (by decide +kernel), ⟨by decide, by decide⟩, by decide +kernel⟩, mTs_in 1006 (by decide +kernel) (by decide +kernel), mTs_in 39 (by decide +kernel) (by decide +kernel)⟩
theorem ptX2_3 : mPut 2 3 2 7 RX2 TX2 tyX2 (.object "MiddleAlgebras$Lattice") := ⟨fdX2_3, tyX2_ok, nmX2, (by decide +kernel), rfl⟩
theorem ptX2_4 : mPut 2 4 2 7 RX2 TX2 tyX2 (.object "MiddleAlgebras$Lattice") := ⟨fdX2_4, tyX2_ok, nmX2, (by decide +kernel), rfl⟩
theorem lkX2_61 : Cond.fieldLinkNest RX2 61 (TX6 2).1 (TX6 2).2.1 (TX6 2).2.2.1 "MiddleAlgebras" ∈ mTs := mTs_in 288 (by decide +kernel) (by decide +kernel)
theorem lkX2_16 : Cond.fieldLink RX2 16 (TX2 1).1 (TX2 1).2.1 (TX2 1).2.2.1 ∈ mTs := mTs_in 303 (by decide +kernel) (by decide +kernel)
theorem fdX2_1 : mFld 2 1 0 7 RX2 TX2 := ⟨rfl, inX2, by decide, rfl, by decide⟩
theorem lkX2_106 : Cond.methodLink RX2 106 yX2_isClosedWhole ∈ mTs := mTs_in 989 (by decide +kernel) (by decide +kernel)
theorem myX2_isClosedWhole : mYV yX2_isClosedWhole cX2_isClosedWhole 5 (some .boolean) 0 := ⟨⟨mTs_in 992 (by decide +kernel) (by decide +kernel), mTs_in 121 (by decide +kernel) (by decide +kernel), ⟨by decide, by decide⟩, by decide +kernel⟩, mTs_in 991 (by decide +kernel) (by decide +kernel), mTs_in 37 (by decide +kernel) (by decide +kernel)⟩
theorem lkX6_39 : Cond.methodLink RX6 39 yX6_discriminantOf ∈ mTs := mTs_in 908 (by decide +kernel) (by decide +kernel)
theorem lkX2_58 : Cond.methodLink RX2 58 yX6_discriminant ∈ mTs := mTs_in 1013 (by decide +kernel) (by decide +kernel)
theorem myX6_discriminant : mYV yX6_discriminant cX6_discriminant 1 (some .long) 0 := ⟨⟨mTs_in 907 (by decide +kernel) (by decide +kernel), mTs_in 122 (by decide +kernel) (by decide +kernel), ⟨by decide, by decide⟩, by decide +kernel⟩, mTs_in 905 (by decide +kernel) (by decide +kernel), mTs_in 906 (by decide +kernel) (by decide +kernel)⟩
theorem lkX2_68 : Cond.methodLink RX2 68 yX5_quotient ∈ mTs := mTs_in 1014 (by decide +kernel) (by decide +kernel)
theorem lkX2_47 : Cond.methodLink RX2 47 yX2_goesOn ∈ mTs := mTs_in 952 (by decide +kernel) (by decide +kernel)
theorem myX2_goesOn : mYV yX2_goesOn cX2_goesOn 6 (some .boolean) 2 := ⟨⟨mTs_in 955 (by decide +kernel) (by decide +kernel), mTs_in 121 (by decide +kernel) (by decide +kernel), ⟨by decide, by decide⟩, by decide +kernel⟩, mTs_in 954 (by decide +kernel) (by decide +kernel), mTs_in 35 (by decide +kernel) (by decide +kernel)⟩
theorem lkX2_51 : Cond.methodLink RX2 51 yX2_isFit ∈ mTs := mTs_in 966 (by decide +kernel) (by decide +kernel)
theorem myX2_isFit : mYV yX2_isFit cX2_isFit 2 (some .boolean) 0 := ⟨⟨mTs_in 969 (by decide +kernel) (by decide +kernel), mTs_in 121 (by decide +kernel) (by decide +kernel), ⟨by decide, by decide⟩, by decide +kernel⟩, mTs_in 968 (by decide +kernel) (by decide +kernel), mTs_in 36 (by decide +kernel) (by decide +kernel)⟩
theorem lkX2_55 : Cond.methodLink RX2 55 yX2_takeTrial ∈ mTs := mTs_in 1009 (by decide +kernel) (by decide +kernel)
theorem myX2_takeTrial : mYV yX2_takeTrial cX2_takeTrial 3 (some .long) 0 := ⟨⟨mTs_in 1012 (by decide +kernel) (by decide +kernel), mTs_in 121 (by decide +kernel) (by decide +kernel), ⟨by decide, by decide⟩, by decide +kernel⟩, mTs_in 1011 (by decide +kernel) (by decide +kernel), mTs_in 40 (by decide +kernel) (by decide +kernel)⟩
theorem ptX2_0 : mPut 2 0 2 7 RX2 TX2 tyX2 (.object "MiddleAlgebras$Order") := ⟨fdX2_0, tyX2_ok, nmX2, (by decide +kernel), rfl⟩
theorem ptX2_1 : mPut 2 1 0 7 RX2 TX2 tyX2 .int := ⟨fdX2_1, tyX2_ok, nmX2, (by decide +kernel), rfl⟩
theorem lkX2_43 : Cond.methodLink RX2 43 yX6_below ∈ mTs := mTs_in 944 (by decide +kernel) (by decide +kernel)
theorem myX6_below : mYV yX6_below cX6_below 1 (some .long) 0 := ⟨⟨mTs_in 947 (by decide +kernel) (by decide +kernel), mTs_in 122 (by decide +kernel) (by decide +kernel), ⟨by decide, by decide⟩, by decide +kernel⟩, mTs_in 945 (by decide +kernel) (by decide +kernel), mTs_in 946 (by decide +kernel) (by decide +kernel)⟩
theorem ptX2_2 : mPut 2 2 1 7 RX2 TX2 tyX2 .long := ⟨fdX2_2, tyX2_ok, nmX2, (by decide +kernel), rfl⟩
theorem lkX3_38 : Cond.methodLink RX3 38 yX5_divides ∈ mTs := mTs_in 1044 (by decide +kernel) (by decide +kernel)
theorem lkX3_34 : Cond.methodLink RX3 34 yX3_express ∈ mTs := mTs_in 1106 (by decide +kernel) (by decide +kernel)
theorem myX3_express : mYV yX3_express cX3_express 6 (some .boolean) 1 := ⟨⟨mTs_in 1043 (by decide +kernel) (by decide +kernel), mTs_in 123 (by decide +kernel) (by decide +kernel), ⟨by decide, by decide⟩, by decide +kernel⟩, mTs_in 1041 (by decide +kernel) (by decide +kernel), mTs_in 1042 (by decide +kernel) (by decide +kernel)⟩
theorem lkX4_10 : Cond.fieldLink RX4 10 (TX4 0).1 (TX4 0).2.1 (TX4 0).2.2.1 ∈ mTs := mTs_in 356 (by decide +kernel) (by decide +kernel)
theorem inX4 : ∀ w ∈ u_ws RX4 TX4 3, w ∈ mTs := mTs_ins _ [359, 361, 363] (by decide +kernel) (by decide +kernel)
theorem fdX4_0 : mFld 4 0 2 3 RX4 TX4 := ⟨rfl, inX4, by decide, rfl, by decide⟩
theorem ptX4_0 : mPut 4 0 2 3 RX4 TX4 tyX4 (.object "MiddleAlgebras$Order") := ⟨fdX4_0, tyX4_ok, nmX4, (by decide +kernel), rfl⟩
theorem lkX4_27 : Cond.fieldLinkNest RX4 27 (TX6 0).1 (TX6 0).2.1 (TX6 0).2.2.1 "MiddleAlgebras" ∈ mTs := mTs_in 282 (by decide +kernel) (by decide +kernel)
theorem lkX4_31 : Cond.fieldLinkNest RX4 31 (TX6 1).1 (TX6 1).2.1 (TX6 1).2.2.1 "MiddleAlgebras" ∈ mTs := mTs_in 285 (by decide +kernel) (by decide +kernel)
theorem lkX4_34 : Cond.fieldLinkNest RX4 34 (TX1 0).1 (TX1 0).2.1 (TX1 0).2.2.1 "MiddleAlgebras" ∈ mTs := mTs_in 372 (by decide +kernel) (by decide +kernel)
theorem lkX4_39 : Cond.methodLink RX4 39 yX1_form ∈ mTs := mTs_in 1069 (by decide +kernel) (by decide +kernel)
theorem lkX4_19 : Cond.fieldLink RX4 19 (TX4 1).1 (TX4 1).2.1 (TX4 1).2.2.1 ∈ mTs := mTs_in 357 (by decide +kernel) (by decide +kernel)
theorem fdX4_1 : mFld 4 1 2 3 RX4 TX4 := ⟨rfl, inX4, by decide, rfl, by decide⟩
theorem lkX4_43 : Cond.fieldLinkNest RX4 43 (TX1 1).1 (TX1 1).2.1 (TX1 1).2.2.1 "MiddleAlgebras" ∈ mTs := mTs_in 376 (by decide +kernel) (by decide +kernel)
theorem lkX4_46 : Cond.methodLink RX4 46 yX5_quotient ∈ mTs := mTs_in 1070 (by decide +kernel) (by decide +kernel)
theorem lkX4_52 : Cond.methodLink RX4 52 yJ9_abs_067f4 ∈ mTs := mTs_in 1071 (by decide +kernel) (by decide +kernel)
theorem lkX4_58 : Cond.methodLink RX4 58 yX3_begin ∈ mTs := mTs_in 1072 (by decide +kernel) (by decide +kernel)
theorem myX3_begin : mYV yX3_begin cX3_begin 5 none 1 := ⟨⟨mTs_in 761 (by decide +kernel) (by decide +kernel), mTs_in 123 (by decide +kernel) (by decide +kernel), ⟨by decide, by decide⟩, by decide +kernel⟩, mTs_in 759 (by decide +kernel) (by decide +kernel), mTs_in 760 (by decide +kernel) (by decide +kernel)⟩
theorem lkX6_82 : Cond.methodLink RX6 82 yX3_express ∈ mTs := mTs_in 1040 (by decide +kernel) (by decide +kernel)
theorem lkX6_23 : Cond.fieldLink RX6 23 (TX6 3).1 (TX6 3).2.1 (TX6 3).2.2.1 ∈ mTs := mTs_in 289 (by decide +kernel) (by decide +kernel)
theorem fdX6_3 : mFld 5 3 2 4 RX6 TX6 := ⟨rfl, inX6, by decide, rfl, by decide⟩
theorem lkX6_78 : Cond.methodLink RX6 78 yX1_multiply ∈ mTs := mTs_in 1082 (by decide +kernel) (by decide +kernel)
theorem lkX6_74 : Cond.methodLink RX6 74 yX6_expressOver ∈ mTs := mTs_in 1036 (by decide +kernel) (by decide +kernel)
theorem myX6_expressOver : mYV yX6_expressOver cX6_expressOver 8 (some .boolean) 4 := ⟨⟨mTs_in 1039 (by decide +kernel) (by decide +kernel), mTs_in 122 (by decide +kernel) (by decide +kernel), ⟨by decide, by decide⟩, by decide +kernel⟩, mTs_in 1038 (by decide +kernel) (by decide +kernel), mTs_in 42 (by decide +kernel) (by decide +kernel)⟩
theorem lkX4_74 : Cond.methodLink RX4 74 yX3_settle ∈ mTs := mTs_in 1084 (by decide +kernel) (by decide +kernel)
theorem lkX4_62 : Cond.methodLink RX4 62 yX6_numbersOf ∈ mTs := mTs_in 1077 (by decide +kernel) (by decide +kernel)
theorem lkX4_23 : Cond.fieldLink RX4 23 (TX4 2).1 (TX4 2).2.1 (TX4 2).2.2.1 ∈ mTs := mTs_in 358 (by decide +kernel) (by decide +kernel)
theorem fdX4_2 : mFld 4 2 2 3 RX4 TX4 := ⟨rfl, inX4, by decide, rfl, by decide⟩
theorem lkX4_66 : Cond.methodLink RX4 66 yX6_expressProduct ∈ mTs := mTs_in 1078 (by decide +kernel) (by decide +kernel)
theorem myX6_expressProduct : mYV yX6_expressProduct cX6_expressProduct 6 (some .boolean) 4 := ⟨⟨mTs_in 1081 (by decide +kernel) (by decide +kernel), mTs_in 122 (by decide +kernel) (by decide +kernel), ⟨by decide, by decide⟩, by decide +kernel⟩, mTs_in 1079 (by decide +kernel) (by decide +kernel), mTs_in 1080 (by decide +kernel) (by decide +kernel)⟩
theorem lkX4_70 : Cond.methodLink RX4 70 yX3_add ∈ mTs := mTs_in 1083 (by decide +kernel) (by decide +kernel)
theorem lkX4_77 : Cond.methodLink RX4 77 yX3_lots ∈ mTs := mTs_in 1089 (by decide +kernel) (by decide +kernel)
theorem myX3_lots : mYV yX3_lots cX3_lots 1 (some .long) 0 := ⟨⟨mTs_in 1092 (by decide +kernel) (by decide +kernel), mTs_in 123 (by decide +kernel) (by decide +kernel), ⟨by decide, by decide⟩, by decide +kernel⟩, mTs_in 1090 (by decide +kernel) (by decide +kernel), mTs_in 1091 (by decide +kernel) (by decide +kernel)⟩
theorem lkX6_64 : Cond.fieldLinkNest RX6 64 (TX1 0).1 (TX1 0).2.1 (TX1 0).2.2.1 "MiddleAlgebras" ∈ mTs := mTs_in 373 (by decide +kernel) (by decide +kernel)
theorem lkX6_69 : Cond.fieldLinkNest RX6 69 (TX1 1).1 (TX1 1).2.1 (TX1 1).2.2.1 "MiddleAlgebras" ∈ mTs := mTs_in 377 (by decide +kernel) (by decide +kernel)
theorem lkX6_72 : Cond.methodLink RX6 72 yX6_below ∈ mTs := mTs_in 1035 (by decide +kernel) (by decide +kernel)
theorem lkX4_81 : Cond.methodLink RX4 81 yX6_express ∈ mTs := mTs_in 1101 (by decide +kernel) (by decide +kernel)
theorem myX6_express : mYV yX6_express cX6_express 3 (some .boolean) 2 := ⟨⟨mTs_in 1034 (by decide +kernel) (by decide +kernel), mTs_in 122 (by decide +kernel) (by decide +kernel), ⟨by decide, by decide⟩, by decide +kernel⟩, mTs_in 1032 (by decide +kernel) (by decide +kernel), mTs_in 1033 (by decide +kernel) (by decide +kernel)⟩
theorem lkX4_85 : Cond.methodLink RX4 85 yX3_has ∈ mTs := mTs_in 1102 (by decide +kernel) (by decide +kernel)
theorem myX3_has : mYV yX3_has cX3_has 3 (some .boolean) 1 := ⟨⟨mTs_in 1105 (by decide +kernel) (by decide +kernel), mTs_in 123 (by decide +kernel) (by decide +kernel), ⟨by decide, by decide⟩, by decide +kernel⟩, mTs_in 1103 (by decide +kernel) (by decide +kernel), mTs_in 1104 (by decide +kernel) (by decide +kernel)⟩
theorem ptX6_0 : mPut 5 0 1 4 RX6 TX6 tyX6 .long := ⟨fdX6_0, tyX6_ok, nmX6, (by decide +kernel), rfl⟩
theorem ptX6_1 : mPut 5 1 1 4 RX6 TX6 tyX6 .long := ⟨fdX6_1, tyX6_ok, nmX6, (by decide +kernel), rfl⟩
theorem lkX6_27 : Cond.methodLink RX6 27 yX3_begin ∈ mTs := mTs_in 758 (by decide +kernel) (by decide +kernel)
theorem lkX6_106 : Cond.methodLink RX6 106 yX5_rest ∈ mTs := mTs_in 1133 (by decide +kernel) (by decide +kernel)
theorem lkX6_87 : Cond.methodLink RX6 87 yX5_root ∈ mTs := mTs_in 1124 (by decide +kernel) (by decide +kernel)
theorem myX5_root : mYS yX5_root cX5_root 8 (some .long) 1 := ⟨⟨mTs_in 894 (by decide +kernel) (by decide +kernel), mTs_in 133 (by decide +kernel) (by decide +kernel), ⟨by decide, by decide⟩, by decide +kernel⟩, mTs_in 893 (by decide +kernel) (by decide +kernel)⟩
theorem lkX6_86 : Cond.methodLink RX6 86 yX6_numbersOf ∈ mTs := mTs_in 1123 (by decide +kernel) (by decide +kernel)
theorem lkX6_102 : Cond.methodLink RX6 102 yX6_countFourth ∈ mTs := mTs_in 1138 (by decide +kernel) (by decide +kernel)
theorem myX6_countFourth : mYV yX6_countFourth cX6_countFourth 12 (some .int) 2 := ⟨⟨mTs_in 1141 (by decide +kernel) (by decide +kernel), mTs_in 122 (by decide +kernel) (by decide +kernel), ⟨by decide, by decide⟩, by decide +kernel⟩, mTs_in 1140 (by decide +kernel) (by decide +kernel), mTs_in 49 (by decide +kernel) (by decide +kernel)⟩
theorem lkX6_94 : Cond.methodLink RX6 94 yX6_leastFrom ∈ mTs := mTs_in 1129 (by decide +kernel) (by decide +kernel)
theorem myX6_leastFrom : mYV yX6_leastFrom cX6_leastFrom 7 (some .long) 3 := ⟨⟨mTs_in 1132 (by decide +kernel) (by decide +kernel), mTs_in 122 (by decide +kernel) (by decide +kernel), ⟨by decide, by decide⟩, by decide +kernel⟩, mTs_in 1131 (by decide +kernel) (by decide +kernel), mTs_in 47 (by decide +kernel) (by decide +kernel)⟩
theorem lkX6_98 : Cond.methodLink RX6 98 yX6_countThird ∈ mTs := mTs_in 1134 (by decide +kernel) (by decide +kernel)
theorem myX6_countThird : mYV yX6_countThird cX6_countThird 16 (some .int) 3 := ⟨⟨mTs_in 1137 (by decide +kernel) (by decide +kernel), mTs_in 122 (by decide +kernel) (by decide +kernel), ⟨by decide, by decide⟩, by decide +kernel⟩, mTs_in 1136 (by decide +kernel) (by decide +kernel), mTs_in 48 (by decide +kernel) (by decide +kernel)⟩
theorem dX3_lotsByWhole_0 : decode cX3_lotsByWhole 0 = .ok (.lconst 1, 1) := by decide +kernel
theorem dX3_lotsByWhole_1 : decode cX3_lotsByWhole 1 = .ok (.lstore_n 3, 1) := by decide +kernel
theorem dX3_lotsByWhole_2 : decode cX3_lotsByWhole 2 = .ok (.iconst 0, 1) := by decide +kernel
theorem dX3_lotsByWhole_3 : decode cX3_lotsByWhole 3 = .ok (.istore 5, 2) := by decide +kernel
theorem dX3_lotsByWhole_5 : decode cX3_lotsByWhole 5 = .ok (.iload 5, 2) := by decide +kernel
theorem dX3_lotsByWhole_7 : decode cX3_lotsByWhole 7 = .ok (.iconst 4, 1) := by decide +kernel
theorem dX3_lotsByWhole_8 : decode cX3_lotsByWhole 8 = .ok (.if_icmp .ge 37, 3) := by decide +kernel
theorem dX3_lotsByWhole_11 : decode cX3_lotsByWhole 11 = .ok (.lload_n 3, 1) := by decide +kernel
theorem dX3_lotsByWhole_12 : decode cX3_lotsByWhole 12 = .ok (.aload_n 0, 1) := by decide +kernel
theorem dX3_lotsByWhole_13 : decode cX3_lotsByWhole 13 = .ok (.getfield 18, 3) := by decide +kernel
theorem dX3_lotsByWhole_16 : decode cX3_lotsByWhole 16 = .ok (.aload_n 0, 1) := by decide +kernel
theorem dX3_lotsByWhole_17 : decode cX3_lotsByWhole 17 = .ok (.getfield 9, 3) := by decide +kernel
theorem dX3_lotsByWhole_20 : decode cX3_lotsByWhole 20 = .ok (.iload 5, 2) := by decide +kernel
theorem dX3_lotsByWhole_22 : decode cX3_lotsByWhole 22 = .ok (.aaload, 1) := by decide +kernel
theorem dX3_lotsByWhole_23 : decode cX3_lotsByWhole 23 = .ok (.iload 5, 2) := by decide +kernel
theorem dX3_lotsByWhole_25 : decode cX3_lotsByWhole 25 = .ok (.laload, 1) := by decide +kernel
theorem dX3_lotsByWhole_26 : decode cX3_lotsByWhole 26 = .ok (.invokestatic 28, 3) := by decide +kernel
theorem dX3_lotsByWhole_29 : decode cX3_lotsByWhole 29 = .ok (.lmul, 1) := by decide +kernel
theorem dX3_lotsByWhole_30 : decode cX3_lotsByWhole 30 = .ok (.lstore_n 3, 1) := by decide +kernel
theorem dX3_lotsByWhole_31 : decode cX3_lotsByWhole 31 = .ok (.lload_n 3, 1) := by decide +kernel
theorem dX3_lotsByWhole_32 : decode cX3_lotsByWhole 32 = .ok (.lload_n 1, 1) := by decide +kernel
theorem dX3_lotsByWhole_33 : decode cX3_lotsByWhole 33 = .ok (.lcmp, 1) := by decide +kernel
theorem dX3_lotsByWhole_34 : decode cX3_lotsByWhole 34 = .ok (.ifCond .le 5, 3) := by decide +kernel
theorem dX3_lotsByWhole_37 : decode cX3_lotsByWhole 37 = .ok (.lconst 0, 1) := by decide +kernel
theorem dX3_lotsByWhole_38 : decode cX3_lotsByWhole 38 = .ok (.lreturn, 1) := by decide +kernel
theorem dX3_lotsByWhole_39 : decode cX3_lotsByWhole 39 = .ok (.iinc 5 1, 3) := by decide +kernel
theorem dX3_lotsByWhole_42 : decode cX3_lotsByWhole 42 = .ok (.goto (-37), 3) := by decide +kernel
theorem dX3_lotsByWhole_45 : decode cX3_lotsByWhole 45 = .ok (.lload_n 3, 1) := by decide +kernel
theorem dX3_lotsByWhole_46 : decode cX3_lotsByWhole 46 = .ok (.lreturn, 1) := by decide +kernel
theorem dX6_discriminantOf_0 : decode cX6_discriminantOf 0 = .ok (.ldc2_w 43, 3) := by decide +kernel
theorem dX6_discriminantOf_3 : decode cX6_discriminantOf 3 = .ok (.aload_n 0, 1) := by decide +kernel
theorem dX6_discriminantOf_4 : decode cX6_discriminantOf 4 = .ok (.getfield 7, 3) := by decide +kernel
theorem dX6_discriminantOf_7 : decode cX6_discriminantOf 7 = .ok (.lmul, 1) := by decide +kernel
theorem dX6_discriminantOf_8 : decode cX6_discriminantOf 8 = .ok (.aload_n 0, 1) := by decide +kernel
theorem dX6_discriminantOf_9 : decode cX6_discriminantOf 9 = .ok (.getfield 13, 3) := by decide +kernel
theorem dX6_discriminantOf_12 : decode cX6_discriminantOf 12 = .ok (.lmul, 1) := by decide +kernel
theorem dX6_discriminantOf_13 : decode cX6_discriminantOf 13 = .ok (.invokestatic 45, 3) := by decide +kernel
theorem dX6_discriminantOf_16 : decode cX6_discriminantOf 16 = .ok (.lstore_n 2, 1) := by decide +kernel
theorem dX6_discriminantOf_17 : decode cX6_discriminantOf 17 = .ok (.aload_n 1, 1) := by decide +kernel
theorem dX6_discriminantOf_18 : decode cX6_discriminantOf 18 = .ok (.lload_n 2, 1) := by decide +kernel
theorem dX6_discriminantOf_19 : decode cX6_discriminantOf 19 = .ok (.invokevirtual 51, 3) := by decide +kernel
theorem dX6_discriminantOf_22 : decode cX6_discriminantOf 22 = .ok (.lstore 4, 2) := by decide +kernel
theorem dX6_discriminantOf_24 : decode cX6_discriminantOf 24 = .ok (.lload 4, 2) := by decide +kernel
theorem dX6_discriminantOf_26 : decode cX6_discriminantOf 26 = .ok (.lload_n 2, 1) := by decide +kernel
theorem dX6_discriminantOf_27 : decode cX6_discriminantOf 27 = .ok (.invokestatic 54, 3) := by decide +kernel
theorem dX6_discriminantOf_30 : decode cX6_discriminantOf 30 = .ok (.ifCond .eq 12, 3) := by decide +kernel
theorem dX6_discriminantOf_33 : decode cX6_discriminantOf 33 = .ok (.lload_n 2, 1) := by decide +kernel
theorem dX6_discriminantOf_34 : decode cX6_discriminantOf 34 = .ok (.lload 4, 2) := by decide +kernel
theorem dX6_discriminantOf_36 : decode cX6_discriminantOf 36 = .ok (.invokestatic 60, 3) := by decide +kernel
theorem dX6_discriminantOf_39 : decode cX6_discriminantOf 39 = .ok (.goto 4, 3) := by decide +kernel
theorem dX6_discriminantOf_42 : decode cX6_discriminantOf 42 = .ok (.lconst 0, 1) := by decide +kernel
theorem dX6_discriminantOf_43 : decode cX6_discriminantOf 43 = .ok (.lreturn, 1) := by decide +kernel
theorem dX2_isWhole_0 : decode cX2_isWhole 0 = .ok (.aload_n 0, 1) := by decide +kernel
theorem dX2_isWhole_1 : decode cX2_isWhole 1 = .ok (.getfield 27, 3) := by decide +kernel
theorem dX2_isWhole_4 : decode cX2_isWhole 4 = .ok (.invokevirtual 119, 3) := by decide +kernel
theorem dX2_isWhole_7 : decode cX2_isWhole 7 = .ok (.aload_n 0, 1) := by decide +kernel
theorem dX2_isWhole_8 : decode cX2_isWhole 8 = .ok (.getfield 27, 3) := by decide +kernel
theorem dX2_isWhole_11 : decode cX2_isWhole 11 = .ok (.invokevirtual 119, 3) := by decide +kernel
theorem dX2_isWhole_14 : decode cX2_isWhole 14 = .ok (.lmul, 1) := by decide +kernel
theorem dX2_isWhole_15 : decode cX2_isWhole 15 = .ok (.lstore_n 1, 1) := by decide +kernel
theorem dX2_isWhole_16 : decode cX2_isWhole 16 = .ok (.iconst 1, 1) := by decide +kernel
theorem dX2_isWhole_17 : decode cX2_isWhole 17 = .ok (.istore_n 3, 1) := by decide +kernel
theorem dX2_isWhole_18 : decode cX2_isWhole 18 = .ok (.iconst 0, 1) := by decide +kernel
theorem dX2_isWhole_19 : decode cX2_isWhole 19 = .ok (.istore 4, 2) := by decide +kernel
theorem dX2_isWhole_21 : decode cX2_isWhole 21 = .ok (.iload 4, 2) := by decide +kernel
theorem dX2_isWhole_23 : decode cX2_isWhole 23 = .ok (.iconst 4, 1) := by decide +kernel
theorem dX2_isWhole_24 : decode cX2_isWhole 24 = .ok (.if_icmp .ge 130, 3) := by decide +kernel
theorem dX2_isWhole_27 : decode cX2_isWhole 27 = .ok (.iload_n 3, 1) := by decide +kernel
theorem dX2_isWhole_28 : decode cX2_isWhole 28 = .ok (.ifCond .eq 126, 3) := by decide +kernel
theorem dX2_isWhole_31 : decode cX2_isWhole 31 = .ok (.aload_n 0, 1) := by decide +kernel
theorem dX2_isWhole_32 : decode cX2_isWhole 32 = .ok (.getfield 27, 3) := by decide +kernel
theorem dX2_isWhole_35 : decode cX2_isWhole 35 = .ok (.iload 4, 2) := by decide +kernel
theorem dX2_isWhole_37 : decode cX2_isWhole 37 = .ok (.invokevirtual 122, 3) := by decide +kernel
theorem dX2_isWhole_40 : decode cX2_isWhole 40 = .ok (.astore 5, 2) := by decide +kernel
theorem dX2_isWhole_42 : decode cX2_isWhole 42 = .ok (.aload_n 0, 1) := by decide +kernel
theorem dX2_isWhole_43 : decode cX2_isWhole 43 = .ok (.getfield 27, 3) := by decide +kernel
theorem dX2_isWhole_46 : decode cX2_isWhole 46 = .ok (.invokevirtual 119, 3) := by decide +kernel
theorem dX2_isWhole_49 : decode cX2_isWhole 49 = .ok (.ldc2_w 84, 3) := by decide +kernel
theorem dX2_isWhole_52 : decode cX2_isWhole 52 = .ok (.aload 5, 2) := by decide +kernel
theorem dX2_isWhole_54 : decode cX2_isWhole 54 = .ok (.iconst 0, 1) := by decide +kernel
theorem dX2_isWhole_55 : decode cX2_isWhole 55 = .ok (.laload, 1) := by decide +kernel
theorem dX2_isWhole_56 : decode cX2_isWhole 56 = .ok (.lmul, 1) := by decide +kernel
theorem dX2_isWhole_57 : decode cX2_isWhole 57 = .ok (.invokestatic 86, 3) := by decide +kernel
theorem dX2_isWhole_60 : decode cX2_isWhole 60 = .ok (.ifCond .eq 33, 3) := by decide +kernel
theorem dX2_isWhole_63 : decode cX2_isWhole 63 = .ok (.lload_n 1, 1) := by decide +kernel
theorem dX2_isWhole_64 : decode cX2_isWhole 64 = .ok (.aload_n 0, 1) := by decide +kernel
theorem dX2_isWhole_65 : decode cX2_isWhole 65 = .ok (.getfield 10, 3) := by decide +kernel
theorem dX2_isWhole_68 : decode cX2_isWhole 68 = .ok (.getfield 78, 3) := by decide +kernel
theorem dX2_isWhole_71 : decode cX2_isWhole 71 = .ok (.aload_n 0, 1) := by decide +kernel
theorem dX2_isWhole_72 : decode cX2_isWhole 72 = .ok (.getfield 10, 3) := by decide +kernel
theorem dX2_isWhole_75 : decode cX2_isWhole 75 = .ok (.getfield 81, 3) := by decide +kernel
theorem dX2_isWhole_78 : decode cX2_isWhole 78 = .ok (.aload 5, 2) := by decide +kernel
theorem dX2_isWhole_80 : decode cX2_isWhole 80 = .ok (.invokestatic 90, 3) := by decide +kernel
theorem dX2_isWhole_83 : decode cX2_isWhole 83 = .ok (.invokestatic 86, 3) := by decide +kernel
theorem dX2_isWhole_86 : decode cX2_isWhole 86 = .ok (.ifCond .eq 7, 3) := by decide +kernel
theorem dX2_isWhole_89 : decode cX2_isWhole 89 = .ok (.iconst 1, 1) := by decide +kernel
theorem dX2_isWhole_90 : decode cX2_isWhole 90 = .ok (.goto 4, 3) := by decide +kernel
theorem dX2_isWhole_93 : decode cX2_isWhole 93 = .ok (.iconst 0, 1) := by decide +kernel
theorem dX2_isWhole_94 : decode cX2_isWhole 94 = .ok (.istore_n 3, 1) := by decide +kernel
theorem dX2_isWhole_95 : decode cX2_isWhole 95 = .ok (.iconst 0, 1) := by decide +kernel
theorem dX2_isWhole_96 : decode cX2_isWhole 96 = .ok (.istore 6, 2) := by decide +kernel
theorem dX2_isWhole_98 : decode cX2_isWhole 98 = .ok (.iload 6, 2) := by decide +kernel
theorem dX2_isWhole_100 : decode cX2_isWhole 100 = .ok (.iload 4, 2) := by decide +kernel
theorem dX2_isWhole_102 : decode cX2_isWhole 102 = .ok (.if_icmp .ge 46, 3) := by decide +kernel
theorem dX2_isWhole_105 : decode cX2_isWhole 105 = .ok (.iload_n 3, 1) := by decide +kernel
theorem dX2_isWhole_106 : decode cX2_isWhole 106 = .ok (.ifCond .eq 42, 3) := by decide +kernel
theorem dX2_isWhole_109 : decode cX2_isWhole 109 = .ok (.lload_n 1, 1) := by decide +kernel
theorem dX2_isWhole_110 : decode cX2_isWhole 110 = .ok (.aload_n 0, 1) := by decide +kernel
theorem dX2_isWhole_111 : decode cX2_isWhole 111 = .ok (.getfield 10, 3) := by decide +kernel
theorem dX2_isWhole_114 : decode cX2_isWhole 114 = .ok (.getfield 78, 3) := by decide +kernel
theorem dX2_isWhole_117 : decode cX2_isWhole 117 = .ok (.aload_n 0, 1) := by decide +kernel
theorem dX2_isWhole_118 : decode cX2_isWhole 118 = .ok (.getfield 10, 3) := by decide +kernel
theorem dX2_isWhole_121 : decode cX2_isWhole 121 = .ok (.getfield 81, 3) := by decide +kernel
theorem dX2_isWhole_124 : decode cX2_isWhole 124 = .ok (.aload 5, 2) := by decide +kernel
theorem dX2_isWhole_126 : decode cX2_isWhole 126 = .ok (.aload_n 0, 1) := by decide +kernel
theorem dX2_isWhole_127 : decode cX2_isWhole 127 = .ok (.getfield 27, 3) := by decide +kernel
theorem dX2_isWhole_130 : decode cX2_isWhole 130 = .ok (.iload 6, 2) := by decide +kernel
theorem dX2_isWhole_132 : decode cX2_isWhole 132 = .ok (.invokevirtual 122, 3) := by decide +kernel
theorem dX2_isWhole_135 : decode cX2_isWhole 135 = .ok (.invokestatic 127, 3) := by decide +kernel
theorem dX2_isWhole_138 : decode cX2_isWhole 138 = .ok (.invokestatic 86, 3) := by decide +kernel
theorem dX2_isWhole_141 : decode cX2_isWhole 141 = .ok (.istore_n 3, 1) := by decide +kernel
theorem dX2_isWhole_142 : decode cX2_isWhole 142 = .ok (.iinc 6 1, 3) := by decide +kernel
theorem dX2_isWhole_145 : decode cX2_isWhole 145 = .ok (.goto (-47), 3) := by decide +kernel
theorem dX2_isWhole_148 : decode cX2_isWhole 148 = .ok (.iinc 4 1, 3) := by decide +kernel
theorem dX2_isWhole_151 : decode cX2_isWhole 151 = .ok (.goto (-130), 3) := by decide +kernel
theorem dX2_isWhole_154 : decode cX2_isWhole 154 = .ok (.iload_n 3, 1) := by decide +kernel
theorem dX2_isWhole_155 : decode cX2_isWhole 155 = .ok (.ireturn, 1) := by decide +kernel
theorem dX2_multiplyTrial_0 : decode cX2_multiplyTrial 0 = .ok (.aload_n 0, 1) := by decide +kernel
theorem dX2_multiplyTrial_1 : decode cX2_multiplyTrial 1 = .ok (.getfield 31, 3) := by decide +kernel
theorem dX2_multiplyTrial_4 : decode cX2_multiplyTrial 4 = .ok (.aload_n 0, 1) := by decide +kernel
theorem dX2_multiplyTrial_5 : decode cX2_multiplyTrial 5 = .ok (.getfield 27, 3) := by decide +kernel
theorem dX2_multiplyTrial_8 : decode cX2_multiplyTrial 8 = .ok (.aload_n 0, 1) := by decide +kernel
theorem dX2_multiplyTrial_9 : decode cX2_multiplyTrial 9 = .ok (.getfield 27, 3) := by decide +kernel
theorem dX2_multiplyTrial_12 : decode cX2_multiplyTrial 12 = .ok (.invokevirtual 119, 3) := by decide +kernel
theorem dX2_multiplyTrial_15 : decode cX2_multiplyTrial 15 = .ok (.invokevirtual 64, 3) := by decide +kernel
theorem dX2_multiplyTrial_18 : decode cX2_multiplyTrial 18 = .ok (.iconst 0, 1) := by decide +kernel
theorem dX2_multiplyTrial_19 : decode cX2_multiplyTrial 19 = .ok (.istore_n 1, 1) := by decide +kernel
theorem dX2_multiplyTrial_20 : decode cX2_multiplyTrial 20 = .ok (.iload_n 1, 1) := by decide +kernel
theorem dX2_multiplyTrial_21 : decode cX2_multiplyTrial 21 = .ok (.iconst 4, 1) := by decide +kernel
theorem dX2_multiplyTrial_22 : decode cX2_multiplyTrial 22 = .ok (.if_icmp .ge 70, 3) := by decide +kernel
theorem dX2_multiplyTrial_25 : decode cX2_multiplyTrial 25 = .ok (.iconst 0, 1) := by decide +kernel
theorem dX2_multiplyTrial_26 : decode cX2_multiplyTrial 26 = .ok (.istore_n 2, 1) := by decide +kernel
theorem dX2_multiplyTrial_27 : decode cX2_multiplyTrial 27 = .ok (.iload_n 2, 1) := by decide +kernel
theorem dX2_multiplyTrial_28 : decode cX2_multiplyTrial 28 = .ok (.iconst 4, 1) := by decide +kernel
theorem dX2_multiplyTrial_29 : decode cX2_multiplyTrial 29 = .ok (.if_icmp .ge 57, 3) := by decide +kernel
theorem dX2_multiplyTrial_32 : decode cX2_multiplyTrial 32 = .ok (.aload_n 0, 1) := by decide +kernel
theorem dX2_multiplyTrial_33 : decode cX2_multiplyTrial 33 = .ok (.getfield 10, 3) := by decide +kernel
theorem dX2_multiplyTrial_36 : decode cX2_multiplyTrial 36 = .ok (.getfield 78, 3) := by decide +kernel
theorem dX2_multiplyTrial_39 : decode cX2_multiplyTrial 39 = .ok (.aload_n 0, 1) := by decide +kernel
theorem dX2_multiplyTrial_40 : decode cX2_multiplyTrial 40 = .ok (.getfield 10, 3) := by decide +kernel
theorem dX2_multiplyTrial_43 : decode cX2_multiplyTrial 43 = .ok (.getfield 81, 3) := by decide +kernel
theorem dX2_multiplyTrial_46 : decode cX2_multiplyTrial 46 = .ok (.aload_n 0, 1) := by decide +kernel
theorem dX2_multiplyTrial_47 : decode cX2_multiplyTrial 47 = .ok (.getfield 27, 3) := by decide +kernel
theorem dX2_multiplyTrial_50 : decode cX2_multiplyTrial 50 = .ok (.iload_n 1, 1) := by decide +kernel
theorem dX2_multiplyTrial_51 : decode cX2_multiplyTrial 51 = .ok (.invokevirtual 122, 3) := by decide +kernel
theorem dX2_multiplyTrial_54 : decode cX2_multiplyTrial 54 = .ok (.aload_n 0, 1) := by decide +kernel
theorem dX2_multiplyTrial_55 : decode cX2_multiplyTrial 55 = .ok (.getfield 27, 3) := by decide +kernel
theorem dX2_multiplyTrial_58 : decode cX2_multiplyTrial 58 = .ok (.iload_n 2, 1) := by decide +kernel
theorem dX2_multiplyTrial_59 : decode cX2_multiplyTrial 59 = .ok (.invokevirtual 122, 3) := by decide +kernel
theorem dX2_multiplyTrial_62 : decode cX2_multiplyTrial 62 = .ok (.aload_n 0, 1) := by decide +kernel
theorem dX2_multiplyTrial_63 : decode cX2_multiplyTrial 63 = .ok (.getfield 39, 3) := by decide +kernel
theorem dX2_multiplyTrial_66 : decode cX2_multiplyTrial 66 = .ok (.invokestatic 123, 3) := by decide +kernel
theorem dX2_multiplyTrial_69 : decode cX2_multiplyTrial 69 = .ok (.aload_n 0, 1) := by decide +kernel
theorem dX2_multiplyTrial_70 : decode cX2_multiplyTrial 70 = .ok (.getfield 31, 3) := by decide +kernel
theorem dX2_multiplyTrial_73 : decode cX2_multiplyTrial 73 = .ok (.aload_n 0, 1) := by decide +kernel
theorem dX2_multiplyTrial_74 : decode cX2_multiplyTrial 74 = .ok (.getfield 39, 3) := by decide +kernel
theorem dX2_multiplyTrial_77 : decode cX2_multiplyTrial 77 = .ok (.invokevirtual 96, 3) := by decide +kernel
theorem dX2_multiplyTrial_80 : decode cX2_multiplyTrial 80 = .ok (.iinc 2 1, 3) := by decide +kernel
theorem dX2_multiplyTrial_83 : decode cX2_multiplyTrial 83 = .ok (.goto (-56), 3) := by decide +kernel
theorem dX2_multiplyTrial_86 : decode cX2_multiplyTrial 86 = .ok (.iinc 1 1, 3) := by decide +kernel
theorem dX2_multiplyTrial_89 : decode cX2_multiplyTrial 89 = .ok (.goto (-69), 3) := by decide +kernel
theorem dX2_multiplyTrial_92 : decode cX2_multiplyTrial 92 = .ok (.aload_n 0, 1) := by decide +kernel
theorem dX2_multiplyTrial_93 : decode cX2_multiplyTrial 93 = .ok (.getfield 31, 3) := by decide +kernel
theorem dX2_multiplyTrial_96 : decode cX2_multiplyTrial 96 = .ok (.invokevirtual 100, 3) := by decide +kernel
theorem dX2_multiplyTrial_99 : decode cX2_multiplyTrial 99 = .ok (.aload_n 0, 1) := by decide +kernel
theorem dX2_multiplyTrial_100 : decode cX2_multiplyTrial 100 = .ok (.getfield 31, 3) := by decide +kernel
theorem dX2_multiplyTrial_103 : decode cX2_multiplyTrial 103 = .ok (.invokevirtual 103, 3) := by decide +kernel
theorem dX2_multiplyTrial_106 : decode cX2_multiplyTrial 106 = .ok (.return_, 1) := by decide +kernel
theorem dX2_isClosedWhole_0 : decode cX2_isClosedWhole 0 = .ok (.iconst 0, 1) := by decide +kernel
theorem dX2_isClosedWhole_1 : decode cX2_isClosedWhole 1 = .ok (.istore_n 1, 1) := by decide +kernel
theorem dX2_isClosedWhole_2 : decode cX2_isClosedWhole 2 = .ok (.iload_n 1, 1) := by decide +kernel
theorem dX2_isClosedWhole_3 : decode cX2_isClosedWhole 3 = .ok (.bipush 40, 2) := by decide +kernel
theorem dX2_isClosedWhole_5 : decode cX2_isClosedWhole 5 = .ok (.if_icmp .ge 78, 3) := by decide +kernel
theorem dX2_isClosedWhole_8 : decode cX2_isClosedWhole 8 = .ok (.aload_n 0, 1) := by decide +kernel
theorem dX2_isClosedWhole_9 : decode cX2_isClosedWhole 9 = .ok (.getfield 10, 3) := by decide +kernel
theorem dX2_isClosedWhole_12 : decode cX2_isClosedWhole 12 = .ok (.aload_n 0, 1) := by decide +kernel
theorem dX2_isClosedWhole_13 : decode cX2_isClosedWhole 13 = .ok (.getfield 27, 3) := by decide +kernel
theorem dX2_isClosedWhole_16 : decode cX2_isClosedWhole 16 = .ok (.invokevirtual 109, 3) := by decide +kernel
theorem dX2_isClosedWhole_19 : decode cX2_isClosedWhole 19 = .ok (.lstore_n 2, 1) := by decide +kernel
theorem dX2_isClosedWhole_20 : decode cX2_isClosedWhole 20 = .ok (.lload_n 2, 1) := by decide +kernel
theorem dX2_isClosedWhole_21 : decode cX2_isClosedWhole 21 = .ok (.lconst 0, 1) := by decide +kernel
theorem dX2_isClosedWhole_22 : decode cX2_isClosedWhole 22 = .ok (.lcmp, 1) := by decide +kernel
theorem dX2_isClosedWhole_23 : decode cX2_isClosedWhole 23 = .ok (.ifCond .eq 10, 3) := by decide +kernel
theorem dX2_isClosedWhole_26 : decode cX2_isClosedWhole 26 = .ok (.aload_n 0, 1) := by decide +kernel
theorem dX2_isClosedWhole_27 : decode cX2_isClosedWhole 27 = .ok (.invokevirtual 113, 3) := by decide +kernel
theorem dX2_isClosedWhole_30 : decode cX2_isClosedWhole 30 = .ok (.ifCond .ne 5, 3) := by decide +kernel
theorem dX2_isClosedWhole_33 : decode cX2_isClosedWhole 33 = .ok (.iconst 0, 1) := by decide +kernel
theorem dX2_isClosedWhole_34 : decode cX2_isClosedWhole 34 = .ok (.ireturn, 1) := by decide +kernel
theorem dX2_isClosedWhole_35 : decode cX2_isClosedWhole 35 = .ok (.aload_n 0, 1) := by decide +kernel
theorem dX2_isClosedWhole_36 : decode cX2_isClosedWhole 36 = .ok (.invokevirtual 116, 3) := by decide +kernel
theorem dX2_isClosedWhole_39 : decode cX2_isClosedWhole 39 = .ok (.aload_n 0, 1) := by decide +kernel
theorem dX2_isClosedWhole_40 : decode cX2_isClosedWhole 40 = .ok (.getfield 10, 3) := by decide +kernel
theorem dX2_isClosedWhole_43 : decode cX2_isClosedWhole 43 = .ok (.aload_n 0, 1) := by decide +kernel
theorem dX2_isClosedWhole_44 : decode cX2_isClosedWhole 44 = .ok (.getfield 31, 3) := by decide +kernel
theorem dX2_isClosedWhole_47 : decode cX2_isClosedWhole 47 = .ok (.invokevirtual 109, 3) := by decide +kernel
theorem dX2_isClosedWhole_50 : decode cX2_isClosedWhole 50 = .ok (.lload_n 2, 1) := by decide +kernel
theorem dX2_isClosedWhole_51 : decode cX2_isClosedWhole 51 = .ok (.lcmp, 1) := by decide +kernel
theorem dX2_isClosedWhole_52 : decode cX2_isClosedWhole 52 = .ok (.ifCond .ne 5, 3) := by decide +kernel
theorem dX2_isClosedWhole_55 : decode cX2_isClosedWhole 55 = .ok (.iconst 1, 1) := by decide +kernel
theorem dX2_isClosedWhole_56 : decode cX2_isClosedWhole 56 = .ok (.ireturn, 1) := by decide +kernel
theorem dX2_isClosedWhole_57 : decode cX2_isClosedWhole 57 = .ok (.aload_n 0, 1) := by decide +kernel
theorem dX2_isClosedWhole_58 : decode cX2_isClosedWhole 58 = .ok (.getfield 27, 3) := by decide +kernel
theorem dX2_isClosedWhole_61 : decode cX2_isClosedWhole 61 = .ok (.astore 4, 2) := by decide +kernel
theorem dX2_isClosedWhole_63 : decode cX2_isClosedWhole 63 = .ok (.aload_n 0, 1) := by decide +kernel
theorem dX2_isClosedWhole_64 : decode cX2_isClosedWhole 64 = .ok (.aload_n 0, 1) := by decide +kernel
theorem dX2_isClosedWhole_65 : decode cX2_isClosedWhole 65 = .ok (.getfield 31, 3) := by decide +kernel
theorem dX2_isClosedWhole_68 : decode cX2_isClosedWhole 68 = .ok (.putfield 27, 3) := by decide +kernel
theorem dX2_isClosedWhole_71 : decode cX2_isClosedWhole 71 = .ok (.aload_n 0, 1) := by decide +kernel
theorem dX2_isClosedWhole_72 : decode cX2_isClosedWhole 72 = .ok (.aload 4, 2) := by decide +kernel
theorem dX2_isClosedWhole_74 : decode cX2_isClosedWhole 74 = .ok (.putfield 31, 3) := by decide +kernel
theorem dX2_isClosedWhole_77 : decode cX2_isClosedWhole 77 = .ok (.iinc 1 1, 3) := by decide +kernel
theorem dX2_isClosedWhole_80 : decode cX2_isClosedWhole 80 = .ok (.goto (-78), 3) := by decide +kernel
theorem dX2_isClosedWhole_83 : decode cX2_isClosedWhole 83 = .ok (.iconst 0, 1) := by decide +kernel
theorem dX2_isClosedWhole_84 : decode cX2_isClosedWhole 84 = .ok (.ireturn, 1) := by decide +kernel
theorem dX2_isFit_0 : decode cX2_isFit 0 = .ok (.aload_n 0, 1) := by decide +kernel
theorem dX2_isFit_1 : decode cX2_isFit 1 = .ok (.getfield 36, 3) := by decide +kernel
theorem dX2_isFit_4 : decode cX2_isFit 4 = .ok (.iconst 4, 1) := by decide +kernel
theorem dX2_isFit_5 : decode cX2_isFit 5 = .ok (.aaload, 1) := by decide +kernel
theorem dX2_isFit_6 : decode cX2_isFit 6 = .ok (.astore_n 1, 1) := by decide +kernel
theorem dX2_isFit_7 : decode cX2_isFit 7 = .ok (.aload_n 1, 1) := by decide +kernel
theorem dX2_isFit_8 : decode cX2_isFit 8 = .ok (.iconst 0, 1) := by decide +kernel
theorem dX2_isFit_9 : decode cX2_isFit 9 = .ok (.laload, 1) := by decide +kernel
theorem dX2_isFit_10 : decode cX2_isFit 10 = .ok (.lconst 0, 1) := by decide +kernel
theorem dX2_isFit_11 : decode cX2_isFit 11 = .ok (.lcmp, 1) := by decide +kernel
theorem dX2_isFit_12 : decode cX2_isFit 12 = .ok (.ifCond .ne 29, 3) := by decide +kernel
theorem dX2_isFit_15 : decode cX2_isFit 15 = .ok (.aload_n 1, 1) := by decide +kernel
theorem dX2_isFit_16 : decode cX2_isFit 16 = .ok (.iconst 1, 1) := by decide +kernel
theorem dX2_isFit_17 : decode cX2_isFit 17 = .ok (.laload, 1) := by decide +kernel
theorem dX2_isFit_18 : decode cX2_isFit 18 = .ok (.lconst 0, 1) := by decide +kernel
theorem dX2_isFit_19 : decode cX2_isFit 19 = .ok (.lcmp, 1) := by decide +kernel
theorem dX2_isFit_20 : decode cX2_isFit 20 = .ok (.ifCond .ne 21, 3) := by decide +kernel
theorem dX2_isFit_23 : decode cX2_isFit 23 = .ok (.aload_n 1, 1) := by decide +kernel
theorem dX2_isFit_24 : decode cX2_isFit 24 = .ok (.iconst 2, 1) := by decide +kernel
theorem dX2_isFit_25 : decode cX2_isFit 25 = .ok (.laload, 1) := by decide +kernel
theorem dX2_isFit_26 : decode cX2_isFit 26 = .ok (.lconst 0, 1) := by decide +kernel
theorem dX2_isFit_27 : decode cX2_isFit 27 = .ok (.lcmp, 1) := by decide +kernel
theorem dX2_isFit_28 : decode cX2_isFit 28 = .ok (.ifCond .ne 13, 3) := by decide +kernel
theorem dX2_isFit_31 : decode cX2_isFit 31 = .ok (.aload_n 1, 1) := by decide +kernel
theorem dX2_isFit_32 : decode cX2_isFit 32 = .ok (.iconst 3, 1) := by decide +kernel
theorem dX2_isFit_33 : decode cX2_isFit 33 = .ok (.laload, 1) := by decide +kernel
theorem dX2_isFit_34 : decode cX2_isFit 34 = .ok (.lconst 0, 1) := by decide +kernel
theorem dX2_isFit_35 : decode cX2_isFit 35 = .ok (.lcmp, 1) := by decide +kernel
theorem dX2_isFit_36 : decode cX2_isFit 36 = .ok (.ifCond .ne 5, 3) := by decide +kernel
theorem dX2_isFit_39 : decode cX2_isFit 39 = .ok (.iconst 0, 1) := by decide +kernel
theorem dX2_isFit_40 : decode cX2_isFit 40 = .ok (.ireturn, 1) := by decide +kernel
theorem dX2_isFit_41 : decode cX2_isFit 41 = .ok (.aload_n 0, 1) := by decide +kernel
theorem dX2_isFit_42 : decode cX2_isFit 42 = .ok (.getfield 20, 3) := by decide +kernel
theorem dX2_isFit_45 : decode cX2_isFit 45 = .ok (.aload_n 0, 1) := by decide +kernel
theorem dX2_isFit_46 : decode cX2_isFit 46 = .ok (.getfield 20, 3) := by decide +kernel
theorem dX2_isFit_49 : decode cX2_isFit 49 = .ok (.lmul, 1) := by decide +kernel
theorem dX2_isFit_50 : decode cX2_isFit 50 = .ok (.aload_n 0, 1) := by decide +kernel
theorem dX2_isFit_51 : decode cX2_isFit 51 = .ok (.getfield 10, 3) := by decide +kernel
theorem dX2_isFit_54 : decode cX2_isFit 54 = .ok (.getfield 78, 3) := by decide +kernel
theorem dX2_isFit_57 : decode cX2_isFit 57 = .ok (.aload_n 0, 1) := by decide +kernel
theorem dX2_isFit_58 : decode cX2_isFit 58 = .ok (.getfield 10, 3) := by decide +kernel
theorem dX2_isFit_61 : decode cX2_isFit 61 = .ok (.getfield 81, 3) := by decide +kernel
theorem dX2_isFit_64 : decode cX2_isFit 64 = .ok (.aload_n 1, 1) := by decide +kernel
theorem dX2_isFit_65 : decode cX2_isFit 65 = .ok (.invokestatic 90, 3) := by decide +kernel
theorem dX2_isFit_68 : decode cX2_isFit 68 = .ok (.invokestatic 86, 3) := by decide +kernel
theorem dX2_isFit_71 : decode cX2_isFit 71 = .ok (.ifCond .ne 5, 3) := by decide +kernel
theorem dX2_isFit_74 : decode cX2_isFit 74 = .ok (.iconst 0, 1) := by decide +kernel
theorem dX2_isFit_75 : decode cX2_isFit 75 = .ok (.ireturn, 1) := by decide +kernel
theorem dX2_isFit_76 : decode cX2_isFit 76 = .ok (.aload_n 0, 1) := by decide +kernel
theorem dX2_isFit_77 : decode cX2_isFit 77 = .ok (.getfield 27, 3) := by decide +kernel
theorem dX2_isFit_80 : decode cX2_isFit 80 = .ok (.aload_n 0, 1) := by decide +kernel
theorem dX2_isFit_81 : decode cX2_isFit 81 = .ok (.getfield 10, 3) := by decide +kernel
theorem dX2_isFit_84 : decode cX2_isFit 84 = .ok (.getfield 61, 3) := by decide +kernel
theorem dX2_isFit_87 : decode cX2_isFit 87 = .ok (.aload_n 0, 1) := by decide +kernel
theorem dX2_isFit_88 : decode cX2_isFit 88 = .ok (.getfield 16, 3) := by decide +kernel
theorem dX2_isFit_91 : decode cX2_isFit 91 = .ok (.i2l, 1) := by decide +kernel
theorem dX2_isFit_92 : decode cX2_isFit 92 = .ok (.invokevirtual 64, 3) := by decide +kernel
theorem dX2_isFit_95 : decode cX2_isFit 95 = .ok (.aload_n 0, 1) := by decide +kernel
theorem dX2_isFit_96 : decode cX2_isFit 96 = .ok (.getfield 27, 3) := by decide +kernel
theorem dX2_isFit_99 : decode cX2_isFit 99 = .ok (.aload_n 1, 1) := by decide +kernel
theorem dX2_isFit_100 : decode cX2_isFit 100 = .ok (.invokevirtual 96, 3) := by decide +kernel
theorem dX2_isFit_103 : decode cX2_isFit 103 = .ok (.aload_n 0, 1) := by decide +kernel
theorem dX2_isFit_104 : decode cX2_isFit 104 = .ok (.getfield 27, 3) := by decide +kernel
theorem dX2_isFit_107 : decode cX2_isFit 107 = .ok (.invokevirtual 100, 3) := by decide +kernel
theorem dX2_isFit_110 : decode cX2_isFit 110 = .ok (.aload_n 0, 1) := by decide +kernel
theorem dX2_isFit_111 : decode cX2_isFit 111 = .ok (.getfield 27, 3) := by decide +kernel
theorem dX2_isFit_114 : decode cX2_isFit 114 = .ok (.invokevirtual 103, 3) := by decide +kernel
theorem dX2_isFit_117 : decode cX2_isFit 117 = .ok (.aload_n 0, 1) := by decide +kernel
theorem dX2_isFit_118 : decode cX2_isFit 118 = .ok (.invokevirtual 106, 3) := by decide +kernel
theorem dX2_isFit_121 : decode cX2_isFit 121 = .ok (.ireturn, 1) := by decide +kernel
theorem dX6_discriminant_0 : decode cX6_discriminant 0 = .ok (.aload_n 0, 1) := by decide +kernel
theorem dX6_discriminant_1 : decode cX6_discriminant 1 = .ok (.aload_n 0, 1) := by decide +kernel
theorem dX6_discriminant_2 : decode cX6_discriminant 2 = .ok (.getfield 19, 3) := by decide +kernel
theorem dX6_discriminant_5 : decode cX6_discriminant 5 = .ok (.invokevirtual 39, 3) := by decide +kernel
theorem dX6_discriminant_8 : decode cX6_discriminant 8 = .ok (.lreturn, 1) := by decide +kernel
theorem dX2_takeTrial_0 : decode cX2_takeTrial 0 = .ok (.aload_n 0, 1) := by decide +kernel
theorem dX2_takeTrial_1 : decode cX2_takeTrial 1 = .ok (.getfield 10, 3) := by decide +kernel
theorem dX2_takeTrial_4 : decode cX2_takeTrial 4 = .ok (.invokevirtual 58, 3) := by decide +kernel
theorem dX2_takeTrial_7 : decode cX2_takeTrial 7 = .ok (.lstore_n 1, 1) := by decide +kernel
theorem dX2_takeTrial_8 : decode cX2_takeTrial 8 = .ok (.aload_n 0, 1) := by decide +kernel
theorem dX2_takeTrial_9 : decode cX2_takeTrial 9 = .ok (.getfield 10, 3) := by decide +kernel
theorem dX2_takeTrial_12 : decode cX2_takeTrial 12 = .ok (.getfield 61, 3) := by decide +kernel
theorem dX2_takeTrial_15 : decode cX2_takeTrial 15 = .ok (.aload_n 0, 1) := by decide +kernel
theorem dX2_takeTrial_16 : decode cX2_takeTrial 16 = .ok (.getfield 27, 3) := by decide +kernel
theorem dX2_takeTrial_19 : decode cX2_takeTrial 19 = .ok (.lconst 1, 1) := by decide +kernel
theorem dX2_takeTrial_20 : decode cX2_takeTrial 20 = .ok (.invokevirtual 64, 3) := by decide +kernel
theorem dX2_takeTrial_23 : decode cX2_takeTrial 23 = .ok (.lload_n 1, 1) := by decide +kernel
theorem dX2_takeTrial_24 : decode cX2_takeTrial 24 = .ok (.aload_n 0, 1) := by decide +kernel
theorem dX2_takeTrial_25 : decode cX2_takeTrial 25 = .ok (.getfield 10, 3) := by decide +kernel
theorem dX2_takeTrial_28 : decode cX2_takeTrial 28 = .ok (.invokevirtual 58, 3) := by decide +kernel
theorem dX2_takeTrial_31 : decode cX2_takeTrial 31 = .ok (.invokestatic 68, 3) := by decide +kernel
theorem dX2_takeTrial_34 : decode cX2_takeTrial 34 = .ok (.lreturn, 1) := by decide +kernel
theorem dX2_grow_0 : decode cX2_grow 0 = .ok (.aload_n 0, 1) := by decide +kernel
theorem dX2_grow_1 : decode cX2_grow 1 = .ok (.aload_n 1, 1) := by decide +kernel
theorem dX2_grow_2 : decode cX2_grow 2 = .ok (.putfield 10, 3) := by decide +kernel
theorem dX2_grow_5 : decode cX2_grow 5 = .ok (.aload_n 0, 1) := by decide +kernel
theorem dX2_grow_6 : decode cX2_grow 6 = .ok (.iload_n 2, 1) := by decide +kernel
theorem dX2_grow_7 : decode cX2_grow 7 = .ok (.putfield 16, 3) := by decide +kernel
theorem dX2_grow_10 : decode cX2_grow 10 = .ok (.aload_n 0, 1) := by decide +kernel
theorem dX2_grow_11 : decode cX2_grow 11 = .ok (.aload_n 0, 1) := by decide +kernel
theorem dX2_grow_12 : decode cX2_grow 12 = .ok (.getfield 10, 3) := by decide +kernel
theorem dX2_grow_15 : decode cX2_grow 15 = .ok (.invokevirtual 43, 3) := by decide +kernel
theorem dX2_grow_18 : decode cX2_grow 18 = .ok (.iload_n 2, 1) := by decide +kernel
theorem dX2_grow_19 : decode cX2_grow 19 = .ok (.i2l, 1) := by decide +kernel
theorem dX2_grow_20 : decode cX2_grow 20 = .ok (.lmul, 1) := by decide +kernel
theorem dX2_grow_21 : decode cX2_grow 21 = .ok (.putfield 20, 3) := by decide +kernel
theorem dX2_grow_24 : decode cX2_grow 24 = .ok (.iconst 0, 1) := by decide +kernel
theorem dX2_grow_25 : decode cX2_grow 25 = .ok (.istore_n 3, 1) := by decide +kernel
theorem dX2_grow_26 : decode cX2_grow 26 = .ok (.iload_n 3, 1) := by decide +kernel
theorem dX2_grow_27 : decode cX2_grow 27 = .ok (.iload_n 2, 1) := by decide +kernel
theorem dX2_grow_28 : decode cX2_grow 28 = .ok (.if_icmp .ge 114, 3) := by decide +kernel
theorem dX2_grow_31 : decode cX2_grow 31 = .ok (.aload_n 0, 1) := by decide +kernel
theorem dX2_grow_32 : decode cX2_grow 32 = .ok (.iconst 0, 1) := by decide +kernel
theorem dX2_grow_33 : decode cX2_grow 33 = .ok (.iload_n 3, 1) := by decide +kernel
theorem dX2_grow_34 : decode cX2_grow 34 = .ok (.invokevirtual 47, 3) := by decide +kernel
theorem dX2_grow_37 : decode cX2_grow 37 = .ok (.ifCond .ne 6, 3) := by decide +kernel
theorem dX2_grow_40 : decode cX2_grow 40 = .ok (.goto 96, 3) := by decide +kernel
theorem dX2_grow_43 : decode cX2_grow 43 = .ok (.iconst 0, 1) := by decide +kernel
theorem dX2_grow_44 : decode cX2_grow 44 = .ok (.istore 4, 2) := by decide +kernel
theorem dX2_grow_46 : decode cX2_grow 46 = .ok (.iload 4, 2) := by decide +kernel
theorem dX2_grow_48 : decode cX2_grow 48 = .ok (.iload_n 2, 1) := by decide +kernel
theorem dX2_grow_49 : decode cX2_grow 49 = .ok (.if_icmp .ge 87, 3) := by decide +kernel
theorem dX2_grow_52 : decode cX2_grow 52 = .ok (.aload_n 0, 1) := by decide +kernel
theorem dX2_grow_53 : decode cX2_grow 53 = .ok (.iconst 1, 1) := by decide +kernel
theorem dX2_grow_54 : decode cX2_grow 54 = .ok (.iload 4, 2) := by decide +kernel
theorem dX2_grow_56 : decode cX2_grow 56 = .ok (.invokevirtual 47, 3) := by decide +kernel
theorem dX2_grow_59 : decode cX2_grow 59 = .ok (.ifCond .ne 6, 3) := by decide +kernel
theorem dX2_grow_62 : decode cX2_grow 62 = .ok (.goto 68, 3) := by decide +kernel
theorem dX2_grow_65 : decode cX2_grow 65 = .ok (.iconst 0, 1) := by decide +kernel
theorem dX2_grow_66 : decode cX2_grow 66 = .ok (.istore 5, 2) := by decide +kernel
theorem dX2_grow_68 : decode cX2_grow 68 = .ok (.iload 5, 2) := by decide +kernel
theorem dX2_grow_70 : decode cX2_grow 70 = .ok (.iload_n 2, 1) := by decide +kernel
theorem dX2_grow_71 : decode cX2_grow 71 = .ok (.if_icmp .ge 59, 3) := by decide +kernel
theorem dX2_grow_74 : decode cX2_grow 74 = .ok (.aload_n 0, 1) := by decide +kernel
theorem dX2_grow_75 : decode cX2_grow 75 = .ok (.iconst 2, 1) := by decide +kernel
theorem dX2_grow_76 : decode cX2_grow 76 = .ok (.iload 5, 2) := by decide +kernel
theorem dX2_grow_78 : decode cX2_grow 78 = .ok (.invokevirtual 47, 3) := by decide +kernel
theorem dX2_grow_81 : decode cX2_grow 81 = .ok (.ifCond .ne 6, 3) := by decide +kernel
theorem dX2_grow_84 : decode cX2_grow 84 = .ok (.goto 40, 3) := by decide +kernel
theorem dX2_grow_87 : decode cX2_grow 87 = .ok (.iconst 0, 1) := by decide +kernel
theorem dX2_grow_88 : decode cX2_grow 88 = .ok (.istore 6, 2) := by decide +kernel
theorem dX2_grow_90 : decode cX2_grow 90 = .ok (.iload 6, 2) := by decide +kernel
theorem dX2_grow_92 : decode cX2_grow 92 = .ok (.iload_n 2, 1) := by decide +kernel
theorem dX2_grow_93 : decode cX2_grow 93 = .ok (.if_icmp .ge 31, 3) := by decide +kernel
theorem dX2_grow_96 : decode cX2_grow 96 = .ok (.aload_n 0, 1) := by decide +kernel
theorem dX2_grow_97 : decode cX2_grow 97 = .ok (.iconst 3, 1) := by decide +kernel
theorem dX2_grow_98 : decode cX2_grow 98 = .ok (.iload 6, 2) := by decide +kernel
theorem dX2_grow_100 : decode cX2_grow 100 = .ok (.invokevirtual 47, 3) := by decide +kernel
theorem dX2_grow_103 : decode cX2_grow 103 = .ok (.ifCond .eq 15, 3) := by decide +kernel
theorem dX2_grow_106 : decode cX2_grow 106 = .ok (.aload_n 0, 1) := by decide +kernel
theorem dX2_grow_107 : decode cX2_grow 107 = .ok (.invokevirtual 51, 3) := by decide +kernel
theorem dX2_grow_110 : decode cX2_grow 110 = .ok (.ifCond .eq 8, 3) := by decide +kernel
theorem dX2_grow_113 : decode cX2_grow 113 = .ok (.aload_n 0, 1) := by decide +kernel
theorem dX2_grow_114 : decode cX2_grow 114 = .ok (.invokevirtual 55, 3) := by decide +kernel
theorem dX2_grow_117 : decode cX2_grow 117 = .ok (.lreturn, 1) := by decide +kernel
theorem dX2_grow_118 : decode cX2_grow 118 = .ok (.iinc 6 1, 3) := by decide +kernel
theorem dX2_grow_121 : decode cX2_grow 121 = .ok (.goto (-31), 3) := by decide +kernel
theorem dX2_grow_124 : decode cX2_grow 124 = .ok (.iinc 5 1, 3) := by decide +kernel
theorem dX2_grow_127 : decode cX2_grow 127 = .ok (.goto (-59), 3) := by decide +kernel
theorem dX2_grow_130 : decode cX2_grow 130 = .ok (.iinc 4 1, 3) := by decide +kernel
theorem dX2_grow_133 : decode cX2_grow 133 = .ok (.goto (-87), 3) := by decide +kernel
theorem dX2_grow_136 : decode cX2_grow 136 = .ok (.iinc 3 1, 3) := by decide +kernel
theorem dX2_grow_139 : decode cX2_grow 139 = .ok (.goto (-113), 3) := by decide +kernel
theorem dX2_grow_142 : decode cX2_grow 142 = .ok (.lconst 0, 1) := by decide +kernel
theorem dX2_grow_143 : decode cX2_grow 143 = .ok (.lreturn, 1) := by decide +kernel
theorem dX3_begin_0 : decode cX3_begin 0 = .ok (.aload_n 0, 1) := by decide +kernel
theorem dX3_begin_1 : decode cX3_begin 1 = .ok (.lload_n 1, 1) := by decide +kernel
theorem dX3_begin_2 : decode cX3_begin 2 = .ok (.putfield 18, 3) := by decide +kernel
theorem dX3_begin_5 : decode cX3_begin 5 = .ok (.iconst 0, 1) := by decide +kernel
theorem dX3_begin_6 : decode cX3_begin 6 = .ok (.istore_n 3, 1) := by decide +kernel
theorem dX3_begin_7 : decode cX3_begin 7 = .ok (.iload_n 3, 1) := by decide +kernel
theorem dX3_begin_8 : decode cX3_begin 8 = .ok (.iconst 4, 1) := by decide +kernel
theorem dX3_begin_9 : decode cX3_begin 9 = .ok (.if_icmp .ge 44, 3) := by decide +kernel
theorem dX3_begin_12 : decode cX3_begin 12 = .ok (.iconst 0, 1) := by decide +kernel
theorem dX3_begin_13 : decode cX3_begin 13 = .ok (.istore 4, 2) := by decide +kernel
theorem dX3_begin_15 : decode cX3_begin 15 = .ok (.iload 4, 2) := by decide +kernel
theorem dX3_begin_17 : decode cX3_begin 17 = .ok (.iconst 4, 1) := by decide +kernel
theorem dX3_begin_18 : decode cX3_begin 18 = .ok (.if_icmp .ge 29, 3) := by decide +kernel
theorem dX3_begin_21 : decode cX3_begin 21 = .ok (.aload_n 0, 1) := by decide +kernel
theorem dX3_begin_22 : decode cX3_begin 22 = .ok (.getfield 9, 3) := by decide +kernel
theorem dX3_begin_25 : decode cX3_begin 25 = .ok (.iload_n 3, 1) := by decide +kernel
theorem dX3_begin_26 : decode cX3_begin 26 = .ok (.aaload, 1) := by decide +kernel
theorem dX3_begin_27 : decode cX3_begin 27 = .ok (.iload 4, 2) := by decide +kernel
theorem dX3_begin_29 : decode cX3_begin 29 = .ok (.iload_n 3, 1) := by decide +kernel
theorem dX3_begin_30 : decode cX3_begin 30 = .ok (.iload 4, 2) := by decide +kernel
theorem dX3_begin_32 : decode cX3_begin 32 = .ok (.if_icmp .ne 7, 3) := by decide +kernel
theorem dX3_begin_35 : decode cX3_begin 35 = .ok (.lload_n 1, 1) := by decide +kernel
theorem dX3_begin_36 : decode cX3_begin 36 = .ok (.goto 4, 3) := by decide +kernel
theorem dX3_begin_39 : decode cX3_begin 39 = .ok (.lconst 0, 1) := by decide +kernel
theorem dX3_begin_40 : decode cX3_begin 40 = .ok (.lastore, 1) := by decide +kernel
theorem dX3_begin_41 : decode cX3_begin 41 = .ok (.iinc 4 1, 3) := by decide +kernel
theorem dX3_begin_44 : decode cX3_begin 44 = .ok (.goto (-29), 3) := by decide +kernel
theorem dX3_begin_47 : decode cX3_begin 47 = .ok (.iinc 3 1, 3) := by decide +kernel
theorem dX3_begin_50 : decode cX3_begin 50 = .ok (.goto (-43), 3) := by decide +kernel
theorem dX3_begin_53 : decode cX3_begin 53 = .ok (.return_, 1) := by decide +kernel
theorem dX3_express_0 : decode cX3_express 0 = .ok (.iconst 0, 1) := by decide +kernel
theorem dX3_express_1 : decode cX3_express 1 = .ok (.istore_n 2, 1) := by decide +kernel
theorem dX3_express_2 : decode cX3_express 2 = .ok (.iload_n 2, 1) := by decide +kernel
theorem dX3_express_3 : decode cX3_express 3 = .ok (.iconst 4, 1) := by decide +kernel
theorem dX3_express_4 : decode cX3_express 4 = .ok (.if_icmp .ge 82, 3) := by decide +kernel
theorem dX3_express_7 : decode cX3_express 7 = .ok (.aload_n 0, 1) := by decide +kernel
theorem dX3_express_8 : decode cX3_express 8 = .ok (.getfield 9, 3) := by decide +kernel
theorem dX3_express_11 : decode cX3_express 11 = .ok (.iload_n 2, 1) := by decide +kernel
theorem dX3_express_12 : decode cX3_express 12 = .ok (.aaload, 1) := by decide +kernel
theorem dX3_express_13 : decode cX3_express 13 = .ok (.iload_n 2, 1) := by decide +kernel
theorem dX3_express_14 : decode cX3_express 14 = .ok (.laload, 1) := by decide +kernel
theorem dX3_express_15 : decode cX3_express 15 = .ok (.aload_n 1, 1) := by decide +kernel
theorem dX3_express_16 : decode cX3_express 16 = .ok (.iload_n 2, 1) := by decide +kernel
theorem dX3_express_17 : decode cX3_express 17 = .ok (.laload, 1) := by decide +kernel
theorem dX3_express_18 : decode cX3_express 18 = .ok (.invokestatic 38, 3) := by decide +kernel
theorem dX3_express_21 : decode cX3_express 21 = .ok (.ifCond .ne 5, 3) := by decide +kernel
theorem dX3_express_24 : decode cX3_express 24 = .ok (.iconst 0, 1) := by decide +kernel
theorem dX3_express_25 : decode cX3_express 25 = .ok (.ireturn, 1) := by decide +kernel
theorem dX3_express_26 : decode cX3_express 26 = .ok (.aload_n 1, 1) := by decide +kernel
theorem dX3_express_27 : decode cX3_express 27 = .ok (.iload_n 2, 1) := by decide +kernel
theorem dX3_express_28 : decode cX3_express 28 = .ok (.laload, 1) := by decide +kernel
theorem dX3_express_29 : decode cX3_express 29 = .ok (.aload_n 0, 1) := by decide +kernel
theorem dX3_express_30 : decode cX3_express 30 = .ok (.getfield 9, 3) := by decide +kernel
theorem dX3_express_33 : decode cX3_express 33 = .ok (.iload_n 2, 1) := by decide +kernel
theorem dX3_express_34 : decode cX3_express 34 = .ok (.aaload, 1) := by decide +kernel
theorem dX3_express_35 : decode cX3_express 35 = .ok (.iload_n 2, 1) := by decide +kernel
theorem dX3_express_36 : decode cX3_express 36 = .ok (.laload, 1) := by decide +kernel
theorem dX3_express_37 : decode cX3_express 37 = .ok (.invokestatic 28, 3) := by decide +kernel
theorem dX3_express_40 : decode cX3_express 40 = .ok (.lstore_n 3, 1) := by decide +kernel
theorem dX3_express_41 : decode cX3_express 41 = .ok (.iload_n 2, 1) := by decide +kernel
theorem dX3_express_42 : decode cX3_express 42 = .ok (.iconst 1, 1) := by decide +kernel
theorem dX3_express_43 : decode cX3_express 43 = .ok (.iadd, 1) := by decide +kernel
theorem dX3_express_44 : decode cX3_express 44 = .ok (.istore 5, 2) := by decide +kernel
theorem dX3_express_46 : decode cX3_express 46 = .ok (.iload 5, 2) := by decide +kernel
theorem dX3_express_48 : decode cX3_express 48 = .ok (.iconst 4, 1) := by decide +kernel
theorem dX3_express_49 : decode cX3_express 49 = .ok (.if_icmp .ge 27, 3) := by decide +kernel
theorem dX3_express_52 : decode cX3_express 52 = .ok (.aload_n 1, 1) := by decide +kernel
theorem dX3_express_53 : decode cX3_express 53 = .ok (.iload 5, 2) := by decide +kernel
theorem dX3_express_55 : decode cX3_express 55 = .ok (.dup2, 1) := by decide +kernel
theorem dX3_express_56 : decode cX3_express 56 = .ok (.laload, 1) := by decide +kernel
theorem dX3_express_57 : decode cX3_express 57 = .ok (.lload_n 3, 1) := by decide +kernel
theorem dX3_express_58 : decode cX3_express 58 = .ok (.aload_n 0, 1) := by decide +kernel
theorem dX3_express_59 : decode cX3_express 59 = .ok (.getfield 9, 3) := by decide +kernel
theorem dX3_express_62 : decode cX3_express 62 = .ok (.iload_n 2, 1) := by decide +kernel
theorem dX3_express_63 : decode cX3_express 63 = .ok (.aaload, 1) := by decide +kernel
theorem dX3_express_64 : decode cX3_express 64 = .ok (.iload 5, 2) := by decide +kernel
theorem dX3_express_66 : decode cX3_express 66 = .ok (.laload, 1) := by decide +kernel
theorem dX3_express_67 : decode cX3_express 67 = .ok (.lmul, 1) := by decide +kernel
theorem dX3_express_68 : decode cX3_express 68 = .ok (.lsub, 1) := by decide +kernel
theorem dX3_express_69 : decode cX3_express 69 = .ok (.lastore, 1) := by decide +kernel
theorem dX3_express_70 : decode cX3_express 70 = .ok (.iinc 5 1, 3) := by decide +kernel
theorem dX3_express_73 : decode cX3_express 73 = .ok (.goto (-27), 3) := by decide +kernel
theorem dX3_express_76 : decode cX3_express 76 = .ok (.aload_n 1, 1) := by decide +kernel
theorem dX3_express_77 : decode cX3_express 77 = .ok (.iload_n 2, 1) := by decide +kernel
theorem dX3_express_78 : decode cX3_express 78 = .ok (.lload_n 3, 1) := by decide +kernel
theorem dX3_express_79 : decode cX3_express 79 = .ok (.lastore, 1) := by decide +kernel
theorem dX3_express_80 : decode cX3_express 80 = .ok (.iinc 2 1, 3) := by decide +kernel
theorem dX3_express_83 : decode cX3_express 83 = .ok (.goto (-81), 3) := by decide +kernel
theorem dX3_express_86 : decode cX3_express 86 = .ok (.iconst 1, 1) := by decide +kernel
theorem dX3_express_87 : decode cX3_express 87 = .ok (.ireturn, 1) := by decide +kernel
theorem dX3_has_0 : decode cX3_has 0 = .ok (.iconst 0, 1) := by decide +kernel
theorem dX3_has_1 : decode cX3_has 1 = .ok (.istore_n 2, 1) := by decide +kernel
theorem dX3_has_2 : decode cX3_has 2 = .ok (.iload_n 2, 1) := by decide +kernel
theorem dX3_has_3 : decode cX3_has 3 = .ok (.iconst 4, 1) := by decide +kernel
theorem dX3_has_4 : decode cX3_has 4 = .ok (.if_icmp .ge 25, 3) := by decide +kernel
theorem dX3_has_7 : decode cX3_has 7 = .ok (.aload_n 0, 1) := by decide +kernel
theorem dX3_has_8 : decode cX3_has 8 = .ok (.getfield 14, 3) := by decide +kernel
theorem dX3_has_11 : decode cX3_has 11 = .ok (.iload_n 2, 1) := by decide +kernel
theorem dX3_has_12 : decode cX3_has 12 = .ok (.aload_n 1, 1) := by decide +kernel
theorem dX3_has_13 : decode cX3_has 13 = .ok (.iload_n 2, 1) := by decide +kernel
theorem dX3_has_14 : decode cX3_has 14 = .ok (.laload, 1) := by decide +kernel
theorem dX3_has_15 : decode cX3_has 15 = .ok (.aload_n 0, 1) := by decide +kernel
theorem dX3_has_16 : decode cX3_has 16 = .ok (.getfield 18, 3) := by decide +kernel
theorem dX3_has_19 : decode cX3_has 19 = .ok (.invokestatic 22, 3) := by decide +kernel
theorem dX3_has_22 : decode cX3_has 22 = .ok (.lastore, 1) := by decide +kernel
theorem dX3_has_23 : decode cX3_has 23 = .ok (.iinc 2 1, 3) := by decide +kernel
theorem dX3_has_26 : decode cX3_has 26 = .ok (.goto (-24), 3) := by decide +kernel
theorem dX3_has_29 : decode cX3_has 29 = .ok (.aload_n 0, 1) := by decide +kernel
theorem dX3_has_30 : decode cX3_has 30 = .ok (.aload_n 0, 1) := by decide +kernel
theorem dX3_has_31 : decode cX3_has 31 = .ok (.getfield 14, 3) := by decide +kernel
theorem dX3_has_34 : decode cX3_has 34 = .ok (.invokevirtual 34, 3) := by decide +kernel
theorem dX3_has_37 : decode cX3_has 37 = .ok (.ireturn, 1) := by decide +kernel
theorem dX3_lots_0 : decode cX3_lots 0 = .ok (.aload_n 0, 1) := by decide +kernel
theorem dX3_lots_1 : decode cX3_lots 1 = .ok (.getfield 9, 3) := by decide +kernel
theorem dX3_lots_4 : decode cX3_lots 4 = .ok (.iconst 0, 1) := by decide +kernel
theorem dX3_lots_5 : decode cX3_lots 5 = .ok (.aaload, 1) := by decide +kernel
theorem dX3_lots_6 : decode cX3_lots 6 = .ok (.iconst 0, 1) := by decide +kernel
theorem dX3_lots_7 : decode cX3_lots 7 = .ok (.laload, 1) := by decide +kernel
theorem dX3_lots_8 : decode cX3_lots 8 = .ok (.aload_n 0, 1) := by decide +kernel
theorem dX3_lots_9 : decode cX3_lots 9 = .ok (.getfield 9, 3) := by decide +kernel
theorem dX3_lots_12 : decode cX3_lots 12 = .ok (.iconst 1, 1) := by decide +kernel
theorem dX3_lots_13 : decode cX3_lots 13 = .ok (.aaload, 1) := by decide +kernel
theorem dX3_lots_14 : decode cX3_lots 14 = .ok (.iconst 1, 1) := by decide +kernel
theorem dX3_lots_15 : decode cX3_lots 15 = .ok (.laload, 1) := by decide +kernel
theorem dX3_lots_16 : decode cX3_lots 16 = .ok (.lmul, 1) := by decide +kernel
theorem dX3_lots_17 : decode cX3_lots 17 = .ok (.aload_n 0, 1) := by decide +kernel
theorem dX3_lots_18 : decode cX3_lots 18 = .ok (.getfield 9, 3) := by decide +kernel
theorem dX3_lots_21 : decode cX3_lots 21 = .ok (.iconst 2, 1) := by decide +kernel
theorem dX3_lots_22 : decode cX3_lots 22 = .ok (.aaload, 1) := by decide +kernel
theorem dX3_lots_23 : decode cX3_lots 23 = .ok (.iconst 2, 1) := by decide +kernel
theorem dX3_lots_24 : decode cX3_lots 24 = .ok (.laload, 1) := by decide +kernel
theorem dX3_lots_25 : decode cX3_lots 25 = .ok (.lmul, 1) := by decide +kernel
theorem dX3_lots_26 : decode cX3_lots 26 = .ok (.aload_n 0, 1) := by decide +kernel
theorem dX3_lots_27 : decode cX3_lots 27 = .ok (.getfield 9, 3) := by decide +kernel
theorem dX3_lots_30 : decode cX3_lots 30 = .ok (.iconst 3, 1) := by decide +kernel
theorem dX3_lots_31 : decode cX3_lots 31 = .ok (.aaload, 1) := by decide +kernel
theorem dX3_lots_32 : decode cX3_lots 32 = .ok (.iconst 3, 1) := by decide +kernel
theorem dX3_lots_33 : decode cX3_lots 33 = .ok (.laload, 1) := by decide +kernel
theorem dX3_lots_34 : decode cX3_lots 34 = .ok (.lmul, 1) := by decide +kernel
theorem dX3_lots_35 : decode cX3_lots 35 = .ok (.lreturn, 1) := by decide +kernel
theorem dX4_begin_0 : decode cX4_begin 0 = .ok (.aload_n 0, 1) := by decide +kernel
theorem dX4_begin_1 : decode cX4_begin 1 = .ok (.aload_n 1, 1) := by decide +kernel
theorem dX4_begin_2 : decode cX4_begin 2 = .ok (.putfield 10, 3) := by decide +kernel
theorem dX4_begin_5 : decode cX4_begin 5 = .ok (.aload_n 0, 1) := by decide +kernel
theorem dX4_begin_6 : decode cX4_begin 6 = .ok (.getfield 10, 3) := by decide +kernel
theorem dX4_begin_9 : decode cX4_begin 9 = .ok (.getfield 27, 3) := by decide +kernel
theorem dX4_begin_12 : decode cX4_begin 12 = .ok (.aload_n 0, 1) := by decide +kernel
theorem dX4_begin_13 : decode cX4_begin 13 = .ok (.getfield 10, 3) := by decide +kernel
theorem dX4_begin_16 : decode cX4_begin 16 = .ok (.getfield 31, 3) := by decide +kernel
theorem dX4_begin_19 : decode cX4_begin 19 = .ok (.aload_n 2, 1) := by decide +kernel
theorem dX4_begin_20 : decode cX4_begin 20 = .ok (.getfield 34, 3) := by decide +kernel
theorem dX4_begin_23 : decode cX4_begin 23 = .ok (.invokestatic 39, 3) := by decide +kernel
theorem dX4_begin_26 : decode cX4_begin 26 = .ok (.lstore_n 3, 1) := by decide +kernel
theorem dX4_begin_27 : decode cX4_begin 27 = .ok (.aload_n 0, 1) := by decide +kernel
theorem dX4_begin_28 : decode cX4_begin 28 = .ok (.getfield 19, 3) := by decide +kernel
theorem dX4_begin_31 : decode cX4_begin 31 = .ok (.lload_n 3, 1) := by decide +kernel
theorem dX4_begin_32 : decode cX4_begin 32 = .ok (.aload_n 2, 1) := by decide +kernel
theorem dX4_begin_33 : decode cX4_begin 33 = .ok (.getfield 43, 3) := by decide +kernel
theorem dX4_begin_36 : decode cX4_begin 36 = .ok (.aload_n 2, 1) := by decide +kernel
theorem dX4_begin_37 : decode cX4_begin 37 = .ok (.getfield 43, 3) := by decide +kernel
theorem dX4_begin_40 : decode cX4_begin 40 = .ok (.lmul, 1) := by decide +kernel
theorem dX4_begin_41 : decode cX4_begin 41 = .ok (.invokestatic 46, 3) := by decide +kernel
theorem dX4_begin_44 : decode cX4_begin 44 = .ok (.invokestatic 52, 3) := by decide +kernel
theorem dX4_begin_47 : decode cX4_begin 47 = .ok (.invokevirtual 58, 3) := by decide +kernel
theorem dX4_begin_50 : decode cX4_begin 50 = .ok (.return_, 1) := by decide +kernel
theorem dX6_expressOver_0 : decode cX6_expressOver 0 = .ok (.iconst 0, 1) := by decide +kernel
theorem dX6_expressOver_1 : decode cX6_expressOver 1 = .ok (.istore 7, 2) := by decide +kernel
theorem dX6_expressOver_3 : decode cX6_expressOver 3 = .ok (.iload 7, 2) := by decide +kernel
theorem dX6_expressOver_5 : decode cX6_expressOver 5 = .ok (.iconst 4, 1) := by decide +kernel
theorem dX6_expressOver_6 : decode cX6_expressOver 6 = .ok (.if_icmp .ge 41, 3) := by decide +kernel
theorem dX6_expressOver_9 : decode cX6_expressOver 9 = .ok (.lload_n 2, 1) := by decide +kernel
theorem dX6_expressOver_10 : decode cX6_expressOver 10 = .ok (.aload_n 1, 1) := by decide +kernel
theorem dX6_expressOver_11 : decode cX6_expressOver 11 = .ok (.iload 7, 2) := by decide +kernel
theorem dX6_expressOver_13 : decode cX6_expressOver 13 = .ok (.laload, 1) := by decide +kernel
theorem dX6_expressOver_14 : decode cX6_expressOver 14 = .ok (.lload 5, 2) := by decide +kernel
theorem dX6_expressOver_16 : decode cX6_expressOver 16 = .ok (.lmul, 1) := by decide +kernel
theorem dX6_expressOver_17 : decode cX6_expressOver 17 = .ok (.invokestatic 54, 3) := by decide +kernel
theorem dX6_expressOver_20 : decode cX6_expressOver 20 = .ok (.ifCond .ne 5, 3) := by decide +kernel
theorem dX6_expressOver_23 : decode cX6_expressOver 23 = .ok (.iconst 0, 1) := by decide +kernel
theorem dX6_expressOver_24 : decode cX6_expressOver 24 = .ok (.ireturn, 1) := by decide +kernel
theorem dX6_expressOver_25 : decode cX6_expressOver 25 = .ok (.aload 4, 2) := by decide +kernel
theorem dX6_expressOver_27 : decode cX6_expressOver 27 = .ok (.iload 7, 2) := by decide +kernel
theorem dX6_expressOver_29 : decode cX6_expressOver 29 = .ok (.aload_n 1, 1) := by decide +kernel
theorem dX6_expressOver_30 : decode cX6_expressOver 30 = .ok (.iload 7, 2) := by decide +kernel
theorem dX6_expressOver_32 : decode cX6_expressOver 32 = .ok (.laload, 1) := by decide +kernel
theorem dX6_expressOver_33 : decode cX6_expressOver 33 = .ok (.lload 5, 2) := by decide +kernel
theorem dX6_expressOver_35 : decode cX6_expressOver 35 = .ok (.lmul, 1) := by decide +kernel
theorem dX6_expressOver_36 : decode cX6_expressOver 36 = .ok (.lload_n 2, 1) := by decide +kernel
theorem dX6_expressOver_37 : decode cX6_expressOver 37 = .ok (.invokestatic 60, 3) := by decide +kernel
theorem dX6_expressOver_40 : decode cX6_expressOver 40 = .ok (.lastore, 1) := by decide +kernel
theorem dX6_expressOver_41 : decode cX6_expressOver 41 = .ok (.iinc 7 1, 3) := by decide +kernel
theorem dX6_expressOver_44 : decode cX6_expressOver 44 = .ok (.goto (-41), 3) := by decide +kernel
theorem dX6_expressOver_47 : decode cX6_expressOver 47 = .ok (.aload_n 0, 1) := by decide +kernel
theorem dX6_expressOver_48 : decode cX6_expressOver 48 = .ok (.getfield 19, 3) := by decide +kernel
theorem dX6_expressOver_51 : decode cX6_expressOver 51 = .ok (.aload 4, 2) := by decide +kernel
theorem dX6_expressOver_53 : decode cX6_expressOver 53 = .ok (.invokevirtual 82, 3) := by decide +kernel
theorem dX6_expressOver_56 : decode cX6_expressOver 56 = .ok (.ireturn, 1) := by decide +kernel
theorem dX6_expressProduct_0 : decode cX6_expressProduct 0 = .ok (.aload_n 0, 1) := by decide +kernel
theorem dX6_expressProduct_1 : decode cX6_expressProduct 1 = .ok (.getfield 7, 3) := by decide +kernel
theorem dX6_expressProduct_4 : decode cX6_expressProduct 4 = .ok (.aload_n 0, 1) := by decide +kernel
theorem dX6_expressProduct_5 : decode cX6_expressProduct 5 = .ok (.getfield 13, 3) := by decide +kernel
theorem dX6_expressProduct_8 : decode cX6_expressProduct 8 = .ok (.aload_n 1, 1) := by decide +kernel
theorem dX6_expressProduct_9 : decode cX6_expressProduct 9 = .ok (.aload_n 2, 1) := by decide +kernel
theorem dX6_expressProduct_10 : decode cX6_expressProduct 10 = .ok (.aload_n 0, 1) := by decide +kernel
theorem dX6_expressProduct_11 : decode cX6_expressProduct 11 = .ok (.getfield 23, 3) := by decide +kernel
theorem dX6_expressProduct_14 : decode cX6_expressProduct 14 = .ok (.invokestatic 78, 3) := by decide +kernel
theorem dX6_expressProduct_17 : decode cX6_expressProduct 17 = .ok (.aload_n 0, 1) := by decide +kernel
theorem dX6_expressProduct_18 : decode cX6_expressProduct 18 = .ok (.aload_n 0, 1) := by decide +kernel
theorem dX6_expressProduct_19 : decode cX6_expressProduct 19 = .ok (.getfield 23, 3) := by decide +kernel
theorem dX6_expressProduct_22 : decode cX6_expressProduct 22 = .ok (.lload_n 3, 1) := by decide +kernel
theorem dX6_expressProduct_23 : decode cX6_expressProduct 23 = .ok (.aload 5, 2) := by decide +kernel
theorem dX6_expressProduct_25 : decode cX6_expressProduct 25 = .ok (.lconst 1, 1) := by decide +kernel
theorem dX6_expressProduct_26 : decode cX6_expressProduct 26 = .ok (.invokevirtual 74, 3) := by decide +kernel
theorem dX6_expressProduct_29 : decode cX6_expressProduct 29 = .ok (.ireturn, 1) := by decide +kernel
theorem dX4_join_0 : decode cX4_join 0 = .ok (.iconst 0, 1) := by decide +kernel
theorem dX4_join_1 : decode cX4_join 1 = .ok (.istore_n 2, 1) := by decide +kernel
theorem dX4_join_2 : decode cX4_join 2 = .ok (.iload_n 2, 1) := by decide +kernel
theorem dX4_join_3 : decode cX4_join 3 = .ok (.iconst 4, 1) := by decide +kernel
theorem dX4_join_4 : decode cX4_join 4 = .ok (.if_icmp .ge 50, 3) := by decide +kernel
theorem dX4_join_7 : decode cX4_join 7 = .ok (.aload_n 0, 1) := by decide +kernel
theorem dX4_join_8 : decode cX4_join 8 = .ok (.getfield 10, 3) := by decide +kernel
theorem dX4_join_11 : decode cX4_join 11 = .ok (.aload_n 0, 1) := by decide +kernel
theorem dX4_join_12 : decode cX4_join 12 = .ok (.getfield 10, 3) := by decide +kernel
theorem dX4_join_15 : decode cX4_join 15 = .ok (.iload_n 2, 1) := by decide +kernel
theorem dX4_join_16 : decode cX4_join 16 = .ok (.invokevirtual 62, 3) := by decide +kernel
theorem dX4_join_19 : decode cX4_join 19 = .ok (.aload_n 1, 1) := by decide +kernel
theorem dX4_join_20 : decode cX4_join 20 = .ok (.getfield 34, 3) := by decide +kernel
theorem dX4_join_23 : decode cX4_join 23 = .ok (.aload_n 1, 1) := by decide +kernel
theorem dX4_join_24 : decode cX4_join 24 = .ok (.getfield 43, 3) := by decide +kernel
theorem dX4_join_27 : decode cX4_join 27 = .ok (.aload_n 0, 1) := by decide +kernel
theorem dX4_join_28 : decode cX4_join 28 = .ok (.getfield 23, 3) := by decide +kernel
theorem dX4_join_31 : decode cX4_join 31 = .ok (.invokevirtual 66, 3) := by decide +kernel
theorem dX4_join_34 : decode cX4_join 34 = .ok (.ifCond .eq 14, 3) := by decide +kernel
theorem dX4_join_37 : decode cX4_join 37 = .ok (.aload_n 0, 1) := by decide +kernel
theorem dX4_join_38 : decode cX4_join 38 = .ok (.getfield 19, 3) := by decide +kernel
theorem dX4_join_41 : decode cX4_join 41 = .ok (.aload_n 0, 1) := by decide +kernel
theorem dX4_join_42 : decode cX4_join 42 = .ok (.getfield 23, 3) := by decide +kernel
theorem dX4_join_45 : decode cX4_join 45 = .ok (.invokevirtual 70, 3) := by decide +kernel
theorem dX4_join_48 : decode cX4_join 48 = .ok (.iinc 2 1, 3) := by decide +kernel
theorem dX4_join_51 : decode cX4_join 51 = .ok (.goto (-49), 3) := by decide +kernel
theorem dX4_join_54 : decode cX4_join 54 = .ok (.aload_n 0, 1) := by decide +kernel
theorem dX4_join_55 : decode cX4_join 55 = .ok (.getfield 19, 3) := by decide +kernel
theorem dX4_join_58 : decode cX4_join 58 = .ok (.invokevirtual 74, 3) := by decide +kernel
theorem dX4_join_61 : decode cX4_join 61 = .ok (.return_, 1) := by decide +kernel
theorem dX4_lots_0 : decode cX4_lots 0 = .ok (.aload_n 0, 1) := by decide +kernel
theorem dX4_lots_1 : decode cX4_lots 1 = .ok (.getfield 19, 3) := by decide +kernel
theorem dX4_lots_4 : decode cX4_lots 4 = .ok (.invokevirtual 77, 3) := by decide +kernel
theorem dX4_lots_7 : decode cX4_lots 7 = .ok (.lreturn, 1) := by decide +kernel
theorem dX6_express_0 : decode cX6_express 0 = .ok (.aload_n 0, 1) := by decide +kernel
theorem dX6_express_1 : decode cX6_express 1 = .ok (.aload_n 1, 1) := by decide +kernel
theorem dX6_express_2 : decode cX6_express 2 = .ok (.getfield 64, 3) := by decide +kernel
theorem dX6_express_5 : decode cX6_express 5 = .ok (.aload_n 1, 1) := by decide +kernel
theorem dX6_express_6 : decode cX6_express 6 = .ok (.getfield 69, 3) := by decide +kernel
theorem dX6_express_9 : decode cX6_express 9 = .ok (.aload_n 2, 1) := by decide +kernel
theorem dX6_express_10 : decode cX6_express 10 = .ok (.aload_n 0, 1) := by decide +kernel
theorem dX6_express_11 : decode cX6_express 11 = .ok (.invokevirtual 72, 3) := by decide +kernel
theorem dX6_express_14 : decode cX6_express 14 = .ok (.invokevirtual 74, 3) := by decide +kernel
theorem dX6_express_17 : decode cX6_express 17 = .ok (.ireturn, 1) := by decide +kernel
theorem dX4_contains_0 : decode cX4_contains 0 = .ok (.aload_n 0, 1) := by decide +kernel
theorem dX4_contains_1 : decode cX4_contains 1 = .ok (.getfield 10, 3) := by decide +kernel
theorem dX4_contains_4 : decode cX4_contains 4 = .ok (.aload_n 1, 1) := by decide +kernel
theorem dX4_contains_5 : decode cX4_contains 5 = .ok (.aload_n 0, 1) := by decide +kernel
theorem dX4_contains_6 : decode cX4_contains 6 = .ok (.getfield 23, 3) := by decide +kernel
theorem dX4_contains_9 : decode cX4_contains 9 = .ok (.invokevirtual 81, 3) := by decide +kernel
theorem dX4_contains_12 : decode cX4_contains 12 = .ok (.ifCond .eq 21, 3) := by decide +kernel
theorem dX4_contains_15 : decode cX4_contains 15 = .ok (.aload_n 0, 1) := by decide +kernel
theorem dX4_contains_16 : decode cX4_contains 16 = .ok (.getfield 19, 3) := by decide +kernel
theorem dX4_contains_19 : decode cX4_contains 19 = .ok (.aload_n 0, 1) := by decide +kernel
theorem dX4_contains_20 : decode cX4_contains 20 = .ok (.getfield 23, 3) := by decide +kernel
theorem dX4_contains_23 : decode cX4_contains 23 = .ok (.invokevirtual 85, 3) := by decide +kernel
theorem dX4_contains_26 : decode cX4_contains 26 = .ok (.ifCond .eq 7, 3) := by decide +kernel
theorem dX4_contains_29 : decode cX4_contains 29 = .ok (.iconst 1, 1) := by decide +kernel
theorem dX4_contains_30 : decode cX4_contains 30 = .ok (.goto 4, 3) := by decide +kernel
theorem dX4_contains_33 : decode cX4_contains 33 = .ok (.iconst 0, 1) := by decide +kernel
theorem dX4_contains_34 : decode cX4_contains 34 = .ok (.ireturn, 1) := by decide +kernel
theorem dX4_takesRight_0 : decode cX4_takesRight 0 = .ok (.iconst 1, 1) := by decide +kernel
theorem dX4_takesRight_1 : decode cX4_takesRight 1 = .ok (.istore_n 2, 1) := by decide +kernel
theorem dX4_takesRight_2 : decode cX4_takesRight 2 = .ok (.iconst 0, 1) := by decide +kernel
theorem dX4_takesRight_3 : decode cX4_takesRight 3 = .ok (.istore_n 3, 1) := by decide +kernel
theorem dX4_takesRight_4 : decode cX4_takesRight 4 = .ok (.iload_n 3, 1) := by decide +kernel
theorem dX4_takesRight_5 : decode cX4_takesRight 5 = .ok (.iconst 4, 1) := by decide +kernel
theorem dX4_takesRight_6 : decode cX4_takesRight 6 = .ok (.if_icmp .ge 63, 3) := by decide +kernel
theorem dX4_takesRight_9 : decode cX4_takesRight 9 = .ok (.iload_n 2, 1) := by decide +kernel
theorem dX4_takesRight_10 : decode cX4_takesRight 10 = .ok (.ifCond .eq 59, 3) := by decide +kernel
theorem dX4_takesRight_13 : decode cX4_takesRight 13 = .ok (.aload_n 0, 1) := by decide +kernel
theorem dX4_takesRight_14 : decode cX4_takesRight 14 = .ok (.getfield 10, 3) := by decide +kernel
theorem dX4_takesRight_17 : decode cX4_takesRight 17 = .ok (.aload_n 1, 1) := by decide +kernel
theorem dX4_takesRight_18 : decode cX4_takesRight 18 = .ok (.getfield 34, 3) := by decide +kernel
theorem dX4_takesRight_21 : decode cX4_takesRight 21 = .ok (.aload_n 0, 1) := by decide +kernel
theorem dX4_takesRight_22 : decode cX4_takesRight 22 = .ok (.getfield 10, 3) := by decide +kernel
theorem dX4_takesRight_25 : decode cX4_takesRight 25 = .ok (.iload_n 3, 1) := by decide +kernel
theorem dX4_takesRight_26 : decode cX4_takesRight 26 = .ok (.invokevirtual 62, 3) := by decide +kernel
theorem dX4_takesRight_29 : decode cX4_takesRight 29 = .ok (.aload_n 1, 1) := by decide +kernel
theorem dX4_takesRight_30 : decode cX4_takesRight 30 = .ok (.getfield 43, 3) := by decide +kernel
theorem dX4_takesRight_33 : decode cX4_takesRight 33 = .ok (.aload_n 0, 1) := by decide +kernel
theorem dX4_takesRight_34 : decode cX4_takesRight 34 = .ok (.getfield 23, 3) := by decide +kernel
theorem dX4_takesRight_37 : decode cX4_takesRight 37 = .ok (.invokevirtual 66, 3) := by decide +kernel
theorem dX4_takesRight_40 : decode cX4_takesRight 40 = .ok (.ifCond .eq 21, 3) := by decide +kernel
theorem dX4_takesRight_43 : decode cX4_takesRight 43 = .ok (.aload_n 0, 1) := by decide +kernel
theorem dX4_takesRight_44 : decode cX4_takesRight 44 = .ok (.getfield 19, 3) := by decide +kernel
theorem dX4_takesRight_47 : decode cX4_takesRight 47 = .ok (.aload_n 0, 1) := by decide +kernel
theorem dX4_takesRight_48 : decode cX4_takesRight 48 = .ok (.getfield 23, 3) := by decide +kernel
theorem dX4_takesRight_51 : decode cX4_takesRight 51 = .ok (.invokevirtual 85, 3) := by decide +kernel
theorem dX4_takesRight_54 : decode cX4_takesRight 54 = .ok (.ifCond .eq 7, 3) := by decide +kernel
theorem dX4_takesRight_57 : decode cX4_takesRight 57 = .ok (.iconst 1, 1) := by decide +kernel
theorem dX4_takesRight_58 : decode cX4_takesRight 58 = .ok (.goto 4, 3) := by decide +kernel
theorem dX4_takesRight_61 : decode cX4_takesRight 61 = .ok (.iconst 0, 1) := by decide +kernel
theorem dX4_takesRight_62 : decode cX4_takesRight 62 = .ok (.istore_n 2, 1) := by decide +kernel
theorem dX4_takesRight_63 : decode cX4_takesRight 63 = .ok (.iinc 3 1, 3) := by decide +kernel
theorem dX4_takesRight_66 : decode cX4_takesRight 66 = .ok (.goto (-62), 3) := by decide +kernel
theorem dX4_takesRight_69 : decode cX4_takesRight 69 = .ok (.iload_n 2, 1) := by decide +kernel
theorem dX4_takesRight_70 : decode cX4_takesRight 70 = .ok (.ireturn, 1) := by decide +kernel
theorem dX6_begin_0 : decode cX6_begin 0 = .ok (.aload_n 0, 1) := by decide +kernel
theorem dX6_begin_1 : decode cX6_begin 1 = .ok (.lload_n 1, 1) := by decide +kernel
theorem dX6_begin_2 : decode cX6_begin 2 = .ok (.putfield 7, 3) := by decide +kernel
theorem dX6_begin_5 : decode cX6_begin 5 = .ok (.aload_n 0, 1) := by decide +kernel
theorem dX6_begin_6 : decode cX6_begin 6 = .ok (.lload_n 3, 1) := by decide +kernel
theorem dX6_begin_7 : decode cX6_begin 7 = .ok (.putfield 13, 3) := by decide +kernel
theorem dX6_begin_10 : decode cX6_begin 10 = .ok (.aload_n 0, 1) := by decide +kernel
theorem dX6_begin_11 : decode cX6_begin 11 = .ok (.getfield 19, 3) := by decide +kernel
theorem dX6_begin_14 : decode cX6_begin 14 = .ok (.lconst 1, 1) := by decide +kernel
theorem dX6_begin_15 : decode cX6_begin 15 = .ok (.invokevirtual 27, 3) := by decide +kernel
theorem dX6_begin_18 : decode cX6_begin 18 = .ok (.return_, 1) := by decide +kernel
theorem dX6_leastFrom_0 : decode cX6_leastFrom 0 = .ok (.lload_n 1, 1) := by decide +kernel
theorem dX6_leastFrom_1 : decode cX6_leastFrom 1 = .ok (.lload_n 3, 1) := by decide +kernel
theorem dX6_leastFrom_2 : decode cX6_leastFrom 2 = .ok (.lload_n 1, 1) := by decide +kernel
theorem dX6_leastFrom_3 : decode cX6_leastFrom 3 = .ok (.lsub, 1) := by decide +kernel
theorem dX6_leastFrom_4 : decode cX6_leastFrom 4 = .ok (.lload 5, 2) := by decide +kernel
theorem dX6_leastFrom_6 : decode cX6_leastFrom 6 = .ok (.invokestatic 106, 3) := by decide +kernel
theorem dX6_leastFrom_9 : decode cX6_leastFrom 9 = .ok (.ladd, 1) := by decide +kernel
theorem dX6_leastFrom_10 : decode cX6_leastFrom 10 = .ok (.lreturn, 1) := by decide +kernel
theorem dX6_countFourth_0 : decode cX6_countFourth 0 = .ok (.aload_n 0, 1) := by decide +kernel
theorem dX6_countFourth_1 : decode cX6_countFourth 1 = .ok (.getfield 7, 3) := by decide +kernel
theorem dX6_countFourth_4 : decode cX6_countFourth 4 = .ok (.aload_n 0, 1) := by decide +kernel
theorem dX6_countFourth_5 : decode cX6_countFourth 5 = .ok (.getfield 13, 3) := by decide +kernel
theorem dX6_countFourth_8 : decode cX6_countFourth 8 = .ok (.lmul, 1) := by decide +kernel
theorem dX6_countFourth_9 : decode cX6_countFourth 9 = .ok (.lload_n 1, 1) := by decide +kernel
theorem dX6_countFourth_10 : decode cX6_countFourth 10 = .ok (.invokestatic 54, 3) := by decide +kernel
theorem dX6_countFourth_13 : decode cX6_countFourth 13 = .ok (.ifCond .ne 5, 3) := by decide +kernel
theorem dX6_countFourth_16 : decode cX6_countFourth 16 = .ok (.iconst 0, 1) := by decide +kernel
theorem dX6_countFourth_17 : decode cX6_countFourth 17 = .ok (.ireturn, 1) := by decide +kernel
theorem dX6_countFourth_18 : decode cX6_countFourth 18 = .ok (.lload_n 1, 1) := by decide +kernel
theorem dX6_countFourth_19 : decode cX6_countFourth 19 = .ok (.aload_n 0, 1) := by decide +kernel
theorem dX6_countFourth_20 : decode cX6_countFourth 20 = .ok (.getfield 7, 3) := by decide +kernel
theorem dX6_countFourth_23 : decode cX6_countFourth 23 = .ok (.aload_n 0, 1) := by decide +kernel
theorem dX6_countFourth_24 : decode cX6_countFourth 24 = .ok (.getfield 13, 3) := by decide +kernel
theorem dX6_countFourth_27 : decode cX6_countFourth 27 = .ok (.lmul, 1) := by decide +kernel
theorem dX6_countFourth_28 : decode cX6_countFourth 28 = .ok (.invokestatic 60, 3) := by decide +kernel
theorem dX6_countFourth_31 : decode cX6_countFourth 31 = .ok (.lstore 5, 2) := by decide +kernel
theorem dX6_countFourth_33 : decode cX6_countFourth 33 = .ok (.lload 5, 2) := by decide +kernel
theorem dX6_countFourth_35 : decode cX6_countFourth 35 = .ok (.invokestatic 87, 3) := by decide +kernel
theorem dX6_countFourth_38 : decode cX6_countFourth 38 = .ok (.lstore 7, 2) := by decide +kernel
theorem dX6_countFourth_40 : decode cX6_countFourth 40 = .ok (.lload 7, 2) := by decide +kernel
theorem dX6_countFourth_42 : decode cX6_countFourth 42 = .ok (.lload 7, 2) := by decide +kernel
theorem dX6_countFourth_44 : decode cX6_countFourth 44 = .ok (.lmul, 1) := by decide +kernel
theorem dX6_countFourth_45 : decode cX6_countFourth 45 = .ok (.lload 5, 2) := by decide +kernel
theorem dX6_countFourth_47 : decode cX6_countFourth 47 = .ok (.lcmp, 1) := by decide +kernel
theorem dX6_countFourth_48 : decode cX6_countFourth 48 = .ok (.ifCond .eq 5, 3) := by decide +kernel
theorem dX6_countFourth_51 : decode cX6_countFourth 51 = .ok (.iconst 0, 1) := by decide +kernel
theorem dX6_countFourth_52 : decode cX6_countFourth 52 = .ok (.ireturn, 1) := by decide +kernel
theorem dX6_countFourth_53 : decode cX6_countFourth 53 = .ok (.aload_n 0, 1) := by decide +kernel
theorem dX6_countFourth_54 : decode cX6_countFourth 54 = .ok (.iconst 3, 1) := by decide +kernel
theorem dX6_countFourth_55 : decode cX6_countFourth 55 = .ok (.invokevirtual 86, 3) := by decide +kernel
theorem dX6_countFourth_58 : decode cX6_countFourth 58 = .ok (.iconst 3, 1) := by decide +kernel
theorem dX6_countFourth_59 : decode cX6_countFourth 59 = .ok (.laload, 1) := by decide +kernel
theorem dX6_countFourth_60 : decode cX6_countFourth 60 = .ok (.lstore 9, 2) := by decide +kernel
theorem dX6_countFourth_62 : decode cX6_countFourth 62 = .ok (.lload 9, 2) := by decide +kernel
theorem dX6_countFourth_64 : decode cX6_countFourth 64 = .ok (.lload 7, 2) := by decide +kernel
theorem dX6_countFourth_66 : decode cX6_countFourth 66 = .ok (.lload_n 3, 1) := by decide +kernel
theorem dX6_countFourth_67 : decode cX6_countFourth 67 = .ok (.lsub, 1) := by decide +kernel
theorem dX6_countFourth_68 : decode cX6_countFourth 68 = .ok (.invokestatic 54, 3) := by decide +kernel
theorem dX6_countFourth_71 : decode cX6_countFourth 71 = .ok (.ifCond .eq 7, 3) := by decide +kernel
theorem dX6_countFourth_74 : decode cX6_countFourth 74 = .ok (.iconst 1, 1) := by decide +kernel
theorem dX6_countFourth_75 : decode cX6_countFourth 75 = .ok (.goto 4, 3) := by decide +kernel
theorem dX6_countFourth_78 : decode cX6_countFourth 78 = .ok (.iconst 0, 1) := by decide +kernel
theorem dX6_countFourth_79 : decode cX6_countFourth 79 = .ok (.istore 11, 2) := by decide +kernel
theorem dX6_countFourth_81 : decode cX6_countFourth 81 = .ok (.lload 7, 2) := by decide +kernel
theorem dX6_countFourth_83 : decode cX6_countFourth 83 = .ok (.lconst 0, 1) := by decide +kernel
theorem dX6_countFourth_84 : decode cX6_countFourth 84 = .ok (.lcmp, 1) := by decide +kernel
theorem dX6_countFourth_85 : decode cX6_countFourth 85 = .ok (.ifCond .eq 23, 3) := by decide +kernel
theorem dX6_countFourth_88 : decode cX6_countFourth 88 = .ok (.lload 9, 2) := by decide +kernel
theorem dX6_countFourth_90 : decode cX6_countFourth 90 = .ok (.lload 7, 2) := by decide +kernel
theorem dX6_countFourth_92 : decode cX6_countFourth 92 = .ok (.lneg, 1) := by decide +kernel
theorem dX6_countFourth_93 : decode cX6_countFourth 93 = .ok (.lload_n 3, 1) := by decide +kernel
theorem dX6_countFourth_94 : decode cX6_countFourth 94 = .ok (.lsub, 1) := by decide +kernel
theorem dX6_countFourth_95 : decode cX6_countFourth 95 = .ok (.invokestatic 54, 3) := by decide +kernel
theorem dX6_countFourth_98 : decode cX6_countFourth 98 = .ok (.ifCond .eq 10, 3) := by decide +kernel
theorem dX6_countFourth_101 : decode cX6_countFourth 101 = .ok (.iload 11, 2) := by decide +kernel
theorem dX6_countFourth_103 : decode cX6_countFourth 103 = .ok (.iconst 1, 1) := by decide +kernel
theorem dX6_countFourth_104 : decode cX6_countFourth 104 = .ok (.iadd, 1) := by decide +kernel
theorem dX6_countFourth_105 : decode cX6_countFourth 105 = .ok (.goto 5, 3) := by decide +kernel
theorem dX6_countFourth_108 : decode cX6_countFourth 108 = .ok (.iload 11, 2) := by decide +kernel
theorem dX6_countFourth_110 : decode cX6_countFourth 110 = .ok (.ireturn, 1) := by decide +kernel
theorem dX6_countThird_0 : decode cX6_countThird 0 = .ok (.iconst 0, 1) := by decide +kernel
theorem dX6_countThird_1 : decode cX6_countThird 1 = .ok (.istore 7, 2) := by decide +kernel
theorem dX6_countThird_3 : decode cX6_countThird 3 = .ok (.aload_n 0, 1) := by decide +kernel
theorem dX6_countThird_4 : decode cX6_countThird 4 = .ok (.iconst 2, 1) := by decide +kernel
theorem dX6_countThird_5 : decode cX6_countThird 5 = .ok (.invokevirtual 86, 3) := by decide +kernel
theorem dX6_countThird_8 : decode cX6_countThird 8 = .ok (.iconst 2, 1) := by decide +kernel
theorem dX6_countThird_9 : decode cX6_countThird 9 = .ok (.laload, 1) := by decide +kernel
theorem dX6_countThird_10 : decode cX6_countThird 10 = .ok (.lstore 8, 2) := by decide +kernel
theorem dX6_countThird_12 : decode cX6_countThird 12 = .ok (.lload_n 1, 1) := by decide +kernel
theorem dX6_countThird_13 : decode cX6_countThird 13 = .ok (.aload_n 0, 1) := by decide +kernel
theorem dX6_countThird_14 : decode cX6_countThird 14 = .ok (.getfield 13, 3) := by decide +kernel
theorem dX6_countThird_17 : decode cX6_countThird 17 = .ok (.lneg, 1) := by decide +kernel
theorem dX6_countThird_18 : decode cX6_countThird 18 = .ok (.invokestatic 60, 3) := by decide +kernel
theorem dX6_countThird_21 : decode cX6_countThird 21 = .ok (.invokestatic 87, 3) := by decide +kernel
theorem dX6_countThird_24 : decode cX6_countThird 24 = .ok (.lstore 10, 2) := by decide +kernel
theorem dX6_countThird_26 : decode cX6_countThird 26 = .ok (.aload_n 0, 1) := by decide +kernel
theorem dX6_countThird_27 : decode cX6_countThird 27 = .ok (.lload 10, 2) := by decide +kernel
theorem dX6_countThird_29 : decode cX6_countThird 29 = .ok (.lneg, 1) := by decide +kernel
theorem dX6_countThird_30 : decode cX6_countThird 30 = .ok (.lload_n 3, 1) := by decide +kernel
theorem dX6_countThird_31 : decode cX6_countThird 31 = .ok (.lload 8, 2) := by decide +kernel
theorem dX6_countThird_33 : decode cX6_countThird 33 = .ok (.invokevirtual 94, 3) := by decide +kernel
theorem dX6_countThird_36 : decode cX6_countThird 36 = .ok (.lstore 12, 2) := by decide +kernel
theorem dX6_countThird_38 : decode cX6_countThird 38 = .ok (.lload 12, 2) := by decide +kernel
theorem dX6_countThird_40 : decode cX6_countThird 40 = .ok (.lload 10, 2) := by decide +kernel
theorem dX6_countThird_42 : decode cX6_countThird 42 = .ok (.lcmp, 1) := by decide +kernel
theorem dX6_countThird_43 : decode cX6_countThird 43 = .ok (.ifCond .gt 65, 3) := by decide +kernel
theorem dX6_countThird_46 : decode cX6_countThird 46 = .ok (.lload 8, 2) := by decide +kernel
theorem dX6_countThird_48 : decode cX6_countThird 48 = .ok (.lconst 0, 1) := by decide +kernel
theorem dX6_countThird_49 : decode cX6_countThird 49 = .ok (.lcmp, 1) := by decide +kernel
theorem dX6_countThird_50 : decode cX6_countThird 50 = .ok (.ifCond .le 58, 3) := by decide +kernel
theorem dX6_countThird_53 : decode cX6_countThird 53 = .ok (.lload 12, 2) := by decide +kernel
theorem dX6_countThird_55 : decode cX6_countThird 55 = .ok (.lload_n 3, 1) := by decide +kernel
theorem dX6_countThird_56 : decode cX6_countThird 56 = .ok (.lsub, 1) := by decide +kernel
theorem dX6_countThird_57 : decode cX6_countThird 57 = .ok (.lload 8, 2) := by decide +kernel
theorem dX6_countThird_59 : decode cX6_countThird 59 = .ok (.invokestatic 60, 3) := by decide +kernel
theorem dX6_countThird_62 : decode cX6_countThird 62 = .ok (.lstore 14, 2) := by decide +kernel
theorem dX6_countThird_64 : decode cX6_countThird 64 = .ok (.iload 7, 2) := by decide +kernel
theorem dX6_countThird_66 : decode cX6_countThird 66 = .ok (.aload_n 0, 1) := by decide +kernel
theorem dX6_countThird_67 : decode cX6_countThird 67 = .ok (.lload_n 1, 1) := by decide +kernel
theorem dX6_countThird_68 : decode cX6_countThird 68 = .ok (.aload_n 0, 1) := by decide +kernel
theorem dX6_countThird_69 : decode cX6_countThird 69 = .ok (.getfield 13, 3) := by decide +kernel
theorem dX6_countThird_72 : decode cX6_countThird 72 = .ok (.lload 12, 2) := by decide +kernel
theorem dX6_countThird_74 : decode cX6_countThird 74 = .ok (.lmul, 1) := by decide +kernel
theorem dX6_countThird_75 : decode cX6_countThird 75 = .ok (.lload 12, 2) := by decide +kernel
theorem dX6_countThird_77 : decode cX6_countThird 77 = .ok (.lmul, 1) := by decide +kernel
theorem dX6_countThird_78 : decode cX6_countThird 78 = .ok (.ladd, 1) := by decide +kernel
theorem dX6_countThird_79 : decode cX6_countThird 79 = .ok (.lload 5, 2) := by decide +kernel
theorem dX6_countThird_81 : decode cX6_countThird 81 = .ok (.lload 14, 2) := by decide +kernel
theorem dX6_countThird_83 : decode cX6_countThird 83 = .ok (.aload_n 0, 1) := by decide +kernel
theorem dX6_countThird_84 : decode cX6_countThird 84 = .ok (.iconst 2, 1) := by decide +kernel
theorem dX6_countThird_85 : decode cX6_countThird 85 = .ok (.invokevirtual 86, 3) := by decide +kernel
theorem dX6_countThird_88 : decode cX6_countThird 88 = .ok (.iconst 3, 1) := by decide +kernel
theorem dX6_countThird_89 : decode cX6_countThird 89 = .ok (.laload, 1) := by decide +kernel
theorem dX6_countThird_90 : decode cX6_countThird 90 = .ok (.lmul, 1) := by decide +kernel
theorem dX6_countThird_91 : decode cX6_countThird 91 = .ok (.ladd, 1) := by decide +kernel
theorem dX6_countThird_92 : decode cX6_countThird 92 = .ok (.invokevirtual 102, 3) := by decide +kernel
theorem dX6_countThird_95 : decode cX6_countThird 95 = .ok (.iadd, 1) := by decide +kernel
theorem dX6_countThird_96 : decode cX6_countThird 96 = .ok (.istore 7, 2) := by decide +kernel
theorem dX6_countThird_98 : decode cX6_countThird 98 = .ok (.lload 12, 2) := by decide +kernel
theorem dX6_countThird_100 : decode cX6_countThird 100 = .ok (.lload 8, 2) := by decide +kernel
theorem dX6_countThird_102 : decode cX6_countThird 102 = .ok (.ladd, 1) := by decide +kernel
theorem dX6_countThird_103 : decode cX6_countThird 103 = .ok (.lstore 12, 2) := by decide +kernel
theorem dX6_countThird_105 : decode cX6_countThird 105 = .ok (.goto (-67), 3) := by decide +kernel
theorem dX6_countThird_108 : decode cX6_countThird 108 = .ok (.iload 7, 2) := by decide +kernel
theorem dX6_countThird_110 : decode cX6_countThird 110 = .ok (.ireturn, 1) := by decide +kernel
theorem dX6_countSecond_0 : decode cX6_countSecond 0 = .ok (.iconst 0, 1) := by decide +kernel
theorem dX6_countSecond_1 : decode cX6_countSecond 1 = .ok (.istore_n 3, 1) := by decide +kernel
theorem dX6_countSecond_2 : decode cX6_countSecond 2 = .ok (.aload_n 0, 1) := by decide +kernel
theorem dX6_countSecond_3 : decode cX6_countSecond 3 = .ok (.iconst 1, 1) := by decide +kernel
theorem dX6_countSecond_4 : decode cX6_countSecond 4 = .ok (.invokevirtual 86, 3) := by decide +kernel
theorem dX6_countSecond_7 : decode cX6_countSecond 7 = .ok (.iconst 1, 1) := by decide +kernel
theorem dX6_countSecond_8 : decode cX6_countSecond 8 = .ok (.laload, 1) := by decide +kernel
theorem dX6_countSecond_9 : decode cX6_countSecond 9 = .ok (.lstore 4, 2) := by decide +kernel
theorem dX6_countSecond_11 : decode cX6_countSecond 11 = .ok (.lload_n 1, 1) := by decide +kernel
theorem dX6_countSecond_12 : decode cX6_countSecond 12 = .ok (.aload_n 0, 1) := by decide +kernel
theorem dX6_countSecond_13 : decode cX6_countSecond 13 = .ok (.getfield 7, 3) := by decide +kernel
theorem dX6_countSecond_16 : decode cX6_countSecond 16 = .ok (.lneg, 1) := by decide +kernel
theorem dX6_countSecond_17 : decode cX6_countSecond 17 = .ok (.invokestatic 60, 3) := by decide +kernel
theorem dX6_countSecond_20 : decode cX6_countSecond 20 = .ok (.invokestatic 87, 3) := by decide +kernel
theorem dX6_countSecond_23 : decode cX6_countSecond 23 = .ok (.lstore 6, 2) := by decide +kernel
theorem dX6_countSecond_25 : decode cX6_countSecond 25 = .ok (.aload_n 0, 1) := by decide +kernel
theorem dX6_countSecond_26 : decode cX6_countSecond 26 = .ok (.lload 6, 2) := by decide +kernel
theorem dX6_countSecond_28 : decode cX6_countSecond 28 = .ok (.lneg, 1) := by decide +kernel
theorem dX6_countSecond_29 : decode cX6_countSecond 29 = .ok (.aload_n 0, 1) := by decide +kernel
theorem dX6_countSecond_30 : decode cX6_countSecond 30 = .ok (.getfield 23, 3) := by decide +kernel
theorem dX6_countSecond_33 : decode cX6_countSecond 33 = .ok (.iconst 1, 1) := by decide +kernel
theorem dX6_countSecond_34 : decode cX6_countSecond 34 = .ok (.laload, 1) := by decide +kernel
theorem dX6_countSecond_35 : decode cX6_countSecond 35 = .ok (.lload 4, 2) := by decide +kernel
theorem dX6_countSecond_37 : decode cX6_countSecond 37 = .ok (.invokevirtual 94, 3) := by decide +kernel
theorem dX6_countSecond_40 : decode cX6_countSecond 40 = .ok (.lstore 8, 2) := by decide +kernel
theorem dX6_countSecond_42 : decode cX6_countSecond 42 = .ok (.lload 8, 2) := by decide +kernel
theorem dX6_countSecond_44 : decode cX6_countSecond 44 = .ok (.lload 6, 2) := by decide +kernel
theorem dX6_countSecond_46 : decode cX6_countSecond 46 = .ok (.lcmp, 1) := by decide +kernel
theorem dX6_countSecond_47 : decode cX6_countSecond 47 = .ok (.ifCond .gt 97, 3) := by decide +kernel
theorem dX6_countSecond_50 : decode cX6_countSecond 50 = .ok (.lload 4, 2) := by decide +kernel
theorem dX6_countSecond_52 : decode cX6_countSecond 52 = .ok (.lconst 0, 1) := by decide +kernel
theorem dX6_countSecond_53 : decode cX6_countSecond 53 = .ok (.lcmp, 1) := by decide +kernel
theorem dX6_countSecond_54 : decode cX6_countSecond 54 = .ok (.ifCond .le 90, 3) := by decide +kernel
theorem dX6_countSecond_57 : decode cX6_countSecond 57 = .ok (.lload 8, 2) := by decide +kernel
theorem dX6_countSecond_59 : decode cX6_countSecond 59 = .ok (.aload_n 0, 1) := by decide +kernel
theorem dX6_countSecond_60 : decode cX6_countSecond 60 = .ok (.getfield 23, 3) := by decide +kernel
theorem dX6_countSecond_63 : decode cX6_countSecond 63 = .ok (.iconst 1, 1) := by decide +kernel
theorem dX6_countSecond_64 : decode cX6_countSecond 64 = .ok (.laload, 1) := by decide +kernel
theorem dX6_countSecond_65 : decode cX6_countSecond 65 = .ok (.lsub, 1) := by decide +kernel
theorem dX6_countSecond_66 : decode cX6_countSecond 66 = .ok (.lload 4, 2) := by decide +kernel
theorem dX6_countSecond_68 : decode cX6_countSecond 68 = .ok (.invokestatic 60, 3) := by decide +kernel
theorem dX6_countSecond_71 : decode cX6_countSecond 71 = .ok (.lstore 10, 2) := by decide +kernel
theorem dX6_countSecond_73 : decode cX6_countSecond 73 = .ok (.aload_n 0, 1) := by decide +kernel
theorem dX6_countSecond_74 : decode cX6_countSecond 74 = .ok (.getfield 23, 3) := by decide +kernel
theorem dX6_countSecond_77 : decode cX6_countSecond 77 = .ok (.iconst 2, 1) := by decide +kernel
theorem dX6_countSecond_78 : decode cX6_countSecond 78 = .ok (.laload, 1) := by decide +kernel
theorem dX6_countSecond_79 : decode cX6_countSecond 79 = .ok (.lload 10, 2) := by decide +kernel
theorem dX6_countSecond_81 : decode cX6_countSecond 81 = .ok (.aload_n 0, 1) := by decide +kernel
theorem dX6_countSecond_82 : decode cX6_countSecond 82 = .ok (.iconst 1, 1) := by decide +kernel
theorem dX6_countSecond_83 : decode cX6_countSecond 83 = .ok (.invokevirtual 86, 3) := by decide +kernel
theorem dX6_countSecond_86 : decode cX6_countSecond 86 = .ok (.iconst 2, 1) := by decide +kernel
theorem dX6_countSecond_87 : decode cX6_countSecond 87 = .ok (.laload, 1) := by decide +kernel
theorem dX6_countSecond_88 : decode cX6_countSecond 88 = .ok (.lmul, 1) := by decide +kernel
theorem dX6_countSecond_89 : decode cX6_countSecond 89 = .ok (.ladd, 1) := by decide +kernel
theorem dX6_countSecond_90 : decode cX6_countSecond 90 = .ok (.lstore 12, 2) := by decide +kernel
theorem dX6_countSecond_92 : decode cX6_countSecond 92 = .ok (.aload_n 0, 1) := by decide +kernel
theorem dX6_countSecond_93 : decode cX6_countSecond 93 = .ok (.getfield 23, 3) := by decide +kernel
theorem dX6_countSecond_96 : decode cX6_countSecond 96 = .ok (.iconst 3, 1) := by decide +kernel
theorem dX6_countSecond_97 : decode cX6_countSecond 97 = .ok (.laload, 1) := by decide +kernel
theorem dX6_countSecond_98 : decode cX6_countSecond 98 = .ok (.lload 10, 2) := by decide +kernel
theorem dX6_countSecond_100 : decode cX6_countSecond 100 = .ok (.aload_n 0, 1) := by decide +kernel
theorem dX6_countSecond_101 : decode cX6_countSecond 101 = .ok (.iconst 1, 1) := by decide +kernel
theorem dX6_countSecond_102 : decode cX6_countSecond 102 = .ok (.invokevirtual 86, 3) := by decide +kernel
theorem dX6_countSecond_105 : decode cX6_countSecond 105 = .ok (.iconst 3, 1) := by decide +kernel
theorem dX6_countSecond_106 : decode cX6_countSecond 106 = .ok (.laload, 1) := by decide +kernel
theorem dX6_countSecond_107 : decode cX6_countSecond 107 = .ok (.lmul, 1) := by decide +kernel
theorem dX6_countSecond_108 : decode cX6_countSecond 108 = .ok (.ladd, 1) := by decide +kernel
theorem dX6_countSecond_109 : decode cX6_countSecond 109 = .ok (.lstore 14, 2) := by decide +kernel
theorem dX6_countSecond_111 : decode cX6_countSecond 111 = .ok (.iload_n 3, 1) := by decide +kernel
theorem dX6_countSecond_112 : decode cX6_countSecond 112 = .ok (.aload_n 0, 1) := by decide +kernel
theorem dX6_countSecond_113 : decode cX6_countSecond 113 = .ok (.lload_n 1, 1) := by decide +kernel
theorem dX6_countSecond_114 : decode cX6_countSecond 114 = .ok (.aload_n 0, 1) := by decide +kernel
theorem dX6_countSecond_115 : decode cX6_countSecond 115 = .ok (.getfield 7, 3) := by decide +kernel
theorem dX6_countSecond_118 : decode cX6_countSecond 118 = .ok (.lload 8, 2) := by decide +kernel
theorem dX6_countSecond_120 : decode cX6_countSecond 120 = .ok (.lmul, 1) := by decide +kernel
theorem dX6_countSecond_121 : decode cX6_countSecond 121 = .ok (.lload 8, 2) := by decide +kernel
theorem dX6_countSecond_123 : decode cX6_countSecond 123 = .ok (.lmul, 1) := by decide +kernel
theorem dX6_countSecond_124 : decode cX6_countSecond 124 = .ok (.ladd, 1) := by decide +kernel
theorem dX6_countSecond_125 : decode cX6_countSecond 125 = .ok (.lload 12, 2) := by decide +kernel
theorem dX6_countSecond_127 : decode cX6_countSecond 127 = .ok (.lload 14, 2) := by decide +kernel
theorem dX6_countSecond_129 : decode cX6_countSecond 129 = .ok (.invokevirtual 98, 3) := by decide +kernel
theorem dX6_countSecond_132 : decode cX6_countSecond 132 = .ok (.iadd, 1) := by decide +kernel
theorem dX6_countSecond_133 : decode cX6_countSecond 133 = .ok (.istore_n 3, 1) := by decide +kernel
theorem dX6_countSecond_134 : decode cX6_countSecond 134 = .ok (.lload 8, 2) := by decide +kernel
theorem dX6_countSecond_136 : decode cX6_countSecond 136 = .ok (.lload 4, 2) := by decide +kernel
theorem dX6_countSecond_138 : decode cX6_countSecond 138 = .ok (.ladd, 1) := by decide +kernel
theorem dX6_countSecond_139 : decode cX6_countSecond 139 = .ok (.lstore 8, 2) := by decide +kernel
theorem dX6_countSecond_141 : decode cX6_countSecond 141 = .ok (.goto (-99), 3) := by decide +kernel
theorem dX6_countSecond_144 : decode cX6_countSecond 144 = .ok (.iload_n 3, 1) := by decide +kernel
theorem dX6_countSecond_145 : decode cX6_countSecond 145 = .ok (.ireturn, 1) := by decide +kernel
def mX3_lotsByWhole_B45 (v0 : Nat) (v1 : Int) (v3 : Int) (σ : mSt) : Option (Int × mSt) := some (v3, σ)
def mX3_lotsByWhole_L5 (v0 : Nat) (v1 : Int) (x45 : Int → mSt → Option (Int × mSt)) : Nat → Int → Int → mSt → Option (Int × mSt)
  | 0, _, _, _ => none
  | n + 1, v3, v5, σ => if 4 ≤ wI v5 then (x45 v3 σ) else mRef (σ v0 0) fun r2 => mG (ixOK r2 27 v5) <| mRef (σ r2 (wI v5).toNat) fun r5 => mG (ixOK r5 21 v5) <| mCall (mX5_quotient (σ v0 2) (σ r5 (wI v5).toNat) σ) fun b8 s9 => bnd (v3 * b8) fun a11 => if wL a11 ≤ wL v1 then (bnd (v5 + 1) fun a14 => mX3_lotsByWhole_L5 v0 v1 x45 n a11 a14 s9) else some (0, s9)
def mX3_lotsByWhole (v0 : Nat) (v1 : Int) (σ : mSt) : Option (Int × mSt) := mG (isC v0 3) <| mX3_lotsByWhole_L5 v0 v1 (fun z3 zσ => mX3_lotsByWhole_B45 v0 v1 z3 zσ) mF 1 0 σ
def mX6_discriminantOf (v0 : Nat) (v1 : Nat) (σ : mSt) : Option (Int × mSt) := mG (isC v0 5) <| mCall (mJ9_abs_067f4 ((4 * (σ v0 0)) * (σ v0 1)) σ) fun b1 s2 => mCall (mX3_lotsByWhole v1 b1 s2) fun b4 s5 => mCall (mX5_divides b4 b1 s5) fun b7 s8 => if wI b7 = 0 then (some (0, s8)) else mCall (mX5_quotient b1 b4 s8) fun b11 s12 => some (b11, s12)
def mX2_isWhole_B154 (v0 : Nat) (v3 : Int) (σ : mSt) : Option (Int × mSt) := mG (v3 = 0 ∨ v3 = 1) <| some (v3, σ)
def mX2_isWhole_B148 (v0 : Nat) (v1 : Int) (c21 : Int → Int → mSt → Option (Int × mSt)) (x154 : Int → mSt → Option (Int × mSt)) (v3 : Int) (v4 : Int) (σ : mSt) : Option (Int × mSt) := bnd (v4 + 1) fun a2 => c21 v3 a2 σ
def mX2_isWhole_L98 (v0 : Nat) (v1 : Int) (v4 : Int) (v5 : Nat) (x148 : Int → mSt → Option (Int × mSt)) : Nat → Int → Int → mSt → Option (Int × mSt)
  | 0, _, _, _ => none
  | n + 1, v3, v6, σ => if wI v4 ≤ wI v6 then (x148 v3 σ) else if wI v3 = 0 then (x148 v3 σ) else mRef (σ v0 0) fun r6 => mG (isC r6 5) <| mRef (σ v0 0) fun r9 => mG (isC r9 5) <| mRef (σ v0 3) fun r12 => mCall (mX3_numbersOf r12 v6 σ) fun b14 s15 => mCall (mX1_pairing (σ r6 0) (σ r9 1) v5 b14.toNat s15) fun b17 s18 => mCall (mX5_divides v1 b17 s18) fun b20 s21 => bnd (v6 + 1) fun a23 => mX2_isWhole_L98 v0 v1 v4 v5 x148 n b20 a23 s21
def mX2_isWhole_B94 (v0 : Nat) (v1 : Int) (c21 : Int → Int → mSt → Option (Int × mSt)) (x154 : Int → mSt → Option (Int × mSt)) (v4 : Int) (v5 : Nat) (t0 : Int) (σ : mSt) : Option (Int × mSt) := mX2_isWhole_L98 v0 v1 v4 v5 (fun z3 zσ => mX2_isWhole_B148 v0 v1 c21 x154 z3 v4 zσ) mF t0 0 σ
def mX2_isWhole_B93 (v0 : Nat) (v1 : Int) (c21 : Int → Int → mSt → Option (Int × mSt)) (x154 : Int → mSt → Option (Int × mSt)) (v4 : Int) (v5 : Nat) (σ : mSt) : Option (Int × mSt) := mX2_isWhole_B94 v0 v1 c21 x154 v4 v5 0 σ
def mX2_isWhole_L21 (v0 : Nat) (v1 : Int) (x154 : Int → mSt → Option (Int × mSt)) : Nat → Int → Int → mSt → Option (Int × mSt)
  | 0, _, _, _ => none
  | n + 1, v3, v4, σ => if 4 ≤ wI v4 then (x154 v3 σ) else if wI v3 = 0 then (x154 v3 σ) else mRef (σ v0 3) fun r27 => mCall (mX3_numbersOf r27 v4 σ) fun b29 s30 => mRef (s30 v0 3) fun r32 => mCall (mX3_modulus r32 s30) fun b34 s35 => mG (ixOK b29.toNat 21 0) <| mCall (mX5_divides b34 (2 * (s35 b29.toNat 0)) s35) fun b38 s39 => if wI b38 = 0 then (mX2_isWhole_B93 v0 v1 (mX2_isWhole_L21 v0 v1 x154 n) x154 v4 b29.toNat s39) else mRef (s39 v0 0) fun r42 => mG (isC r42 5) <| mRef (s39 v0 0) fun r45 => mG (isC r45 5) <| mCall (mX1_form (s39 r42 0) (s39 r45 1) b29.toNat s39) fun b48 s49 => mCall (mX5_divides v1 b48 s49) fun b51 s52 => if wI b51 = 0 then (mX2_isWhole_B93 v0 v1 (mX2_isWhole_L21 v0 v1 x154 n) x154 v4 b29.toNat s52) else mX2_isWhole_B94 v0 v1 (mX2_isWhole_L21 v0 v1 x154 n) x154 v4 b29.toNat 1 s52
def mX2_isWhole (v0 : Nat) (σ : mSt) : Option (Int × mSt) := mG (isC v0 2) <| mRef (σ v0 3) fun r55 => mCall (mX3_modulus r55 σ) fun b57 s58 => mRef (s58 v0 3) fun r60 => mCall (mX3_modulus r60 s58) fun b62 s63 => bnd (b57 * b62) fun a65 => mX2_isWhole_L21 v0 a65 (fun z3 zσ => mX2_isWhole_B154 v0 z3 zσ) mF 1 0 s63
def mX2_multiplyTrial_B92 (v0 : Nat) (σ : mSt) : Option (Int × mSt) := mRef (σ v0 4) fun r1 => mCall (mX3_settle r1 σ) fun b3 s4 => mRef (s4 v0 4) fun r6 => mCall (mX3_lower r6 s4) fun b8 s9 => some (0, s9)
def mX2_multiplyTrial_B86 (v0 : Nat) (c20 : Int → mSt → Option (Int × mSt)) (x92 : mSt → Option (Int × mSt)) (v1 : Int) (σ : mSt) : Option (Int × mSt) := bnd (v1 + 1) fun a11 => c20 a11 σ
def mX2_multiplyTrial_L27 (v0 : Nat) (v1 : Int) (x86 : mSt → Option (Int × mSt)) : Nat → Int → mSt → Option (Int × mSt)
  | 0, _, _ => none
  | n + 1, v2, σ => if 4 ≤ wI v2 then (x86 σ) else mRef (σ v0 0) fun r14 => mG (isC r14 5) <| mRef (σ v0 0) fun r17 => mG (isC r17 5) <| mRef (σ v0 3) fun r20 => mCall (mX3_numbersOf r20 v1 σ) fun b22 s23 => mRef (s23 v0 3) fun r25 => mCall (mX3_numbersOf r25 v2 s23) fun b27 s28 => mRef (s28 v0 6) fun r30 => mCall (mX1_multiply (σ r14 0) (σ r17 1) b22.toNat b27.toNat r30 s28) fun b32 s33 => mRef (s33 v0 4) fun r35 => mRef (s33 v0 6) fun r37 => mCall (mX3_add r35 r37 s33) fun b39 s40 => bnd (v2 + 1) fun a42 => mX2_multiplyTrial_L27 v0 v1 x86 n a42 s40
def mX2_multiplyTrial_L20 (v0 : Nat) (x92 : mSt → Option (Int × mSt)) : Nat → Int → mSt → Option (Int × mSt)
  | 0, _, _ => none
  | n + 1, v1, σ => if 4 ≤ wI v1 then (x92 σ) else mX2_multiplyTrial_L27 v0 v1 (fun zσ => mX2_multiplyTrial_B86 v0 (mX2_multiplyTrial_L20 v0 x92 n) x92 v1 zσ) mF 0 σ
def mX2_multiplyTrial (v0 : Nat) (σ : mSt) : Option (Int × mSt) := mG (isC v0 2) <| mRef (σ v0 4) fun r45 => mRef (σ v0 3) fun r47 => mRef (σ v0 3) fun r49 => mCall (mX3_modulus r49 σ) fun b51 s52 => mCall (mX3_copy r45 r47 b51 s52) fun b54 s55 => mX2_multiplyTrial_L20 v0 (fun zσ => mX2_multiplyTrial_B92 v0 zσ) mF 0 s55
def mX2_isClosedWhole_B83 (v0 : Nat) (σ : mSt) : Option (Int × mSt) := some (0, σ)
def mX2_isClosedWhole_L2 (v0 : Nat) (x83 : mSt → Option (Int × mSt)) : Nat → Int → mSt → Option (Int × mSt)
  | 0, _, _ => none
  | n + 1, v1, σ => if 40 ≤ wI v1 then (x83 σ) else mRef (σ v0 0) fun r2 => mRef (σ v0 3) fun r4 => mCall (mX6_discriminantOf r2 r4 σ) fun b6 s7 => if wL b6 = 0 then (some (0, s7)) else mCall (mX2_isWhole v0 s7) fun b10 s11 => if wI b10 = 0 then (some (0, s11)) else mCall (mX2_multiplyTrial v0 s11) fun b14 s15 => mRef (s15 v0 0) fun r17 => mRef (s15 v0 4) fun r19 => mCall (mX6_discriminantOf r17 r19 s15) fun b21 s22 => if wL b21 = wL b6 then (some (1, s22)) else mRef (s22 v0 3) fun r25 => mRef (s22 v0 4) fun r27 => mG (r27 ≠ 0) <| bnd (upS s22 v0 3 (r27 : Int)) fun s30 => mG (r25 ≠ 0) <| bnd (upS s30 v0 4 (r25 : Int)) fun s33 => bnd (v1 + 1) fun a35 => mX2_isClosedWhole_L2 v0 x83 n a35 s33
def mX2_isClosedWhole (v0 : Nat) (σ : mSt) : Option (Int × mSt) := mG (isC v0 2) <| mX2_isClosedWhole_L2 v0 (fun zσ => mX2_isClosedWhole_B83 v0 zσ) mF 0 σ
def mX2_isFit_B41 (v0 : Nat) (v1 : Nat) (σ : mSt) : Option (Int × mSt) := mRef (σ v0 0) fun r1 => mG (isC r1 5) <| mRef (σ v0 0) fun r4 => mG (isC r4 5) <| mCall (mX1_form (σ r1 0) (σ r4 1) v1 σ) fun b7 s8 => mCall (mX5_divides ((σ v0 2) * (σ v0 2)) b7 s8) fun b10 s11 => if wI b10 = 0 then (some (0, s11)) else mRef (s11 v0 3) fun r14 => mRef (s11 v0 0) fun r16 => mG (isC r16 5) <| mRef (s11 r16 2) fun r19 => mCall (mX3_copy r14 r19 (wI (s11 v0 1)) s11) fun b21 s22 => mRef (s22 v0 3) fun r24 => mCall (mX3_add r24 v1 s22) fun b26 s27 => mRef (s27 v0 3) fun r29 => mCall (mX3_settle r29 s27) fun b31 s32 => mRef (s32 v0 3) fun r34 => mCall (mX3_lower r34 s32) fun b36 s37 => mCall (mX2_isClosedWhole v0 s37) fun b39 s40 => mG (b39 = 0 ∨ b39 = 1) <| some (b39, s40)
def mX2_isFit (v0 : Nat) (σ : mSt) : Option (Int × mSt) := mG (isC v0 2) <| mRef (σ v0 5) fun r43 => mG (ixOK r43 27 4) <| mRef (σ r43 4) fun r46 => mG (ixOK r46 21 0) <| if wL (σ r46 0) = 0 then (mG (ixOK r46 21 1) <| if wL (σ r46 1) = 0 then (mG (ixOK r46 21 2) <| if wL (σ r46 2) = 0 then (mG (ixOK r46 21 3) <| if wL (σ r46 3) = 0 then (some (0, σ)) else mX2_isFit_B41 v0 r46 σ) else mX2_isFit_B41 v0 r46 σ) else mX2_isFit_B41 v0 r46 σ) else mX2_isFit_B41 v0 r46 σ
def mX6_discriminant (v0 : Nat) (σ : mSt) : Option (Int × mSt) := mG (isC v0 5) <| mRef (σ v0 2) fun r1 => mCall (mX6_discriminantOf v0 r1 σ) fun b3 s4 => some (b3, s4)
def mX2_takeTrial (v0 : Nat) (σ : mSt) : Option (Int × mSt) := mG (isC v0 2) <| mRef (σ v0 0) fun r1 => mCall (mX6_discriminant r1 σ) fun b3 s4 => mRef (s4 v0 0) fun r6 => mG (isC r6 5) <| mRef (s4 r6 2) fun r9 => mRef (s4 v0 3) fun r11 => mCall (mX3_copy r9 r11 1 s4) fun b13 s14 => mRef (s14 v0 0) fun r16 => mCall (mX6_discriminant r16 s14) fun b18 s19 => mCall (mX5_quotient b3 b18 s19) fun b21 s22 => some (b21, s22)
def mX2_grow_B142 (v0 : Nat) (v1 : Nat) (v2 : Int) (σ : mSt) : Option (Int × mSt) := some (0, σ)
def mX2_grow_B136 (v0 : Nat) (v1 : Nat) (v2 : Int) (c26 : Int → mSt → Option (Int × mSt)) (x142 : mSt → Option (Int × mSt)) (v3 : Int) (σ : mSt) : Option (Int × mSt) := bnd (v3 + 1) fun a1 => c26 a1 σ
def mX2_grow_B130 (v0 : Nat) (v1 : Nat) (v2 : Int) (v3 : Int) (c46 : Int → mSt → Option (Int × mSt)) (x136 : mSt → Option (Int × mSt)) (v4 : Int) (σ : mSt) : Option (Int × mSt) := bnd (v4 + 1) fun a3 => c46 a3 σ
def mX2_grow_B124 (v0 : Nat) (v1 : Nat) (v2 : Int) (v3 : Int) (v4 : Int) (c68 : Int → mSt → Option (Int × mSt)) (x130 : mSt → Option (Int × mSt)) (v5 : Int) (σ : mSt) : Option (Int × mSt) := bnd (v5 + 1) fun a5 => c68 a5 σ
def mX2_grow_L90 (v0 : Nat) (v1 : Nat) (v2 : Int) (v3 : Int) (v4 : Int) (v5 : Int) (x124 : mSt → Option (Int × mSt)) : Nat → Int → mSt → Option (Int × mSt)
  | 0, _, _ => none
  | n + 1, v6, σ => if wI v2 ≤ wI v6 then (x124 σ) else mCall (mX2_goesOn v0 3 v6 σ) fun b8 s9 => if wI b8 = 0 then (bnd (v6 + 1) fun a12 => mX2_grow_L90 v0 v1 v2 v3 v4 v5 x124 n a12 s9) else mCall (mX2_isFit v0 s9) fun b14 s15 => if wI b14 = 0 then (bnd (v6 + 1) fun a18 => mX2_grow_L90 v0 v1 v2 v3 v4 v5 x124 n a18 s15) else mCall (mX2_takeTrial v0 s15) fun b20 s21 => some (b20, s21)
def mX2_grow_L68 (v0 : Nat) (v1 : Nat) (v2 : Int) (v3 : Int) (v4 : Int) (x130 : mSt → Option (Int × mSt)) : Nat → Int → mSt → Option (Int × mSt)
  | 0, _, _ => none
  | n + 1, v5, σ => if wI v2 ≤ wI v5 then (x130 σ) else mCall (mX2_goesOn v0 2 v5 σ) fun b24 s25 => if wI b24 = 0 then (mX2_grow_B124 v0 v1 v2 v3 v4 (mX2_grow_L68 v0 v1 v2 v3 v4 x130 n) x130 v5 s25) else mX2_grow_L90 v0 v1 v2 v3 v4 v5 (fun zσ => mX2_grow_B124 v0 v1 v2 v3 v4 (mX2_grow_L68 v0 v1 v2 v3 v4 x130 n) x130 v5 zσ) mF 0 s25
def mX2_grow_L46 (v0 : Nat) (v1 : Nat) (v2 : Int) (v3 : Int) (x136 : mSt → Option (Int × mSt)) : Nat → Int → mSt → Option (Int × mSt)
  | 0, _, _ => none
  | n + 1, v4, σ => if wI v2 ≤ wI v4 then (x136 σ) else mCall (mX2_goesOn v0 1 v4 σ) fun b29 s30 => if wI b29 = 0 then (mX2_grow_B130 v0 v1 v2 v3 (mX2_grow_L46 v0 v1 v2 v3 x136 n) x136 v4 s30) else mX2_grow_L68 v0 v1 v2 v3 v4 (fun zσ => mX2_grow_B130 v0 v1 v2 v3 (mX2_grow_L46 v0 v1 v2 v3 x136 n) x136 v4 zσ) mF 0 s30
def mX2_grow_L26 (v0 : Nat) (v1 : Nat) (v2 : Int) (x142 : mSt → Option (Int × mSt)) : Nat → Int → mSt → Option (Int × mSt)
  | 0, _, _ => none
  | n + 1, v3, σ => if wI v2 ≤ wI v3 then (x142 σ) else mCall (mX2_goesOn v0 0 v3 σ) fun b34 s35 => if wI b34 = 0 then (mX2_grow_B136 v0 v1 v2 (mX2_grow_L26 v0 v1 v2 x142 n) x142 v3 s35) else mX2_grow_L46 v0 v1 v2 v3 (fun zσ => mX2_grow_B136 v0 v1 v2 (mX2_grow_L26 v0 v1 v2 x142 n) x142 v3 zσ) mF 0 s35
def mX2_grow (v0 : Nat) (v1 : Nat) (v2 : Int) (σ : mSt) : Option (Int × mSt) := mG (isC v0 2) <| mG (v1 ≠ 0) <| bnd (upS σ v0 0 (v1 : Int)) fun s39 => bnd (upS s39 v0 1 v2) fun s41 => mRef (s41 v0 0) fun r43 => mCall (mX6_below r43 s41) fun b45 s46 => bnd (upS s46 v0 2 (b45 * (wI v2))) fun s48 => mX2_grow_L26 v0 v1 v2 (fun zσ => mX2_grow_B142 v0 v1 v2 zσ) mF 0 s48
def mX3_begin_B53 (v0 : Nat) (v1 : Int) (σ : mSt) : Option (Int × mSt) := some (0, σ)
def mX3_begin_B47 (v0 : Nat) (v1 : Int) (c7 : Int → mSt → Option (Int × mSt)) (x53 : mSt → Option (Int × mSt)) (v3 : Int) (σ : mSt) : Option (Int × mSt) := bnd (v3 + 1) fun a1 => c7 a1 σ
def mX3_begin_L15 (v0 : Nat) (v1 : Int) (v3 : Int) (x47 : mSt → Option (Int × mSt)) : Nat → Int → mSt → Option (Int × mSt)
  | 0, _, _ => none
  | n + 1, v4, σ => if 4 ≤ wI v4 then (x47 σ) else mRef (σ v0 0) fun r4 => mG (ixOK r4 27 v3) <| mRef (σ r4 (wI v3).toNat) fun r7 => if wI v3 = wI v4 then (mG (ixOK r7 21 v4) <| bnd (upS σ r7 (wI v4).toNat v1) fun s16 => bnd (v4 + 1) fun a18 => mX3_begin_L15 v0 v1 v3 x47 n a18 s16) else mG (ixOK r7 21 v4) <| bnd (upS σ r7 (wI v4).toNat 0) fun s11 => bnd (v4 + 1) fun a13 => mX3_begin_L15 v0 v1 v3 x47 n a13 s11
def mX3_begin_L7 (v0 : Nat) (v1 : Int) (x53 : mSt → Option (Int × mSt)) : Nat → Int → mSt → Option (Int × mSt)
  | 0, _, _ => none
  | n + 1, v3, σ => if 4 ≤ wI v3 then (x53 σ) else mX3_begin_L15 v0 v1 v3 (fun zσ => mX3_begin_B47 v0 v1 (mX3_begin_L7 v0 v1 x53 n) x53 v3 zσ) mF 0 σ
def mX3_begin (v0 : Nat) (v1 : Int) (σ : mSt) : Option (Int × mSt) := mG (isC v0 3) <| bnd (upS σ v0 2 v1) fun s21 => mX3_begin_L7 v0 v1 (fun zσ => mX3_begin_B53 v0 v1 zσ) mF 0 s21
def mX3_express_B86 (v0 : Nat) (v1 : Nat) (σ : mSt) : Option (Int × mSt) := some (1, σ)
def mX3_express_B76 (v0 : Nat) (v1 : Nat) (c2 : Int → mSt → Option (Int × mSt)) (x86 : mSt → Option (Int × mSt)) (v2 : Int) (v3 : Int) (σ : mSt) : Option (Int × mSt) := mG (ixOK v1 21 v2) <| bnd (upS σ v1 (wI v2).toNat v3) fun s2 => bnd (v2 + 1) fun a4 => c2 a4 s2
def mX3_express_L46 (v0 : Nat) (v1 : Nat) (v2 : Int) (v3 : Int) (x76 : mSt → Option (Int × mSt)) : Nat → Int → mSt → Option (Int × mSt)
  | 0, _, _ => none
  | n + 1, v5, σ => if 4 ≤ wI v5 then (x76 σ) else mG (ixOK v1 21 v5) <| mRef (σ v0 0) fun r8 => mG (ixOK r8 27 v2) <| mRef (σ r8 (wI v2).toNat) fun r11 => mG (ixOK r11 21 v5) <| bnd (upS σ v1 (wI v5).toNat ((σ v1 (wI v5).toNat) - (v3 * (σ r11 (wI v5).toNat)))) fun s14 => bnd (v5 + 1) fun a16 => mX3_express_L46 v0 v1 v2 v3 x76 n a16 s14
def mX3_express_L2 (v0 : Nat) (v1 : Nat) (x86 : mSt → Option (Int × mSt)) : Nat → Int → mSt → Option (Int × mSt)
  | 0, _, _ => none
  | n + 1, v2, σ => if 4 ≤ wI v2 then (x86 σ) else mRef (σ v0 0) fun r19 => mG (ixOK r19 27 v2) <| mRef (σ r19 (wI v2).toNat) fun r22 => mG (ixOK r22 21 v2) <| mG (ixOK v1 21 v2) <| mCall (mX5_divides (σ r22 (wI v2).toNat) (σ v1 (wI v2).toNat) σ) fun b26 s27 => if wI b26 = 0 then (some (0, s27)) else mRef (s27 v0 0) fun r30 => mG (ixOK r30 27 v2) <| mRef (s27 r30 (wI v2).toNat) fun r33 => mG (ixOK r33 21 v2) <| mCall (mX5_quotient (s27 v1 (wI v2).toNat) (s27 r33 (wI v2).toNat) s27) fun b36 s37 => bnd (v2 + 1) fun a39 => mX3_express_L46 v0 v1 v2 b36 (fun zσ => mX3_express_B76 v0 v1 (mX3_express_L2 v0 v1 x86 n) x86 v2 b36 zσ) mF a39 s37
def mX3_express (v0 : Nat) (v1 : Nat) (σ : mSt) : Option (Int × mSt) := mG (isC v0 3) <| mX3_express_L2 v0 v1 (fun zσ => mX3_express_B86 v0 v1 zσ) mF 0 σ
def mX3_has_B29 (v0 : Nat) (v1 : Nat) (σ : mSt) : Option (Int × mSt) := mRef (σ v0 1) fun r1 => mCall (mX3_express v0 r1 σ) fun b3 s4 => mG (b3 = 0 ∨ b3 = 1) <| some (b3, s4)
def mX3_has_L2 (v0 : Nat) (v1 : Nat) (x29 : mSt → Option (Int × mSt)) : Nat → Int → mSt → Option (Int × mSt)
  | 0, _, _ => none
  | n + 1, v2, σ => if 4 ≤ wI v2 then (x29 σ) else mRef (σ v0 1) fun r8 => mG (ixOK v1 21 v2) <| mCall (mX5_rest (σ v1 (wI v2).toNat) (σ v0 2) σ) fun b11 s12 => mG (ixOK r8 21 v2) <| bnd (upS s12 r8 (wI v2).toNat b11) fun s15 => bnd (v2 + 1) fun a17 => mX3_has_L2 v0 v1 x29 n a17 s15
def mX3_has (v0 : Nat) (v1 : Nat) (σ : mSt) : Option (Int × mSt) := mG (isC v0 3) <| mX3_has_L2 v0 v1 (fun zσ => mX3_has_B29 v0 v1 zσ) mF 0 σ
def mX3_lots (v0 : Nat) (σ : mSt) : Option (Int × mSt) := mG (isC v0 3) <| mRef (σ v0 0) fun r1 => mG (ixOK r1 27 0) <| mRef (σ r1 0) fun r4 => mG (ixOK r4 21 0) <| mRef (σ v0 0) fun r7 => mG (ixOK r7 27 1) <| mRef (σ r7 1) fun r10 => mG (ixOK r10 21 1) <| mRef (σ v0 0) fun r13 => mG (ixOK r13 27 2) <| mRef (σ r13 2) fun r16 => mG (ixOK r16 21 2) <| mRef (σ v0 0) fun r19 => mG (ixOK r19 27 3) <| mRef (σ r19 3) fun r22 => mG (ixOK r22 21 3) <| some ((((σ r4 0) * (σ r10 1)) * (σ r16 2)) * (σ r22 3), σ)
def mX4_begin (v0 : Nat) (v1 : Nat) (v2 : Nat) (σ : mSt) : Option (Int × mSt) := mG (isC v0 4) <| mG (v1 ≠ 0) <| bnd (upS σ v0 0 (v1 : Int)) fun s2 => mRef (s2 v0 0) fun r4 => mG (isC r4 5) <| mRef (s2 v0 0) fun r7 => mG (isC r7 5) <| mG (isC v2 1) <| mRef (s2 v2 0) fun r11 => mCall (mX1_form (s2 r4 0) (s2 r7 1) r11 s2) fun b13 s14 => mRef (s14 v0 1) fun r16 => mCall (mX5_quotient b13 ((s14 v2 1) * (s14 v2 1)) s14) fun b18 s19 => mCall (mJ9_abs_067f4 b18 s19) fun b21 s22 => mCall (mX3_begin r16 b21 s22) fun b24 s25 => some (0, s25)
def mX6_expressOver_B47 (v0 : Nat) (v1 : Nat) (v2 : Int) (v4 : Nat) (v5 : Int) (σ : mSt) : Option (Int × mSt) := mRef (σ v0 2) fun r1 => mCall (mX3_express r1 v4 σ) fun b3 s4 => mG (b3 = 0 ∨ b3 = 1) <| some (b3, s4)
def mX6_expressOver_L3 (v0 : Nat) (v1 : Nat) (v2 : Int) (v4 : Nat) (v5 : Int) (x47 : mSt → Option (Int × mSt)) : Nat → Int → mSt → Option (Int × mSt)
  | 0, _, _ => none
  | n + 1, v7, σ => if 4 ≤ wI v7 then (x47 σ) else mG (ixOK v1 21 v7) <| mCall (mX5_divides v2 ((σ v1 (wI v7).toNat) * v5) σ) fun b9 s10 => if wI b9 = 0 then (some (0, s10)) else mCall (mX5_quotient ((s10 v1 (wI v7).toNat) * v5) v2 s10) fun b13 s14 => mG (ixOK v4 21 v7) <| bnd (upS s14 v4 (wI v7).toNat b13) fun s17 => bnd (v7 + 1) fun a19 => mX6_expressOver_L3 v0 v1 v2 v4 v5 x47 n a19 s17
def mX6_expressOver (v0 : Nat) (v1 : Nat) (v2 : Int) (v4 : Nat) (v5 : Int) (σ : mSt) : Option (Int × mSt) := mG (isC v0 5) <| mX6_expressOver_L3 v0 v1 v2 v4 v5 (fun zσ => mX6_expressOver_B47 v0 v1 v2 v4 v5 zσ) mF 0 σ
def mX6_expressProduct (v0 : Nat) (v1 : Nat) (v2 : Nat) (v3 : Int) (v5 : Nat) (σ : mSt) : Option (Int × mSt) := mG (isC v0 5) <| mRef (σ v0 3) fun r1 => mCall (mX1_multiply (σ v0 0) (σ v0 1) v1 v2 r1 σ) fun b3 s4 => mRef (s4 v0 3) fun r6 => mCall (mX6_expressOver v0 r6 v3 v5 1 s4) fun b8 s9 => mG (b8 = 0 ∨ b8 = 1) <| some (b8, s9)
def mX4_join_B54 (v0 : Nat) (v1 : Nat) (σ : mSt) : Option (Int × mSt) := mRef (σ v0 1) fun r1 => mCall (mX3_settle r1 σ) fun b3 s4 => some (0, s4)
def mX4_join_L2 (v0 : Nat) (v1 : Nat) (x54 : mSt → Option (Int × mSt)) : Nat → Int → mSt → Option (Int × mSt)
  | 0, _, _ => none
  | n + 1, v2, σ => if 4 ≤ wI v2 then (x54 σ) else mRef (σ v0 0) fun r7 => mRef (σ v0 0) fun r9 => mCall (mX6_numbersOf r9 v2 σ) fun b11 s12 => mG (isC v1 1) <| mRef (s12 v1 0) fun r15 => mRef (s12 v0 2) fun r17 => mCall (mX6_expressProduct r7 b11.toNat r15 (s12 v1 1) r17 s12) fun b19 s20 => if wI b19 = 0 then (bnd (v2 + 1) fun a23 => mX4_join_L2 v0 v1 x54 n a23 s20) else mRef (s20 v0 1) fun r25 => mRef (s20 v0 2) fun r27 => mCall (mX3_add r25 r27 s20) fun b29 s30 => bnd (v2 + 1) fun a32 => mX4_join_L2 v0 v1 x54 n a32 s30
def mX4_join (v0 : Nat) (v1 : Nat) (σ : mSt) : Option (Int × mSt) := mG (isC v0 4) <| mX4_join_L2 v0 v1 (fun zσ => mX4_join_B54 v0 v1 zσ) mF 0 σ
def mX4_lots (v0 : Nat) (σ : mSt) : Option (Int × mSt) := mG (isC v0 4) <| mRef (σ v0 1) fun r1 => mCall (mX3_lots r1 σ) fun b3 s4 => some (b3, s4)
def mX6_express (v0 : Nat) (v1 : Nat) (v2 : Nat) (σ : mSt) : Option (Int × mSt) := mG (isC v0 5) <| mG (isC v1 1) <| mRef (σ v1 0) fun r2 => mCall (mX6_below v0 σ) fun b4 s5 => mCall (mX6_expressOver v0 r2 (σ v1 1) v2 b4 s5) fun b7 s8 => mG (b7 = 0 ∨ b7 = 1) <| some (b7, s8)
def mX4_contains (v0 : Nat) (v1 : Nat) (σ : mSt) : Option (Int × mSt) := mG (isC v0 4) <| mRef (σ v0 0) fun r1 => mRef (σ v0 2) fun r3 => mCall (mX6_express r1 v1 r3 σ) fun b5 s6 => if wI b5 = 0 then (some (0, s6)) else mRef (s6 v0 1) fun r9 => mRef (s6 v0 2) fun r11 => mCall (mX3_has r9 r11 s6) fun b13 s14 => if wI b13 = 0 then (some (0, s14)) else some (1, s14)
def mX4_takesRight_B69 (v0 : Nat) (v1 : Nat) (v2 : Int) (σ : mSt) : Option (Int × mSt) := mG (v2 = 0 ∨ v2 = 1) <| some (v2, σ)
def mX4_takesRight_L4 (v0 : Nat) (v1 : Nat) (x69 : Int → mSt → Option (Int × mSt)) : Nat → Int → Int → mSt → Option (Int × mSt)
  | 0, _, _, _ => none
  | n + 1, v2, v3, σ => if 4 ≤ wI v3 then (x69 v2 σ) else if wI v2 = 0 then (x69 v2 σ) else mRef (σ v0 0) fun r4 => mG (isC v1 1) <| mRef (σ v1 0) fun r7 => mRef (σ v0 0) fun r9 => mCall (mX6_numbersOf r9 v3 σ) fun b11 s12 => mRef (s12 v0 2) fun r14 => mCall (mX6_expressProduct r4 r7 b11.toNat (s12 v1 1) r14 s12) fun b16 s17 => if wI b16 = 0 then (bnd (v3 + 1) fun a20 => mX4_takesRight_L4 v0 v1 x69 n 0 a20 s17) else mRef (s17 v0 1) fun r22 => mRef (s17 v0 2) fun r24 => mCall (mX3_has r22 r24 s17) fun b26 s27 => if wI b26 = 0 then (bnd (v3 + 1) fun a30 => mX4_takesRight_L4 v0 v1 x69 n 0 a30 s27) else bnd (v3 + 1) fun a32 => mX4_takesRight_L4 v0 v1 x69 n 1 a32 s27
def mX4_takesRight (v0 : Nat) (v1 : Nat) (σ : mSt) : Option (Int × mSt) := mG (isC v0 4) <| mX4_takesRight_L4 v0 v1 (fun z2 zσ => mX4_takesRight_B69 v0 v1 z2 zσ) mF 1 0 σ
def mX6_begin (v0 : Nat) (v1 : Int) (v3 : Int) (σ : mSt) : Option (Int × mSt) := mG (isC v0 5) <| bnd (upS σ v0 0 v1) fun s1 => bnd (upS s1 v0 1 v3) fun s3 => mRef (s3 v0 2) fun r5 => mCall (mX3_begin r5 1 s3) fun b7 s8 => some (0, s8)
def mX6_leastFrom (v0 : Nat) (v1 : Int) (v3 : Int) (v5 : Int) (σ : mSt) : Option (Int × mSt) := mG (isC v0 5) <| mCall (mX5_rest (v3 - v1) v5 σ) fun b1 s2 => some (v1 + b1, s2)
def mX6_countFourth_B79 (v0 : Nat) (v1 : Int) (v3 : Int) (v7 : Int) (v9 : Int) (t0 : Int) (σ : mSt) : Option (Int × mSt) := if wL v7 = 0 then (some (t0, σ)) else mCall (mX5_divides v9 ((-v7) - v3) σ) fun b2 s3 => if wI b2 = 0 then (some (t0, s3)) else some (t0 + 1, s3)
def mX6_countFourth (v0 : Nat) (v1 : Int) (v3 : Int) (σ : mSt) : Option (Int × mSt) := mG (isC v0 5) <| mCall (mX5_divides ((σ v0 0) * (σ v0 1)) v1 σ) fun b6 s7 => if wI b6 = 0 then (some (0, s7)) else mCall (mX5_quotient v1 ((s7 v0 0) * (s7 v0 1)) s7) fun b10 s11 => mCall (mX5_root b10 s11) fun b13 s14 => if wL (b13 * b13) = wL b10 then (mCall (mX6_numbersOf v0 3 s14) fun b17 s18 => mG (ixOK b17.toNat 21 3) <| bnd (s18 b17.toNat 3) fun a21 => mCall (mX5_divides a21 (b13 - v3) s18) fun b23 s24 => if wI b23 = 0 then (mX6_countFourth_B79 v0 v1 v3 b13 a21 0 s24) else mX6_countFourth_B79 v0 v1 v3 b13 a21 1 s24) else some (0, s14)
def mX6_countThird_B108 (v0 : Nat) (v1 : Int) (v3 : Int) (v5 : Int) (v7 : Int) (σ : mSt) : Option (Int × mSt) := some (v7, σ)
def mX6_countThird_L38 (v0 : Nat) (v1 : Int) (v3 : Int) (v5 : Int) (v8 : Int) (v10 : Int) (x108 : Int → mSt → Option (Int × mSt)) : Nat → Int → Int → mSt → Option (Int × mSt)
  | 0, _, _, _ => none
  | n + 1, v7, v12, σ => if wL v10 < wL v12 then (x108 v7 σ) else if wL v8 ≤ 0 then (x108 v7 σ) else mCall (mX5_quotient (v12 - v3) v8 σ) fun b3 s4 => mCall (mX6_numbersOf v0 2 s4) fun b6 s7 => mG (ixOK b6.toNat 21 3) <| mCall (mX6_countFourth v0 (v1 + (((s4 v0 1) * v12) * v12)) (v5 + (b3 * (s7 b6.toNat 3))) s7) fun b10 s11 => bnd (v7 + b10) fun a13 => bnd (v12 + v8) fun a15 => mX6_countThird_L38 v0 v1 v3 v5 v8 v10 x108 n a13 a15 s11
def mX6_countThird (v0 : Nat) (v1 : Int) (v3 : Int) (v5 : Int) (σ : mSt) : Option (Int × mSt) := mG (isC v0 5) <| mCall (mX6_numbersOf v0 2 σ) fun b17 s18 => mG (ixOK b17.toNat 21 2) <| bnd (s18 b17.toNat 2) fun a21 => mCall (mX5_quotient v1 (-(s18 v0 1)) s18) fun b23 s24 => mCall (mX5_root b23 s24) fun b26 s27 => mCall (mX6_leastFrom v0 (-b26) v3 a21 s27) fun b29 s30 => mX6_countThird_L38 v0 v1 v3 v5 a21 b26 (fun z7 zσ => mX6_countThird_B108 v0 v1 v3 v5 z7 zσ) mF 0 b29 s30
def mX6_countSecond_B144 (v0 : Nat) (v1 : Int) (v3 : Int) (σ : mSt) : Option (Int × mSt) := some (v3, σ)
def mX6_countSecond_L42 (v0 : Nat) (v1 : Int) (v4 : Int) (v6 : Int) (x144 : Int → mSt → Option (Int × mSt)) : Nat → Int → Int → mSt → Option (Int × mSt)
  | 0, _, _, _ => none
  | n + 1, v3, v8, σ => if wL v6 < wL v8 then (x144 v3 σ) else if wL v4 ≤ 0 then (x144 v3 σ) else mRef (σ v0 3) fun r3 => mG (ixOK r3 21 1) <| mCall (mX5_quotient (v8 - (σ r3 1)) v4 σ) fun b6 s7 => mRef (s7 v0 3) fun r9 => mG (ixOK r9 21 2) <| mCall (mX6_numbersOf v0 1 s7) fun b12 s13 => mG (ixOK b12.toNat 21 2) <| bnd ((s7 r9 2) + (b6 * (s13 b12.toNat 2))) fun a16 => mRef (s13 v0 3) fun r18 => mG (ixOK r18 21 3) <| mCall (mX6_numbersOf v0 1 s13) fun b21 s22 => mG (ixOK b21.toNat 21 3) <| bnd ((s13 r18 3) + (b6 * (s22 b21.toNat 3))) fun a25 => mCall (mX6_countThird v0 (v1 + (((s22 v0 0) * v8) * v8)) a16 a25 s22) fun b27 s28 => bnd (v3 + b27) fun a30 => bnd (v8 + v4) fun a32 => mX6_countSecond_L42 v0 v1 v4 v6 x144 n a30 a32 s28
def mX6_countSecond (v0 : Nat) (v1 : Int) (σ : mSt) : Option (Int × mSt) := mG (isC v0 5) <| mCall (mX6_numbersOf v0 1 σ) fun b34 s35 => mG (ixOK b34.toNat 21 1) <| bnd (s35 b34.toNat 1) fun a38 => mCall (mX5_quotient v1 (-(s35 v0 0)) s35) fun b40 s41 => mCall (mX5_root b40 s41) fun b43 s44 => mRef (s44 v0 3) fun r46 => mG (ixOK r46 21 1) <| mCall (mX6_leastFrom v0 (-b43) (s44 r46 1) a38 s44) fun b49 s50 => mX6_countSecond_L42 v0 v1 a38 b43 (fun z3 zσ => mX6_countSecond_B144 v0 v1 z3 zσ) mF 0 b49 s50
set_option maxRecDepth 100000 in
set_option maxHeartbeats 4000000 in
theorem wX3_lotsByWhole_B45 (l : Launch) (E : mE) (out : Int × mSt) {p : Program} {e : Env} {s : State} {m : MethodId} {args : Array Value} {below : List Frame} {meth : Method} {c : Code} (G : CallFix p m c cX3_lotsByWhole 6 s args mTs RX3) (hr : meth.sig.returnType = (some .long)) (hk : meth.locks = false) (v0 : Nat) (v1 : Int) (g0 : isC v0 3) : ∀ (v3 : Int) (σ : mSt) (H : Heap) (locs : List Loc) (ls : Array Slot), mX3_lotsByWhole_B45 v0 v1 v3 σ = some out → mM (mA E 276) E 276 σ s H locs → lv_has ls 6 [(3, vL v3)] → mGo l p e 2 48 s m args below meth c E (some (vL out.1)) out.2 H locs (F0 m 45 ls []) := by
  intro v3 σ H locs ls hm hM hl
  unfold mX3_lotsByWhole_B45 at hm
  refine r_lload_n (np := 46) G hl 0 rfl dX3_lotsByWhole_45 rfl rfl ?_
  exact r_lret G hr hk hM hm dX3_lotsByWhole_46
set_option maxRecDepth 100000 in
set_option maxHeartbeats 4000000 in
theorem wX3_lotsByWhole_L5 (l : Launch) (E : mE) (out : Int × mSt) {p : Program} {e : Env} {s : State} {m : MethodId} {args : Array Value} {below : List Frame} {meth : Method} {c : Code} (G : CallFix p m c cX3_lotsByWhole 6 s args mTs RX3) (hr : meth.sig.returnType = (some .long)) (hk : meth.locks = false) (v0 : Nat) (v1 : Int) (g0 : isC v0 3) (x45 : Int → mSt → Option (Int × mSt)) (hx45 : ∀ (v3 : Int) (σ : mSt) (H : Heap) (locs : List Loc) (ls : Array Slot), x45 v3 σ = some out → mM (mA E 276) E 276 σ s H locs → lv_has ls 6 [(3, vL v3)] → mGo l p e 2 48 s m args below meth c E (some (vL out.1)) out.2 H locs (F0 m 45 ls [])) : ∀ (n : Nat) (v3 : Int) (v5 : Int) (σ : mSt) (H : Heap) (locs : List Loc) (ls : Array Slot), mX3_lotsByWhole_L5 v0 v1 x45 n v3 v5 σ = some out → mM (mA E 276) E 276 σ s H locs → lv_has ls 6 [(0, .ref (eA E v0)), (1, vL v1), (3, vL v3), (5, vI v5)] → mGo l p e 2 48 s m args below meth c E (some (vL out.1)) out.2 H locs (F0 m 5 ls []) := by
  intro n
  induction n with
  | zero =>
    intro v3 v5 σ H locs ls hm hM hl
    exact absurd hm (by rw [mX3_lotsByWhole_L5.eq_1]; exact fun h => nomatch h)
  | succ n ih =>
    intro v3 v5 σ H locs ls hm hM hl
    rw [mX3_lotsByWhole_L5.eq_2] at hm
    refine r_iload (np := 7) G hl 3 rfl dX3_lotsByWhole_5 rfl ?_
    refine r_iconst (np := 8) G 4 dX3_lotsByWhole_7 rfl ?_
    refine r_icmp_ge (np := 11) (tgt := 45) G rfl (wIk 4 rfl) dX3_lotsByWhole_8 (by decide) rfl (fun h1 => ?_) (fun h1 => ?_)
    · have hm := b_t h1 hm
      exact hx45 v3 _ _ _ _ hm hM (lv_sub hl [2] rfl)
    · have hm := b_f h1 hm
      refine r_lload_n (np := 12) G hl 2 rfl dX3_lotsByWhole_11 rfl rfl ?_
      refine r_aload_n (np := 13) G hl 0 rfl dX3_lotsByWhole_12 rfl rfl ?_
      refine r_getL (np := 16) G hM (shp_lt g0 (by decide)) g0 fdX3_2 lkX3_18 dX3_lotsByWhole_13 rfl ?_
      refine r_aload_n (np := 17) G hl 0 rfl dX3_lotsByWhole_16 rfl rfl ?_
      obtain ⟨r2, e3, hm⟩ := ref_t hm
      refine r_getR (np := 20) G hM (shp_lt g0 (by decide)) g0 e3 fdX3_0 lkX3_9 dX3_lotsByWhole_17 rfl ?_
      refine r_iload (np := 22) G hl 3 rfl dX3_lotsByWhole_20 rfl ?_
      obtain ⟨g4, hm⟩ := g_t hm
      obtain ⟨r5, e6, hm⟩ := ref_t hm
      refine r_aaload (np := 23) G hM (t := 7) g4 rfl ⟨by decide, by decide⟩ rfl rfl e6 dX3_lotsByWhole_22 rfl ?_
      refine r_iload (np := 25) G hl 3 rfl dX3_lotsByWhole_23 rfl ?_
      obtain ⟨g7, hm⟩ := g_t hm
      refine r_laload (np := 26) G hM g7 rfl dX3_lotsByWhole_25 rfl ?_
      obtain ⟨b8, s9, e10, hm⟩ := call_t hm
      refine m_callSL (np := 29) G hM hl.1 [vL (σ v0 2), vL (σ r5 (wI v5).toNat)] (qX5_quotient l E σ (σ v0 2) (σ r5 (wI v5).toNat) _ e10) myX5_quotient lkX3_28 ⟨Nat.le_of_ble_eq_true rfl, Nat.le_of_ble_eq_true rfl⟩ ⟨Nat.le_of_ble_eq_true rfl, Nat.le_of_ble_eq_true rfl⟩ [vL v3] rfl (Nat.le_of_ble_eq_true rfl) dX3_lotsByWhole_26 rfl (fun H locs hM => ?_)
      refine r_lmul (np := 30) G dX3_lotsByWhole_29 rfl ?_
      obtain ⟨a11, e12, hm⟩ := bnd_t hm
      refine r_lstore_n (np := 31) G hl e12 [(3, vL a11), (0, .ref (eA E v0)), (1, vL v1), (5, vI v5)] dX3_lotsByWhole_30 rfl rfl (by decide) rfl (fun ls hl => ?_)
      refine r_lload_n (np := 32) G hl 0 rfl dX3_lotsByWhole_31 rfl rfl ?_
      refine r_lload_n (np := 33) G hl 2 rfl dX3_lotsByWhole_32 rfl rfl ?_
      refine r_lcmp_le (np := 37) (tgt := 39) G rfl rfl dX3_lotsByWhole_33 dX3_lotsByWhole_34 (by decide) rfl (fun h13 => ?_) (fun h13 => ?_)
      · have hm := b_t h13 hm
        obtain ⟨a14, e15, hm⟩ := bnd_t hm
        refine r_iinc (np := 42) G hl 3 rfl e15 [(5, vI a14), (3, vL a11), (0, .ref (eA E v0)), (1, vL v1)] dX3_lotsByWhole_39 rfl (by decide) rfl (fun ls hl => ?_)
        refine r_goto (np := 5) G dX3_lotsByWhole_42 (by decide) ?_
        exact ih a11 a14 _ _ _ _ hm hM (lv_sub hl [2, 3, 1, 0] rfl)
      · have hm := b_f h13 hm
        refine r_lconst (np := 38) G 0 dX3_lotsByWhole_37 rfl rfl ?_
        exact r_lret G hr hk hM hm dX3_lotsByWhole_38
set_option maxRecDepth 100000 in
set_option maxHeartbeats 4000000 in
theorem qX3_lotsByWhole (l : Launch) (E : mE) (σ : mSt) (v0 : Nat) (v1 : Int) (out : Int × mSt) (hm : mX3_lotsByWhole v0 v1 σ = some out) : mMet l yX3_lotsByWhole cX3_lotsByWhole 6 (some .long) 2 48 E 276 [.ref (eA E v0), vL v1] σ (some (vL out.1)) out.2 := by
  unfold mX3_lotsByWhole at hm
  obtain ⟨g0, hm⟩ := g_t hm
  refine m_entry (by decide +kernel) (Nat.le_of_ble_eq_true rfl) (fun p e s m args below meth c G hr hk hM ls hl => ?_)
  have G : CallFix p m c cX3_lotsByWhole 6 s args mTs RX3 := G
  have hl : lv_has ls 6 [(0, .ref (eA E v0)), (1, vL v1)] := hl
  refine r_lconst (np := 1) G 1 dX3_lotsByWhole_0 rfl rfl ?_
  refine r_lstore_n (np := 2) G hl rfl [(3, vL 1), (0, .ref (eA E v0)), (1, vL v1)] dX3_lotsByWhole_1 rfl rfl (by decide) rfl (fun ls hl => ?_)
  refine r_iconst (np := 3) G 0 dX3_lotsByWhole_2 rfl ?_
  refine r_istore (np := 5) G hl rfl [(5, vI 0), (3, vL 1), (0, .ref (eA E v0)), (1, vL v1)] dX3_lotsByWhole_3 rfl (by decide) rfl (fun ls hl => ?_)
  exact wX3_lotsByWhole_L5 l E out G hr hk v0 v1 g0 (fun z3 zσ => mX3_lotsByWhole_B45 v0 v1 z3 zσ) (fun z3 zσ zH zl zs zm zM zv => wX3_lotsByWhole_B45 l E out G hr hk v0 v1 g0 z3 zσ zH zl zs zm zM zv) mF 1 0 _ _ _ _ hm hM (lv_sub hl [2, 3, 1, 0] rfl)
theorem gX3_lotsByWhole {v0 : Nat} {v1 : Int} {σ : mSt} {out : Int × mSt} (hm : mX3_lotsByWhole v0 v1 σ = some out) : isC v0 3 := (g_t hm).1
set_option maxRecDepth 100000 in
set_option maxHeartbeats 4000000 in
theorem qX6_discriminantOf (l : Launch) (E : mE) (σ : mSt) (v0 : Nat) (v1 : Nat) (out : Int × mSt) (hm : mX6_discriminantOf v0 v1 σ = some out) : mMet l yX6_discriminantOf cX6_discriminantOf 6 (some .long) 3 73 E 276 [.ref (eA E v0), .ref (eA E v1)] σ (some (vL out.1)) out.2 := by
  unfold mX6_discriminantOf at hm
  obtain ⟨g0, hm⟩ := g_t hm
  refine m_entry (by decide +kernel) (Nat.le_of_ble_eq_true rfl) (fun p e s m args below meth c G hr hk hM ls hl => ?_)
  have G : CallFix p m c cX6_discriminantOf 6 s args mTs RX6 := G
  have hl : lv_has ls 6 [(0, .ref (eA E v0)), (1, .ref (eA E v1))] := hl
  refine r_ldc2 (np := 3) G 4 dX6_discriminantOf_0 lkX6_43 rfl rfl ?_
  refine r_aload_n (np := 4) G hl 0 rfl dX6_discriminantOf_3 rfl rfl ?_
  refine r_getL (np := 7) G hM (shp_lt g0 (by decide)) g0 fdX6_0 lkX6_7 dX6_discriminantOf_4 rfl ?_
  refine r_lmul (np := 8) G dX6_discriminantOf_7 rfl ?_
  refine r_aload_n (np := 9) G hl 0 rfl dX6_discriminantOf_8 rfl rfl ?_
  refine r_getL (np := 12) G hM (shp_lt g0 (by decide)) g0 fdX6_1 lkX6_13 dX6_discriminantOf_9 rfl ?_
  refine r_lmul (np := 13) G dX6_discriminantOf_12 rfl ?_
  obtain ⟨b1, s2, e3, hm⟩ := call_t hm
  refine m_callSL (np := 16) G hM hl.1 [vL ((4 * (σ v0 0)) * (σ v0 1))] (qJ9_abs_067f4 l E σ ((4 * (σ v0 0)) * (σ v0 1)) _ e3) myJ9_abs_067f4 lkX6_45 ⟨Nat.le_of_ble_eq_true rfl, Nat.le_of_ble_eq_true rfl⟩ ⟨Nat.le_of_ble_eq_true rfl, Nat.le_of_ble_eq_true rfl⟩ [] rfl (Nat.le_of_ble_eq_true rfl) dX6_discriminantOf_13 rfl (fun H locs hM => ?_)
  refine r_lstore_n (np := 17) G hl rfl [(2, vL b1), (0, .ref (eA E v0)), (1, .ref (eA E v1))] dX6_discriminantOf_16 rfl rfl (by decide) rfl (fun ls hl => ?_)
  refine r_aload_n (np := 18) G hl 2 rfl dX6_discriminantOf_17 rfl rfl ?_
  refine r_lload_n (np := 19) G hl 0 rfl dX6_discriminantOf_18 rfl rfl ?_
  obtain ⟨b4, s5, e6, hm⟩ := call_t hm
  refine m_callVL (np := 22) G hM hl.1 [vL b1] (qX3_lotsByWhole l E s2 v1 b1 _ e6) myX3_lotsByWhole (shp_lt (gX3_lotsByWhole e6) (by decide)) (gX3_lotsByWhole e6) rfl (by decide) lkX6_51 ⟨Nat.le_of_ble_eq_true rfl, Nat.le_of_ble_eq_true rfl⟩ ⟨Nat.le_of_ble_eq_true rfl, Nat.le_of_ble_eq_true rfl⟩ [] rfl (Nat.le_of_ble_eq_true rfl) dX6_discriminantOf_19 rfl (fun H locs hM => ?_)
  refine r_lstore (np := 24) G hl rfl [(4, vL b4), (2, vL b1), (0, .ref (eA E v0)), (1, .ref (eA E v1))] dX6_discriminantOf_22 rfl (by decide) rfl (fun ls hl => ?_)
  refine r_lload (np := 26) G hl 0 rfl dX6_discriminantOf_24 rfl ?_
  refine r_lload_n (np := 27) G hl 1 rfl dX6_discriminantOf_26 rfl rfl ?_
  obtain ⟨b7, s8, e9, hm⟩ := call_t hm
  refine m_callSI (np := 30) G hM hl.1 [vL b4, vL b1] (qX5_divides l E s5 b4 b1 _ e9) myX5_divides lkX6_54 ⟨Nat.le_of_ble_eq_true rfl, Nat.le_of_ble_eq_true rfl⟩ ⟨Nat.le_of_ble_eq_true rfl, Nat.le_of_ble_eq_true rfl⟩ [] rfl (Nat.le_of_ble_eq_true rfl) dX6_discriminantOf_27 rfl (fun H locs hM => ?_)
  refine r_if_eq (np := 33) (tgt := 42) G rfl dX6_discriminantOf_30 (by decide) rfl (fun h10 => ?_) (fun h10 => ?_)
  · have hm := b_t h10 hm
    refine r_lconst (np := 43) G 0 dX6_discriminantOf_42 rfl rfl ?_
    exact r_lret G hr hk hM hm dX6_discriminantOf_43
  · have hm := b_f h10 hm
    refine r_lload_n (np := 34) G hl 1 rfl dX6_discriminantOf_33 rfl rfl ?_
    refine r_lload (np := 36) G hl 0 rfl dX6_discriminantOf_34 rfl ?_
    obtain ⟨b11, s12, e13, hm⟩ := call_t hm
    refine m_callSL (np := 39) G hM hl.1 [vL b1, vL b4] (qX5_quotient l E s8 b1 b4 _ e13) myX5_quotient lkX6_60 ⟨Nat.le_of_ble_eq_true rfl, Nat.le_of_ble_eq_true rfl⟩ ⟨Nat.le_of_ble_eq_true rfl, Nat.le_of_ble_eq_true rfl⟩ [] rfl (Nat.le_of_ble_eq_true rfl) dX6_discriminantOf_36 rfl (fun H locs hM => ?_)
    refine r_goto (np := 43) G dX6_discriminantOf_39 (by decide) ?_
    exact r_lret G hr hk hM hm dX6_discriminantOf_43
theorem gX6_discriminantOf {v0 : Nat} {v1 : Nat} {σ : mSt} {out : Int × mSt} (hm : mX6_discriminantOf v0 v1 σ = some out) : isC v0 5 := (g_t hm).1
set_option maxRecDepth 100000 in
set_option maxHeartbeats 4000000 in
theorem wX2_isWhole_B154 (l : Launch) (E : mE) (out : Int × mSt) {p : Program} {e : Env} {s : State} {m : MethodId} {args : Array Value} {below : List Frame} {meth : Method} {c : Code} (G : CallFix p m c cX2_isWhole 7 s args mTs RX2) (hr : meth.sig.returnType = (some .boolean)) (hk : meth.locks = false) (v0 : Nat) (g0 : isC v0 2) : ∀ (v3 : Int) (σ : mSt) (H : Heap) (locs : List Loc) (ls : Array Slot), mX2_isWhole_B154 v0 v3 σ = some out → mM (mA E 276) E 276 σ s H locs → lv_has ls 7 [(3, vI v3)] → mGo l p e 1 25 s m args below meth c E (some (vI out.1)) out.2 H locs (F0 m 154 ls []) := by
  intro v3 σ H locs ls hm hM hl
  unfold mX2_isWhole_B154 at hm
  refine r_iload_n (np := 155) G hl 0 rfl dX2_isWhole_154 rfl rfl ?_
  obtain ⟨g1, hm⟩ := g_t hm
  exact r_zret G hr hk hM g1 hm dX2_isWhole_155
set_option maxRecDepth 100000 in
set_option maxHeartbeats 4000000 in
theorem wX2_isWhole_B148 (l : Launch) (E : mE) (out : Int × mSt) {p : Program} {e : Env} {s : State} {m : MethodId} {args : Array Value} {below : List Frame} {meth : Method} {c : Code} (G : CallFix p m c cX2_isWhole 7 s args mTs RX2) (hr : meth.sig.returnType = (some .boolean)) (hk : meth.locks = false) (v0 : Nat) (v1 : Int) (g0 : isC v0 2) (c21 : Int → Int → mSt → Option (Int × mSt)) (x154 : Int → mSt → Option (Int × mSt)) (hc21 : ∀ (v3 : Int) (v4 : Int) (σ : mSt) (H : Heap) (locs : List Loc) (ls : Array Slot), c21 v3 v4 σ = some out → mM (mA E 276) E 276 σ s H locs → lv_has ls 7 [(0, .ref (eA E v0)), (1, vL v1), (3, vI v3), (4, vI v4)] → mGo l p e 1 25 s m args below meth c E (some (vI out.1)) out.2 H locs (F0 m 21 ls [])) (hx154 : ∀ (v3 : Int) (σ : mSt) (H : Heap) (locs : List Loc) (ls : Array Slot), x154 v3 σ = some out → mM (mA E 276) E 276 σ s H locs → lv_has ls 7 [(3, vI v3)] → mGo l p e 1 25 s m args below meth c E (some (vI out.1)) out.2 H locs (F0 m 154 ls [])) : ∀ (v3 : Int) (v4 : Int) (σ : mSt) (H : Heap) (locs : List Loc) (ls : Array Slot), mX2_isWhole_B148 v0 v1 c21 x154 v3 v4 σ = some out → mM (mA E 276) E 276 σ s H locs → lv_has ls 7 [(0, .ref (eA E v0)), (1, vL v1), (3, vI v3), (4, vI v4)] → mGo l p e 1 25 s m args below meth c E (some (vI out.1)) out.2 H locs (F0 m 148 ls []) := by
  intro v3 v4 σ H locs ls hm hM hl
  unfold mX2_isWhole_B148 at hm
  obtain ⟨a2, e3, hm⟩ := bnd_t hm
  refine r_iinc (np := 151) G hl 3 rfl e3 [(4, vI a2), (0, .ref (eA E v0)), (1, vL v1), (3, vI v3)] dX2_isWhole_148 rfl (by decide) rfl (fun ls hl => ?_)
  refine r_goto (np := 21) G dX2_isWhole_151 (by decide) ?_
  exact hc21 v3 a2 _ _ _ _ hm hM (lv_sub hl [1, 2, 3, 0] rfl)
set_option maxRecDepth 100000 in
set_option maxHeartbeats 4000000 in
theorem wX2_isWhole_L98 (l : Launch) (E : mE) (out : Int × mSt) {p : Program} {e : Env} {s : State} {m : MethodId} {args : Array Value} {below : List Frame} {meth : Method} {c : Code} (G : CallFix p m c cX2_isWhole 7 s args mTs RX2) (hr : meth.sig.returnType = (some .boolean)) (hk : meth.locks = false) (v0 : Nat) (v1 : Int) (v4 : Int) (v5 : Nat) (g0 : isC v0 2) (x148 : Int → mSt → Option (Int × mSt)) (hx148 : ∀ (v3 : Int) (σ : mSt) (H : Heap) (locs : List Loc) (ls : Array Slot), x148 v3 σ = some out → mM (mA E 276) E 276 σ s H locs → lv_has ls 7 [(0, .ref (eA E v0)), (1, vL v1), (3, vI v3), (4, vI v4)] → mGo l p e 1 25 s m args below meth c E (some (vI out.1)) out.2 H locs (F0 m 148 ls [])) : ∀ (n : Nat) (v3 : Int) (v6 : Int) (σ : mSt) (H : Heap) (locs : List Loc) (ls : Array Slot), mX2_isWhole_L98 v0 v1 v4 v5 x148 n v3 v6 σ = some out → mM (mA E 276) E 276 σ s H locs → lv_has ls 7 [(0, .ref (eA E v0)), (1, vL v1), (3, vI v3), (4, vI v4), (5, .ref (eA E v5)), (6, vI v6)] → mGo l p e 1 25 s m args below meth c E (some (vI out.1)) out.2 H locs (F0 m 98 ls []) := by
  intro n
  induction n with
  | zero =>
    intro v3 v6 σ H locs ls hm hM hl
    exact absurd hm (by rw [mX2_isWhole_L98.eq_1]; exact fun h => nomatch h)
  | succ n ih =>
    intro v3 v6 σ H locs ls hm hM hl
    rw [mX2_isWhole_L98.eq_2] at hm
    refine r_iload (np := 100) G hl 5 rfl dX2_isWhole_98 rfl ?_
    refine r_iload (np := 102) G hl 3 rfl dX2_isWhole_100 rfl ?_
    refine r_icmp_ge (np := 105) (tgt := 148) G rfl rfl dX2_isWhole_102 (by decide) rfl (fun h4 => ?_) (fun h4 => ?_)
    · have hm := b_t h4 hm
      exact hx148 v3 _ _ _ _ hm hM (lv_sub hl [0, 1, 2, 3] rfl)
    · have hm := b_f h4 hm
      refine r_iload_n (np := 106) G hl 2 rfl dX2_isWhole_105 rfl rfl ?_
      refine r_if_eq (np := 109) (tgt := 148) G rfl dX2_isWhole_106 (by decide) rfl (fun h5 => ?_) (fun h5 => ?_)
      · have hm := b_t h5 hm
        exact hx148 v3 _ _ _ _ hm hM (lv_sub hl [0, 1, 2, 3] rfl)
      · have hm := b_f h5 hm
        refine r_lload_n (np := 110) G hl 1 rfl dX2_isWhole_109 rfl rfl ?_
        refine r_aload_n (np := 111) G hl 0 rfl dX2_isWhole_110 rfl rfl ?_
        obtain ⟨r6, e7, hm⟩ := ref_t hm
        refine r_getR (np := 114) G hM (shp_lt g0 (by decide)) g0 e7 fdX2_0 lkX2_10 dX2_isWhole_111 rfl ?_
        obtain ⟨g8, hm⟩ := g_t hm
        refine r_getLN (np := 117) G hM (shp_lt g8 (by decide)) g8 fdX6_0 lkX2_78 dX2_isWhole_114 rfl ?_
        refine r_aload_n (np := 118) G hl 0 rfl dX2_isWhole_117 rfl rfl ?_
        obtain ⟨r9, e10, hm⟩ := ref_t hm
        refine r_getR (np := 121) G hM (shp_lt g0 (by decide)) g0 e10 fdX2_0 lkX2_10 dX2_isWhole_118 rfl ?_
        obtain ⟨g11, hm⟩ := g_t hm
        refine r_getLN (np := 124) G hM (shp_lt g11 (by decide)) g11 fdX6_1 lkX2_81 dX2_isWhole_121 rfl ?_
        refine r_aload (np := 126) G hl 4 rfl dX2_isWhole_124 rfl ?_
        refine r_aload_n (np := 127) G hl 0 rfl dX2_isWhole_126 rfl rfl ?_
        obtain ⟨r12, e13, hm⟩ := ref_t hm
        refine r_getR (np := 130) G hM (shp_lt g0 (by decide)) g0 e13 fdX2_3 lkX2_27 dX2_isWhole_127 rfl ?_
        refine r_iload (np := 132) G hl 5 rfl dX2_isWhole_130 rfl ?_
        obtain ⟨b14, s15, e16, hm⟩ := call_t hm
        refine m_callVR (np := 135) G hM hl.1 [vI v6] (qX3_numbersOf l E σ r12 v6 _ e16) myX3_numbersOf (shp_lt (gX3_numbersOf e16) (by decide)) (gX3_numbersOf e16) rfl (by decide) lkX2_122 ⟨Nat.le_of_ble_eq_true rfl, Nat.le_of_ble_eq_true rfl⟩ ⟨Nat.le_of_ble_eq_true rfl, Nat.le_of_ble_eq_true rfl⟩ [.ref (eA E v5), vL (σ r9 1), vL (σ r6 0), vL v1] rfl (Nat.le_of_ble_eq_true rfl) dX2_isWhole_132 rfl (fun H locs hM => ?_)
        obtain ⟨b17, s18, e19, hm⟩ := call_t hm
        refine m_callSL (np := 138) G hM hl.1 [vL (σ r6 0), vL (σ r9 1), .ref (eA E v5), .ref (eA E b14.toNat)] (qX1_pairing l E s15 (σ r6 0) (σ r9 1) v5 b14.toNat _ e19) myX1_pairing lkX2_127 ⟨Nat.le_of_ble_eq_true rfl, Nat.le_of_ble_eq_true rfl⟩ ⟨Nat.le_of_ble_eq_true rfl, Nat.le_of_ble_eq_true rfl⟩ [vL v1] rfl (Nat.le_of_ble_eq_true rfl) dX2_isWhole_135 rfl (fun H locs hM => ?_)
        obtain ⟨b20, s21, e22, hm⟩ := call_t hm
        refine m_callSI (np := 141) G hM hl.1 [vL v1, vL b17] (qX5_divides l E s18 v1 b17 _ e22) myX5_divides lkX2_86 ⟨Nat.le_of_ble_eq_true rfl, Nat.le_of_ble_eq_true rfl⟩ ⟨Nat.le_of_ble_eq_true rfl, Nat.le_of_ble_eq_true rfl⟩ [] rfl (Nat.le_of_ble_eq_true rfl) dX2_isWhole_138 rfl (fun H locs hM => ?_)
        refine r_istore_n (np := 142) G hl rfl [(3, vI b20), (0, .ref (eA E v0)), (1, vL v1), (4, vI v4), (5, .ref (eA E v5)), (6, vI v6)] dX2_isWhole_141 rfl rfl (by decide) rfl (fun ls hl => ?_)
        obtain ⟨a23, e24, hm⟩ := bnd_t hm
        refine r_iinc (np := 145) G hl 5 rfl e24 [(6, vI a23), (3, vI b20), (0, .ref (eA E v0)), (1, vL v1), (4, vI v4), (5, .ref (eA E v5))] dX2_isWhole_142 rfl (by decide) rfl (fun ls hl => ?_)
        refine r_goto (np := 98) G dX2_isWhole_145 (by decide) ?_
        exact ih b20 a23 _ _ _ _ hm hM (lv_sub hl [2, 3, 1, 4, 5, 0] rfl)
set_option maxRecDepth 100000 in
set_option maxHeartbeats 4000000 in
theorem wX2_isWhole_B94 (l : Launch) (E : mE) (out : Int × mSt) {p : Program} {e : Env} {s : State} {m : MethodId} {args : Array Value} {below : List Frame} {meth : Method} {c : Code} (G : CallFix p m c cX2_isWhole 7 s args mTs RX2) (hr : meth.sig.returnType = (some .boolean)) (hk : meth.locks = false) (v0 : Nat) (v1 : Int) (g0 : isC v0 2) (c21 : Int → Int → mSt → Option (Int × mSt)) (x154 : Int → mSt → Option (Int × mSt)) (hc21 : ∀ (v3 : Int) (v4 : Int) (σ : mSt) (H : Heap) (locs : List Loc) (ls : Array Slot), c21 v3 v4 σ = some out → mM (mA E 276) E 276 σ s H locs → lv_has ls 7 [(0, .ref (eA E v0)), (1, vL v1), (3, vI v3), (4, vI v4)] → mGo l p e 1 25 s m args below meth c E (some (vI out.1)) out.2 H locs (F0 m 21 ls [])) (hx154 : ∀ (v3 : Int) (σ : mSt) (H : Heap) (locs : List Loc) (ls : Array Slot), x154 v3 σ = some out → mM (mA E 276) E 276 σ s H locs → lv_has ls 7 [(3, vI v3)] → mGo l p e 1 25 s m args below meth c E (some (vI out.1)) out.2 H locs (F0 m 154 ls [])) : ∀ (v4 : Int) (v5 : Nat) (t0 : Int) (σ : mSt) (H : Heap) (locs : List Loc) (ls : Array Slot), mX2_isWhole_B94 v0 v1 c21 x154 v4 v5 t0 σ = some out → mM (mA E 276) E 276 σ s H locs → lv_has ls 7 [(0, .ref (eA E v0)), (1, vL v1), (4, vI v4), (5, .ref (eA E v5))] → mGo l p e 1 25 s m args below meth c E (some (vI out.1)) out.2 H locs (F0 m 94 ls [vI t0]) := by
  intro v4 v5 t0 σ H locs ls hm hM hl
  unfold mX2_isWhole_B94 at hm
  refine r_istore_n (np := 95) G hl rfl [(3, vI t0), (0, .ref (eA E v0)), (1, vL v1), (4, vI v4), (5, .ref (eA E v5))] dX2_isWhole_94 rfl rfl (by decide) rfl (fun ls hl => ?_)
  refine r_iconst (np := 96) G 0 dX2_isWhole_95 rfl ?_
  refine r_istore (np := 98) G hl rfl [(6, vI 0), (3, vI t0), (0, .ref (eA E v0)), (1, vL v1), (4, vI v4), (5, .ref (eA E v5))] dX2_isWhole_96 rfl (by decide) rfl (fun ls hl => ?_)
  exact wX2_isWhole_L98 l E out G hr hk v0 v1 v4 v5 g0 (fun z3 zσ => mX2_isWhole_B148 v0 v1 c21 x154 z3 v4 zσ) (fun z3 zσ zH zl zs zm zM zv => wX2_isWhole_B148 l E out G hr hk v0 v1 g0 c21 x154 hc21 hx154 z3 v4 zσ zH zl zs zm zM zv) mF t0 0 _ _ _ _ hm hM (lv_sub hl [2, 3, 1, 4, 5, 0] rfl)
set_option maxRecDepth 100000 in
set_option maxHeartbeats 4000000 in
theorem wX2_isWhole_B93 (l : Launch) (E : mE) (out : Int × mSt) {p : Program} {e : Env} {s : State} {m : MethodId} {args : Array Value} {below : List Frame} {meth : Method} {c : Code} (G : CallFix p m c cX2_isWhole 7 s args mTs RX2) (hr : meth.sig.returnType = (some .boolean)) (hk : meth.locks = false) (v0 : Nat) (v1 : Int) (g0 : isC v0 2) (c21 : Int → Int → mSt → Option (Int × mSt)) (x154 : Int → mSt → Option (Int × mSt)) (hc21 : ∀ (v3 : Int) (v4 : Int) (σ : mSt) (H : Heap) (locs : List Loc) (ls : Array Slot), c21 v3 v4 σ = some out → mM (mA E 276) E 276 σ s H locs → lv_has ls 7 [(0, .ref (eA E v0)), (1, vL v1), (3, vI v3), (4, vI v4)] → mGo l p e 1 25 s m args below meth c E (some (vI out.1)) out.2 H locs (F0 m 21 ls [])) (hx154 : ∀ (v3 : Int) (σ : mSt) (H : Heap) (locs : List Loc) (ls : Array Slot), x154 v3 σ = some out → mM (mA E 276) E 276 σ s H locs → lv_has ls 7 [(3, vI v3)] → mGo l p e 1 25 s m args below meth c E (some (vI out.1)) out.2 H locs (F0 m 154 ls [])) : ∀ (v4 : Int) (v5 : Nat) (σ : mSt) (H : Heap) (locs : List Loc) (ls : Array Slot), mX2_isWhole_B93 v0 v1 c21 x154 v4 v5 σ = some out → mM (mA E 276) E 276 σ s H locs → lv_has ls 7 [(0, .ref (eA E v0)), (1, vL v1), (4, vI v4), (5, .ref (eA E v5))] → mGo l p e 1 25 s m args below meth c E (some (vI out.1)) out.2 H locs (F0 m 93 ls []) := by
  intro v4 v5 σ H locs ls hm hM hl
  unfold mX2_isWhole_B93 at hm
  refine r_iconst (np := 94) G 0 dX2_isWhole_93 rfl ?_
  exact wX2_isWhole_B94 l E out G hr hk v0 v1 g0 c21 x154 hc21 hx154 v4 v5 0 _ _ _ _ hm hM (lv_sub hl [0, 1, 2, 3] rfl)
set_option maxRecDepth 100000 in
set_option maxHeartbeats 4000000 in
theorem wX2_isWhole_L21 (l : Launch) (E : mE) (out : Int × mSt) {p : Program} {e : Env} {s : State} {m : MethodId} {args : Array Value} {below : List Frame} {meth : Method} {c : Code} (G : CallFix p m c cX2_isWhole 7 s args mTs RX2) (hr : meth.sig.returnType = (some .boolean)) (hk : meth.locks = false) (v0 : Nat) (v1 : Int) (g0 : isC v0 2) (x154 : Int → mSt → Option (Int × mSt)) (hx154 : ∀ (v3 : Int) (σ : mSt) (H : Heap) (locs : List Loc) (ls : Array Slot), x154 v3 σ = some out → mM (mA E 276) E 276 σ s H locs → lv_has ls 7 [(3, vI v3)] → mGo l p e 1 25 s m args below meth c E (some (vI out.1)) out.2 H locs (F0 m 154 ls [])) : ∀ (n : Nat) (v3 : Int) (v4 : Int) (σ : mSt) (H : Heap) (locs : List Loc) (ls : Array Slot), mX2_isWhole_L21 v0 v1 x154 n v3 v4 σ = some out → mM (mA E 276) E 276 σ s H locs → lv_has ls 7 [(0, .ref (eA E v0)), (1, vL v1), (3, vI v3), (4, vI v4)] → mGo l p e 1 25 s m args below meth c E (some (vI out.1)) out.2 H locs (F0 m 21 ls []) := by
  intro n
  induction n with
  | zero =>
    intro v3 v4 σ H locs ls hm hM hl
    exact absurd hm (by rw [mX2_isWhole_L21.eq_1]; exact fun h => nomatch h)
  | succ n ih =>
    intro v3 v4 σ H locs ls hm hM hl
    rw [mX2_isWhole_L21.eq_2] at hm
    refine r_iload (np := 23) G hl 3 rfl dX2_isWhole_21 rfl ?_
    refine r_iconst (np := 24) G 4 dX2_isWhole_23 rfl ?_
    refine r_icmp_ge (np := 27) (tgt := 154) G rfl (wIk 4 rfl) dX2_isWhole_24 (by decide) rfl (fun h25 => ?_) (fun h25 => ?_)
    · have hm := b_t h25 hm
      exact hx154 v3 _ _ _ _ hm hM (lv_sub hl [2] rfl)
    · have hm := b_f h25 hm
      refine r_iload_n (np := 28) G hl 2 rfl dX2_isWhole_27 rfl rfl ?_
      refine r_if_eq (np := 31) (tgt := 154) G rfl dX2_isWhole_28 (by decide) rfl (fun h26 => ?_) (fun h26 => ?_)
      · have hm := b_t h26 hm
        exact hx154 v3 _ _ _ _ hm hM (lv_sub hl [2] rfl)
      · have hm := b_f h26 hm
        refine r_aload_n (np := 32) G hl 0 rfl dX2_isWhole_31 rfl rfl ?_
        obtain ⟨r27, e28, hm⟩ := ref_t hm
        refine r_getR (np := 35) G hM (shp_lt g0 (by decide)) g0 e28 fdX2_3 lkX2_27 dX2_isWhole_32 rfl ?_
        refine r_iload (np := 37) G hl 3 rfl dX2_isWhole_35 rfl ?_
        obtain ⟨b29, s30, e31, hm⟩ := call_t hm
        refine m_callVR (np := 40) G hM hl.1 [vI v4] (qX3_numbersOf l E σ r27 v4 _ e31) myX3_numbersOf (shp_lt (gX3_numbersOf e31) (by decide)) (gX3_numbersOf e31) rfl (by decide) lkX2_122 ⟨Nat.le_of_ble_eq_true rfl, Nat.le_of_ble_eq_true rfl⟩ ⟨Nat.le_of_ble_eq_true rfl, Nat.le_of_ble_eq_true rfl⟩ [] rfl (Nat.le_of_ble_eq_true rfl) dX2_isWhole_37 rfl (fun H locs hM => ?_)
        refine r_astore (np := 42) G hl rfl [(5, .ref (eA E b29.toNat)), (0, .ref (eA E v0)), (1, vL v1), (3, vI v3), (4, vI v4)] dX2_isWhole_40 rfl (by decide) rfl (fun ls hl => ?_)
        refine r_aload_n (np := 43) G hl 1 rfl dX2_isWhole_42 rfl rfl ?_
        obtain ⟨r32, e33, hm⟩ := ref_t hm
        refine r_getR (np := 46) G hM (shp_lt g0 (by decide)) g0 e33 fdX2_3 lkX2_27 dX2_isWhole_43 rfl ?_
        obtain ⟨b34, s35, e36, hm⟩ := call_t hm
        refine m_callVL (np := 49) G hM hl.1 [] (qX3_modulus l E s30 r32 _ e36) myX3_modulus (shp_lt (gX3_modulus e36) (by decide)) (gX3_modulus e36) rfl (by decide) lkX2_119 ⟨Nat.le_of_ble_eq_true rfl, Nat.le_of_ble_eq_true rfl⟩ ⟨Nat.le_of_ble_eq_true rfl, Nat.le_of_ble_eq_true rfl⟩ [] rfl (Nat.le_of_ble_eq_true rfl) dX2_isWhole_46 rfl (fun H locs hM => ?_)
        refine r_ldc2 (np := 52) G 2 dX2_isWhole_49 lkX2_84 rfl rfl ?_
        refine r_aload (np := 54) G hl 0 rfl dX2_isWhole_52 rfl ?_
        refine r_iconst (np := 55) G 0 dX2_isWhole_54 rfl ?_
        obtain ⟨g37, hm⟩ := g_t hm
        refine r_laload (np := 56) G hM g37 rfl dX2_isWhole_55 rfl ?_
        refine r_lmul (np := 57) G dX2_isWhole_56 rfl ?_
        obtain ⟨b38, s39, e40, hm⟩ := call_t hm
        refine m_callSI (np := 60) G hM hl.1 [vL b34, vL (2 * (s35 b29.toNat 0))] (qX5_divides l E s35 b34 (2 * (s35 b29.toNat 0)) _ e40) myX5_divides lkX2_86 ⟨Nat.le_of_ble_eq_true rfl, Nat.le_of_ble_eq_true rfl⟩ ⟨Nat.le_of_ble_eq_true rfl, Nat.le_of_ble_eq_true rfl⟩ [] rfl (Nat.le_of_ble_eq_true rfl) dX2_isWhole_57 rfl (fun H locs hM => ?_)
        refine r_if_eq (np := 63) (tgt := 93) G rfl dX2_isWhole_60 (by decide) rfl (fun h41 => ?_) (fun h41 => ?_)
        · have hm := b_t h41 hm
          exact wX2_isWhole_B93 l E out G hr hk v0 v1 g0 (mX2_isWhole_L21 v0 v1 x154 n) x154 ih hx154 v4 b29.toNat _ _ _ _ hm hM (lv_sub hl [1, 2, 4, 0] rfl)
        · have hm := b_f h41 hm
          refine r_lload_n (np := 64) G hl 2 rfl dX2_isWhole_63 rfl rfl ?_
          refine r_aload_n (np := 65) G hl 1 rfl dX2_isWhole_64 rfl rfl ?_
          obtain ⟨r42, e43, hm⟩ := ref_t hm
          refine r_getR (np := 68) G hM (shp_lt g0 (by decide)) g0 e43 fdX2_0 lkX2_10 dX2_isWhole_65 rfl ?_
          obtain ⟨g44, hm⟩ := g_t hm
          refine r_getLN (np := 71) G hM (shp_lt g44 (by decide)) g44 fdX6_0 lkX2_78 dX2_isWhole_68 rfl ?_
          refine r_aload_n (np := 72) G hl 1 rfl dX2_isWhole_71 rfl rfl ?_
          obtain ⟨r45, e46, hm⟩ := ref_t hm
          refine r_getR (np := 75) G hM (shp_lt g0 (by decide)) g0 e46 fdX2_0 lkX2_10 dX2_isWhole_72 rfl ?_
          obtain ⟨g47, hm⟩ := g_t hm
          refine r_getLN (np := 78) G hM (shp_lt g47 (by decide)) g47 fdX6_1 lkX2_81 dX2_isWhole_75 rfl ?_
          refine r_aload (np := 80) G hl 0 rfl dX2_isWhole_78 rfl ?_
          obtain ⟨b48, s49, e50, hm⟩ := call_t hm
          refine m_callSL (np := 83) G hM hl.1 [vL (s39 r42 0), vL (s39 r45 1), .ref (eA E b29.toNat)] (qX1_form l E s39 (s39 r42 0) (s39 r45 1) b29.toNat _ e50) myX1_form lkX2_90 ⟨Nat.le_of_ble_eq_true rfl, Nat.le_of_ble_eq_true rfl⟩ ⟨Nat.le_of_ble_eq_true rfl, Nat.le_of_ble_eq_true rfl⟩ [vL v1] rfl (Nat.le_of_ble_eq_true rfl) dX2_isWhole_80 rfl (fun H locs hM => ?_)
          obtain ⟨b51, s52, e53, hm⟩ := call_t hm
          refine m_callSI (np := 86) G hM hl.1 [vL v1, vL b48] (qX5_divides l E s49 v1 b48 _ e53) myX5_divides lkX2_86 ⟨Nat.le_of_ble_eq_true rfl, Nat.le_of_ble_eq_true rfl⟩ ⟨Nat.le_of_ble_eq_true rfl, Nat.le_of_ble_eq_true rfl⟩ [] rfl (Nat.le_of_ble_eq_true rfl) dX2_isWhole_83 rfl (fun H locs hM => ?_)
          refine r_if_eq (np := 89) (tgt := 93) G rfl dX2_isWhole_86 (by decide) rfl (fun h54 => ?_) (fun h54 => ?_)
          · have hm := b_t h54 hm
            exact wX2_isWhole_B93 l E out G hr hk v0 v1 g0 (mX2_isWhole_L21 v0 v1 x154 n) x154 ih hx154 v4 b29.toNat _ _ _ _ hm hM (lv_sub hl [1, 2, 4, 0] rfl)
          · have hm := b_f h54 hm
            refine r_iconst (np := 90) G 1 dX2_isWhole_89 rfl ?_
            refine r_goto (np := 94) G dX2_isWhole_90 (by decide) ?_
            exact wX2_isWhole_B94 l E out G hr hk v0 v1 g0 (mX2_isWhole_L21 v0 v1 x154 n) x154 ih hx154 v4 b29.toNat 1 _ _ _ _ hm hM (lv_sub hl [1, 2, 4, 0] rfl)
set_option maxRecDepth 100000 in
set_option maxHeartbeats 4000000 in
theorem qX2_isWhole (l : Launch) (E : mE) (σ : mSt) (v0 : Nat) (out : Int × mSt) (hm : mX2_isWhole v0 σ = some out) : mMet l yX2_isWhole cX2_isWhole 7 (some .boolean) 1 25 E 276 [.ref (eA E v0)] σ (some (vI out.1)) out.2 := by
  unfold mX2_isWhole at hm
  obtain ⟨g0, hm⟩ := g_t hm
  refine m_entry (by decide +kernel) (Nat.le_of_ble_eq_true rfl) (fun p e s m args below meth c G hr hk hM ls hl => ?_)
  have G : CallFix p m c cX2_isWhole 7 s args mTs RX2 := G
  have hl : lv_has ls 7 [(0, .ref (eA E v0))] := hl
  refine r_aload_n (np := 1) G hl 0 rfl dX2_isWhole_0 rfl rfl ?_
  obtain ⟨r55, e56, hm⟩ := ref_t hm
  refine r_getR (np := 4) G hM (shp_lt g0 (by decide)) g0 e56 fdX2_3 lkX2_27 dX2_isWhole_1 rfl ?_
  obtain ⟨b57, s58, e59, hm⟩ := call_t hm
  refine m_callVL (np := 7) G hM hl.1 [] (qX3_modulus l E σ r55 _ e59) myX3_modulus (shp_lt (gX3_modulus e59) (by decide)) (gX3_modulus e59) rfl (by decide) lkX2_119 ⟨Nat.le_of_ble_eq_true rfl, Nat.le_of_ble_eq_true rfl⟩ ⟨Nat.le_of_ble_eq_true rfl, Nat.le_of_ble_eq_true rfl⟩ [] rfl (Nat.le_of_ble_eq_true rfl) dX2_isWhole_4 rfl (fun H locs hM => ?_)
  refine r_aload_n (np := 8) G hl 0 rfl dX2_isWhole_7 rfl rfl ?_
  obtain ⟨r60, e61, hm⟩ := ref_t hm
  refine r_getR (np := 11) G hM (shp_lt g0 (by decide)) g0 e61 fdX2_3 lkX2_27 dX2_isWhole_8 rfl ?_
  obtain ⟨b62, s63, e64, hm⟩ := call_t hm
  refine m_callVL (np := 14) G hM hl.1 [] (qX3_modulus l E s58 r60 _ e64) myX3_modulus (shp_lt (gX3_modulus e64) (by decide)) (gX3_modulus e64) rfl (by decide) lkX2_119 ⟨Nat.le_of_ble_eq_true rfl, Nat.le_of_ble_eq_true rfl⟩ ⟨Nat.le_of_ble_eq_true rfl, Nat.le_of_ble_eq_true rfl⟩ [vL b57] rfl (Nat.le_of_ble_eq_true rfl) dX2_isWhole_11 rfl (fun H locs hM => ?_)
  refine r_lmul (np := 15) G dX2_isWhole_14 rfl ?_
  obtain ⟨a65, e66, hm⟩ := bnd_t hm
  refine r_lstore_n (np := 16) G hl e66 [(1, vL a65), (0, .ref (eA E v0))] dX2_isWhole_15 rfl rfl (by decide) rfl (fun ls hl => ?_)
  refine r_iconst (np := 17) G 1 dX2_isWhole_16 rfl ?_
  refine r_istore_n (np := 18) G hl rfl [(3, vI 1), (1, vL a65), (0, .ref (eA E v0))] dX2_isWhole_17 rfl rfl (by decide) rfl (fun ls hl => ?_)
  refine r_iconst (np := 19) G 0 dX2_isWhole_18 rfl ?_
  refine r_istore (np := 21) G hl rfl [(4, vI 0), (3, vI 1), (1, vL a65), (0, .ref (eA E v0))] dX2_isWhole_19 rfl (by decide) rfl (fun ls hl => ?_)
  exact wX2_isWhole_L21 l E out G hr hk v0 a65 g0 (fun z3 zσ => mX2_isWhole_B154 v0 z3 zσ) (fun z3 zσ zH zl zs zm zM zv => wX2_isWhole_B154 l E out G hr hk v0 g0 z3 zσ zH zl zs zm zM zv) mF 1 0 _ _ _ _ hm hM (lv_sub hl [3, 2, 1, 0] rfl)
theorem gX2_isWhole {v0 : Nat} {σ : mSt} {out : Int × mSt} (hm : mX2_isWhole v0 σ = some out) : isC v0 2 := (g_t hm).1
set_option maxRecDepth 100000 in
set_option maxHeartbeats 4000000 in
theorem wX2_multiplyTrial_B92 (l : Launch) (E : mE) (out : Int × mSt) {p : Program} {e : Env} {s : State} {m : MethodId} {args : Array Value} {below : List Frame} {meth : Method} {c : Code} (G : CallFix p m c cX2_multiplyTrial 3 s args mTs RX2) (hr : meth.sig.returnType = none) (hk : meth.locks = false) (v0 : Nat) (g0 : isC v0 2) : ∀ (σ : mSt) (H : Heap) (locs : List Loc) (ls : Array Slot), mX2_multiplyTrial_B92 v0 σ = some out → mM (mA E 276) E 276 σ s H locs → lv_has ls 3 [(0, .ref (eA E v0))] → mGo l p e 3 77 s m args below meth c E none out.2 H locs (F0 m 92 ls []) := by
  intro σ H locs ls hm hM hl
  unfold mX2_multiplyTrial_B92 at hm
  refine r_aload_n (np := 93) G hl 0 rfl dX2_multiplyTrial_92 rfl rfl ?_
  obtain ⟨r1, e2, hm⟩ := ref_t hm
  refine r_getR (np := 96) G hM (shp_lt g0 (by decide)) g0 e2 fdX2_4 lkX2_31 dX2_multiplyTrial_93 rfl ?_
  obtain ⟨b3, s4, e5, hm⟩ := call_t hm
  refine m_callVV (np := 99) G hM hl.1 [] (qX3_settle l E σ r1 _ e5) myX3_settle (shp_lt (gX3_settle e5) (by decide)) (gX3_settle e5) rfl (by decide) lkX2_100 ⟨Nat.le_of_ble_eq_true rfl, Nat.le_of_ble_eq_true rfl⟩ ⟨Nat.le_of_ble_eq_true rfl, Nat.le_of_ble_eq_true rfl⟩ [] rfl (Nat.le_of_ble_eq_true rfl) dX2_multiplyTrial_96 rfl (fun H locs hM => ?_)
  refine r_aload_n (np := 100) G hl 0 rfl dX2_multiplyTrial_99 rfl rfl ?_
  obtain ⟨r6, e7, hm⟩ := ref_t hm
  refine r_getR (np := 103) G hM (shp_lt g0 (by decide)) g0 e7 fdX2_4 lkX2_31 dX2_multiplyTrial_100 rfl ?_
  obtain ⟨b8, s9, e10, hm⟩ := call_t hm
  refine m_callVV (np := 106) G hM hl.1 [] (qX3_lower l E s4 r6 _ e10) myX3_lower (shp_lt (gX3_lower e10) (by decide)) (gX3_lower e10) rfl (by decide) lkX2_103 ⟨Nat.le_of_ble_eq_true rfl, Nat.le_of_ble_eq_true rfl⟩ ⟨Nat.le_of_ble_eq_true rfl, Nat.le_of_ble_eq_true rfl⟩ [] rfl (Nat.le_of_ble_eq_true rfl) dX2_multiplyTrial_103 rfl (fun H locs hM => ?_)
  exact r_vret G hr hk hM hm dX2_multiplyTrial_106
set_option maxRecDepth 100000 in
set_option maxHeartbeats 4000000 in
theorem wX2_multiplyTrial_B86 (l : Launch) (E : mE) (out : Int × mSt) {p : Program} {e : Env} {s : State} {m : MethodId} {args : Array Value} {below : List Frame} {meth : Method} {c : Code} (G : CallFix p m c cX2_multiplyTrial 3 s args mTs RX2) (hr : meth.sig.returnType = none) (hk : meth.locks = false) (v0 : Nat) (g0 : isC v0 2) (c20 : Int → mSt → Option (Int × mSt)) (x92 : mSt → Option (Int × mSt)) (hc20 : ∀ (v1 : Int) (σ : mSt) (H : Heap) (locs : List Loc) (ls : Array Slot), c20 v1 σ = some out → mM (mA E 276) E 276 σ s H locs → lv_has ls 3 [(0, .ref (eA E v0)), (1, vI v1)] → mGo l p e 3 77 s m args below meth c E none out.2 H locs (F0 m 20 ls [])) (hx92 : ∀ (σ : mSt) (H : Heap) (locs : List Loc) (ls : Array Slot), x92 σ = some out → mM (mA E 276) E 276 σ s H locs → lv_has ls 3 [(0, .ref (eA E v0))] → mGo l p e 3 77 s m args below meth c E none out.2 H locs (F0 m 92 ls [])) : ∀ (v1 : Int) (σ : mSt) (H : Heap) (locs : List Loc) (ls : Array Slot), mX2_multiplyTrial_B86 v0 c20 x92 v1 σ = some out → mM (mA E 276) E 276 σ s H locs → lv_has ls 3 [(0, .ref (eA E v0)), (1, vI v1)] → mGo l p e 3 77 s m args below meth c E none out.2 H locs (F0 m 86 ls []) := by
  intro v1 σ H locs ls hm hM hl
  unfold mX2_multiplyTrial_B86 at hm
  obtain ⟨a11, e12, hm⟩ := bnd_t hm
  refine r_iinc (np := 89) G hl 1 rfl e12 [(1, vI a11), (0, .ref (eA E v0))] dX2_multiplyTrial_86 rfl (by decide) rfl (fun ls hl => ?_)
  refine r_goto (np := 20) G dX2_multiplyTrial_89 (by decide) ?_
  exact hc20 a11 _ _ _ _ hm hM (lv_sub hl [1, 0] rfl)
set_option maxRecDepth 100000 in
set_option maxHeartbeats 4000000 in
theorem wX2_multiplyTrial_L27 (l : Launch) (E : mE) (out : Int × mSt) {p : Program} {e : Env} {s : State} {m : MethodId} {args : Array Value} {below : List Frame} {meth : Method} {c : Code} (G : CallFix p m c cX2_multiplyTrial 3 s args mTs RX2) (hr : meth.sig.returnType = none) (hk : meth.locks = false) (v0 : Nat) (v1 : Int) (g0 : isC v0 2) (x86 : mSt → Option (Int × mSt)) (hx86 : ∀ (σ : mSt) (H : Heap) (locs : List Loc) (ls : Array Slot), x86 σ = some out → mM (mA E 276) E 276 σ s H locs → lv_has ls 3 [(0, .ref (eA E v0)), (1, vI v1)] → mGo l p e 3 77 s m args below meth c E none out.2 H locs (F0 m 86 ls [])) : ∀ (n : Nat) (v2 : Int) (σ : mSt) (H : Heap) (locs : List Loc) (ls : Array Slot), mX2_multiplyTrial_L27 v0 v1 x86 n v2 σ = some out → mM (mA E 276) E 276 σ s H locs → lv_has ls 3 [(0, .ref (eA E v0)), (1, vI v1), (2, vI v2)] → mGo l p e 3 77 s m args below meth c E none out.2 H locs (F0 m 27 ls []) := by
  intro n
  induction n with
  | zero =>
    intro v2 σ H locs ls hm hM hl
    exact absurd hm (by rw [mX2_multiplyTrial_L27.eq_1]; exact fun h => nomatch h)
  | succ n ih =>
    intro v2 σ H locs ls hm hM hl
    rw [mX2_multiplyTrial_L27.eq_2] at hm
    refine r_iload_n (np := 28) G hl 2 rfl dX2_multiplyTrial_27 rfl rfl ?_
    refine r_iconst (np := 29) G 4 dX2_multiplyTrial_28 rfl ?_
    refine r_icmp_ge (np := 32) (tgt := 86) G rfl (wIk 4 rfl) dX2_multiplyTrial_29 (by decide) rfl (fun h13 => ?_) (fun h13 => ?_)
    · have hm := b_t h13 hm
      exact hx86 _ _ _ _ hm hM (lv_sub hl [0, 1] rfl)
    · have hm := b_f h13 hm
      refine r_aload_n (np := 33) G hl 0 rfl dX2_multiplyTrial_32 rfl rfl ?_
      obtain ⟨r14, e15, hm⟩ := ref_t hm
      refine r_getR (np := 36) G hM (shp_lt g0 (by decide)) g0 e15 fdX2_0 lkX2_10 dX2_multiplyTrial_33 rfl ?_
      obtain ⟨g16, hm⟩ := g_t hm
      refine r_getLN (np := 39) G hM (shp_lt g16 (by decide)) g16 fdX6_0 lkX2_78 dX2_multiplyTrial_36 rfl ?_
      refine r_aload_n (np := 40) G hl 0 rfl dX2_multiplyTrial_39 rfl rfl ?_
      obtain ⟨r17, e18, hm⟩ := ref_t hm
      refine r_getR (np := 43) G hM (shp_lt g0 (by decide)) g0 e18 fdX2_0 lkX2_10 dX2_multiplyTrial_40 rfl ?_
      obtain ⟨g19, hm⟩ := g_t hm
      refine r_getLN (np := 46) G hM (shp_lt g19 (by decide)) g19 fdX6_1 lkX2_81 dX2_multiplyTrial_43 rfl ?_
      refine r_aload_n (np := 47) G hl 0 rfl dX2_multiplyTrial_46 rfl rfl ?_
      obtain ⟨r20, e21, hm⟩ := ref_t hm
      refine r_getR (np := 50) G hM (shp_lt g0 (by decide)) g0 e21 fdX2_3 lkX2_27 dX2_multiplyTrial_47 rfl ?_
      refine r_iload_n (np := 51) G hl 1 rfl dX2_multiplyTrial_50 rfl rfl ?_
      obtain ⟨b22, s23, e24, hm⟩ := call_t hm
      refine m_callVR (np := 54) G hM hl.1 [vI v1] (qX3_numbersOf l E σ r20 v1 _ e24) myX3_numbersOf (shp_lt (gX3_numbersOf e24) (by decide)) (gX3_numbersOf e24) rfl (by decide) lkX2_122 ⟨Nat.le_of_ble_eq_true rfl, Nat.le_of_ble_eq_true rfl⟩ ⟨Nat.le_of_ble_eq_true rfl, Nat.le_of_ble_eq_true rfl⟩ [vL (σ r17 1), vL (σ r14 0)] rfl (Nat.le_of_ble_eq_true rfl) dX2_multiplyTrial_51 rfl (fun H locs hM => ?_)
      refine r_aload_n (np := 55) G hl 0 rfl dX2_multiplyTrial_54 rfl rfl ?_
      obtain ⟨r25, e26, hm⟩ := ref_t hm
      refine r_getR (np := 58) G hM (shp_lt g0 (by decide)) g0 e26 fdX2_3 lkX2_27 dX2_multiplyTrial_55 rfl ?_
      refine r_iload_n (np := 59) G hl 2 rfl dX2_multiplyTrial_58 rfl rfl ?_
      obtain ⟨b27, s28, e29, hm⟩ := call_t hm
      refine m_callVR (np := 62) G hM hl.1 [vI v2] (qX3_numbersOf l E s23 r25 v2 _ e29) myX3_numbersOf (shp_lt (gX3_numbersOf e29) (by decide)) (gX3_numbersOf e29) rfl (by decide) lkX2_122 ⟨Nat.le_of_ble_eq_true rfl, Nat.le_of_ble_eq_true rfl⟩ ⟨Nat.le_of_ble_eq_true rfl, Nat.le_of_ble_eq_true rfl⟩ [.ref (eA E b22.toNat), vL (σ r17 1), vL (σ r14 0)] rfl (Nat.le_of_ble_eq_true rfl) dX2_multiplyTrial_59 rfl (fun H locs hM => ?_)
      refine r_aload_n (np := 63) G hl 0 rfl dX2_multiplyTrial_62 rfl rfl ?_
      obtain ⟨r30, e31, hm⟩ := ref_t hm
      refine r_getR (np := 66) G hM (shp_lt g0 (by decide)) g0 e31 fdX2_6 lkX2_39 dX2_multiplyTrial_63 rfl ?_
      obtain ⟨b32, s33, e34, hm⟩ := call_t hm
      refine m_callSV (np := 69) G hM hl.1 [vL (σ r14 0), vL (σ r17 1), .ref (eA E b22.toNat), .ref (eA E b27.toNat), .ref (eA E r30)] (qX1_multiply l E s28 (σ r14 0) (σ r17 1) b22.toNat b27.toNat r30 _ e34) myX1_multiply lkX2_123 ⟨Nat.le_of_ble_eq_true rfl, Nat.le_of_ble_eq_true rfl⟩ ⟨Nat.le_of_ble_eq_true rfl, Nat.le_of_ble_eq_true rfl⟩ [] rfl (Nat.le_of_ble_eq_true rfl) dX2_multiplyTrial_66 rfl (fun H locs hM => ?_)
      refine r_aload_n (np := 70) G hl 0 rfl dX2_multiplyTrial_69 rfl rfl ?_
      obtain ⟨r35, e36, hm⟩ := ref_t hm
      refine r_getR (np := 73) G hM (shp_lt g0 (by decide)) g0 e36 fdX2_4 lkX2_31 dX2_multiplyTrial_70 rfl ?_
      refine r_aload_n (np := 74) G hl 0 rfl dX2_multiplyTrial_73 rfl rfl ?_
      obtain ⟨r37, e38, hm⟩ := ref_t hm
      refine r_getR (np := 77) G hM (shp_lt g0 (by decide)) g0 e38 fdX2_6 lkX2_39 dX2_multiplyTrial_74 rfl ?_
      obtain ⟨b39, s40, e41, hm⟩ := call_t hm
      refine m_callVV (np := 80) G hM hl.1 [.ref (eA E r37)] (qX3_add l E s33 r35 r37 _ e41) myX3_add (shp_lt (gX3_add e41) (by decide)) (gX3_add e41) rfl (by decide) lkX2_96 ⟨Nat.le_of_ble_eq_true rfl, Nat.le_of_ble_eq_true rfl⟩ ⟨Nat.le_of_ble_eq_true rfl, Nat.le_of_ble_eq_true rfl⟩ [] rfl (Nat.le_of_ble_eq_true rfl) dX2_multiplyTrial_77 rfl (fun H locs hM => ?_)
      obtain ⟨a42, e43, hm⟩ := bnd_t hm
      refine r_iinc (np := 83) G hl 2 rfl e43 [(2, vI a42), (0, .ref (eA E v0)), (1, vI v1)] dX2_multiplyTrial_80 rfl (by decide) rfl (fun ls hl => ?_)
      refine r_goto (np := 27) G dX2_multiplyTrial_83 (by decide) ?_
      exact ih a42 _ _ _ _ hm hM (lv_sub hl [1, 2, 0] rfl)
set_option maxRecDepth 100000 in
set_option maxHeartbeats 4000000 in
theorem wX2_multiplyTrial_L20 (l : Launch) (E : mE) (out : Int × mSt) {p : Program} {e : Env} {s : State} {m : MethodId} {args : Array Value} {below : List Frame} {meth : Method} {c : Code} (G : CallFix p m c cX2_multiplyTrial 3 s args mTs RX2) (hr : meth.sig.returnType = none) (hk : meth.locks = false) (v0 : Nat) (g0 : isC v0 2) (x92 : mSt → Option (Int × mSt)) (hx92 : ∀ (σ : mSt) (H : Heap) (locs : List Loc) (ls : Array Slot), x92 σ = some out → mM (mA E 276) E 276 σ s H locs → lv_has ls 3 [(0, .ref (eA E v0))] → mGo l p e 3 77 s m args below meth c E none out.2 H locs (F0 m 92 ls [])) : ∀ (n : Nat) (v1 : Int) (σ : mSt) (H : Heap) (locs : List Loc) (ls : Array Slot), mX2_multiplyTrial_L20 v0 x92 n v1 σ = some out → mM (mA E 276) E 276 σ s H locs → lv_has ls 3 [(0, .ref (eA E v0)), (1, vI v1)] → mGo l p e 3 77 s m args below meth c E none out.2 H locs (F0 m 20 ls []) := by
  intro n
  induction n with
  | zero =>
    intro v1 σ H locs ls hm hM hl
    exact absurd hm (by rw [mX2_multiplyTrial_L20.eq_1]; exact fun h => nomatch h)
  | succ n ih =>
    intro v1 σ H locs ls hm hM hl
    rw [mX2_multiplyTrial_L20.eq_2] at hm
    refine r_iload_n (np := 21) G hl 1 rfl dX2_multiplyTrial_20 rfl rfl ?_
    refine r_iconst (np := 22) G 4 dX2_multiplyTrial_21 rfl ?_
    refine r_icmp_ge (np := 25) (tgt := 92) G rfl (wIk 4 rfl) dX2_multiplyTrial_22 (by decide) rfl (fun h44 => ?_) (fun h44 => ?_)
    · have hm := b_t h44 hm
      exact hx92 _ _ _ _ hm hM (lv_sub hl [0] rfl)
    · have hm := b_f h44 hm
      refine r_iconst (np := 26) G 0 dX2_multiplyTrial_25 rfl ?_
      refine r_istore_n (np := 27) G hl rfl [(2, vI 0), (0, .ref (eA E v0)), (1, vI v1)] dX2_multiplyTrial_26 rfl rfl (by decide) rfl (fun ls hl => ?_)
      exact wX2_multiplyTrial_L27 l E out G hr hk v0 v1 g0 (fun zσ => mX2_multiplyTrial_B86 v0 (mX2_multiplyTrial_L20 v0 x92 n) x92 v1 zσ) (fun zσ zH zl zs zm zM zv => wX2_multiplyTrial_B86 l E out G hr hk v0 g0 (mX2_multiplyTrial_L20 v0 x92 n) x92 ih hx92 v1 zσ zH zl zs zm zM zv) mF 0 _ _ _ _ hm hM (lv_sub hl [1, 2, 0] rfl)
set_option maxRecDepth 100000 in
set_option maxHeartbeats 4000000 in
theorem qX2_multiplyTrial (l : Launch) (E : mE) (σ : mSt) (v0 : Nat) (out : Int × mSt) (hm : mX2_multiplyTrial v0 σ = some out) : mMet l yX2_multiplyTrial cX2_multiplyTrial 3 none 3 77 E 276 [.ref (eA E v0)] σ none out.2 := by
  unfold mX2_multiplyTrial at hm
  obtain ⟨g0, hm⟩ := g_t hm
  refine m_entry (by decide +kernel) (Nat.le_of_ble_eq_true rfl) (fun p e s m args below meth c G hr hk hM ls hl => ?_)
  have G : CallFix p m c cX2_multiplyTrial 3 s args mTs RX2 := G
  have hl : lv_has ls 3 [(0, .ref (eA E v0))] := hl
  refine r_aload_n (np := 1) G hl 0 rfl dX2_multiplyTrial_0 rfl rfl ?_
  obtain ⟨r45, e46, hm⟩ := ref_t hm
  refine r_getR (np := 4) G hM (shp_lt g0 (by decide)) g0 e46 fdX2_4 lkX2_31 dX2_multiplyTrial_1 rfl ?_
  refine r_aload_n (np := 5) G hl 0 rfl dX2_multiplyTrial_4 rfl rfl ?_
  obtain ⟨r47, e48, hm⟩ := ref_t hm
  refine r_getR (np := 8) G hM (shp_lt g0 (by decide)) g0 e48 fdX2_3 lkX2_27 dX2_multiplyTrial_5 rfl ?_
  refine r_aload_n (np := 9) G hl 0 rfl dX2_multiplyTrial_8 rfl rfl ?_
  obtain ⟨r49, e50, hm⟩ := ref_t hm
  refine r_getR (np := 12) G hM (shp_lt g0 (by decide)) g0 e50 fdX2_3 lkX2_27 dX2_multiplyTrial_9 rfl ?_
  obtain ⟨b51, s52, e53, hm⟩ := call_t hm
  refine m_callVL (np := 15) G hM hl.1 [] (qX3_modulus l E σ r49 _ e53) myX3_modulus (shp_lt (gX3_modulus e53) (by decide)) (gX3_modulus e53) rfl (by decide) lkX2_119 ⟨Nat.le_of_ble_eq_true rfl, Nat.le_of_ble_eq_true rfl⟩ ⟨Nat.le_of_ble_eq_true rfl, Nat.le_of_ble_eq_true rfl⟩ [.ref (eA E r47), .ref (eA E r45)] rfl (Nat.le_of_ble_eq_true rfl) dX2_multiplyTrial_12 rfl (fun H locs hM => ?_)
  obtain ⟨b54, s55, e56, hm⟩ := call_t hm
  refine m_callVV (np := 18) G hM hl.1 [.ref (eA E r47), vL b51] (qX3_copy l E s52 r45 r47 b51 _ e56) myX3_copy (shp_lt (gX3_copy e56) (by decide)) (gX3_copy e56) rfl (by decide) lkX2_64 ⟨Nat.le_of_ble_eq_true rfl, Nat.le_of_ble_eq_true rfl⟩ ⟨Nat.le_of_ble_eq_true rfl, Nat.le_of_ble_eq_true rfl⟩ [] rfl (Nat.le_of_ble_eq_true rfl) dX2_multiplyTrial_15 rfl (fun H locs hM => ?_)
  refine r_iconst (np := 19) G 0 dX2_multiplyTrial_18 rfl ?_
  refine r_istore_n (np := 20) G hl rfl [(1, vI 0), (0, .ref (eA E v0))] dX2_multiplyTrial_19 rfl rfl (by decide) rfl (fun ls hl => ?_)
  exact wX2_multiplyTrial_L20 l E out G hr hk v0 g0 (fun zσ => mX2_multiplyTrial_B92 v0 zσ) (fun zσ zH zl zs zm zM zv => wX2_multiplyTrial_B92 l E out G hr hk v0 g0 zσ zH zl zs zm zM zv) mF 0 _ _ _ _ hm hM (lv_sub hl [1, 0] rfl)
theorem gX2_multiplyTrial {v0 : Nat} {σ : mSt} {out : Int × mSt} (hm : mX2_multiplyTrial v0 σ = some out) : isC v0 2 := (g_t hm).1
set_option maxRecDepth 100000 in
set_option maxHeartbeats 4000000 in
theorem wX2_isClosedWhole_B83 (l : Launch) (E : mE) (out : Int × mSt) {p : Program} {e : Env} {s : State} {m : MethodId} {args : Array Value} {below : List Frame} {meth : Method} {c : Code} (G : CallFix p m c cX2_isClosedWhole 5 s args mTs RX2) (hr : meth.sig.returnType = (some .boolean)) (hk : meth.locks = false) (v0 : Nat) (g0 : isC v0 2) : ∀ (σ : mSt) (H : Heap) (locs : List Loc) (ls : Array Slot), mX2_isClosedWhole_B83 v0 σ = some out → mM (mA E 276) E 276 σ s H locs → lv_has ls 5 [] → mGo l p e 4 99 s m args below meth c E (some (vI out.1)) out.2 H locs (F0 m 83 ls []) := by
  intro σ H locs ls hm hM hl
  unfold mX2_isClosedWhole_B83 at hm
  refine r_iconst (np := 84) G 0 dX2_isClosedWhole_83 rfl ?_
  exact r_zret G hr hk hM (Or.inl rfl) hm dX2_isClosedWhole_84
set_option maxRecDepth 100000 in
set_option maxHeartbeats 4000000 in
theorem wX2_isClosedWhole_L2 (l : Launch) (E : mE) (out : Int × mSt) {p : Program} {e : Env} {s : State} {m : MethodId} {args : Array Value} {below : List Frame} {meth : Method} {c : Code} (G : CallFix p m c cX2_isClosedWhole 5 s args mTs RX2) (hr : meth.sig.returnType = (some .boolean)) (hk : meth.locks = false) (v0 : Nat) (g0 : isC v0 2) (x83 : mSt → Option (Int × mSt)) (hx83 : ∀ (σ : mSt) (H : Heap) (locs : List Loc) (ls : Array Slot), x83 σ = some out → mM (mA E 276) E 276 σ s H locs → lv_has ls 5 [] → mGo l p e 4 99 s m args below meth c E (some (vI out.1)) out.2 H locs (F0 m 83 ls [])) : ∀ (n : Nat) (v1 : Int) (σ : mSt) (H : Heap) (locs : List Loc) (ls : Array Slot), mX2_isClosedWhole_L2 v0 x83 n v1 σ = some out → mM (mA E 276) E 276 σ s H locs → lv_has ls 5 [(0, .ref (eA E v0)), (1, vI v1)] → mGo l p e 4 99 s m args below meth c E (some (vI out.1)) out.2 H locs (F0 m 2 ls []) := by
  intro n
  induction n with
  | zero =>
    intro v1 σ H locs ls hm hM hl
    exact absurd hm (by rw [mX2_isClosedWhole_L2.eq_1]; exact fun h => nomatch h)
  | succ n ih =>
    intro v1 σ H locs ls hm hM hl
    rw [mX2_isClosedWhole_L2.eq_2] at hm
    refine r_iload_n (np := 3) G hl 1 rfl dX2_isClosedWhole_2 rfl rfl ?_
    refine r_bipush (np := 5) G 40 dX2_isClosedWhole_3 (by decide) rfl ?_
    refine r_icmp_ge (np := 8) (tgt := 83) G rfl (wIk 40 rfl) dX2_isClosedWhole_5 (by decide) rfl (fun h1 => ?_) (fun h1 => ?_)
    · have hm := b_t h1 hm
      exact hx83 _ _ _ _ hm hM (lv_sub hl [] rfl)
    · have hm := b_f h1 hm
      refine r_aload_n (np := 9) G hl 0 rfl dX2_isClosedWhole_8 rfl rfl ?_
      obtain ⟨r2, e3, hm⟩ := ref_t hm
      refine r_getR (np := 12) G hM (shp_lt g0 (by decide)) g0 e3 fdX2_0 lkX2_10 dX2_isClosedWhole_9 rfl ?_
      refine r_aload_n (np := 13) G hl 0 rfl dX2_isClosedWhole_12 rfl rfl ?_
      obtain ⟨r4, e5, hm⟩ := ref_t hm
      refine r_getR (np := 16) G hM (shp_lt g0 (by decide)) g0 e5 fdX2_3 lkX2_27 dX2_isClosedWhole_13 rfl ?_
      obtain ⟨b6, s7, e8, hm⟩ := call_t hm
      refine m_callVL (np := 19) G hM hl.1 [.ref (eA E r4)] (qX6_discriminantOf l E σ r2 r4 _ e8) myX6_discriminantOf (shp_lt (gX6_discriminantOf e8) (by decide)) (gX6_discriminantOf e8) rfl (by decide) lkX2_109 ⟨Nat.le_of_ble_eq_true rfl, Nat.le_of_ble_eq_true rfl⟩ ⟨Nat.le_of_ble_eq_true rfl, Nat.le_of_ble_eq_true rfl⟩ [] rfl (Nat.le_of_ble_eq_true rfl) dX2_isClosedWhole_16 rfl (fun H locs hM => ?_)
      refine r_lstore_n (np := 20) G hl rfl [(2, vL b6), (0, .ref (eA E v0)), (1, vI v1)] dX2_isClosedWhole_19 rfl rfl (by decide) rfl (fun ls hl => ?_)
      refine r_lload_n (np := 21) G hl 0 rfl dX2_isClosedWhole_20 rfl rfl ?_
      refine r_lconst (np := 22) G 0 dX2_isClosedWhole_21 rfl rfl ?_
      refine r_lcmp_eq (np := 26) (tgt := 33) G rfl (wLk 0 rfl) dX2_isClosedWhole_22 dX2_isClosedWhole_23 (by decide) rfl (fun h9 => ?_) (fun h9 => ?_)
      · have hm := b_t h9 hm
        refine r_iconst (np := 34) G 0 dX2_isClosedWhole_33 rfl ?_
        exact r_zret G hr hk hM (Or.inl rfl) hm dX2_isClosedWhole_34
      · have hm := b_f h9 hm
        refine r_aload_n (np := 27) G hl 1 rfl dX2_isClosedWhole_26 rfl rfl ?_
        obtain ⟨b10, s11, e12, hm⟩ := call_t hm
        refine m_callVI (np := 30) G hM hl.1 [] (qX2_isWhole l E s7 v0 _ e12) myX2_isWhole (shp_lt (gX2_isWhole e12) (by decide)) (gX2_isWhole e12) rfl (by decide) lkX2_113 ⟨Nat.le_of_ble_eq_true rfl, Nat.le_of_ble_eq_true rfl⟩ ⟨Nat.le_of_ble_eq_true rfl, Nat.le_of_ble_eq_true rfl⟩ [] rfl (Nat.le_of_ble_eq_true rfl) dX2_isClosedWhole_27 rfl (fun H locs hM => ?_)
        refine r_if_ne (np := 33) (tgt := 35) G rfl dX2_isClosedWhole_30 (by decide) rfl (fun h13 => ?_) (fun h13 => ?_)
        · have hm := b_f h13 hm
          refine r_aload_n (np := 36) G hl 1 rfl dX2_isClosedWhole_35 rfl rfl ?_
          obtain ⟨b14, s15, e16, hm⟩ := call_t hm
          refine m_callVV (np := 39) G hM hl.1 [] (qX2_multiplyTrial l E s11 v0 _ e16) myX2_multiplyTrial (shp_lt (gX2_multiplyTrial e16) (by decide)) (gX2_multiplyTrial e16) rfl (by decide) lkX2_116 ⟨Nat.le_of_ble_eq_true rfl, Nat.le_of_ble_eq_true rfl⟩ ⟨Nat.le_of_ble_eq_true rfl, Nat.le_of_ble_eq_true rfl⟩ [] rfl (Nat.le_of_ble_eq_true rfl) dX2_isClosedWhole_36 rfl (fun H locs hM => ?_)
          refine r_aload_n (np := 40) G hl 1 rfl dX2_isClosedWhole_39 rfl rfl ?_
          obtain ⟨r17, e18, hm⟩ := ref_t hm
          refine r_getR (np := 43) G hM (shp_lt g0 (by decide)) g0 e18 fdX2_0 lkX2_10 dX2_isClosedWhole_40 rfl ?_
          refine r_aload_n (np := 44) G hl 1 rfl dX2_isClosedWhole_43 rfl rfl ?_
          obtain ⟨r19, e20, hm⟩ := ref_t hm
          refine r_getR (np := 47) G hM (shp_lt g0 (by decide)) g0 e20 fdX2_4 lkX2_31 dX2_isClosedWhole_44 rfl ?_
          obtain ⟨b21, s22, e23, hm⟩ := call_t hm
          refine m_callVL (np := 50) G hM hl.1 [.ref (eA E r19)] (qX6_discriminantOf l E s15 r17 r19 _ e23) myX6_discriminantOf (shp_lt (gX6_discriminantOf e23) (by decide)) (gX6_discriminantOf e23) rfl (by decide) lkX2_109 ⟨Nat.le_of_ble_eq_true rfl, Nat.le_of_ble_eq_true rfl⟩ ⟨Nat.le_of_ble_eq_true rfl, Nat.le_of_ble_eq_true rfl⟩ [] rfl (Nat.le_of_ble_eq_true rfl) dX2_isClosedWhole_47 rfl (fun H locs hM => ?_)
          refine r_lload_n (np := 51) G hl 0 rfl dX2_isClosedWhole_50 rfl rfl ?_
          refine r_lcmp_ne (np := 55) (tgt := 57) G rfl rfl dX2_isClosedWhole_51 dX2_isClosedWhole_52 (by decide) rfl (fun h24 => ?_) (fun h24 => ?_)
          · have hm := b_f h24 hm
            refine r_aload_n (np := 58) G hl 1 rfl dX2_isClosedWhole_57 rfl rfl ?_
            obtain ⟨r25, e26, hm⟩ := ref_t hm
            refine r_getR (np := 61) G hM (shp_lt g0 (by decide)) g0 e26 fdX2_3 lkX2_27 dX2_isClosedWhole_58 rfl ?_
            refine r_astore (np := 63) G hl rfl [(4, .ref (eA E r25)), (2, vL b6), (0, .ref (eA E v0)), (1, vI v1)] dX2_isClosedWhole_61 rfl (by decide) rfl (fun ls hl => ?_)
            refine r_aload_n (np := 64) G hl 2 rfl dX2_isClosedWhole_63 rfl rfl ?_
            refine r_aload_n (np := 65) G hl 2 rfl dX2_isClosedWhole_64 rfl rfl ?_
            obtain ⟨r27, e28, hm⟩ := ref_t hm
            refine r_getR (np := 68) G hM (shp_lt g0 (by decide)) g0 e28 fdX2_4 lkX2_31 dX2_isClosedWhole_65 rfl ?_
            obtain ⟨g29, hm⟩ := g_t hm
            obtain ⟨s30, e31, hm⟩ := bnd_t hm
            refine r_putR (np := 71) G hM (shp_lt g0 (by decide)) g0 ptX2_3 rfl lkX2_27 g29 (fun _ => rfl) (fun _ => rfl) s30 e31 dX2_isClosedWhole_68 rfl (fun H locs hM => ?_)
            refine r_aload_n (np := 72) G hl 2 rfl dX2_isClosedWhole_71 rfl rfl ?_
            refine r_aload (np := 74) G hl 0 rfl dX2_isClosedWhole_72 rfl ?_
            obtain ⟨g32, hm⟩ := g_t hm
            obtain ⟨s33, e34, hm⟩ := bnd_t hm
            refine r_putR (np := 77) G hM (shp_lt g0 (by decide)) g0 ptX2_4 rfl lkX2_31 g32 (fun _ => rfl) (fun _ => rfl) s33 e34 dX2_isClosedWhole_74 rfl (fun H locs hM => ?_)
            obtain ⟨a35, e36, hm⟩ := bnd_t hm
            refine r_iinc (np := 80) G hl 3 rfl e36 [(1, vI a35), (4, .ref (eA E r25)), (2, vL b6), (0, .ref (eA E v0))] dX2_isClosedWhole_77 rfl (by decide) rfl (fun ls hl => ?_)
            refine r_goto (np := 2) G dX2_isClosedWhole_80 (by decide) ?_
            exact ih a35 _ _ _ _ hm hM (lv_sub hl [3, 0] rfl)
          · have hm := b_t h24 hm
            refine r_iconst (np := 56) G 1 dX2_isClosedWhole_55 rfl ?_
            exact r_zret G hr hk hM (Or.inr rfl) hm dX2_isClosedWhole_56
        · have hm := b_t h13 hm
          refine r_iconst (np := 34) G 0 dX2_isClosedWhole_33 rfl ?_
          exact r_zret G hr hk hM (Or.inl rfl) hm dX2_isClosedWhole_34
set_option maxRecDepth 100000 in
set_option maxHeartbeats 4000000 in
theorem qX2_isClosedWhole (l : Launch) (E : mE) (σ : mSt) (v0 : Nat) (out : Int × mSt) (hm : mX2_isClosedWhole v0 σ = some out) : mMet l yX2_isClosedWhole cX2_isClosedWhole 5 (some .boolean) 4 99 E 276 [.ref (eA E v0)] σ (some (vI out.1)) out.2 := by
  unfold mX2_isClosedWhole at hm
  obtain ⟨g0, hm⟩ := g_t hm
  refine m_entry (by decide +kernel) (Nat.le_of_ble_eq_true rfl) (fun p e s m args below meth c G hr hk hM ls hl => ?_)
  have G : CallFix p m c cX2_isClosedWhole 5 s args mTs RX2 := G
  have hl : lv_has ls 5 [(0, .ref (eA E v0))] := hl
  refine r_iconst (np := 1) G 0 dX2_isClosedWhole_0 rfl ?_
  refine r_istore_n (np := 2) G hl rfl [(1, vI 0), (0, .ref (eA E v0))] dX2_isClosedWhole_1 rfl rfl (by decide) rfl (fun ls hl => ?_)
  exact wX2_isClosedWhole_L2 l E out G hr hk v0 g0 (fun zσ => mX2_isClosedWhole_B83 v0 zσ) (fun zσ zH zl zs zm zM zv => wX2_isClosedWhole_B83 l E out G hr hk v0 g0 zσ zH zl zs zm zM zv) mF 0 _ _ _ _ hm hM (lv_sub hl [1, 0] rfl)
theorem gX2_isClosedWhole {v0 : Nat} {σ : mSt} {out : Int × mSt} (hm : mX2_isClosedWhole v0 σ = some out) : isC v0 2 := (g_t hm).1
set_option maxRecDepth 100000 in
set_option maxHeartbeats 4000000 in
theorem wX2_isFit_B41 (l : Launch) (E : mE) (out : Int × mSt) {p : Program} {e : Env} {s : State} {m : MethodId} {args : Array Value} {below : List Frame} {meth : Method} {c : Code} (G : CallFix p m c cX2_isFit 2 s args mTs RX2) (hr : meth.sig.returnType = (some .boolean)) (hk : meth.locks = false) (v0 : Nat) (g0 : isC v0 2) : ∀ (v1 : Nat) (σ : mSt) (H : Heap) (locs : List Loc) (ls : Array Slot), mX2_isFit_B41 v0 v1 σ = some out → mM (mA E 276) E 276 σ s H locs → lv_has ls 2 [(0, .ref (eA E v0)), (1, .ref (eA E v1))] → mGo l p e 5 123 s m args below meth c E (some (vI out.1)) out.2 H locs (F0 m 41 ls []) := by
  intro v1 σ H locs ls hm hM hl
  unfold mX2_isFit_B41 at hm
  refine r_aload_n (np := 42) G hl 0 rfl dX2_isFit_41 rfl rfl ?_
  refine r_getL (np := 45) G hM (shp_lt g0 (by decide)) g0 fdX2_2 lkX2_20 dX2_isFit_42 rfl ?_
  refine r_aload_n (np := 46) G hl 0 rfl dX2_isFit_45 rfl rfl ?_
  refine r_getL (np := 49) G hM (shp_lt g0 (by decide)) g0 fdX2_2 lkX2_20 dX2_isFit_46 rfl ?_
  refine r_lmul (np := 50) G dX2_isFit_49 rfl ?_
  refine r_aload_n (np := 51) G hl 0 rfl dX2_isFit_50 rfl rfl ?_
  obtain ⟨r1, e2, hm⟩ := ref_t hm
  refine r_getR (np := 54) G hM (shp_lt g0 (by decide)) g0 e2 fdX2_0 lkX2_10 dX2_isFit_51 rfl ?_
  obtain ⟨g3, hm⟩ := g_t hm
  refine r_getLN (np := 57) G hM (shp_lt g3 (by decide)) g3 fdX6_0 lkX2_78 dX2_isFit_54 rfl ?_
  refine r_aload_n (np := 58) G hl 0 rfl dX2_isFit_57 rfl rfl ?_
  obtain ⟨r4, e5, hm⟩ := ref_t hm
  refine r_getR (np := 61) G hM (shp_lt g0 (by decide)) g0 e5 fdX2_0 lkX2_10 dX2_isFit_58 rfl ?_
  obtain ⟨g6, hm⟩ := g_t hm
  refine r_getLN (np := 64) G hM (shp_lt g6 (by decide)) g6 fdX6_1 lkX2_81 dX2_isFit_61 rfl ?_
  refine r_aload_n (np := 65) G hl 1 rfl dX2_isFit_64 rfl rfl ?_
  obtain ⟨b7, s8, e9, hm⟩ := call_t hm
  refine m_callSL (np := 68) G hM hl.1 [vL (σ r1 0), vL (σ r4 1), .ref (eA E v1)] (qX1_form l E σ (σ r1 0) (σ r4 1) v1 _ e9) myX1_form lkX2_90 ⟨Nat.le_of_ble_eq_true rfl, Nat.le_of_ble_eq_true rfl⟩ ⟨Nat.le_of_ble_eq_true rfl, Nat.le_of_ble_eq_true rfl⟩ [vL ((σ v0 2) * (σ v0 2))] rfl (Nat.le_of_ble_eq_true rfl) dX2_isFit_65 rfl (fun H locs hM => ?_)
  obtain ⟨b10, s11, e12, hm⟩ := call_t hm
  refine m_callSI (np := 71) G hM hl.1 [vL ((σ v0 2) * (σ v0 2)), vL b7] (qX5_divides l E s8 ((σ v0 2) * (σ v0 2)) b7 _ e12) myX5_divides lkX2_86 ⟨Nat.le_of_ble_eq_true rfl, Nat.le_of_ble_eq_true rfl⟩ ⟨Nat.le_of_ble_eq_true rfl, Nat.le_of_ble_eq_true rfl⟩ [] rfl (Nat.le_of_ble_eq_true rfl) dX2_isFit_68 rfl (fun H locs hM => ?_)
  refine r_if_ne (np := 74) (tgt := 76) G rfl dX2_isFit_71 (by decide) rfl (fun h13 => ?_) (fun h13 => ?_)
  · have hm := b_f h13 hm
    refine r_aload_n (np := 77) G hl 0 rfl dX2_isFit_76 rfl rfl ?_
    obtain ⟨r14, e15, hm⟩ := ref_t hm
    refine r_getR (np := 80) G hM (shp_lt g0 (by decide)) g0 e15 fdX2_3 lkX2_27 dX2_isFit_77 rfl ?_
    refine r_aload_n (np := 81) G hl 0 rfl dX2_isFit_80 rfl rfl ?_
    obtain ⟨r16, e17, hm⟩ := ref_t hm
    refine r_getR (np := 84) G hM (shp_lt g0 (by decide)) g0 e17 fdX2_0 lkX2_10 dX2_isFit_81 rfl ?_
    obtain ⟨g18, hm⟩ := g_t hm
    obtain ⟨r19, e20, hm⟩ := ref_t hm
    refine r_getRN (np := 87) G hM (shp_lt g18 (by decide)) g18 e20 fdX6_2 lkX2_61 dX2_isFit_84 rfl ?_
    refine r_aload_n (np := 88) G hl 0 rfl dX2_isFit_87 rfl rfl ?_
    refine r_getI (np := 91) G hM (shp_lt g0 (by decide)) g0 fdX2_1 lkX2_16 dX2_isFit_88 rfl ?_
    refine r_i2l (np := 92) G rfl dX2_isFit_91 rfl ?_
    obtain ⟨b21, s22, e23, hm⟩ := call_t hm
    refine m_callVV (np := 95) G hM hl.1 [.ref (eA E r19), vL (wI (s11 v0 1))] (qX3_copy l E s11 r14 r19 (wI (s11 v0 1)) _ e23) myX3_copy (shp_lt (gX3_copy e23) (by decide)) (gX3_copy e23) rfl (by decide) lkX2_64 ⟨Nat.le_of_ble_eq_true rfl, Nat.le_of_ble_eq_true rfl⟩ ⟨Nat.le_of_ble_eq_true rfl, Nat.le_of_ble_eq_true rfl⟩ [] rfl (Nat.le_of_ble_eq_true rfl) dX2_isFit_92 rfl (fun H locs hM => ?_)
    refine r_aload_n (np := 96) G hl 0 rfl dX2_isFit_95 rfl rfl ?_
    obtain ⟨r24, e25, hm⟩ := ref_t hm
    refine r_getR (np := 99) G hM (shp_lt g0 (by decide)) g0 e25 fdX2_3 lkX2_27 dX2_isFit_96 rfl ?_
    refine r_aload_n (np := 100) G hl 1 rfl dX2_isFit_99 rfl rfl ?_
    obtain ⟨b26, s27, e28, hm⟩ := call_t hm
    refine m_callVV (np := 103) G hM hl.1 [.ref (eA E v1)] (qX3_add l E s22 r24 v1 _ e28) myX3_add (shp_lt (gX3_add e28) (by decide)) (gX3_add e28) rfl (by decide) lkX2_96 ⟨Nat.le_of_ble_eq_true rfl, Nat.le_of_ble_eq_true rfl⟩ ⟨Nat.le_of_ble_eq_true rfl, Nat.le_of_ble_eq_true rfl⟩ [] rfl (Nat.le_of_ble_eq_true rfl) dX2_isFit_100 rfl (fun H locs hM => ?_)
    refine r_aload_n (np := 104) G hl 0 rfl dX2_isFit_103 rfl rfl ?_
    obtain ⟨r29, e30, hm⟩ := ref_t hm
    refine r_getR (np := 107) G hM (shp_lt g0 (by decide)) g0 e30 fdX2_3 lkX2_27 dX2_isFit_104 rfl ?_
    obtain ⟨b31, s32, e33, hm⟩ := call_t hm
    refine m_callVV (np := 110) G hM hl.1 [] (qX3_settle l E s27 r29 _ e33) myX3_settle (shp_lt (gX3_settle e33) (by decide)) (gX3_settle e33) rfl (by decide) lkX2_100 ⟨Nat.le_of_ble_eq_true rfl, Nat.le_of_ble_eq_true rfl⟩ ⟨Nat.le_of_ble_eq_true rfl, Nat.le_of_ble_eq_true rfl⟩ [] rfl (Nat.le_of_ble_eq_true rfl) dX2_isFit_107 rfl (fun H locs hM => ?_)
    refine r_aload_n (np := 111) G hl 0 rfl dX2_isFit_110 rfl rfl ?_
    obtain ⟨r34, e35, hm⟩ := ref_t hm
    refine r_getR (np := 114) G hM (shp_lt g0 (by decide)) g0 e35 fdX2_3 lkX2_27 dX2_isFit_111 rfl ?_
    obtain ⟨b36, s37, e38, hm⟩ := call_t hm
    refine m_callVV (np := 117) G hM hl.1 [] (qX3_lower l E s32 r34 _ e38) myX3_lower (shp_lt (gX3_lower e38) (by decide)) (gX3_lower e38) rfl (by decide) lkX2_103 ⟨Nat.le_of_ble_eq_true rfl, Nat.le_of_ble_eq_true rfl⟩ ⟨Nat.le_of_ble_eq_true rfl, Nat.le_of_ble_eq_true rfl⟩ [] rfl (Nat.le_of_ble_eq_true rfl) dX2_isFit_114 rfl (fun H locs hM => ?_)
    refine r_aload_n (np := 118) G hl 0 rfl dX2_isFit_117 rfl rfl ?_
    obtain ⟨b39, s40, e41, hm⟩ := call_t hm
    refine m_callVI (np := 121) G hM hl.1 [] (qX2_isClosedWhole l E s37 v0 _ e41) myX2_isClosedWhole (shp_lt (gX2_isClosedWhole e41) (by decide)) (gX2_isClosedWhole e41) rfl (by decide) lkX2_106 ⟨Nat.le_of_ble_eq_true rfl, Nat.le_of_ble_eq_true rfl⟩ ⟨Nat.le_of_ble_eq_true rfl, Nat.le_of_ble_eq_true rfl⟩ [] rfl (Nat.le_of_ble_eq_true rfl) dX2_isFit_118 rfl (fun H locs hM => ?_)
    obtain ⟨g42, hm⟩ := g_t hm
    exact r_zret G hr hk hM g42 hm dX2_isFit_121
  · have hm := b_t h13 hm
    refine r_iconst (np := 75) G 0 dX2_isFit_74 rfl ?_
    exact r_zret G hr hk hM (Or.inl rfl) hm dX2_isFit_75
set_option maxRecDepth 100000 in
set_option maxHeartbeats 4000000 in
theorem qX2_isFit (l : Launch) (E : mE) (σ : mSt) (v0 : Nat) (out : Int × mSt) (hm : mX2_isFit v0 σ = some out) : mMet l yX2_isFit cX2_isFit 2 (some .boolean) 5 123 E 276 [.ref (eA E v0)] σ (some (vI out.1)) out.2 := by
  unfold mX2_isFit at hm
  obtain ⟨g0, hm⟩ := g_t hm
  refine m_entry (by decide +kernel) (Nat.le_of_ble_eq_true rfl) (fun p e s m args below meth c G hr hk hM ls hl => ?_)
  have G : CallFix p m c cX2_isFit 2 s args mTs RX2 := G
  have hl : lv_has ls 2 [(0, .ref (eA E v0))] := hl
  refine r_aload_n (np := 1) G hl 0 rfl dX2_isFit_0 rfl rfl ?_
  obtain ⟨r43, e44, hm⟩ := ref_t hm
  refine r_getR (np := 4) G hM (shp_lt g0 (by decide)) g0 e44 fdX2_5 lkX2_36 dX2_isFit_1 rfl ?_
  refine r_iconst (np := 5) G 4 dX2_isFit_4 rfl ?_
  obtain ⟨g45, hm⟩ := g_t hm
  obtain ⟨r46, e47, hm⟩ := ref_t hm
  refine r_aaload (np := 6) G hM (t := 7) g45 rfl ⟨by decide, by decide⟩ rfl rfl e47 dX2_isFit_5 rfl ?_
  refine r_astore_n (np := 7) G hl rfl [(1, .ref (eA E r46)), (0, .ref (eA E v0))] dX2_isFit_6 rfl rfl (by decide) rfl (fun ls hl => ?_)
  refine r_aload_n (np := 8) G hl 0 rfl dX2_isFit_7 rfl rfl ?_
  refine r_iconst (np := 9) G 0 dX2_isFit_8 rfl ?_
  obtain ⟨g48, hm⟩ := g_t hm
  refine r_laload (np := 10) G hM g48 rfl dX2_isFit_9 rfl ?_
  refine r_lconst (np := 11) G 0 dX2_isFit_10 rfl rfl ?_
  refine r_lcmp_ne (np := 15) (tgt := 41) G rfl (wLk 0 rfl) dX2_isFit_11 dX2_isFit_12 (by decide) rfl (fun h49 => ?_) (fun h49 => ?_)
  · have hm := b_f h49 hm
    exact wX2_isFit_B41 l E out G hr hk v0 g0 r46 _ _ _ _ hm hM (lv_sub hl [1, 0] rfl)
  · have hm := b_t h49 hm
    refine r_aload_n (np := 16) G hl 0 rfl dX2_isFit_15 rfl rfl ?_
    refine r_iconst (np := 17) G 1 dX2_isFit_16 rfl ?_
    obtain ⟨g50, hm⟩ := g_t hm
    refine r_laload (np := 18) G hM g50 rfl dX2_isFit_17 rfl ?_
    refine r_lconst (np := 19) G 0 dX2_isFit_18 rfl rfl ?_
    refine r_lcmp_ne (np := 23) (tgt := 41) G rfl (wLk 0 rfl) dX2_isFit_19 dX2_isFit_20 (by decide) rfl (fun h51 => ?_) (fun h51 => ?_)
    · have hm := b_f h51 hm
      exact wX2_isFit_B41 l E out G hr hk v0 g0 r46 _ _ _ _ hm hM (lv_sub hl [1, 0] rfl)
    · have hm := b_t h51 hm
      refine r_aload_n (np := 24) G hl 0 rfl dX2_isFit_23 rfl rfl ?_
      refine r_iconst (np := 25) G 2 dX2_isFit_24 rfl ?_
      obtain ⟨g52, hm⟩ := g_t hm
      refine r_laload (np := 26) G hM g52 rfl dX2_isFit_25 rfl ?_
      refine r_lconst (np := 27) G 0 dX2_isFit_26 rfl rfl ?_
      refine r_lcmp_ne (np := 31) (tgt := 41) G rfl (wLk 0 rfl) dX2_isFit_27 dX2_isFit_28 (by decide) rfl (fun h53 => ?_) (fun h53 => ?_)
      · have hm := b_f h53 hm
        exact wX2_isFit_B41 l E out G hr hk v0 g0 r46 _ _ _ _ hm hM (lv_sub hl [1, 0] rfl)
      · have hm := b_t h53 hm
        refine r_aload_n (np := 32) G hl 0 rfl dX2_isFit_31 rfl rfl ?_
        refine r_iconst (np := 33) G 3 dX2_isFit_32 rfl ?_
        obtain ⟨g54, hm⟩ := g_t hm
        refine r_laload (np := 34) G hM g54 rfl dX2_isFit_33 rfl ?_
        refine r_lconst (np := 35) G 0 dX2_isFit_34 rfl rfl ?_
        refine r_lcmp_ne (np := 39) (tgt := 41) G rfl (wLk 0 rfl) dX2_isFit_35 dX2_isFit_36 (by decide) rfl (fun h55 => ?_) (fun h55 => ?_)
        · have hm := b_f h55 hm
          exact wX2_isFit_B41 l E out G hr hk v0 g0 r46 _ _ _ _ hm hM (lv_sub hl [1, 0] rfl)
        · have hm := b_t h55 hm
          refine r_iconst (np := 40) G 0 dX2_isFit_39 rfl ?_
          exact r_zret G hr hk hM (Or.inl rfl) hm dX2_isFit_40
theorem gX2_isFit {v0 : Nat} {σ : mSt} {out : Int × mSt} (hm : mX2_isFit v0 σ = some out) : isC v0 2 := (g_t hm).1
set_option maxRecDepth 100000 in
set_option maxHeartbeats 4000000 in
theorem qX6_discriminant (l : Launch) (E : mE) (σ : mSt) (v0 : Nat) (out : Int × mSt) (hm : mX6_discriminant v0 σ = some out) : mMet l yX6_discriminant cX6_discriminant 1 (some .long) 4 98 E 276 [.ref (eA E v0)] σ (some (vL out.1)) out.2 := by
  unfold mX6_discriminant at hm
  obtain ⟨g0, hm⟩ := g_t hm
  refine m_entry (by decide +kernel) (Nat.le_of_ble_eq_true rfl) (fun p e s m args below meth c G hr hk hM ls hl => ?_)
  have G : CallFix p m c cX6_discriminant 1 s args mTs RX6 := G
  have hl : lv_has ls 1 [(0, .ref (eA E v0))] := hl
  refine r_aload_n (np := 1) G hl 0 rfl dX6_discriminant_0 rfl rfl ?_
  refine r_aload_n (np := 2) G hl 0 rfl dX6_discriminant_1 rfl rfl ?_
  obtain ⟨r1, e2, hm⟩ := ref_t hm
  refine r_getR (np := 5) G hM (shp_lt g0 (by decide)) g0 e2 fdX6_2 lkX6_19 dX6_discriminant_2 rfl ?_
  obtain ⟨b3, s4, e5, hm⟩ := call_t hm
  refine m_callVL (np := 8) G hM hl.1 [.ref (eA E r1)] (qX6_discriminantOf l E σ v0 r1 _ e5) myX6_discriminantOf (shp_lt (gX6_discriminantOf e5) (by decide)) (gX6_discriminantOf e5) rfl (by decide) lkX6_39 ⟨Nat.le_of_ble_eq_true rfl, Nat.le_of_ble_eq_true rfl⟩ ⟨Nat.le_of_ble_eq_true rfl, Nat.le_of_ble_eq_true rfl⟩ [] rfl (Nat.le_of_ble_eq_true rfl) dX6_discriminant_5 rfl (fun H locs hM => ?_)
  exact r_lret G hr hk hM hm dX6_discriminant_8
theorem gX6_discriminant {v0 : Nat} {σ : mSt} {out : Int × mSt} (hm : mX6_discriminant v0 σ = some out) : isC v0 5 := (g_t hm).1
set_option maxRecDepth 100000 in
set_option maxHeartbeats 4000000 in
theorem qX2_takeTrial (l : Launch) (E : mE) (σ : mSt) (v0 : Nat) (out : Int × mSt) (hm : mX2_takeTrial v0 σ = some out) : mMet l yX2_takeTrial cX2_takeTrial 3 (some .long) 5 118 E 276 [.ref (eA E v0)] σ (some (vL out.1)) out.2 := by
  unfold mX2_takeTrial at hm
  obtain ⟨g0, hm⟩ := g_t hm
  refine m_entry (by decide +kernel) (Nat.le_of_ble_eq_true rfl) (fun p e s m args below meth c G hr hk hM ls hl => ?_)
  have G : CallFix p m c cX2_takeTrial 3 s args mTs RX2 := G
  have hl : lv_has ls 3 [(0, .ref (eA E v0))] := hl
  refine r_aload_n (np := 1) G hl 0 rfl dX2_takeTrial_0 rfl rfl ?_
  obtain ⟨r1, e2, hm⟩ := ref_t hm
  refine r_getR (np := 4) G hM (shp_lt g0 (by decide)) g0 e2 fdX2_0 lkX2_10 dX2_takeTrial_1 rfl ?_
  obtain ⟨b3, s4, e5, hm⟩ := call_t hm
  refine m_callVL (np := 7) G hM hl.1 [] (qX6_discriminant l E σ r1 _ e5) myX6_discriminant (shp_lt (gX6_discriminant e5) (by decide)) (gX6_discriminant e5) rfl (by decide) lkX2_58 ⟨Nat.le_of_ble_eq_true rfl, Nat.le_of_ble_eq_true rfl⟩ ⟨Nat.le_of_ble_eq_true rfl, Nat.le_of_ble_eq_true rfl⟩ [] rfl (Nat.le_of_ble_eq_true rfl) dX2_takeTrial_4 rfl (fun H locs hM => ?_)
  refine r_lstore_n (np := 8) G hl rfl [(1, vL b3), (0, .ref (eA E v0))] dX2_takeTrial_7 rfl rfl (by decide) rfl (fun ls hl => ?_)
  refine r_aload_n (np := 9) G hl 1 rfl dX2_takeTrial_8 rfl rfl ?_
  obtain ⟨r6, e7, hm⟩ := ref_t hm
  refine r_getR (np := 12) G hM (shp_lt g0 (by decide)) g0 e7 fdX2_0 lkX2_10 dX2_takeTrial_9 rfl ?_
  obtain ⟨g8, hm⟩ := g_t hm
  obtain ⟨r9, e10, hm⟩ := ref_t hm
  refine r_getRN (np := 15) G hM (shp_lt g8 (by decide)) g8 e10 fdX6_2 lkX2_61 dX2_takeTrial_12 rfl ?_
  refine r_aload_n (np := 16) G hl 1 rfl dX2_takeTrial_15 rfl rfl ?_
  obtain ⟨r11, e12, hm⟩ := ref_t hm
  refine r_getR (np := 19) G hM (shp_lt g0 (by decide)) g0 e12 fdX2_3 lkX2_27 dX2_takeTrial_16 rfl ?_
  refine r_lconst (np := 20) G 1 dX2_takeTrial_19 rfl rfl ?_
  obtain ⟨b13, s14, e15, hm⟩ := call_t hm
  refine m_callVV (np := 23) G hM hl.1 [.ref (eA E r11), vL 1] (qX3_copy l E s4 r9 r11 1 _ e15) myX3_copy (shp_lt (gX3_copy e15) (by decide)) (gX3_copy e15) rfl (by decide) lkX2_64 ⟨Nat.le_of_ble_eq_true rfl, Nat.le_of_ble_eq_true rfl⟩ ⟨Nat.le_of_ble_eq_true rfl, Nat.le_of_ble_eq_true rfl⟩ [] rfl (Nat.le_of_ble_eq_true rfl) dX2_takeTrial_20 rfl (fun H locs hM => ?_)
  refine r_lload_n (np := 24) G hl 0 rfl dX2_takeTrial_23 rfl rfl ?_
  refine r_aload_n (np := 25) G hl 1 rfl dX2_takeTrial_24 rfl rfl ?_
  obtain ⟨r16, e17, hm⟩ := ref_t hm
  refine r_getR (np := 28) G hM (shp_lt g0 (by decide)) g0 e17 fdX2_0 lkX2_10 dX2_takeTrial_25 rfl ?_
  obtain ⟨b18, s19, e20, hm⟩ := call_t hm
  refine m_callVL (np := 31) G hM hl.1 [] (qX6_discriminant l E s14 r16 _ e20) myX6_discriminant (shp_lt (gX6_discriminant e20) (by decide)) (gX6_discriminant e20) rfl (by decide) lkX2_58 ⟨Nat.le_of_ble_eq_true rfl, Nat.le_of_ble_eq_true rfl⟩ ⟨Nat.le_of_ble_eq_true rfl, Nat.le_of_ble_eq_true rfl⟩ [vL b3] rfl (Nat.le_of_ble_eq_true rfl) dX2_takeTrial_28 rfl (fun H locs hM => ?_)
  obtain ⟨b21, s22, e23, hm⟩ := call_t hm
  refine m_callSL (np := 34) G hM hl.1 [vL b3, vL b18] (qX5_quotient l E s19 b3 b18 _ e23) myX5_quotient lkX2_68 ⟨Nat.le_of_ble_eq_true rfl, Nat.le_of_ble_eq_true rfl⟩ ⟨Nat.le_of_ble_eq_true rfl, Nat.le_of_ble_eq_true rfl⟩ [] rfl (Nat.le_of_ble_eq_true rfl) dX2_takeTrial_31 rfl (fun H locs hM => ?_)
  exact r_lret G hr hk hM hm dX2_takeTrial_34
theorem gX2_takeTrial {v0 : Nat} {σ : mSt} {out : Int × mSt} (hm : mX2_takeTrial v0 σ = some out) : isC v0 2 := (g_t hm).1
set_option maxRecDepth 100000 in
set_option maxHeartbeats 4000000 in
theorem wX2_grow_B142 (l : Launch) (E : mE) (out : Int × mSt) {p : Program} {e : Env} {s : State} {m : MethodId} {args : Array Value} {below : List Frame} {meth : Method} {c : Code} (G : CallFix p m c cX2_grow 7 s args mTs RX2) (hr : meth.sig.returnType = (some .long)) (hk : meth.locks = false) (v0 : Nat) (v1 : Nat) (v2 : Int) (g0 : isC v0 2) : ∀ (σ : mSt) (H : Heap) (locs : List Loc) (ls : Array Slot), mX2_grow_B142 v0 v1 v2 σ = some out → mM (mA E 276) E 276 σ s H locs → lv_has ls 7 [] → mGo l p e 6 144 s m args below meth c E (some (vL out.1)) out.2 H locs (F0 m 142 ls []) := by
  intro σ H locs ls hm hM hl
  unfold mX2_grow_B142 at hm
  refine r_lconst (np := 143) G 0 dX2_grow_142 rfl rfl ?_
  exact r_lret G hr hk hM hm dX2_grow_143
set_option maxRecDepth 100000 in
set_option maxHeartbeats 4000000 in
theorem wX2_grow_B136 (l : Launch) (E : mE) (out : Int × mSt) {p : Program} {e : Env} {s : State} {m : MethodId} {args : Array Value} {below : List Frame} {meth : Method} {c : Code} (G : CallFix p m c cX2_grow 7 s args mTs RX2) (hr : meth.sig.returnType = (some .long)) (hk : meth.locks = false) (v0 : Nat) (v1 : Nat) (v2 : Int) (g0 : isC v0 2) (c26 : Int → mSt → Option (Int × mSt)) (x142 : mSt → Option (Int × mSt)) (hc26 : ∀ (v3 : Int) (σ : mSt) (H : Heap) (locs : List Loc) (ls : Array Slot), c26 v3 σ = some out → mM (mA E 276) E 276 σ s H locs → lv_has ls 7 [(0, .ref (eA E v0)), (2, vI v2), (3, vI v3)] → mGo l p e 6 144 s m args below meth c E (some (vL out.1)) out.2 H locs (F0 m 26 ls [])) (hx142 : ∀ (σ : mSt) (H : Heap) (locs : List Loc) (ls : Array Slot), x142 σ = some out → mM (mA E 276) E 276 σ s H locs → lv_has ls 7 [] → mGo l p e 6 144 s m args below meth c E (some (vL out.1)) out.2 H locs (F0 m 142 ls [])) : ∀ (v3 : Int) (σ : mSt) (H : Heap) (locs : List Loc) (ls : Array Slot), mX2_grow_B136 v0 v1 v2 c26 x142 v3 σ = some out → mM (mA E 276) E 276 σ s H locs → lv_has ls 7 [(0, .ref (eA E v0)), (2, vI v2), (3, vI v3)] → mGo l p e 6 144 s m args below meth c E (some (vL out.1)) out.2 H locs (F0 m 136 ls []) := by
  intro v3 σ H locs ls hm hM hl
  unfold mX2_grow_B136 at hm
  obtain ⟨a1, e2, hm⟩ := bnd_t hm
  refine r_iinc (np := 139) G hl 2 rfl e2 [(3, vI a1), (0, .ref (eA E v0)), (2, vI v2)] dX2_grow_136 rfl (by decide) rfl (fun ls hl => ?_)
  refine r_goto (np := 26) G dX2_grow_139 (by decide) ?_
  exact hc26 a1 _ _ _ _ hm hM (lv_sub hl [1, 2, 0] rfl)
set_option maxRecDepth 100000 in
set_option maxHeartbeats 4000000 in
theorem wX2_grow_B130 (l : Launch) (E : mE) (out : Int × mSt) {p : Program} {e : Env} {s : State} {m : MethodId} {args : Array Value} {below : List Frame} {meth : Method} {c : Code} (G : CallFix p m c cX2_grow 7 s args mTs RX2) (hr : meth.sig.returnType = (some .long)) (hk : meth.locks = false) (v0 : Nat) (v1 : Nat) (v2 : Int) (v3 : Int) (g0 : isC v0 2) (c46 : Int → mSt → Option (Int × mSt)) (x136 : mSt → Option (Int × mSt)) (hc46 : ∀ (v4 : Int) (σ : mSt) (H : Heap) (locs : List Loc) (ls : Array Slot), c46 v4 σ = some out → mM (mA E 276) E 276 σ s H locs → lv_has ls 7 [(0, .ref (eA E v0)), (2, vI v2), (3, vI v3), (4, vI v4)] → mGo l p e 6 144 s m args below meth c E (some (vL out.1)) out.2 H locs (F0 m 46 ls [])) (hx136 : ∀ (σ : mSt) (H : Heap) (locs : List Loc) (ls : Array Slot), x136 σ = some out → mM (mA E 276) E 276 σ s H locs → lv_has ls 7 [(0, .ref (eA E v0)), (2, vI v2), (3, vI v3)] → mGo l p e 6 144 s m args below meth c E (some (vL out.1)) out.2 H locs (F0 m 136 ls [])) : ∀ (v4 : Int) (σ : mSt) (H : Heap) (locs : List Loc) (ls : Array Slot), mX2_grow_B130 v0 v1 v2 v3 c46 x136 v4 σ = some out → mM (mA E 276) E 276 σ s H locs → lv_has ls 7 [(0, .ref (eA E v0)), (2, vI v2), (3, vI v3), (4, vI v4)] → mGo l p e 6 144 s m args below meth c E (some (vL out.1)) out.2 H locs (F0 m 130 ls []) := by
  intro v4 σ H locs ls hm hM hl
  unfold mX2_grow_B130 at hm
  obtain ⟨a3, e4, hm⟩ := bnd_t hm
  refine r_iinc (np := 133) G hl 3 rfl e4 [(4, vI a3), (0, .ref (eA E v0)), (2, vI v2), (3, vI v3)] dX2_grow_130 rfl (by decide) rfl (fun ls hl => ?_)
  refine r_goto (np := 46) G dX2_grow_133 (by decide) ?_
  exact hc46 a3 _ _ _ _ hm hM (lv_sub hl [1, 2, 3, 0] rfl)
set_option maxRecDepth 100000 in
set_option maxHeartbeats 4000000 in
theorem wX2_grow_B124 (l : Launch) (E : mE) (out : Int × mSt) {p : Program} {e : Env} {s : State} {m : MethodId} {args : Array Value} {below : List Frame} {meth : Method} {c : Code} (G : CallFix p m c cX2_grow 7 s args mTs RX2) (hr : meth.sig.returnType = (some .long)) (hk : meth.locks = false) (v0 : Nat) (v1 : Nat) (v2 : Int) (v3 : Int) (v4 : Int) (g0 : isC v0 2) (c68 : Int → mSt → Option (Int × mSt)) (x130 : mSt → Option (Int × mSt)) (hc68 : ∀ (v5 : Int) (σ : mSt) (H : Heap) (locs : List Loc) (ls : Array Slot), c68 v5 σ = some out → mM (mA E 276) E 276 σ s H locs → lv_has ls 7 [(0, .ref (eA E v0)), (2, vI v2), (3, vI v3), (4, vI v4), (5, vI v5)] → mGo l p e 6 144 s m args below meth c E (some (vL out.1)) out.2 H locs (F0 m 68 ls [])) (hx130 : ∀ (σ : mSt) (H : Heap) (locs : List Loc) (ls : Array Slot), x130 σ = some out → mM (mA E 276) E 276 σ s H locs → lv_has ls 7 [(0, .ref (eA E v0)), (2, vI v2), (3, vI v3), (4, vI v4)] → mGo l p e 6 144 s m args below meth c E (some (vL out.1)) out.2 H locs (F0 m 130 ls [])) : ∀ (v5 : Int) (σ : mSt) (H : Heap) (locs : List Loc) (ls : Array Slot), mX2_grow_B124 v0 v1 v2 v3 v4 c68 x130 v5 σ = some out → mM (mA E 276) E 276 σ s H locs → lv_has ls 7 [(0, .ref (eA E v0)), (2, vI v2), (3, vI v3), (4, vI v4), (5, vI v5)] → mGo l p e 6 144 s m args below meth c E (some (vL out.1)) out.2 H locs (F0 m 124 ls []) := by
  intro v5 σ H locs ls hm hM hl
  unfold mX2_grow_B124 at hm
  obtain ⟨a5, e6, hm⟩ := bnd_t hm
  refine r_iinc (np := 127) G hl 4 rfl e6 [(5, vI a5), (0, .ref (eA E v0)), (2, vI v2), (3, vI v3), (4, vI v4)] dX2_grow_124 rfl (by decide) rfl (fun ls hl => ?_)
  refine r_goto (np := 68) G dX2_grow_127 (by decide) ?_
  exact hc68 a5 _ _ _ _ hm hM (lv_sub hl [1, 2, 3, 4, 0] rfl)
set_option maxRecDepth 100000 in
set_option maxHeartbeats 4000000 in
theorem wX2_grow_L90 (l : Launch) (E : mE) (out : Int × mSt) {p : Program} {e : Env} {s : State} {m : MethodId} {args : Array Value} {below : List Frame} {meth : Method} {c : Code} (G : CallFix p m c cX2_grow 7 s args mTs RX2) (hr : meth.sig.returnType = (some .long)) (hk : meth.locks = false) (v0 : Nat) (v1 : Nat) (v2 : Int) (v3 : Int) (v4 : Int) (v5 : Int) (g0 : isC v0 2) (x124 : mSt → Option (Int × mSt)) (hx124 : ∀ (σ : mSt) (H : Heap) (locs : List Loc) (ls : Array Slot), x124 σ = some out → mM (mA E 276) E 276 σ s H locs → lv_has ls 7 [(0, .ref (eA E v0)), (2, vI v2), (3, vI v3), (4, vI v4), (5, vI v5)] → mGo l p e 6 144 s m args below meth c E (some (vL out.1)) out.2 H locs (F0 m 124 ls [])) : ∀ (n : Nat) (v6 : Int) (σ : mSt) (H : Heap) (locs : List Loc) (ls : Array Slot), mX2_grow_L90 v0 v1 v2 v3 v4 v5 x124 n v6 σ = some out → mM (mA E 276) E 276 σ s H locs → lv_has ls 7 [(0, .ref (eA E v0)), (2, vI v2), (3, vI v3), (4, vI v4), (5, vI v5), (6, vI v6)] → mGo l p e 6 144 s m args below meth c E (some (vL out.1)) out.2 H locs (F0 m 90 ls []) := by
  intro n
  induction n with
  | zero =>
    intro v6 σ H locs ls hm hM hl
    exact absurd hm (by rw [mX2_grow_L90.eq_1]; exact fun h => nomatch h)
  | succ n ih =>
    intro v6 σ H locs ls hm hM hl
    rw [mX2_grow_L90.eq_2] at hm
    refine r_iload (np := 92) G hl 5 rfl dX2_grow_90 rfl ?_
    refine r_iload_n (np := 93) G hl 1 rfl dX2_grow_92 rfl rfl ?_
    refine r_icmp_ge (np := 96) (tgt := 124) G rfl rfl dX2_grow_93 (by decide) rfl (fun h7 => ?_) (fun h7 => ?_)
    · have hm := b_t h7 hm
      exact hx124 _ _ _ _ hm hM (lv_sub hl [0, 1, 2, 3, 4] rfl)
    · have hm := b_f h7 hm
      refine r_aload_n (np := 97) G hl 0 rfl dX2_grow_96 rfl rfl ?_
      refine r_iconst (np := 98) G 3 dX2_grow_97 rfl ?_
      refine r_iload (np := 100) G hl 5 rfl dX2_grow_98 rfl ?_
      obtain ⟨b8, s9, e10, hm⟩ := call_t hm
      refine m_callVI (np := 103) G hM hl.1 [vI 3, vI v6] (qX2_goesOn l E σ v0 3 v6 _ e10) myX2_goesOn (shp_lt (gX2_goesOn e10) (by decide)) (gX2_goesOn e10) rfl (by decide) lkX2_47 ⟨Nat.le_of_ble_eq_true rfl, Nat.le_of_ble_eq_true rfl⟩ ⟨Nat.le_of_ble_eq_true rfl, Nat.le_of_ble_eq_true rfl⟩ [] rfl (Nat.le_of_ble_eq_true rfl) dX2_grow_100 rfl (fun H locs hM => ?_)
      refine r_if_eq (np := 106) (tgt := 118) G rfl dX2_grow_103 (by decide) rfl (fun h11 => ?_) (fun h11 => ?_)
      · have hm := b_t h11 hm
        obtain ⟨a12, e13, hm⟩ := bnd_t hm
        refine r_iinc (np := 121) G hl 5 rfl e13 [(6, vI a12), (0, .ref (eA E v0)), (2, vI v2), (3, vI v3), (4, vI v4), (5, vI v5)] dX2_grow_118 rfl (by decide) rfl (fun ls hl => ?_)
        refine r_goto (np := 90) G dX2_grow_121 (by decide) ?_
        exact ih a12 _ _ _ _ hm hM (lv_sub hl [1, 2, 3, 4, 5, 0] rfl)
      · have hm := b_f h11 hm
        refine r_aload_n (np := 107) G hl 0 rfl dX2_grow_106 rfl rfl ?_
        obtain ⟨b14, s15, e16, hm⟩ := call_t hm
        refine m_callVI (np := 110) G hM hl.1 [] (qX2_isFit l E s9 v0 _ e16) myX2_isFit (shp_lt (gX2_isFit e16) (by decide)) (gX2_isFit e16) rfl (by decide) lkX2_51 ⟨Nat.le_of_ble_eq_true rfl, Nat.le_of_ble_eq_true rfl⟩ ⟨Nat.le_of_ble_eq_true rfl, Nat.le_of_ble_eq_true rfl⟩ [] rfl (Nat.le_of_ble_eq_true rfl) dX2_grow_107 rfl (fun H locs hM => ?_)
        refine r_if_eq (np := 113) (tgt := 118) G rfl dX2_grow_110 (by decide) rfl (fun h17 => ?_) (fun h17 => ?_)
        · have hm := b_t h17 hm
          obtain ⟨a18, e19, hm⟩ := bnd_t hm
          refine r_iinc (np := 121) G hl 5 rfl e19 [(6, vI a18), (0, .ref (eA E v0)), (2, vI v2), (3, vI v3), (4, vI v4), (5, vI v5)] dX2_grow_118 rfl (by decide) rfl (fun ls hl => ?_)
          refine r_goto (np := 90) G dX2_grow_121 (by decide) ?_
          exact ih a18 _ _ _ _ hm hM (lv_sub hl [1, 2, 3, 4, 5, 0] rfl)
        · have hm := b_f h17 hm
          refine r_aload_n (np := 114) G hl 0 rfl dX2_grow_113 rfl rfl ?_
          obtain ⟨b20, s21, e22, hm⟩ := call_t hm
          refine m_callVL (np := 117) G hM hl.1 [] (qX2_takeTrial l E s15 v0 _ e22) myX2_takeTrial (shp_lt (gX2_takeTrial e22) (by decide)) (gX2_takeTrial e22) rfl (by decide) lkX2_55 ⟨Nat.le_of_ble_eq_true rfl, Nat.le_of_ble_eq_true rfl⟩ ⟨Nat.le_of_ble_eq_true rfl, Nat.le_of_ble_eq_true rfl⟩ [] rfl (Nat.le_of_ble_eq_true rfl) dX2_grow_114 rfl (fun H locs hM => ?_)
          exact r_lret G hr hk hM hm dX2_grow_117
set_option maxRecDepth 100000 in
set_option maxHeartbeats 4000000 in
theorem wX2_grow_L68 (l : Launch) (E : mE) (out : Int × mSt) {p : Program} {e : Env} {s : State} {m : MethodId} {args : Array Value} {below : List Frame} {meth : Method} {c : Code} (G : CallFix p m c cX2_grow 7 s args mTs RX2) (hr : meth.sig.returnType = (some .long)) (hk : meth.locks = false) (v0 : Nat) (v1 : Nat) (v2 : Int) (v3 : Int) (v4 : Int) (g0 : isC v0 2) (x130 : mSt → Option (Int × mSt)) (hx130 : ∀ (σ : mSt) (H : Heap) (locs : List Loc) (ls : Array Slot), x130 σ = some out → mM (mA E 276) E 276 σ s H locs → lv_has ls 7 [(0, .ref (eA E v0)), (2, vI v2), (3, vI v3), (4, vI v4)] → mGo l p e 6 144 s m args below meth c E (some (vL out.1)) out.2 H locs (F0 m 130 ls [])) : ∀ (n : Nat) (v5 : Int) (σ : mSt) (H : Heap) (locs : List Loc) (ls : Array Slot), mX2_grow_L68 v0 v1 v2 v3 v4 x130 n v5 σ = some out → mM (mA E 276) E 276 σ s H locs → lv_has ls 7 [(0, .ref (eA E v0)), (2, vI v2), (3, vI v3), (4, vI v4), (5, vI v5)] → mGo l p e 6 144 s m args below meth c E (some (vL out.1)) out.2 H locs (F0 m 68 ls []) := by
  intro n
  induction n with
  | zero =>
    intro v5 σ H locs ls hm hM hl
    exact absurd hm (by rw [mX2_grow_L68.eq_1]; exact fun h => nomatch h)
  | succ n ih =>
    intro v5 σ H locs ls hm hM hl
    rw [mX2_grow_L68.eq_2] at hm
    refine r_iload (np := 70) G hl 4 rfl dX2_grow_68 rfl ?_
    refine r_iload_n (np := 71) G hl 1 rfl dX2_grow_70 rfl rfl ?_
    refine r_icmp_ge (np := 74) (tgt := 130) G rfl rfl dX2_grow_71 (by decide) rfl (fun h23 => ?_) (fun h23 => ?_)
    · have hm := b_t h23 hm
      exact hx130 _ _ _ _ hm hM (lv_sub hl [0, 1, 2, 3] rfl)
    · have hm := b_f h23 hm
      refine r_aload_n (np := 75) G hl 0 rfl dX2_grow_74 rfl rfl ?_
      refine r_iconst (np := 76) G 2 dX2_grow_75 rfl ?_
      refine r_iload (np := 78) G hl 4 rfl dX2_grow_76 rfl ?_
      obtain ⟨b24, s25, e26, hm⟩ := call_t hm
      refine m_callVI (np := 81) G hM hl.1 [vI 2, vI v5] (qX2_goesOn l E σ v0 2 v5 _ e26) myX2_goesOn (shp_lt (gX2_goesOn e26) (by decide)) (gX2_goesOn e26) rfl (by decide) lkX2_47 ⟨Nat.le_of_ble_eq_true rfl, Nat.le_of_ble_eq_true rfl⟩ ⟨Nat.le_of_ble_eq_true rfl, Nat.le_of_ble_eq_true rfl⟩ [] rfl (Nat.le_of_ble_eq_true rfl) dX2_grow_78 rfl (fun H locs hM => ?_)
      refine r_if_ne (np := 84) (tgt := 87) G rfl dX2_grow_81 (by decide) rfl (fun h27 => ?_) (fun h27 => ?_)
      · have hm := b_f h27 hm
        refine r_iconst (np := 88) G 0 dX2_grow_87 rfl ?_
        refine r_istore (np := 90) G hl rfl [(6, vI 0), (0, .ref (eA E v0)), (2, vI v2), (3, vI v3), (4, vI v4), (5, vI v5)] dX2_grow_88 rfl (by decide) rfl (fun ls hl => ?_)
        exact wX2_grow_L90 l E out G hr hk v0 v1 v2 v3 v4 v5 g0 (fun zσ => mX2_grow_B124 v0 v1 v2 v3 v4 (mX2_grow_L68 v0 v1 v2 v3 v4 x130 n) x130 v5 zσ) (fun zσ zH zl zs zm zM zv => wX2_grow_B124 l E out G hr hk v0 v1 v2 v3 v4 g0 (mX2_grow_L68 v0 v1 v2 v3 v4 x130 n) x130 ih hx130 v5 zσ zH zl zs zm zM zv) mF 0 _ _ _ _ hm hM (lv_sub hl [1, 2, 3, 4, 5, 0] rfl)
      · have hm := b_t h27 hm
        refine r_goto (np := 124) G dX2_grow_84 (by decide) ?_
        exact wX2_grow_B124 l E out G hr hk v0 v1 v2 v3 v4 g0 (mX2_grow_L68 v0 v1 v2 v3 v4 x130 n) x130 ih hx130 v5 _ _ _ _ hm hM (lv_sub hl [0, 1, 2, 3, 4] rfl)
set_option maxRecDepth 100000 in
set_option maxHeartbeats 4000000 in
theorem wX2_grow_L46 (l : Launch) (E : mE) (out : Int × mSt) {p : Program} {e : Env} {s : State} {m : MethodId} {args : Array Value} {below : List Frame} {meth : Method} {c : Code} (G : CallFix p m c cX2_grow 7 s args mTs RX2) (hr : meth.sig.returnType = (some .long)) (hk : meth.locks = false) (v0 : Nat) (v1 : Nat) (v2 : Int) (v3 : Int) (g0 : isC v0 2) (x136 : mSt → Option (Int × mSt)) (hx136 : ∀ (σ : mSt) (H : Heap) (locs : List Loc) (ls : Array Slot), x136 σ = some out → mM (mA E 276) E 276 σ s H locs → lv_has ls 7 [(0, .ref (eA E v0)), (2, vI v2), (3, vI v3)] → mGo l p e 6 144 s m args below meth c E (some (vL out.1)) out.2 H locs (F0 m 136 ls [])) : ∀ (n : Nat) (v4 : Int) (σ : mSt) (H : Heap) (locs : List Loc) (ls : Array Slot), mX2_grow_L46 v0 v1 v2 v3 x136 n v4 σ = some out → mM (mA E 276) E 276 σ s H locs → lv_has ls 7 [(0, .ref (eA E v0)), (2, vI v2), (3, vI v3), (4, vI v4)] → mGo l p e 6 144 s m args below meth c E (some (vL out.1)) out.2 H locs (F0 m 46 ls []) := by
  intro n
  induction n with
  | zero =>
    intro v4 σ H locs ls hm hM hl
    exact absurd hm (by rw [mX2_grow_L46.eq_1]; exact fun h => nomatch h)
  | succ n ih =>
    intro v4 σ H locs ls hm hM hl
    rw [mX2_grow_L46.eq_2] at hm
    refine r_iload (np := 48) G hl 3 rfl dX2_grow_46 rfl ?_
    refine r_iload_n (np := 49) G hl 1 rfl dX2_grow_48 rfl rfl ?_
    refine r_icmp_ge (np := 52) (tgt := 136) G rfl rfl dX2_grow_49 (by decide) rfl (fun h28 => ?_) (fun h28 => ?_)
    · have hm := b_t h28 hm
      exact hx136 _ _ _ _ hm hM (lv_sub hl [0, 1, 2] rfl)
    · have hm := b_f h28 hm
      refine r_aload_n (np := 53) G hl 0 rfl dX2_grow_52 rfl rfl ?_
      refine r_iconst (np := 54) G 1 dX2_grow_53 rfl ?_
      refine r_iload (np := 56) G hl 3 rfl dX2_grow_54 rfl ?_
      obtain ⟨b29, s30, e31, hm⟩ := call_t hm
      refine m_callVI (np := 59) G hM hl.1 [vI 1, vI v4] (qX2_goesOn l E σ v0 1 v4 _ e31) myX2_goesOn (shp_lt (gX2_goesOn e31) (by decide)) (gX2_goesOn e31) rfl (by decide) lkX2_47 ⟨Nat.le_of_ble_eq_true rfl, Nat.le_of_ble_eq_true rfl⟩ ⟨Nat.le_of_ble_eq_true rfl, Nat.le_of_ble_eq_true rfl⟩ [] rfl (Nat.le_of_ble_eq_true rfl) dX2_grow_56 rfl (fun H locs hM => ?_)
      refine r_if_ne (np := 62) (tgt := 65) G rfl dX2_grow_59 (by decide) rfl (fun h32 => ?_) (fun h32 => ?_)
      · have hm := b_f h32 hm
        refine r_iconst (np := 66) G 0 dX2_grow_65 rfl ?_
        refine r_istore (np := 68) G hl rfl [(5, vI 0), (0, .ref (eA E v0)), (2, vI v2), (3, vI v3), (4, vI v4)] dX2_grow_66 rfl (by decide) rfl (fun ls hl => ?_)
        exact wX2_grow_L68 l E out G hr hk v0 v1 v2 v3 v4 g0 (fun zσ => mX2_grow_B130 v0 v1 v2 v3 (mX2_grow_L46 v0 v1 v2 v3 x136 n) x136 v4 zσ) (fun zσ zH zl zs zm zM zv => wX2_grow_B130 l E out G hr hk v0 v1 v2 v3 g0 (mX2_grow_L46 v0 v1 v2 v3 x136 n) x136 ih hx136 v4 zσ zH zl zs zm zM zv) mF 0 _ _ _ _ hm hM (lv_sub hl [1, 2, 3, 4, 0] rfl)
      · have hm := b_t h32 hm
        refine r_goto (np := 130) G dX2_grow_62 (by decide) ?_
        exact wX2_grow_B130 l E out G hr hk v0 v1 v2 v3 g0 (mX2_grow_L46 v0 v1 v2 v3 x136 n) x136 ih hx136 v4 _ _ _ _ hm hM (lv_sub hl [0, 1, 2, 3] rfl)
set_option maxRecDepth 100000 in
set_option maxHeartbeats 4000000 in
theorem wX2_grow_L26 (l : Launch) (E : mE) (out : Int × mSt) {p : Program} {e : Env} {s : State} {m : MethodId} {args : Array Value} {below : List Frame} {meth : Method} {c : Code} (G : CallFix p m c cX2_grow 7 s args mTs RX2) (hr : meth.sig.returnType = (some .long)) (hk : meth.locks = false) (v0 : Nat) (v1 : Nat) (v2 : Int) (g0 : isC v0 2) (x142 : mSt → Option (Int × mSt)) (hx142 : ∀ (σ : mSt) (H : Heap) (locs : List Loc) (ls : Array Slot), x142 σ = some out → mM (mA E 276) E 276 σ s H locs → lv_has ls 7 [] → mGo l p e 6 144 s m args below meth c E (some (vL out.1)) out.2 H locs (F0 m 142 ls [])) : ∀ (n : Nat) (v3 : Int) (σ : mSt) (H : Heap) (locs : List Loc) (ls : Array Slot), mX2_grow_L26 v0 v1 v2 x142 n v3 σ = some out → mM (mA E 276) E 276 σ s H locs → lv_has ls 7 [(0, .ref (eA E v0)), (2, vI v2), (3, vI v3)] → mGo l p e 6 144 s m args below meth c E (some (vL out.1)) out.2 H locs (F0 m 26 ls []) := by
  intro n
  induction n with
  | zero =>
    intro v3 σ H locs ls hm hM hl
    exact absurd hm (by rw [mX2_grow_L26.eq_1]; exact fun h => nomatch h)
  | succ n ih =>
    intro v3 σ H locs ls hm hM hl
    rw [mX2_grow_L26.eq_2] at hm
    refine r_iload_n (np := 27) G hl 2 rfl dX2_grow_26 rfl rfl ?_
    refine r_iload_n (np := 28) G hl 1 rfl dX2_grow_27 rfl rfl ?_
    refine r_icmp_ge (np := 31) (tgt := 142) G rfl rfl dX2_grow_28 (by decide) rfl (fun h33 => ?_) (fun h33 => ?_)
    · have hm := b_t h33 hm
      exact hx142 _ _ _ _ hm hM (lv_sub hl [] rfl)
    · have hm := b_f h33 hm
      refine r_aload_n (np := 32) G hl 0 rfl dX2_grow_31 rfl rfl ?_
      refine r_iconst (np := 33) G 0 dX2_grow_32 rfl ?_
      refine r_iload_n (np := 34) G hl 2 rfl dX2_grow_33 rfl rfl ?_
      obtain ⟨b34, s35, e36, hm⟩ := call_t hm
      refine m_callVI (np := 37) G hM hl.1 [vI 0, vI v3] (qX2_goesOn l E σ v0 0 v3 _ e36) myX2_goesOn (shp_lt (gX2_goesOn e36) (by decide)) (gX2_goesOn e36) rfl (by decide) lkX2_47 ⟨Nat.le_of_ble_eq_true rfl, Nat.le_of_ble_eq_true rfl⟩ ⟨Nat.le_of_ble_eq_true rfl, Nat.le_of_ble_eq_true rfl⟩ [] rfl (Nat.le_of_ble_eq_true rfl) dX2_grow_34 rfl (fun H locs hM => ?_)
      refine r_if_ne (np := 40) (tgt := 43) G rfl dX2_grow_37 (by decide) rfl (fun h37 => ?_) (fun h37 => ?_)
      · have hm := b_f h37 hm
        refine r_iconst (np := 44) G 0 dX2_grow_43 rfl ?_
        refine r_istore (np := 46) G hl rfl [(4, vI 0), (0, .ref (eA E v0)), (2, vI v2), (3, vI v3)] dX2_grow_44 rfl (by decide) rfl (fun ls hl => ?_)
        exact wX2_grow_L46 l E out G hr hk v0 v1 v2 v3 g0 (fun zσ => mX2_grow_B136 v0 v1 v2 (mX2_grow_L26 v0 v1 v2 x142 n) x142 v3 zσ) (fun zσ zH zl zs zm zM zv => wX2_grow_B136 l E out G hr hk v0 v1 v2 g0 (mX2_grow_L26 v0 v1 v2 x142 n) x142 ih hx142 v3 zσ zH zl zs zm zM zv) mF 0 _ _ _ _ hm hM (lv_sub hl [1, 2, 3, 0] rfl)
      · have hm := b_t h37 hm
        refine r_goto (np := 136) G dX2_grow_40 (by decide) ?_
        exact wX2_grow_B136 l E out G hr hk v0 v1 v2 g0 (mX2_grow_L26 v0 v1 v2 x142 n) x142 ih hx142 v3 _ _ _ _ hm hM (lv_sub hl [0, 1, 2] rfl)
set_option maxRecDepth 100000 in
set_option maxHeartbeats 4000000 in
theorem qX2_grow (l : Launch) (E : mE) (σ : mSt) (v0 : Nat) (v1 : Nat) (v2 : Int) (out : Int × mSt) (hm : mX2_grow v0 v1 v2 σ = some out) : mMet l yX2_grow cX2_grow 7 (some .long) 6 144 E 276 [.ref (eA E v0), .ref (eA E v1), vI v2] σ (some (vL out.1)) out.2 := by
  unfold mX2_grow at hm
  obtain ⟨g0, hm⟩ := g_t hm
  refine m_entry (by decide +kernel) (Nat.le_of_ble_eq_true rfl) (fun p e s m args below meth c G hr hk hM ls hl => ?_)
  have G : CallFix p m c cX2_grow 7 s args mTs RX2 := G
  have hl : lv_has ls 7 [(0, .ref (eA E v0)), (1, .ref (eA E v1)), (2, vI v2)] := hl
  refine r_aload_n (np := 1) G hl 0 rfl dX2_grow_0 rfl rfl ?_
  refine r_aload_n (np := 2) G hl 1 rfl dX2_grow_1 rfl rfl ?_
  obtain ⟨g38, hm⟩ := g_t hm
  obtain ⟨s39, e40, hm⟩ := bnd_t hm
  refine r_putR (np := 5) G hM (shp_lt g0 (by decide)) g0 ptX2_0 rfl lkX2_10 g38 (fun _ => rfl) (fun _ => rfl) s39 e40 dX2_grow_2 rfl (fun H locs hM => ?_)
  refine r_aload_n (np := 6) G hl 0 rfl dX2_grow_5 rfl rfl ?_
  refine r_iload_n (np := 7) G hl 2 rfl dX2_grow_6 rfl rfl ?_
  obtain ⟨s41, e42, hm⟩ := bnd_t hm
  refine r_putI (np := 10) G hM (shp_lt g0 (by decide)) g0 ptX2_1 rfl lkX2_16 s41 e42 dX2_grow_7 rfl (fun H locs hM => ?_)
  refine r_aload_n (np := 11) G hl 0 rfl dX2_grow_10 rfl rfl ?_
  refine r_aload_n (np := 12) G hl 0 rfl dX2_grow_11 rfl rfl ?_
  obtain ⟨r43, e44, hm⟩ := ref_t hm
  refine r_getR (np := 15) G hM (shp_lt g0 (by decide)) g0 e44 fdX2_0 lkX2_10 dX2_grow_12 rfl ?_
  obtain ⟨b45, s46, e47, hm⟩ := call_t hm
  refine m_callVL (np := 18) G hM hl.1 [] (qX6_below l E s41 r43 _ e47) myX6_below (shp_lt (gX6_below e47) (by decide)) (gX6_below e47) rfl (by decide) lkX2_43 ⟨Nat.le_of_ble_eq_true rfl, Nat.le_of_ble_eq_true rfl⟩ ⟨Nat.le_of_ble_eq_true rfl, Nat.le_of_ble_eq_true rfl⟩ [.ref (eA E v0)] rfl (Nat.le_of_ble_eq_true rfl) dX2_grow_15 rfl (fun H locs hM => ?_)
  refine r_iload_n (np := 19) G hl 2 rfl dX2_grow_18 rfl rfl ?_
  refine r_i2l (np := 20) G rfl dX2_grow_19 rfl ?_
  refine r_lmul (np := 21) G dX2_grow_20 rfl ?_
  obtain ⟨s48, e49, hm⟩ := bnd_t hm
  refine r_putL (np := 24) G hM (shp_lt g0 (by decide)) g0 ptX2_2 rfl lkX2_20 s48 e49 dX2_grow_21 rfl (fun H locs hM => ?_)
  refine r_iconst (np := 25) G 0 dX2_grow_24 rfl ?_
  refine r_istore_n (np := 26) G hl rfl [(3, vI 0), (0, .ref (eA E v0)), (1, .ref (eA E v1)), (2, vI v2)] dX2_grow_25 rfl rfl (by decide) rfl (fun ls hl => ?_)
  exact wX2_grow_L26 l E out G hr hk v0 v1 v2 g0 (fun zσ => mX2_grow_B142 v0 v1 v2 zσ) (fun zσ zH zl zs zm zM zv => wX2_grow_B142 l E out G hr hk v0 v1 v2 g0 zσ zH zl zs zm zM zv) mF 0 _ _ _ _ hm hM (lv_sub hl [1, 3, 0] rfl)
theorem gX2_grow {v0 : Nat} {v1 : Nat} {v2 : Int} {σ : mSt} {out : Int × mSt} (hm : mX2_grow v0 v1 v2 σ = some out) : isC v0 2 := (g_t hm).1
set_option maxRecDepth 100000 in
set_option maxHeartbeats 4000000 in
theorem wX3_begin_B53 (l : Launch) (E : mE) (out : Int × mSt) {p : Program} {e : Env} {s : State} {m : MethodId} {args : Array Value} {below : List Frame} {meth : Method} {c : Code} (G : CallFix p m c cX3_begin 5 s args mTs RX3) (hr : meth.sig.returnType = none) (hk : meth.locks = false) (v0 : Nat) (v1 : Int) (g0 : isC v0 3) : ∀ (σ : mSt) (H : Heap) (locs : List Loc) (ls : Array Slot), mX3_begin_B53 v0 v1 σ = some out → mM (mA E 276) E 276 σ s H locs → lv_has ls 5 [] → mGo l p e 0 0 s m args below meth c E none out.2 H locs (F0 m 53 ls []) := by
  intro σ H locs ls hm hM hl
  unfold mX3_begin_B53 at hm
  exact r_vret G hr hk hM hm dX3_begin_53
set_option maxRecDepth 100000 in
set_option maxHeartbeats 4000000 in
theorem wX3_begin_B47 (l : Launch) (E : mE) (out : Int × mSt) {p : Program} {e : Env} {s : State} {m : MethodId} {args : Array Value} {below : List Frame} {meth : Method} {c : Code} (G : CallFix p m c cX3_begin 5 s args mTs RX3) (hr : meth.sig.returnType = none) (hk : meth.locks = false) (v0 : Nat) (v1 : Int) (g0 : isC v0 3) (c7 : Int → mSt → Option (Int × mSt)) (x53 : mSt → Option (Int × mSt)) (hc7 : ∀ (v3 : Int) (σ : mSt) (H : Heap) (locs : List Loc) (ls : Array Slot), c7 v3 σ = some out → mM (mA E 276) E 276 σ s H locs → lv_has ls 5 [(0, .ref (eA E v0)), (1, vL v1), (3, vI v3)] → mGo l p e 0 0 s m args below meth c E none out.2 H locs (F0 m 7 ls [])) (hx53 : ∀ (σ : mSt) (H : Heap) (locs : List Loc) (ls : Array Slot), x53 σ = some out → mM (mA E 276) E 276 σ s H locs → lv_has ls 5 [] → mGo l p e 0 0 s m args below meth c E none out.2 H locs (F0 m 53 ls [])) : ∀ (v3 : Int) (σ : mSt) (H : Heap) (locs : List Loc) (ls : Array Slot), mX3_begin_B47 v0 v1 c7 x53 v3 σ = some out → mM (mA E 276) E 276 σ s H locs → lv_has ls 5 [(0, .ref (eA E v0)), (1, vL v1), (3, vI v3)] → mGo l p e 0 0 s m args below meth c E none out.2 H locs (F0 m 47 ls []) := by
  intro v3 σ H locs ls hm hM hl
  unfold mX3_begin_B47 at hm
  obtain ⟨a1, e2, hm⟩ := bnd_t hm
  refine r_iinc (np := 50) G hl 2 rfl e2 [(3, vI a1), (0, .ref (eA E v0)), (1, vL v1)] dX3_begin_47 rfl (by decide) rfl (fun ls hl => ?_)
  refine r_goto (np := 7) G dX3_begin_50 (by decide) ?_
  exact hc7 a1 _ _ _ _ hm hM (lv_sub hl [1, 2, 0] rfl)
set_option maxRecDepth 100000 in
set_option maxHeartbeats 4000000 in
theorem wX3_begin_L15 (l : Launch) (E : mE) (out : Int × mSt) {p : Program} {e : Env} {s : State} {m : MethodId} {args : Array Value} {below : List Frame} {meth : Method} {c : Code} (G : CallFix p m c cX3_begin 5 s args mTs RX3) (hr : meth.sig.returnType = none) (hk : meth.locks = false) (v0 : Nat) (v1 : Int) (v3 : Int) (g0 : isC v0 3) (x47 : mSt → Option (Int × mSt)) (hx47 : ∀ (σ : mSt) (H : Heap) (locs : List Loc) (ls : Array Slot), x47 σ = some out → mM (mA E 276) E 276 σ s H locs → lv_has ls 5 [(0, .ref (eA E v0)), (1, vL v1), (3, vI v3)] → mGo l p e 0 0 s m args below meth c E none out.2 H locs (F0 m 47 ls [])) : ∀ (n : Nat) (v4 : Int) (σ : mSt) (H : Heap) (locs : List Loc) (ls : Array Slot), mX3_begin_L15 v0 v1 v3 x47 n v4 σ = some out → mM (mA E 276) E 276 σ s H locs → lv_has ls 5 [(0, .ref (eA E v0)), (1, vL v1), (3, vI v3), (4, vI v4)] → mGo l p e 0 0 s m args below meth c E none out.2 H locs (F0 m 15 ls []) := by
  intro n
  induction n with
  | zero =>
    intro v4 σ H locs ls hm hM hl
    exact absurd hm (by rw [mX3_begin_L15.eq_1]; exact fun h => nomatch h)
  | succ n ih =>
    intro v4 σ H locs ls hm hM hl
    rw [mX3_begin_L15.eq_2] at hm
    refine r_iload (np := 17) G hl 3 rfl dX3_begin_15 rfl ?_
    refine r_iconst (np := 18) G 4 dX3_begin_17 rfl ?_
    refine r_icmp_ge (np := 21) (tgt := 47) G rfl (wIk 4 rfl) dX3_begin_18 (by decide) rfl (fun h3 => ?_) (fun h3 => ?_)
    · have hm := b_t h3 hm
      exact hx47 _ _ _ _ hm hM (lv_sub hl [0, 1, 2] rfl)
    · have hm := b_f h3 hm
      refine r_aload_n (np := 22) G hl 0 rfl dX3_begin_21 rfl rfl ?_
      obtain ⟨r4, e5, hm⟩ := ref_t hm
      refine r_getR (np := 25) G hM (shp_lt g0 (by decide)) g0 e5 fdX3_0 lkX3_9 dX3_begin_22 rfl ?_
      refine r_iload_n (np := 26) G hl 2 rfl dX3_begin_25 rfl rfl ?_
      obtain ⟨g6, hm⟩ := g_t hm
      obtain ⟨r7, e8, hm⟩ := ref_t hm
      refine r_aaload (np := 27) G hM (t := 7) g6 rfl ⟨by decide, by decide⟩ rfl rfl e8 dX3_begin_26 rfl ?_
      refine r_iload (np := 29) G hl 3 rfl dX3_begin_27 rfl ?_
      refine r_iload_n (np := 30) G hl 2 rfl dX3_begin_29 rfl rfl ?_
      refine r_iload (np := 32) G hl 3 rfl dX3_begin_30 rfl ?_
      refine r_icmp_ne (np := 35) (tgt := 39) G rfl rfl dX3_begin_32 (by decide) rfl (fun h9 => ?_) (fun h9 => ?_)
      · have hm := b_f h9 hm
        refine r_lconst (np := 40) G 0 dX3_begin_39 rfl rfl ?_
        obtain ⟨g10, hm⟩ := g_t hm
        obtain ⟨s11, e12, hm⟩ := bnd_t hm
        refine r_lastore (np := 41) G hM g10 rfl s11 e12 dX3_begin_40 rfl (fun H locs hM => ?_)
        obtain ⟨a13, e14, hm⟩ := bnd_t hm
        refine r_iinc (np := 44) G hl 3 rfl e14 [(4, vI a13), (0, .ref (eA E v0)), (1, vL v1), (3, vI v3)] dX3_begin_41 rfl (by decide) rfl (fun ls hl => ?_)
        refine r_goto (np := 15) G dX3_begin_44 (by decide) ?_
        exact ih a13 _ _ _ _ hm hM (lv_sub hl [1, 2, 3, 0] rfl)
      · have hm := b_t h9 hm
        refine r_lload_n (np := 36) G hl 1 rfl dX3_begin_35 rfl rfl ?_
        refine r_goto (np := 40) G dX3_begin_36 (by decide) ?_
        obtain ⟨g15, hm⟩ := g_t hm
        obtain ⟨s16, e17, hm⟩ := bnd_t hm
        refine r_lastore (np := 41) G hM g15 rfl s16 e17 dX3_begin_40 rfl (fun H locs hM => ?_)
        obtain ⟨a18, e19, hm⟩ := bnd_t hm
        refine r_iinc (np := 44) G hl 3 rfl e19 [(4, vI a18), (0, .ref (eA E v0)), (1, vL v1), (3, vI v3)] dX3_begin_41 rfl (by decide) rfl (fun ls hl => ?_)
        refine r_goto (np := 15) G dX3_begin_44 (by decide) ?_
        exact ih a18 _ _ _ _ hm hM (lv_sub hl [1, 2, 3, 0] rfl)
set_option maxRecDepth 100000 in
set_option maxHeartbeats 4000000 in
theorem wX3_begin_L7 (l : Launch) (E : mE) (out : Int × mSt) {p : Program} {e : Env} {s : State} {m : MethodId} {args : Array Value} {below : List Frame} {meth : Method} {c : Code} (G : CallFix p m c cX3_begin 5 s args mTs RX3) (hr : meth.sig.returnType = none) (hk : meth.locks = false) (v0 : Nat) (v1 : Int) (g0 : isC v0 3) (x53 : mSt → Option (Int × mSt)) (hx53 : ∀ (σ : mSt) (H : Heap) (locs : List Loc) (ls : Array Slot), x53 σ = some out → mM (mA E 276) E 276 σ s H locs → lv_has ls 5 [] → mGo l p e 0 0 s m args below meth c E none out.2 H locs (F0 m 53 ls [])) : ∀ (n : Nat) (v3 : Int) (σ : mSt) (H : Heap) (locs : List Loc) (ls : Array Slot), mX3_begin_L7 v0 v1 x53 n v3 σ = some out → mM (mA E 276) E 276 σ s H locs → lv_has ls 5 [(0, .ref (eA E v0)), (1, vL v1), (3, vI v3)] → mGo l p e 0 0 s m args below meth c E none out.2 H locs (F0 m 7 ls []) := by
  intro n
  induction n with
  | zero =>
    intro v3 σ H locs ls hm hM hl
    exact absurd hm (by rw [mX3_begin_L7.eq_1]; exact fun h => nomatch h)
  | succ n ih =>
    intro v3 σ H locs ls hm hM hl
    rw [mX3_begin_L7.eq_2] at hm
    refine r_iload_n (np := 8) G hl 2 rfl dX3_begin_7 rfl rfl ?_
    refine r_iconst (np := 9) G 4 dX3_begin_8 rfl ?_
    refine r_icmp_ge (np := 12) (tgt := 53) G rfl (wIk 4 rfl) dX3_begin_9 (by decide) rfl (fun h20 => ?_) (fun h20 => ?_)
    · have hm := b_t h20 hm
      exact hx53 _ _ _ _ hm hM (lv_sub hl [] rfl)
    · have hm := b_f h20 hm
      refine r_iconst (np := 13) G 0 dX3_begin_12 rfl ?_
      refine r_istore (np := 15) G hl rfl [(4, vI 0), (0, .ref (eA E v0)), (1, vL v1), (3, vI v3)] dX3_begin_13 rfl (by decide) rfl (fun ls hl => ?_)
      exact wX3_begin_L15 l E out G hr hk v0 v1 v3 g0 (fun zσ => mX3_begin_B47 v0 v1 (mX3_begin_L7 v0 v1 x53 n) x53 v3 zσ) (fun zσ zH zl zs zm zM zv => wX3_begin_B47 l E out G hr hk v0 v1 g0 (mX3_begin_L7 v0 v1 x53 n) x53 ih hx53 v3 zσ zH zl zs zm zM zv) mF 0 _ _ _ _ hm hM (lv_sub hl [1, 2, 3, 0] rfl)
set_option maxRecDepth 100000 in
set_option maxHeartbeats 4000000 in
theorem qX3_begin (l : Launch) (E : mE) (σ : mSt) (v0 : Nat) (v1 : Int) (out : Int × mSt) (hm : mX3_begin v0 v1 σ = some out) : mMet l yX3_begin cX3_begin 5 none 0 0 E 276 [.ref (eA E v0), vL v1] σ none out.2 := by
  unfold mX3_begin at hm
  obtain ⟨g0, hm⟩ := g_t hm
  refine m_entry (by decide +kernel) (Nat.le_of_ble_eq_true rfl) (fun p e s m args below meth c G hr hk hM ls hl => ?_)
  have G : CallFix p m c cX3_begin 5 s args mTs RX3 := G
  have hl : lv_has ls 5 [(0, .ref (eA E v0)), (1, vL v1)] := hl
  refine r_aload_n (np := 1) G hl 0 rfl dX3_begin_0 rfl rfl ?_
  refine r_lload_n (np := 2) G hl 1 rfl dX3_begin_1 rfl rfl ?_
  obtain ⟨s21, e22, hm⟩ := bnd_t hm
  refine r_putL (np := 5) G hM (shp_lt g0 (by decide)) g0 ptX3_2 rfl lkX3_18 s21 e22 dX3_begin_2 rfl (fun H locs hM => ?_)
  refine r_iconst (np := 6) G 0 dX3_begin_5 rfl ?_
  refine r_istore_n (np := 7) G hl rfl [(3, vI 0), (0, .ref (eA E v0)), (1, vL v1)] dX3_begin_6 rfl rfl (by decide) rfl (fun ls hl => ?_)
  exact wX3_begin_L7 l E out G hr hk v0 v1 g0 (fun zσ => mX3_begin_B53 v0 v1 zσ) (fun zσ zH zl zs zm zM zv => wX3_begin_B53 l E out G hr hk v0 v1 g0 zσ zH zl zs zm zM zv) mF 0 _ _ _ _ hm hM (lv_sub hl [1, 2, 0] rfl)
theorem gX3_begin {v0 : Nat} {v1 : Int} {σ : mSt} {out : Int × mSt} (hm : mX3_begin v0 v1 σ = some out) : isC v0 3 := (g_t hm).1
set_option maxRecDepth 100000 in
set_option maxHeartbeats 4000000 in
theorem wX3_express_B86 (l : Launch) (E : mE) (out : Int × mSt) {p : Program} {e : Env} {s : State} {m : MethodId} {args : Array Value} {below : List Frame} {meth : Method} {c : Code} (G : CallFix p m c cX3_express 6 s args mTs RX3) (hr : meth.sig.returnType = (some .boolean)) (hk : meth.locks = false) (v0 : Nat) (v1 : Nat) (g0 : isC v0 3) : ∀ (σ : mSt) (H : Heap) (locs : List Loc) (ls : Array Slot), mX3_express_B86 v0 v1 σ = some out → mM (mA E 276) E 276 σ s H locs → lv_has ls 6 [] → mGo l p e 2 48 s m args below meth c E (some (vI out.1)) out.2 H locs (F0 m 86 ls []) := by
  intro σ H locs ls hm hM hl
  unfold mX3_express_B86 at hm
  refine r_iconst (np := 87) G 1 dX3_express_86 rfl ?_
  exact r_zret G hr hk hM (Or.inr rfl) hm dX3_express_87
set_option maxRecDepth 100000 in
set_option maxHeartbeats 4000000 in
theorem wX3_express_B76 (l : Launch) (E : mE) (out : Int × mSt) {p : Program} {e : Env} {s : State} {m : MethodId} {args : Array Value} {below : List Frame} {meth : Method} {c : Code} (G : CallFix p m c cX3_express 6 s args mTs RX3) (hr : meth.sig.returnType = (some .boolean)) (hk : meth.locks = false) (v0 : Nat) (v1 : Nat) (g0 : isC v0 3) (c2 : Int → mSt → Option (Int × mSt)) (x86 : mSt → Option (Int × mSt)) (hc2 : ∀ (v2 : Int) (σ : mSt) (H : Heap) (locs : List Loc) (ls : Array Slot), c2 v2 σ = some out → mM (mA E 276) E 276 σ s H locs → lv_has ls 6 [(0, .ref (eA E v0)), (1, .ref (eA E v1)), (2, vI v2)] → mGo l p e 2 48 s m args below meth c E (some (vI out.1)) out.2 H locs (F0 m 2 ls [])) (hx86 : ∀ (σ : mSt) (H : Heap) (locs : List Loc) (ls : Array Slot), x86 σ = some out → mM (mA E 276) E 276 σ s H locs → lv_has ls 6 [] → mGo l p e 2 48 s m args below meth c E (some (vI out.1)) out.2 H locs (F0 m 86 ls [])) : ∀ (v2 : Int) (v3 : Int) (σ : mSt) (H : Heap) (locs : List Loc) (ls : Array Slot), mX3_express_B76 v0 v1 c2 x86 v2 v3 σ = some out → mM (mA E 276) E 276 σ s H locs → lv_has ls 6 [(0, .ref (eA E v0)), (1, .ref (eA E v1)), (2, vI v2), (3, vL v3)] → mGo l p e 2 48 s m args below meth c E (some (vI out.1)) out.2 H locs (F0 m 76 ls []) := by
  intro v2 v3 σ H locs ls hm hM hl
  unfold mX3_express_B76 at hm
  refine r_aload_n (np := 77) G hl 1 rfl dX3_express_76 rfl rfl ?_
  refine r_iload_n (np := 78) G hl 2 rfl dX3_express_77 rfl rfl ?_
  refine r_lload_n (np := 79) G hl 3 rfl dX3_express_78 rfl rfl ?_
  obtain ⟨g1, hm⟩ := g_t hm
  obtain ⟨s2, e3, hm⟩ := bnd_t hm
  refine r_lastore (np := 80) G hM g1 rfl s2 e3 dX3_express_79 rfl (fun H locs hM => ?_)
  obtain ⟨a4, e5, hm⟩ := bnd_t hm
  refine r_iinc (np := 83) G hl 2 rfl e5 [(2, vI a4), (0, .ref (eA E v0)), (1, .ref (eA E v1)), (3, vL v3)] dX3_express_80 rfl (by decide) rfl (fun ls hl => ?_)
  refine r_goto (np := 2) G dX3_express_83 (by decide) ?_
  exact hc2 a4 _ _ _ _ hm hM (lv_sub hl [1, 2, 0] rfl)
set_option maxRecDepth 100000 in
set_option maxHeartbeats 4000000 in
theorem wX3_express_L46 (l : Launch) (E : mE) (out : Int × mSt) {p : Program} {e : Env} {s : State} {m : MethodId} {args : Array Value} {below : List Frame} {meth : Method} {c : Code} (G : CallFix p m c cX3_express 6 s args mTs RX3) (hr : meth.sig.returnType = (some .boolean)) (hk : meth.locks = false) (v0 : Nat) (v1 : Nat) (v2 : Int) (v3 : Int) (g0 : isC v0 3) (x76 : mSt → Option (Int × mSt)) (hx76 : ∀ (σ : mSt) (H : Heap) (locs : List Loc) (ls : Array Slot), x76 σ = some out → mM (mA E 276) E 276 σ s H locs → lv_has ls 6 [(0, .ref (eA E v0)), (1, .ref (eA E v1)), (2, vI v2), (3, vL v3)] → mGo l p e 2 48 s m args below meth c E (some (vI out.1)) out.2 H locs (F0 m 76 ls [])) : ∀ (n : Nat) (v5 : Int) (σ : mSt) (H : Heap) (locs : List Loc) (ls : Array Slot), mX3_express_L46 v0 v1 v2 v3 x76 n v5 σ = some out → mM (mA E 276) E 276 σ s H locs → lv_has ls 6 [(0, .ref (eA E v0)), (1, .ref (eA E v1)), (2, vI v2), (3, vL v3), (5, vI v5)] → mGo l p e 2 48 s m args below meth c E (some (vI out.1)) out.2 H locs (F0 m 46 ls []) := by
  intro n
  induction n with
  | zero =>
    intro v5 σ H locs ls hm hM hl
    exact absurd hm (by rw [mX3_express_L46.eq_1]; exact fun h => nomatch h)
  | succ n ih =>
    intro v5 σ H locs ls hm hM hl
    rw [mX3_express_L46.eq_2] at hm
    refine r_iload (np := 48) G hl 4 rfl dX3_express_46 rfl ?_
    refine r_iconst (np := 49) G 4 dX3_express_48 rfl ?_
    refine r_icmp_ge (np := 52) (tgt := 76) G rfl (wIk 4 rfl) dX3_express_49 (by decide) rfl (fun h6 => ?_) (fun h6 => ?_)
    · have hm := b_t h6 hm
      exact hx76 _ _ _ _ hm hM (lv_sub hl [0, 1, 2, 3] rfl)
    · have hm := b_f h6 hm
      refine r_aload_n (np := 53) G hl 1 rfl dX3_express_52 rfl rfl ?_
      refine r_iload (np := 55) G hl 4 rfl dX3_express_53 rfl ?_
      refine r_dup2 (np := 56) G dX3_express_55 rfl rfl rfl ?_
      obtain ⟨g7, hm⟩ := g_t hm
      refine r_laload (np := 57) G hM g7 rfl dX3_express_56 rfl ?_
      refine r_lload_n (np := 58) G hl 3 rfl dX3_express_57 rfl rfl ?_
      refine r_aload_n (np := 59) G hl 0 rfl dX3_express_58 rfl rfl ?_
      obtain ⟨r8, e9, hm⟩ := ref_t hm
      refine r_getR (np := 62) G hM (shp_lt g0 (by decide)) g0 e9 fdX3_0 lkX3_9 dX3_express_59 rfl ?_
      refine r_iload_n (np := 63) G hl 2 rfl dX3_express_62 rfl rfl ?_
      obtain ⟨g10, hm⟩ := g_t hm
      obtain ⟨r11, e12, hm⟩ := ref_t hm
      refine r_aaload (np := 64) G hM (t := 7) g10 rfl ⟨by decide, by decide⟩ rfl rfl e12 dX3_express_63 rfl ?_
      refine r_iload (np := 66) G hl 4 rfl dX3_express_64 rfl ?_
      obtain ⟨g13, hm⟩ := g_t hm
      refine r_laload (np := 67) G hM g13 rfl dX3_express_66 rfl ?_
      refine r_lmul (np := 68) G dX3_express_67 rfl ?_
      refine r_lsub (np := 69) G dX3_express_68 rfl ?_
      obtain ⟨s14, e15, hm⟩ := bnd_t hm
      refine r_lastore (np := 70) G hM g7 rfl s14 e15 dX3_express_69 rfl (fun H locs hM => ?_)
      obtain ⟨a16, e17, hm⟩ := bnd_t hm
      refine r_iinc (np := 73) G hl 4 rfl e17 [(5, vI a16), (0, .ref (eA E v0)), (1, .ref (eA E v1)), (2, vI v2), (3, vL v3)] dX3_express_70 rfl (by decide) rfl (fun ls hl => ?_)
      refine r_goto (np := 46) G dX3_express_73 (by decide) ?_
      exact ih a16 _ _ _ _ hm hM (lv_sub hl [1, 2, 3, 4, 0] rfl)
set_option maxRecDepth 100000 in
set_option maxHeartbeats 4000000 in
theorem wX3_express_L2 (l : Launch) (E : mE) (out : Int × mSt) {p : Program} {e : Env} {s : State} {m : MethodId} {args : Array Value} {below : List Frame} {meth : Method} {c : Code} (G : CallFix p m c cX3_express 6 s args mTs RX3) (hr : meth.sig.returnType = (some .boolean)) (hk : meth.locks = false) (v0 : Nat) (v1 : Nat) (g0 : isC v0 3) (x86 : mSt → Option (Int × mSt)) (hx86 : ∀ (σ : mSt) (H : Heap) (locs : List Loc) (ls : Array Slot), x86 σ = some out → mM (mA E 276) E 276 σ s H locs → lv_has ls 6 [] → mGo l p e 2 48 s m args below meth c E (some (vI out.1)) out.2 H locs (F0 m 86 ls [])) : ∀ (n : Nat) (v2 : Int) (σ : mSt) (H : Heap) (locs : List Loc) (ls : Array Slot), mX3_express_L2 v0 v1 x86 n v2 σ = some out → mM (mA E 276) E 276 σ s H locs → lv_has ls 6 [(0, .ref (eA E v0)), (1, .ref (eA E v1)), (2, vI v2)] → mGo l p e 2 48 s m args below meth c E (some (vI out.1)) out.2 H locs (F0 m 2 ls []) := by
  intro n
  induction n with
  | zero =>
    intro v2 σ H locs ls hm hM hl
    exact absurd hm (by rw [mX3_express_L2.eq_1]; exact fun h => nomatch h)
  | succ n ih =>
    intro v2 σ H locs ls hm hM hl
    rw [mX3_express_L2.eq_2] at hm
    refine r_iload_n (np := 3) G hl 2 rfl dX3_express_2 rfl rfl ?_
    refine r_iconst (np := 4) G 4 dX3_express_3 rfl ?_
    refine r_icmp_ge (np := 7) (tgt := 86) G rfl (wIk 4 rfl) dX3_express_4 (by decide) rfl (fun h18 => ?_) (fun h18 => ?_)
    · have hm := b_t h18 hm
      exact hx86 _ _ _ _ hm hM (lv_sub hl [] rfl)
    · have hm := b_f h18 hm
      refine r_aload_n (np := 8) G hl 0 rfl dX3_express_7 rfl rfl ?_
      obtain ⟨r19, e20, hm⟩ := ref_t hm
      refine r_getR (np := 11) G hM (shp_lt g0 (by decide)) g0 e20 fdX3_0 lkX3_9 dX3_express_8 rfl ?_
      refine r_iload_n (np := 12) G hl 2 rfl dX3_express_11 rfl rfl ?_
      obtain ⟨g21, hm⟩ := g_t hm
      obtain ⟨r22, e23, hm⟩ := ref_t hm
      refine r_aaload (np := 13) G hM (t := 7) g21 rfl ⟨by decide, by decide⟩ rfl rfl e23 dX3_express_12 rfl ?_
      refine r_iload_n (np := 14) G hl 2 rfl dX3_express_13 rfl rfl ?_
      obtain ⟨g24, hm⟩ := g_t hm
      refine r_laload (np := 15) G hM g24 rfl dX3_express_14 rfl ?_
      refine r_aload_n (np := 16) G hl 1 rfl dX3_express_15 rfl rfl ?_
      refine r_iload_n (np := 17) G hl 2 rfl dX3_express_16 rfl rfl ?_
      obtain ⟨g25, hm⟩ := g_t hm
      refine r_laload (np := 18) G hM g25 rfl dX3_express_17 rfl ?_
      obtain ⟨b26, s27, e28, hm⟩ := call_t hm
      refine m_callSI (np := 21) G hM hl.1 [vL (σ r22 (wI v2).toNat), vL (σ v1 (wI v2).toNat)] (qX5_divides l E σ (σ r22 (wI v2).toNat) (σ v1 (wI v2).toNat) _ e28) myX5_divides lkX3_38 ⟨Nat.le_of_ble_eq_true rfl, Nat.le_of_ble_eq_true rfl⟩ ⟨Nat.le_of_ble_eq_true rfl, Nat.le_of_ble_eq_true rfl⟩ [] rfl (Nat.le_of_ble_eq_true rfl) dX3_express_18 rfl (fun H locs hM => ?_)
      refine r_if_ne (np := 24) (tgt := 26) G rfl dX3_express_21 (by decide) rfl (fun h29 => ?_) (fun h29 => ?_)
      · have hm := b_f h29 hm
        refine r_aload_n (np := 27) G hl 1 rfl dX3_express_26 rfl rfl ?_
        refine r_iload_n (np := 28) G hl 2 rfl dX3_express_27 rfl rfl ?_
        refine r_laload (np := 29) G hM g25 rfl dX3_express_28 rfl ?_
        refine r_aload_n (np := 30) G hl 0 rfl dX3_express_29 rfl rfl ?_
        obtain ⟨r30, e31, hm⟩ := ref_t hm
        refine r_getR (np := 33) G hM (shp_lt g0 (by decide)) g0 e31 fdX3_0 lkX3_9 dX3_express_30 rfl ?_
        refine r_iload_n (np := 34) G hl 2 rfl dX3_express_33 rfl rfl ?_
        obtain ⟨g32, hm⟩ := g_t hm
        obtain ⟨r33, e34, hm⟩ := ref_t hm
        refine r_aaload (np := 35) G hM (t := 7) g32 rfl ⟨by decide, by decide⟩ rfl rfl e34 dX3_express_34 rfl ?_
        refine r_iload_n (np := 36) G hl 2 rfl dX3_express_35 rfl rfl ?_
        obtain ⟨g35, hm⟩ := g_t hm
        refine r_laload (np := 37) G hM g35 rfl dX3_express_36 rfl ?_
        obtain ⟨b36, s37, e38, hm⟩ := call_t hm
        refine m_callSL (np := 40) G hM hl.1 [vL (s27 v1 (wI v2).toNat), vL (s27 r33 (wI v2).toNat)] (qX5_quotient l E s27 (s27 v1 (wI v2).toNat) (s27 r33 (wI v2).toNat) _ e38) myX5_quotient lkX3_28 ⟨Nat.le_of_ble_eq_true rfl, Nat.le_of_ble_eq_true rfl⟩ ⟨Nat.le_of_ble_eq_true rfl, Nat.le_of_ble_eq_true rfl⟩ [] rfl (Nat.le_of_ble_eq_true rfl) dX3_express_37 rfl (fun H locs hM => ?_)
        refine r_lstore_n (np := 41) G hl rfl [(3, vL b36), (0, .ref (eA E v0)), (1, .ref (eA E v1)), (2, vI v2)] dX3_express_40 rfl rfl (by decide) rfl (fun ls hl => ?_)
        refine r_iload_n (np := 42) G hl 3 rfl dX3_express_41 rfl rfl ?_
        refine r_iconst (np := 43) G 1 dX3_express_42 rfl ?_
        refine r_iadd (np := 44) G dX3_express_43 rfl ?_
        obtain ⟨a39, e40, hm⟩ := bnd_t hm
        refine r_istore (np := 46) G hl e40 [(5, vI a39), (3, vL b36), (0, .ref (eA E v0)), (1, .ref (eA E v1)), (2, vI v2)] dX3_express_44 rfl (by decide) rfl (fun ls hl => ?_)
        exact wX3_express_L46 l E out G hr hk v0 v1 v2 b36 g0 (fun zσ => mX3_express_B76 v0 v1 (mX3_express_L2 v0 v1 x86 n) x86 v2 b36 zσ) (fun zσ zH zl zs zm zM zv => wX3_express_B76 l E out G hr hk v0 v1 g0 (mX3_express_L2 v0 v1 x86 n) x86 ih hx86 v2 b36 zσ zH zl zs zm zM zv) mF a39 _ _ _ _ hm hM (lv_sub hl [2, 3, 4, 1, 0] rfl)
      · have hm := b_t h29 hm
        refine r_iconst (np := 25) G 0 dX3_express_24 rfl ?_
        exact r_zret G hr hk hM (Or.inl rfl) hm dX3_express_25
set_option maxRecDepth 100000 in
set_option maxHeartbeats 4000000 in
theorem qX3_express (l : Launch) (E : mE) (σ : mSt) (v0 : Nat) (v1 : Nat) (out : Int × mSt) (hm : mX3_express v0 v1 σ = some out) : mMet l yX3_express cX3_express 6 (some .boolean) 2 48 E 276 [.ref (eA E v0), .ref (eA E v1)] σ (some (vI out.1)) out.2 := by
  unfold mX3_express at hm
  obtain ⟨g0, hm⟩ := g_t hm
  refine m_entry (by decide +kernel) (Nat.le_of_ble_eq_true rfl) (fun p e s m args below meth c G hr hk hM ls hl => ?_)
  have G : CallFix p m c cX3_express 6 s args mTs RX3 := G
  have hl : lv_has ls 6 [(0, .ref (eA E v0)), (1, .ref (eA E v1))] := hl
  refine r_iconst (np := 1) G 0 dX3_express_0 rfl ?_
  refine r_istore_n (np := 2) G hl rfl [(2, vI 0), (0, .ref (eA E v0)), (1, .ref (eA E v1))] dX3_express_1 rfl rfl (by decide) rfl (fun ls hl => ?_)
  exact wX3_express_L2 l E out G hr hk v0 v1 g0 (fun zσ => mX3_express_B86 v0 v1 zσ) (fun zσ zH zl zs zm zM zv => wX3_express_B86 l E out G hr hk v0 v1 g0 zσ zH zl zs zm zM zv) mF 0 _ _ _ _ hm hM (lv_sub hl [1, 2, 0] rfl)
theorem gX3_express {v0 : Nat} {v1 : Nat} {σ : mSt} {out : Int × mSt} (hm : mX3_express v0 v1 σ = some out) : isC v0 3 := (g_t hm).1
set_option maxRecDepth 100000 in
set_option maxHeartbeats 4000000 in
theorem wX3_has_B29 (l : Launch) (E : mE) (out : Int × mSt) {p : Program} {e : Env} {s : State} {m : MethodId} {args : Array Value} {below : List Frame} {meth : Method} {c : Code} (G : CallFix p m c cX3_has 3 s args mTs RX3) (hr : meth.sig.returnType = (some .boolean)) (hk : meth.locks = false) (v0 : Nat) (v1 : Nat) (g0 : isC v0 3) : ∀ (σ : mSt) (H : Heap) (locs : List Loc) (ls : Array Slot), mX3_has_B29 v0 v1 σ = some out → mM (mA E 276) E 276 σ s H locs → lv_has ls 3 [(0, .ref (eA E v0))] → mGo l p e 3 73 s m args below meth c E (some (vI out.1)) out.2 H locs (F0 m 29 ls []) := by
  intro σ H locs ls hm hM hl
  unfold mX3_has_B29 at hm
  refine r_aload_n (np := 30) G hl 0 rfl dX3_has_29 rfl rfl ?_
  refine r_aload_n (np := 31) G hl 0 rfl dX3_has_30 rfl rfl ?_
  obtain ⟨r1, e2, hm⟩ := ref_t hm
  refine r_getR (np := 34) G hM (shp_lt g0 (by decide)) g0 e2 fdX3_1 lkX3_14 dX3_has_31 rfl ?_
  obtain ⟨b3, s4, e5, hm⟩ := call_t hm
  refine m_callVI (np := 37) G hM hl.1 [.ref (eA E r1)] (qX3_express l E σ v0 r1 _ e5) myX3_express (shp_lt (gX3_express e5) (by decide)) (gX3_express e5) rfl (by decide) lkX3_34 ⟨Nat.le_of_ble_eq_true rfl, Nat.le_of_ble_eq_true rfl⟩ ⟨Nat.le_of_ble_eq_true rfl, Nat.le_of_ble_eq_true rfl⟩ [] rfl (Nat.le_of_ble_eq_true rfl) dX3_has_34 rfl (fun H locs hM => ?_)
  obtain ⟨g6, hm⟩ := g_t hm
  exact r_zret G hr hk hM g6 hm dX3_has_37
set_option maxRecDepth 100000 in
set_option maxHeartbeats 4000000 in
theorem wX3_has_L2 (l : Launch) (E : mE) (out : Int × mSt) {p : Program} {e : Env} {s : State} {m : MethodId} {args : Array Value} {below : List Frame} {meth : Method} {c : Code} (G : CallFix p m c cX3_has 3 s args mTs RX3) (hr : meth.sig.returnType = (some .boolean)) (hk : meth.locks = false) (v0 : Nat) (v1 : Nat) (g0 : isC v0 3) (x29 : mSt → Option (Int × mSt)) (hx29 : ∀ (σ : mSt) (H : Heap) (locs : List Loc) (ls : Array Slot), x29 σ = some out → mM (mA E 276) E 276 σ s H locs → lv_has ls 3 [(0, .ref (eA E v0))] → mGo l p e 3 73 s m args below meth c E (some (vI out.1)) out.2 H locs (F0 m 29 ls [])) : ∀ (n : Nat) (v2 : Int) (σ : mSt) (H : Heap) (locs : List Loc) (ls : Array Slot), mX3_has_L2 v0 v1 x29 n v2 σ = some out → mM (mA E 276) E 276 σ s H locs → lv_has ls 3 [(0, .ref (eA E v0)), (1, .ref (eA E v1)), (2, vI v2)] → mGo l p e 3 73 s m args below meth c E (some (vI out.1)) out.2 H locs (F0 m 2 ls []) := by
  intro n
  induction n with
  | zero =>
    intro v2 σ H locs ls hm hM hl
    exact absurd hm (by rw [mX3_has_L2.eq_1]; exact fun h => nomatch h)
  | succ n ih =>
    intro v2 σ H locs ls hm hM hl
    rw [mX3_has_L2.eq_2] at hm
    refine r_iload_n (np := 3) G hl 2 rfl dX3_has_2 rfl rfl ?_
    refine r_iconst (np := 4) G 4 dX3_has_3 rfl ?_
    refine r_icmp_ge (np := 7) (tgt := 29) G rfl (wIk 4 rfl) dX3_has_4 (by decide) rfl (fun h7 => ?_) (fun h7 => ?_)
    · have hm := b_t h7 hm
      exact hx29 _ _ _ _ hm hM (lv_sub hl [0] rfl)
    · have hm := b_f h7 hm
      refine r_aload_n (np := 8) G hl 0 rfl dX3_has_7 rfl rfl ?_
      obtain ⟨r8, e9, hm⟩ := ref_t hm
      refine r_getR (np := 11) G hM (shp_lt g0 (by decide)) g0 e9 fdX3_1 lkX3_14 dX3_has_8 rfl ?_
      refine r_iload_n (np := 12) G hl 2 rfl dX3_has_11 rfl rfl ?_
      refine r_aload_n (np := 13) G hl 1 rfl dX3_has_12 rfl rfl ?_
      refine r_iload_n (np := 14) G hl 2 rfl dX3_has_13 rfl rfl ?_
      obtain ⟨g10, hm⟩ := g_t hm
      refine r_laload (np := 15) G hM g10 rfl dX3_has_14 rfl ?_
      refine r_aload_n (np := 16) G hl 0 rfl dX3_has_15 rfl rfl ?_
      refine r_getL (np := 19) G hM (shp_lt g0 (by decide)) g0 fdX3_2 lkX3_18 dX3_has_16 rfl ?_
      obtain ⟨b11, s12, e13, hm⟩ := call_t hm
      refine m_callSL (np := 22) G hM hl.1 [vL (σ v1 (wI v2).toNat), vL (σ v0 2)] (qX5_rest l E σ (σ v1 (wI v2).toNat) (σ v0 2) _ e13) myX5_rest lkX3_22 ⟨Nat.le_of_ble_eq_true rfl, Nat.le_of_ble_eq_true rfl⟩ ⟨Nat.le_of_ble_eq_true rfl, Nat.le_of_ble_eq_true rfl⟩ [vI v2, .ref (eA E r8)] rfl (Nat.le_of_ble_eq_true rfl) dX3_has_19 rfl (fun H locs hM => ?_)
      obtain ⟨g14, hm⟩ := g_t hm
      obtain ⟨s15, e16, hm⟩ := bnd_t hm
      refine r_lastore (np := 23) G hM g14 rfl s15 e16 dX3_has_22 rfl (fun H locs hM => ?_)
      obtain ⟨a17, e18, hm⟩ := bnd_t hm
      refine r_iinc (np := 26) G hl 2 rfl e18 [(2, vI a17), (0, .ref (eA E v0)), (1, .ref (eA E v1))] dX3_has_23 rfl (by decide) rfl (fun ls hl => ?_)
      refine r_goto (np := 2) G dX3_has_26 (by decide) ?_
      exact ih a17 _ _ _ _ hm hM (lv_sub hl [1, 2, 0] rfl)
set_option maxRecDepth 100000 in
set_option maxHeartbeats 4000000 in
theorem qX3_has (l : Launch) (E : mE) (σ : mSt) (v0 : Nat) (v1 : Nat) (out : Int × mSt) (hm : mX3_has v0 v1 σ = some out) : mMet l yX3_has cX3_has 3 (some .boolean) 3 73 E 276 [.ref (eA E v0), .ref (eA E v1)] σ (some (vI out.1)) out.2 := by
  unfold mX3_has at hm
  obtain ⟨g0, hm⟩ := g_t hm
  refine m_entry (by decide +kernel) (Nat.le_of_ble_eq_true rfl) (fun p e s m args below meth c G hr hk hM ls hl => ?_)
  have G : CallFix p m c cX3_has 3 s args mTs RX3 := G
  have hl : lv_has ls 3 [(0, .ref (eA E v0)), (1, .ref (eA E v1))] := hl
  refine r_iconst (np := 1) G 0 dX3_has_0 rfl ?_
  refine r_istore_n (np := 2) G hl rfl [(2, vI 0), (0, .ref (eA E v0)), (1, .ref (eA E v1))] dX3_has_1 rfl rfl (by decide) rfl (fun ls hl => ?_)
  exact wX3_has_L2 l E out G hr hk v0 v1 g0 (fun zσ => mX3_has_B29 v0 v1 zσ) (fun zσ zH zl zs zm zM zv => wX3_has_B29 l E out G hr hk v0 v1 g0 zσ zH zl zs zm zM zv) mF 0 _ _ _ _ hm hM (lv_sub hl [1, 2, 0] rfl)
theorem gX3_has {v0 : Nat} {v1 : Nat} {σ : mSt} {out : Int × mSt} (hm : mX3_has v0 v1 σ = some out) : isC v0 3 := (g_t hm).1
set_option maxRecDepth 100000 in
set_option maxHeartbeats 4000000 in
theorem qX3_lots (l : Launch) (E : mE) (σ : mSt) (v0 : Nat) (out : Int × mSt) (hm : mX3_lots v0 σ = some out) : mMet l yX3_lots cX3_lots 1 (some .long) 0 0 E 276 [.ref (eA E v0)] σ (some (vL out.1)) out.2 := by
  unfold mX3_lots at hm
  obtain ⟨g0, hm⟩ := g_t hm
  refine m_entry (by decide +kernel) (Nat.le_of_ble_eq_true rfl) (fun p e s m args below meth c G hr hk hM ls hl => ?_)
  have G : CallFix p m c cX3_lots 1 s args mTs RX3 := G
  have hl : lv_has ls 1 [(0, .ref (eA E v0))] := hl
  refine r_aload_n (np := 1) G hl 0 rfl dX3_lots_0 rfl rfl ?_
  obtain ⟨r1, e2, hm⟩ := ref_t hm
  refine r_getR (np := 4) G hM (shp_lt g0 (by decide)) g0 e2 fdX3_0 lkX3_9 dX3_lots_1 rfl ?_
  refine r_iconst (np := 5) G 0 dX3_lots_4 rfl ?_
  obtain ⟨g3, hm⟩ := g_t hm
  obtain ⟨r4, e5, hm⟩ := ref_t hm
  refine r_aaload (np := 6) G hM (t := 7) g3 rfl ⟨by decide, by decide⟩ rfl rfl e5 dX3_lots_5 rfl ?_
  refine r_iconst (np := 7) G 0 dX3_lots_6 rfl ?_
  obtain ⟨g6, hm⟩ := g_t hm
  refine r_laload (np := 8) G hM g6 rfl dX3_lots_7 rfl ?_
  refine r_aload_n (np := 9) G hl 0 rfl dX3_lots_8 rfl rfl ?_
  obtain ⟨r7, e8, hm⟩ := ref_t hm
  refine r_getR (np := 12) G hM (shp_lt g0 (by decide)) g0 e8 fdX3_0 lkX3_9 dX3_lots_9 rfl ?_
  refine r_iconst (np := 13) G 1 dX3_lots_12 rfl ?_
  obtain ⟨g9, hm⟩ := g_t hm
  obtain ⟨r10, e11, hm⟩ := ref_t hm
  refine r_aaload (np := 14) G hM (t := 7) g9 rfl ⟨by decide, by decide⟩ rfl rfl e11 dX3_lots_13 rfl ?_
  refine r_iconst (np := 15) G 1 dX3_lots_14 rfl ?_
  obtain ⟨g12, hm⟩ := g_t hm
  refine r_laload (np := 16) G hM g12 rfl dX3_lots_15 rfl ?_
  refine r_lmul (np := 17) G dX3_lots_16 rfl ?_
  refine r_aload_n (np := 18) G hl 0 rfl dX3_lots_17 rfl rfl ?_
  obtain ⟨r13, e14, hm⟩ := ref_t hm
  refine r_getR (np := 21) G hM (shp_lt g0 (by decide)) g0 e14 fdX3_0 lkX3_9 dX3_lots_18 rfl ?_
  refine r_iconst (np := 22) G 2 dX3_lots_21 rfl ?_
  obtain ⟨g15, hm⟩ := g_t hm
  obtain ⟨r16, e17, hm⟩ := ref_t hm
  refine r_aaload (np := 23) G hM (t := 7) g15 rfl ⟨by decide, by decide⟩ rfl rfl e17 dX3_lots_22 rfl ?_
  refine r_iconst (np := 24) G 2 dX3_lots_23 rfl ?_
  obtain ⟨g18, hm⟩ := g_t hm
  refine r_laload (np := 25) G hM g18 rfl dX3_lots_24 rfl ?_
  refine r_lmul (np := 26) G dX3_lots_25 rfl ?_
  refine r_aload_n (np := 27) G hl 0 rfl dX3_lots_26 rfl rfl ?_
  obtain ⟨r19, e20, hm⟩ := ref_t hm
  refine r_getR (np := 30) G hM (shp_lt g0 (by decide)) g0 e20 fdX3_0 lkX3_9 dX3_lots_27 rfl ?_
  refine r_iconst (np := 31) G 3 dX3_lots_30 rfl ?_
  obtain ⟨g21, hm⟩ := g_t hm
  obtain ⟨r22, e23, hm⟩ := ref_t hm
  refine r_aaload (np := 32) G hM (t := 7) g21 rfl ⟨by decide, by decide⟩ rfl rfl e23 dX3_lots_31 rfl ?_
  refine r_iconst (np := 33) G 3 dX3_lots_32 rfl ?_
  obtain ⟨g24, hm⟩ := g_t hm
  refine r_laload (np := 34) G hM g24 rfl dX3_lots_33 rfl ?_
  refine r_lmul (np := 35) G dX3_lots_34 rfl ?_
  exact r_lret G hr hk hM hm dX3_lots_35
theorem gX3_lots {v0 : Nat} {σ : mSt} {out : Int × mSt} (hm : mX3_lots v0 σ = some out) : isC v0 3 := (g_t hm).1
set_option maxRecDepth 100000 in
set_option maxHeartbeats 4000000 in
theorem qX4_begin (l : Launch) (E : mE) (σ : mSt) (v0 : Nat) (v1 : Nat) (v2 : Nat) (out : Int × mSt) (hm : mX4_begin v0 v1 v2 σ = some out) : mMet l yX4_begin cX4_begin 5 none 2 48 E 276 [.ref (eA E v0), .ref (eA E v1), .ref (eA E v2)] σ none out.2 := by
  unfold mX4_begin at hm
  obtain ⟨g0, hm⟩ := g_t hm
  refine m_entry (by decide +kernel) (Nat.le_of_ble_eq_true rfl) (fun p e s m args below meth c G hr hk hM ls hl => ?_)
  have G : CallFix p m c cX4_begin 5 s args mTs RX4 := G
  have hl : lv_has ls 5 [(0, .ref (eA E v0)), (1, .ref (eA E v1)), (2, .ref (eA E v2))] := hl
  refine r_aload_n (np := 1) G hl 0 rfl dX4_begin_0 rfl rfl ?_
  refine r_aload_n (np := 2) G hl 1 rfl dX4_begin_1 rfl rfl ?_
  obtain ⟨g1, hm⟩ := g_t hm
  obtain ⟨s2, e3, hm⟩ := bnd_t hm
  refine r_putR (np := 5) G hM (shp_lt g0 (by decide)) g0 ptX4_0 rfl lkX4_10 g1 (fun _ => rfl) (fun _ => rfl) s2 e3 dX4_begin_2 rfl (fun H locs hM => ?_)
  refine r_aload_n (np := 6) G hl 0 rfl dX4_begin_5 rfl rfl ?_
  obtain ⟨r4, e5, hm⟩ := ref_t hm
  refine r_getR (np := 9) G hM (shp_lt g0 (by decide)) g0 e5 fdX4_0 lkX4_10 dX4_begin_6 rfl ?_
  obtain ⟨g6, hm⟩ := g_t hm
  refine r_getLN (np := 12) G hM (shp_lt g6 (by decide)) g6 fdX6_0 lkX4_27 dX4_begin_9 rfl ?_
  refine r_aload_n (np := 13) G hl 0 rfl dX4_begin_12 rfl rfl ?_
  obtain ⟨r7, e8, hm⟩ := ref_t hm
  refine r_getR (np := 16) G hM (shp_lt g0 (by decide)) g0 e8 fdX4_0 lkX4_10 dX4_begin_13 rfl ?_
  obtain ⟨g9, hm⟩ := g_t hm
  refine r_getLN (np := 19) G hM (shp_lt g9 (by decide)) g9 fdX6_1 lkX4_31 dX4_begin_16 rfl ?_
  refine r_aload_n (np := 20) G hl 2 rfl dX4_begin_19 rfl rfl ?_
  obtain ⟨g10, hm⟩ := g_t hm
  obtain ⟨r11, e12, hm⟩ := ref_t hm
  refine r_getRN (np := 23) G hM (shp_lt g10 (by decide)) g10 e12 fdX1_0 lkX4_34 dX4_begin_20 rfl ?_
  obtain ⟨b13, s14, e15, hm⟩ := call_t hm
  refine m_callSL (np := 26) G hM hl.1 [vL (s2 r4 0), vL (s2 r7 1), .ref (eA E r11)] (qX1_form l E s2 (s2 r4 0) (s2 r7 1) r11 _ e15) myX1_form lkX4_39 ⟨Nat.le_of_ble_eq_true rfl, Nat.le_of_ble_eq_true rfl⟩ ⟨Nat.le_of_ble_eq_true rfl, Nat.le_of_ble_eq_true rfl⟩ [] rfl (Nat.le_of_ble_eq_true rfl) dX4_begin_23 rfl (fun H locs hM => ?_)
  refine r_lstore_n (np := 27) G hl rfl [(3, vL b13), (0, .ref (eA E v0)), (1, .ref (eA E v1)), (2, .ref (eA E v2))] dX4_begin_26 rfl rfl (by decide) rfl (fun ls hl => ?_)
  refine r_aload_n (np := 28) G hl 1 rfl dX4_begin_27 rfl rfl ?_
  obtain ⟨r16, e17, hm⟩ := ref_t hm
  refine r_getR (np := 31) G hM (shp_lt g0 (by decide)) g0 e17 fdX4_1 lkX4_19 dX4_begin_28 rfl ?_
  refine r_lload_n (np := 32) G hl 0 rfl dX4_begin_31 rfl rfl ?_
  refine r_aload_n (np := 33) G hl 3 rfl dX4_begin_32 rfl rfl ?_
  refine r_getLN (np := 36) G hM (shp_lt g10 (by decide)) g10 fdX1_1 lkX4_43 dX4_begin_33 rfl ?_
  refine r_aload_n (np := 37) G hl 3 rfl dX4_begin_36 rfl rfl ?_
  refine r_getLN (np := 40) G hM (shp_lt g10 (by decide)) g10 fdX1_1 lkX4_43 dX4_begin_37 rfl ?_
  refine r_lmul (np := 41) G dX4_begin_40 rfl ?_
  obtain ⟨b18, s19, e20, hm⟩ := call_t hm
  refine m_callSL (np := 44) G hM hl.1 [vL b13, vL ((s14 v2 1) * (s14 v2 1))] (qX5_quotient l E s14 b13 ((s14 v2 1) * (s14 v2 1)) _ e20) myX5_quotient lkX4_46 ⟨Nat.le_of_ble_eq_true rfl, Nat.le_of_ble_eq_true rfl⟩ ⟨Nat.le_of_ble_eq_true rfl, Nat.le_of_ble_eq_true rfl⟩ [.ref (eA E r16)] rfl (Nat.le_of_ble_eq_true rfl) dX4_begin_41 rfl (fun H locs hM => ?_)
  obtain ⟨b21, s22, e23, hm⟩ := call_t hm
  refine m_callSL (np := 47) G hM hl.1 [vL b18] (qJ9_abs_067f4 l E s19 b18 _ e23) myJ9_abs_067f4 lkX4_52 ⟨Nat.le_of_ble_eq_true rfl, Nat.le_of_ble_eq_true rfl⟩ ⟨Nat.le_of_ble_eq_true rfl, Nat.le_of_ble_eq_true rfl⟩ [.ref (eA E r16)] rfl (Nat.le_of_ble_eq_true rfl) dX4_begin_44 rfl (fun H locs hM => ?_)
  obtain ⟨b24, s25, e26, hm⟩ := call_t hm
  refine m_callVV (np := 50) G hM hl.1 [vL b21] (qX3_begin l E s22 r16 b21 _ e26) myX3_begin (shp_lt (gX3_begin e26) (by decide)) (gX3_begin e26) rfl (by decide) lkX4_58 ⟨Nat.le_of_ble_eq_true rfl, Nat.le_of_ble_eq_true rfl⟩ ⟨Nat.le_of_ble_eq_true rfl, Nat.le_of_ble_eq_true rfl⟩ [] rfl (Nat.le_of_ble_eq_true rfl) dX4_begin_47 rfl (fun H locs hM => ?_)
  exact r_vret G hr hk hM hm dX4_begin_50
theorem gX4_begin {v0 : Nat} {v1 : Nat} {v2 : Nat} {σ : mSt} {out : Int × mSt} (hm : mX4_begin v0 v1 v2 σ = some out) : isC v0 4 := (g_t hm).1
set_option maxRecDepth 100000 in
set_option maxHeartbeats 4000000 in
theorem wX6_expressOver_B47 (l : Launch) (E : mE) (out : Int × mSt) {p : Program} {e : Env} {s : State} {m : MethodId} {args : Array Value} {below : List Frame} {meth : Method} {c : Code} (G : CallFix p m c cX6_expressOver 8 s args mTs RX6) (hr : meth.sig.returnType = (some .boolean)) (hk : meth.locks = false) (v0 : Nat) (v1 : Nat) (v2 : Int) (v4 : Nat) (v5 : Int) (g0 : isC v0 5) : ∀ (σ : mSt) (H : Heap) (locs : List Loc) (ls : Array Slot), mX6_expressOver_B47 v0 v1 v2 v4 v5 σ = some out → mM (mA E 276) E 276 σ s H locs → lv_has ls 8 [(0, .ref (eA E v0)), (4, .ref (eA E v4))] → mGo l p e 3 73 s m args below meth c E (some (vI out.1)) out.2 H locs (F0 m 47 ls []) := by
  intro σ H locs ls hm hM hl
  unfold mX6_expressOver_B47 at hm
  refine r_aload_n (np := 48) G hl 0 rfl dX6_expressOver_47 rfl rfl ?_
  obtain ⟨r1, e2, hm⟩ := ref_t hm
  refine r_getR (np := 51) G hM (shp_lt g0 (by decide)) g0 e2 fdX6_2 lkX6_19 dX6_expressOver_48 rfl ?_
  refine r_aload (np := 53) G hl 1 rfl dX6_expressOver_51 rfl ?_
  obtain ⟨b3, s4, e5, hm⟩ := call_t hm
  refine m_callVI (np := 56) G hM hl.1 [.ref (eA E v4)] (qX3_express l E σ r1 v4 _ e5) myX3_express (shp_lt (gX3_express e5) (by decide)) (gX3_express e5) rfl (by decide) lkX6_82 ⟨Nat.le_of_ble_eq_true rfl, Nat.le_of_ble_eq_true rfl⟩ ⟨Nat.le_of_ble_eq_true rfl, Nat.le_of_ble_eq_true rfl⟩ [] rfl (Nat.le_of_ble_eq_true rfl) dX6_expressOver_53 rfl (fun H locs hM => ?_)
  obtain ⟨g6, hm⟩ := g_t hm
  exact r_zret G hr hk hM g6 hm dX6_expressOver_56
set_option maxRecDepth 100000 in
set_option maxHeartbeats 4000000 in
theorem wX6_expressOver_L3 (l : Launch) (E : mE) (out : Int × mSt) {p : Program} {e : Env} {s : State} {m : MethodId} {args : Array Value} {below : List Frame} {meth : Method} {c : Code} (G : CallFix p m c cX6_expressOver 8 s args mTs RX6) (hr : meth.sig.returnType = (some .boolean)) (hk : meth.locks = false) (v0 : Nat) (v1 : Nat) (v2 : Int) (v4 : Nat) (v5 : Int) (g0 : isC v0 5) (x47 : mSt → Option (Int × mSt)) (hx47 : ∀ (σ : mSt) (H : Heap) (locs : List Loc) (ls : Array Slot), x47 σ = some out → mM (mA E 276) E 276 σ s H locs → lv_has ls 8 [(0, .ref (eA E v0)), (4, .ref (eA E v4))] → mGo l p e 3 73 s m args below meth c E (some (vI out.1)) out.2 H locs (F0 m 47 ls [])) : ∀ (n : Nat) (v7 : Int) (σ : mSt) (H : Heap) (locs : List Loc) (ls : Array Slot), mX6_expressOver_L3 v0 v1 v2 v4 v5 x47 n v7 σ = some out → mM (mA E 276) E 276 σ s H locs → lv_has ls 8 [(0, .ref (eA E v0)), (1, .ref (eA E v1)), (2, vL v2), (4, .ref (eA E v4)), (5, vL v5), (7, vI v7)] → mGo l p e 3 73 s m args below meth c E (some (vI out.1)) out.2 H locs (F0 m 3 ls []) := by
  intro n
  induction n with
  | zero =>
    intro v7 σ H locs ls hm hM hl
    exact absurd hm (by rw [mX6_expressOver_L3.eq_1]; exact fun h => nomatch h)
  | succ n ih =>
    intro v7 σ H locs ls hm hM hl
    rw [mX6_expressOver_L3.eq_2] at hm
    refine r_iload (np := 5) G hl 5 rfl dX6_expressOver_3 rfl ?_
    refine r_iconst (np := 6) G 4 dX6_expressOver_5 rfl ?_
    refine r_icmp_ge (np := 9) (tgt := 47) G rfl (wIk 4 rfl) dX6_expressOver_6 (by decide) rfl (fun h7 => ?_) (fun h7 => ?_)
    · have hm := b_t h7 hm
      exact hx47 _ _ _ _ hm hM (lv_sub hl [0, 3] rfl)
    · have hm := b_f h7 hm
      refine r_lload_n (np := 10) G hl 2 rfl dX6_expressOver_9 rfl rfl ?_
      refine r_aload_n (np := 11) G hl 1 rfl dX6_expressOver_10 rfl rfl ?_
      refine r_iload (np := 13) G hl 5 rfl dX6_expressOver_11 rfl ?_
      obtain ⟨g8, hm⟩ := g_t hm
      refine r_laload (np := 14) G hM g8 rfl dX6_expressOver_13 rfl ?_
      refine r_lload (np := 16) G hl 4 rfl dX6_expressOver_14 rfl ?_
      refine r_lmul (np := 17) G dX6_expressOver_16 rfl ?_
      obtain ⟨b9, s10, e11, hm⟩ := call_t hm
      refine m_callSI (np := 20) G hM hl.1 [vL v2, vL ((σ v1 (wI v7).toNat) * v5)] (qX5_divides l E σ v2 ((σ v1 (wI v7).toNat) * v5) _ e11) myX5_divides lkX6_54 ⟨Nat.le_of_ble_eq_true rfl, Nat.le_of_ble_eq_true rfl⟩ ⟨Nat.le_of_ble_eq_true rfl, Nat.le_of_ble_eq_true rfl⟩ [] rfl (Nat.le_of_ble_eq_true rfl) dX6_expressOver_17 rfl (fun H locs hM => ?_)
      refine r_if_ne (np := 23) (tgt := 25) G rfl dX6_expressOver_20 (by decide) rfl (fun h12 => ?_) (fun h12 => ?_)
      · have hm := b_f h12 hm
        refine r_aload (np := 27) G hl 3 rfl dX6_expressOver_25 rfl ?_
        refine r_iload (np := 29) G hl 5 rfl dX6_expressOver_27 rfl ?_
        refine r_aload_n (np := 30) G hl 1 rfl dX6_expressOver_29 rfl rfl ?_
        refine r_iload (np := 32) G hl 5 rfl dX6_expressOver_30 rfl ?_
        refine r_laload (np := 33) G hM g8 rfl dX6_expressOver_32 rfl ?_
        refine r_lload (np := 35) G hl 4 rfl dX6_expressOver_33 rfl ?_
        refine r_lmul (np := 36) G dX6_expressOver_35 rfl ?_
        refine r_lload_n (np := 37) G hl 2 rfl dX6_expressOver_36 rfl rfl ?_
        obtain ⟨b13, s14, e15, hm⟩ := call_t hm
        refine m_callSL (np := 40) G hM hl.1 [vL ((s10 v1 (wI v7).toNat) * v5), vL v2] (qX5_quotient l E s10 ((s10 v1 (wI v7).toNat) * v5) v2 _ e15) myX5_quotient lkX6_60 ⟨Nat.le_of_ble_eq_true rfl, Nat.le_of_ble_eq_true rfl⟩ ⟨Nat.le_of_ble_eq_true rfl, Nat.le_of_ble_eq_true rfl⟩ [vI v7, .ref (eA E v4)] rfl (Nat.le_of_ble_eq_true rfl) dX6_expressOver_37 rfl (fun H locs hM => ?_)
        obtain ⟨g16, hm⟩ := g_t hm
        obtain ⟨s17, e18, hm⟩ := bnd_t hm
        refine r_lastore (np := 41) G hM g16 rfl s17 e18 dX6_expressOver_40 rfl (fun H locs hM => ?_)
        obtain ⟨a19, e20, hm⟩ := bnd_t hm
        refine r_iinc (np := 44) G hl 5 rfl e20 [(7, vI a19), (0, .ref (eA E v0)), (1, .ref (eA E v1)), (2, vL v2), (4, .ref (eA E v4)), (5, vL v5)] dX6_expressOver_41 rfl (by decide) rfl (fun ls hl => ?_)
        refine r_goto (np := 3) G dX6_expressOver_44 (by decide) ?_
        exact ih a19 _ _ _ _ hm hM (lv_sub hl [1, 2, 3, 4, 5, 0] rfl)
      · have hm := b_t h12 hm
        refine r_iconst (np := 24) G 0 dX6_expressOver_23 rfl ?_
        exact r_zret G hr hk hM (Or.inl rfl) hm dX6_expressOver_24
set_option maxRecDepth 100000 in
set_option maxHeartbeats 4000000 in
theorem qX6_expressOver (l : Launch) (E : mE) (σ : mSt) (v0 : Nat) (v1 : Nat) (v2 : Int) (v4 : Nat) (v5 : Int) (out : Int × mSt) (hm : mX6_expressOver v0 v1 v2 v4 v5 σ = some out) : mMet l yX6_expressOver cX6_expressOver 8 (some .boolean) 3 73 E 276 [.ref (eA E v0), .ref (eA E v1), vL v2, .ref (eA E v4), vL v5] σ (some (vI out.1)) out.2 := by
  unfold mX6_expressOver at hm
  obtain ⟨g0, hm⟩ := g_t hm
  refine m_entry (by decide +kernel) (Nat.le_of_ble_eq_true rfl) (fun p e s m args below meth c G hr hk hM ls hl => ?_)
  have G : CallFix p m c cX6_expressOver 8 s args mTs RX6 := G
  have hl : lv_has ls 8 [(0, .ref (eA E v0)), (1, .ref (eA E v1)), (2, vL v2), (4, .ref (eA E v4)), (5, vL v5)] := hl
  refine r_iconst (np := 1) G 0 dX6_expressOver_0 rfl ?_
  refine r_istore (np := 3) G hl rfl [(7, vI 0), (0, .ref (eA E v0)), (1, .ref (eA E v1)), (2, vL v2), (4, .ref (eA E v4)), (5, vL v5)] dX6_expressOver_1 rfl (by decide) rfl (fun ls hl => ?_)
  exact wX6_expressOver_L3 l E out G hr hk v0 v1 v2 v4 v5 g0 (fun zσ => mX6_expressOver_B47 v0 v1 v2 v4 v5 zσ) (fun zσ zH zl zs zm zM zv => wX6_expressOver_B47 l E out G hr hk v0 v1 v2 v4 v5 g0 zσ zH zl zs zm zM zv) mF 0 _ _ _ _ hm hM (lv_sub hl [1, 2, 3, 4, 5, 0] rfl)
theorem gX6_expressOver {v0 : Nat} {v1 : Nat} {v2 : Int} {v4 : Nat} {v5 : Int} {σ : mSt} {out : Int × mSt} (hm : mX6_expressOver v0 v1 v2 v4 v5 σ = some out) : isC v0 5 := (g_t hm).1
set_option maxRecDepth 100000 in
set_option maxHeartbeats 4000000 in
theorem qX6_expressProduct (l : Launch) (E : mE) (σ : mSt) (v0 : Nat) (v1 : Nat) (v2 : Nat) (v3 : Int) (v5 : Nat) (out : Int × mSt) (hm : mX6_expressProduct v0 v1 v2 v3 v5 σ = some out) : mMet l yX6_expressProduct cX6_expressProduct 6 (some .boolean) 4 100 E 276 [.ref (eA E v0), .ref (eA E v1), .ref (eA E v2), vL v3, .ref (eA E v5)] σ (some (vI out.1)) out.2 := by
  unfold mX6_expressProduct at hm
  obtain ⟨g0, hm⟩ := g_t hm
  refine m_entry (by decide +kernel) (Nat.le_of_ble_eq_true rfl) (fun p e s m args below meth c G hr hk hM ls hl => ?_)
  have G : CallFix p m c cX6_expressProduct 6 s args mTs RX6 := G
  have hl : lv_has ls 6 [(0, .ref (eA E v0)), (1, .ref (eA E v1)), (2, .ref (eA E v2)), (3, vL v3), (5, .ref (eA E v5))] := hl
  refine r_aload_n (np := 1) G hl 0 rfl dX6_expressProduct_0 rfl rfl ?_
  refine r_getL (np := 4) G hM (shp_lt g0 (by decide)) g0 fdX6_0 lkX6_7 dX6_expressProduct_1 rfl ?_
  refine r_aload_n (np := 5) G hl 0 rfl dX6_expressProduct_4 rfl rfl ?_
  refine r_getL (np := 8) G hM (shp_lt g0 (by decide)) g0 fdX6_1 lkX6_13 dX6_expressProduct_5 rfl ?_
  refine r_aload_n (np := 9) G hl 1 rfl dX6_expressProduct_8 rfl rfl ?_
  refine r_aload_n (np := 10) G hl 2 rfl dX6_expressProduct_9 rfl rfl ?_
  refine r_aload_n (np := 11) G hl 0 rfl dX6_expressProduct_10 rfl rfl ?_
  obtain ⟨r1, e2, hm⟩ := ref_t hm
  refine r_getR (np := 14) G hM (shp_lt g0 (by decide)) g0 e2 fdX6_3 lkX6_23 dX6_expressProduct_11 rfl ?_
  obtain ⟨b3, s4, e5, hm⟩ := call_t hm
  refine m_callSV (np := 17) G hM hl.1 [vL (σ v0 0), vL (σ v0 1), .ref (eA E v1), .ref (eA E v2), .ref (eA E r1)] (qX1_multiply l E σ (σ v0 0) (σ v0 1) v1 v2 r1 _ e5) myX1_multiply lkX6_78 ⟨Nat.le_of_ble_eq_true rfl, Nat.le_of_ble_eq_true rfl⟩ ⟨Nat.le_of_ble_eq_true rfl, Nat.le_of_ble_eq_true rfl⟩ [] rfl (Nat.le_of_ble_eq_true rfl) dX6_expressProduct_14 rfl (fun H locs hM => ?_)
  refine r_aload_n (np := 18) G hl 0 rfl dX6_expressProduct_17 rfl rfl ?_
  refine r_aload_n (np := 19) G hl 0 rfl dX6_expressProduct_18 rfl rfl ?_
  obtain ⟨r6, e7, hm⟩ := ref_t hm
  refine r_getR (np := 22) G hM (shp_lt g0 (by decide)) g0 e7 fdX6_3 lkX6_23 dX6_expressProduct_19 rfl ?_
  refine r_lload_n (np := 23) G hl 3 rfl dX6_expressProduct_22 rfl rfl ?_
  refine r_aload (np := 25) G hl 4 rfl dX6_expressProduct_23 rfl ?_
  refine r_lconst (np := 26) G 1 dX6_expressProduct_25 rfl rfl ?_
  obtain ⟨b8, s9, e10, hm⟩ := call_t hm
  refine m_callVI (np := 29) G hM hl.1 [.ref (eA E r6), vL v3, .ref (eA E v5), vL 1] (qX6_expressOver l E s4 v0 r6 v3 v5 1 _ e10) myX6_expressOver (shp_lt (gX6_expressOver e10) (by decide)) (gX6_expressOver e10) rfl (by decide) lkX6_74 ⟨Nat.le_of_ble_eq_true rfl, Nat.le_of_ble_eq_true rfl⟩ ⟨Nat.le_of_ble_eq_true rfl, Nat.le_of_ble_eq_true rfl⟩ [] rfl (Nat.le_of_ble_eq_true rfl) dX6_expressProduct_26 rfl (fun H locs hM => ?_)
  obtain ⟨g11, hm⟩ := g_t hm
  exact r_zret G hr hk hM g11 hm dX6_expressProduct_29
theorem gX6_expressProduct {v0 : Nat} {v1 : Nat} {v2 : Nat} {v3 : Int} {v5 : Nat} {σ : mSt} {out : Int × mSt} (hm : mX6_expressProduct v0 v1 v2 v3 v5 σ = some out) : isC v0 5 := (g_t hm).1
set_option maxRecDepth 100000 in
set_option maxHeartbeats 4000000 in
theorem wX4_join_B54 (l : Launch) (E : mE) (out : Int × mSt) {p : Program} {e : Env} {s : State} {m : MethodId} {args : Array Value} {below : List Frame} {meth : Method} {c : Code} (G : CallFix p m c cX4_join 3 s args mTs RX4) (hr : meth.sig.returnType = none) (hk : meth.locks = false) (v0 : Nat) (v1 : Nat) (g0 : isC v0 4) : ∀ (σ : mSt) (H : Heap) (locs : List Loc) (ls : Array Slot), mX4_join_B54 v0 v1 σ = some out → mM (mA E 276) E 276 σ s H locs → lv_has ls 3 [(0, .ref (eA E v0))] → mGo l p e 5 125 s m args below meth c E none out.2 H locs (F0 m 54 ls []) := by
  intro σ H locs ls hm hM hl
  unfold mX4_join_B54 at hm
  refine r_aload_n (np := 55) G hl 0 rfl dX4_join_54 rfl rfl ?_
  obtain ⟨r1, e2, hm⟩ := ref_t hm
  refine r_getR (np := 58) G hM (shp_lt g0 (by decide)) g0 e2 fdX4_1 lkX4_19 dX4_join_55 rfl ?_
  obtain ⟨b3, s4, e5, hm⟩ := call_t hm
  refine m_callVV (np := 61) G hM hl.1 [] (qX3_settle l E σ r1 _ e5) myX3_settle (shp_lt (gX3_settle e5) (by decide)) (gX3_settle e5) rfl (by decide) lkX4_74 ⟨Nat.le_of_ble_eq_true rfl, Nat.le_of_ble_eq_true rfl⟩ ⟨Nat.le_of_ble_eq_true rfl, Nat.le_of_ble_eq_true rfl⟩ [] rfl (Nat.le_of_ble_eq_true rfl) dX4_join_58 rfl (fun H locs hM => ?_)
  exact r_vret G hr hk hM hm dX4_join_61
set_option maxRecDepth 100000 in
set_option maxHeartbeats 4000000 in
theorem wX4_join_L2 (l : Launch) (E : mE) (out : Int × mSt) {p : Program} {e : Env} {s : State} {m : MethodId} {args : Array Value} {below : List Frame} {meth : Method} {c : Code} (G : CallFix p m c cX4_join 3 s args mTs RX4) (hr : meth.sig.returnType = none) (hk : meth.locks = false) (v0 : Nat) (v1 : Nat) (g0 : isC v0 4) (x54 : mSt → Option (Int × mSt)) (hx54 : ∀ (σ : mSt) (H : Heap) (locs : List Loc) (ls : Array Slot), x54 σ = some out → mM (mA E 276) E 276 σ s H locs → lv_has ls 3 [(0, .ref (eA E v0))] → mGo l p e 5 125 s m args below meth c E none out.2 H locs (F0 m 54 ls [])) : ∀ (n : Nat) (v2 : Int) (σ : mSt) (H : Heap) (locs : List Loc) (ls : Array Slot), mX4_join_L2 v0 v1 x54 n v2 σ = some out → mM (mA E 276) E 276 σ s H locs → lv_has ls 3 [(0, .ref (eA E v0)), (1, .ref (eA E v1)), (2, vI v2)] → mGo l p e 5 125 s m args below meth c E none out.2 H locs (F0 m 2 ls []) := by
  intro n
  induction n with
  | zero =>
    intro v2 σ H locs ls hm hM hl
    exact absurd hm (by rw [mX4_join_L2.eq_1]; exact fun h => nomatch h)
  | succ n ih =>
    intro v2 σ H locs ls hm hM hl
    rw [mX4_join_L2.eq_2] at hm
    refine r_iload_n (np := 3) G hl 2 rfl dX4_join_2 rfl rfl ?_
    refine r_iconst (np := 4) G 4 dX4_join_3 rfl ?_
    refine r_icmp_ge (np := 7) (tgt := 54) G rfl (wIk 4 rfl) dX4_join_4 (by decide) rfl (fun h6 => ?_) (fun h6 => ?_)
    · have hm := b_t h6 hm
      exact hx54 _ _ _ _ hm hM (lv_sub hl [0] rfl)
    · have hm := b_f h6 hm
      refine r_aload_n (np := 8) G hl 0 rfl dX4_join_7 rfl rfl ?_
      obtain ⟨r7, e8, hm⟩ := ref_t hm
      refine r_getR (np := 11) G hM (shp_lt g0 (by decide)) g0 e8 fdX4_0 lkX4_10 dX4_join_8 rfl ?_
      refine r_aload_n (np := 12) G hl 0 rfl dX4_join_11 rfl rfl ?_
      obtain ⟨r9, e10, hm⟩ := ref_t hm
      refine r_getR (np := 15) G hM (shp_lt g0 (by decide)) g0 e10 fdX4_0 lkX4_10 dX4_join_12 rfl ?_
      refine r_iload_n (np := 16) G hl 2 rfl dX4_join_15 rfl rfl ?_
      obtain ⟨b11, s12, e13, hm⟩ := call_t hm
      refine m_callVR (np := 19) G hM hl.1 [vI v2] (qX6_numbersOf l E σ r9 v2 _ e13) myX6_numbersOf (shp_lt (gX6_numbersOf e13) (by decide)) (gX6_numbersOf e13) rfl (by decide) lkX4_62 ⟨Nat.le_of_ble_eq_true rfl, Nat.le_of_ble_eq_true rfl⟩ ⟨Nat.le_of_ble_eq_true rfl, Nat.le_of_ble_eq_true rfl⟩ [.ref (eA E r7)] rfl (Nat.le_of_ble_eq_true rfl) dX4_join_16 rfl (fun H locs hM => ?_)
      refine r_aload_n (np := 20) G hl 1 rfl dX4_join_19 rfl rfl ?_
      obtain ⟨g14, hm⟩ := g_t hm
      obtain ⟨r15, e16, hm⟩ := ref_t hm
      refine r_getRN (np := 23) G hM (shp_lt g14 (by decide)) g14 e16 fdX1_0 lkX4_34 dX4_join_20 rfl ?_
      refine r_aload_n (np := 24) G hl 1 rfl dX4_join_23 rfl rfl ?_
      refine r_getLN (np := 27) G hM (shp_lt g14 (by decide)) g14 fdX1_1 lkX4_43 dX4_join_24 rfl ?_
      refine r_aload_n (np := 28) G hl 0 rfl dX4_join_27 rfl rfl ?_
      obtain ⟨r17, e18, hm⟩ := ref_t hm
      refine r_getR (np := 31) G hM (shp_lt g0 (by decide)) g0 e18 fdX4_2 lkX4_23 dX4_join_28 rfl ?_
      obtain ⟨b19, s20, e21, hm⟩ := call_t hm
      refine m_callVI (np := 34) G hM hl.1 [.ref (eA E b11.toNat), .ref (eA E r15), vL (s12 v1 1), .ref (eA E r17)] (qX6_expressProduct l E s12 r7 b11.toNat r15 (s12 v1 1) r17 _ e21) myX6_expressProduct (shp_lt (gX6_expressProduct e21) (by decide)) (gX6_expressProduct e21) rfl (by decide) lkX4_66 ⟨Nat.le_of_ble_eq_true rfl, Nat.le_of_ble_eq_true rfl⟩ ⟨Nat.le_of_ble_eq_true rfl, Nat.le_of_ble_eq_true rfl⟩ [] rfl (Nat.le_of_ble_eq_true rfl) dX4_join_31 rfl (fun H locs hM => ?_)
      refine r_if_eq (np := 37) (tgt := 48) G rfl dX4_join_34 (by decide) rfl (fun h22 => ?_) (fun h22 => ?_)
      · have hm := b_t h22 hm
        obtain ⟨a23, e24, hm⟩ := bnd_t hm
        refine r_iinc (np := 51) G hl 2 rfl e24 [(2, vI a23), (0, .ref (eA E v0)), (1, .ref (eA E v1))] dX4_join_48 rfl (by decide) rfl (fun ls hl => ?_)
        refine r_goto (np := 2) G dX4_join_51 (by decide) ?_
        exact ih a23 _ _ _ _ hm hM (lv_sub hl [1, 2, 0] rfl)
      · have hm := b_f h22 hm
        refine r_aload_n (np := 38) G hl 0 rfl dX4_join_37 rfl rfl ?_
        obtain ⟨r25, e26, hm⟩ := ref_t hm
        refine r_getR (np := 41) G hM (shp_lt g0 (by decide)) g0 e26 fdX4_1 lkX4_19 dX4_join_38 rfl ?_
        refine r_aload_n (np := 42) G hl 0 rfl dX4_join_41 rfl rfl ?_
        obtain ⟨r27, e28, hm⟩ := ref_t hm
        refine r_getR (np := 45) G hM (shp_lt g0 (by decide)) g0 e28 fdX4_2 lkX4_23 dX4_join_42 rfl ?_
        obtain ⟨b29, s30, e31, hm⟩ := call_t hm
        refine m_callVV (np := 48) G hM hl.1 [.ref (eA E r27)] (qX3_add l E s20 r25 r27 _ e31) myX3_add (shp_lt (gX3_add e31) (by decide)) (gX3_add e31) rfl (by decide) lkX4_70 ⟨Nat.le_of_ble_eq_true rfl, Nat.le_of_ble_eq_true rfl⟩ ⟨Nat.le_of_ble_eq_true rfl, Nat.le_of_ble_eq_true rfl⟩ [] rfl (Nat.le_of_ble_eq_true rfl) dX4_join_45 rfl (fun H locs hM => ?_)
        obtain ⟨a32, e33, hm⟩ := bnd_t hm
        refine r_iinc (np := 51) G hl 2 rfl e33 [(2, vI a32), (0, .ref (eA E v0)), (1, .ref (eA E v1))] dX4_join_48 rfl (by decide) rfl (fun ls hl => ?_)
        refine r_goto (np := 2) G dX4_join_51 (by decide) ?_
        exact ih a32 _ _ _ _ hm hM (lv_sub hl [1, 2, 0] rfl)
set_option maxRecDepth 100000 in
set_option maxHeartbeats 4000000 in
theorem qX4_join (l : Launch) (E : mE) (σ : mSt) (v0 : Nat) (v1 : Nat) (out : Int × mSt) (hm : mX4_join v0 v1 σ = some out) : mMet l yX4_join cX4_join 3 none 5 125 E 276 [.ref (eA E v0), .ref (eA E v1)] σ none out.2 := by
  unfold mX4_join at hm
  obtain ⟨g0, hm⟩ := g_t hm
  refine m_entry (by decide +kernel) (Nat.le_of_ble_eq_true rfl) (fun p e s m args below meth c G hr hk hM ls hl => ?_)
  have G : CallFix p m c cX4_join 3 s args mTs RX4 := G
  have hl : lv_has ls 3 [(0, .ref (eA E v0)), (1, .ref (eA E v1))] := hl
  refine r_iconst (np := 1) G 0 dX4_join_0 rfl ?_
  refine r_istore_n (np := 2) G hl rfl [(2, vI 0), (0, .ref (eA E v0)), (1, .ref (eA E v1))] dX4_join_1 rfl rfl (by decide) rfl (fun ls hl => ?_)
  exact wX4_join_L2 l E out G hr hk v0 v1 g0 (fun zσ => mX4_join_B54 v0 v1 zσ) (fun zσ zH zl zs zm zM zv => wX4_join_B54 l E out G hr hk v0 v1 g0 zσ zH zl zs zm zM zv) mF 0 _ _ _ _ hm hM (lv_sub hl [1, 2, 0] rfl)
theorem gX4_join {v0 : Nat} {v1 : Nat} {σ : mSt} {out : Int × mSt} (hm : mX4_join v0 v1 σ = some out) : isC v0 4 := (g_t hm).1
set_option maxRecDepth 100000 in
set_option maxHeartbeats 4000000 in
theorem qX4_lots (l : Launch) (E : mE) (σ : mSt) (v0 : Nat) (out : Int × mSt) (hm : mX4_lots v0 σ = some out) : mMet l yX4_lots cX4_lots 1 (some .long) 1 20 E 276 [.ref (eA E v0)] σ (some (vL out.1)) out.2 := by
  unfold mX4_lots at hm
  obtain ⟨g0, hm⟩ := g_t hm
  refine m_entry (by decide +kernel) (Nat.le_of_ble_eq_true rfl) (fun p e s m args below meth c G hr hk hM ls hl => ?_)
  have G : CallFix p m c cX4_lots 1 s args mTs RX4 := G
  have hl : lv_has ls 1 [(0, .ref (eA E v0))] := hl
  refine r_aload_n (np := 1) G hl 0 rfl dX4_lots_0 rfl rfl ?_
  obtain ⟨r1, e2, hm⟩ := ref_t hm
  refine r_getR (np := 4) G hM (shp_lt g0 (by decide)) g0 e2 fdX4_1 lkX4_19 dX4_lots_1 rfl ?_
  obtain ⟨b3, s4, e5, hm⟩ := call_t hm
  refine m_callVL (np := 7) G hM hl.1 [] (qX3_lots l E σ r1 _ e5) myX3_lots (shp_lt (gX3_lots e5) (by decide)) (gX3_lots e5) rfl (by decide) lkX4_77 ⟨Nat.le_of_ble_eq_true rfl, Nat.le_of_ble_eq_true rfl⟩ ⟨Nat.le_of_ble_eq_true rfl, Nat.le_of_ble_eq_true rfl⟩ [] rfl (Nat.le_of_ble_eq_true rfl) dX4_lots_4 rfl (fun H locs hM => ?_)
  exact r_lret G hr hk hM hm dX4_lots_7
theorem gX4_lots {v0 : Nat} {σ : mSt} {out : Int × mSt} (hm : mX4_lots v0 σ = some out) : isC v0 4 := (g_t hm).1
set_option maxRecDepth 100000 in
set_option maxHeartbeats 4000000 in
theorem qX6_express (l : Launch) (E : mE) (σ : mSt) (v0 : Nat) (v1 : Nat) (v2 : Nat) (out : Int × mSt) (hm : mX6_express v0 v1 v2 σ = some out) : mMet l yX6_express cX6_express 3 (some .boolean) 4 100 E 276 [.ref (eA E v0), .ref (eA E v1), .ref (eA E v2)] σ (some (vI out.1)) out.2 := by
  unfold mX6_express at hm
  obtain ⟨g0, hm⟩ := g_t hm
  refine m_entry (by decide +kernel) (Nat.le_of_ble_eq_true rfl) (fun p e s m args below meth c G hr hk hM ls hl => ?_)
  have G : CallFix p m c cX6_express 3 s args mTs RX6 := G
  have hl : lv_has ls 3 [(0, .ref (eA E v0)), (1, .ref (eA E v1)), (2, .ref (eA E v2))] := hl
  refine r_aload_n (np := 1) G hl 0 rfl dX6_express_0 rfl rfl ?_
  refine r_aload_n (np := 2) G hl 1 rfl dX6_express_1 rfl rfl ?_
  obtain ⟨g1, hm⟩ := g_t hm
  obtain ⟨r2, e3, hm⟩ := ref_t hm
  refine r_getRN (np := 5) G hM (shp_lt g1 (by decide)) g1 e3 fdX1_0 lkX6_64 dX6_express_2 rfl ?_
  refine r_aload_n (np := 6) G hl 1 rfl dX6_express_5 rfl rfl ?_
  refine r_getLN (np := 9) G hM (shp_lt g1 (by decide)) g1 fdX1_1 lkX6_69 dX6_express_6 rfl ?_
  refine r_aload_n (np := 10) G hl 2 rfl dX6_express_9 rfl rfl ?_
  refine r_aload_n (np := 11) G hl 0 rfl dX6_express_10 rfl rfl ?_
  obtain ⟨b4, s5, e6, hm⟩ := call_t hm
  refine m_callVL (np := 14) G hM hl.1 [] (qX6_below l E σ v0 _ e6) myX6_below (shp_lt (gX6_below e6) (by decide)) (gX6_below e6) rfl (by decide) lkX6_72 ⟨Nat.le_of_ble_eq_true rfl, Nat.le_of_ble_eq_true rfl⟩ ⟨Nat.le_of_ble_eq_true rfl, Nat.le_of_ble_eq_true rfl⟩ [.ref (eA E v2), vL (σ v1 1), .ref (eA E r2), .ref (eA E v0)] rfl (Nat.le_of_ble_eq_true rfl) dX6_express_11 rfl (fun H locs hM => ?_)
  obtain ⟨b7, s8, e9, hm⟩ := call_t hm
  refine m_callVI (np := 17) G hM hl.1 [.ref (eA E r2), vL (σ v1 1), .ref (eA E v2), vL b4] (qX6_expressOver l E s5 v0 r2 (σ v1 1) v2 b4 _ e9) myX6_expressOver (shp_lt (gX6_expressOver e9) (by decide)) (gX6_expressOver e9) rfl (by decide) lkX6_74 ⟨Nat.le_of_ble_eq_true rfl, Nat.le_of_ble_eq_true rfl⟩ ⟨Nat.le_of_ble_eq_true rfl, Nat.le_of_ble_eq_true rfl⟩ [] rfl (Nat.le_of_ble_eq_true rfl) dX6_express_14 rfl (fun H locs hM => ?_)
  obtain ⟨g10, hm⟩ := g_t hm
  exact r_zret G hr hk hM g10 hm dX6_express_17
theorem gX6_express {v0 : Nat} {v1 : Nat} {v2 : Nat} {σ : mSt} {out : Int × mSt} (hm : mX6_express v0 v1 v2 σ = some out) : isC v0 5 := (g_t hm).1
set_option maxRecDepth 100000 in
set_option maxHeartbeats 4000000 in
theorem qX4_contains (l : Launch) (E : mE) (σ : mSt) (v0 : Nat) (v1 : Nat) (out : Int × mSt) (hm : mX4_contains v0 v1 σ = some out) : mMet l yX4_contains cX4_contains 2 (some .boolean) 5 122 E 276 [.ref (eA E v0), .ref (eA E v1)] σ (some (vI out.1)) out.2 := by
  unfold mX4_contains at hm
  obtain ⟨g0, hm⟩ := g_t hm
  refine m_entry (by decide +kernel) (Nat.le_of_ble_eq_true rfl) (fun p e s m args below meth c G hr hk hM ls hl => ?_)
  have G : CallFix p m c cX4_contains 2 s args mTs RX4 := G
  have hl : lv_has ls 2 [(0, .ref (eA E v0)), (1, .ref (eA E v1))] := hl
  refine r_aload_n (np := 1) G hl 0 rfl dX4_contains_0 rfl rfl ?_
  obtain ⟨r1, e2, hm⟩ := ref_t hm
  refine r_getR (np := 4) G hM (shp_lt g0 (by decide)) g0 e2 fdX4_0 lkX4_10 dX4_contains_1 rfl ?_
  refine r_aload_n (np := 5) G hl 1 rfl dX4_contains_4 rfl rfl ?_
  refine r_aload_n (np := 6) G hl 0 rfl dX4_contains_5 rfl rfl ?_
  obtain ⟨r3, e4, hm⟩ := ref_t hm
  refine r_getR (np := 9) G hM (shp_lt g0 (by decide)) g0 e4 fdX4_2 lkX4_23 dX4_contains_6 rfl ?_
  obtain ⟨b5, s6, e7, hm⟩ := call_t hm
  refine m_callVI (np := 12) G hM hl.1 [.ref (eA E v1), .ref (eA E r3)] (qX6_express l E σ r1 v1 r3 _ e7) myX6_express (shp_lt (gX6_express e7) (by decide)) (gX6_express e7) rfl (by decide) lkX4_81 ⟨Nat.le_of_ble_eq_true rfl, Nat.le_of_ble_eq_true rfl⟩ ⟨Nat.le_of_ble_eq_true rfl, Nat.le_of_ble_eq_true rfl⟩ [] rfl (Nat.le_of_ble_eq_true rfl) dX4_contains_9 rfl (fun H locs hM => ?_)
  refine r_if_eq (np := 15) (tgt := 33) G rfl dX4_contains_12 (by decide) rfl (fun h8 => ?_) (fun h8 => ?_)
  · have hm := b_t h8 hm
    refine r_iconst (np := 34) G 0 dX4_contains_33 rfl ?_
    exact r_zret G hr hk hM (Or.inl rfl) hm dX4_contains_34
  · have hm := b_f h8 hm
    refine r_aload_n (np := 16) G hl 0 rfl dX4_contains_15 rfl rfl ?_
    obtain ⟨r9, e10, hm⟩ := ref_t hm
    refine r_getR (np := 19) G hM (shp_lt g0 (by decide)) g0 e10 fdX4_1 lkX4_19 dX4_contains_16 rfl ?_
    refine r_aload_n (np := 20) G hl 0 rfl dX4_contains_19 rfl rfl ?_
    obtain ⟨r11, e12, hm⟩ := ref_t hm
    refine r_getR (np := 23) G hM (shp_lt g0 (by decide)) g0 e12 fdX4_2 lkX4_23 dX4_contains_20 rfl ?_
    obtain ⟨b13, s14, e15, hm⟩ := call_t hm
    refine m_callVI (np := 26) G hM hl.1 [.ref (eA E r11)] (qX3_has l E s6 r9 r11 _ e15) myX3_has (shp_lt (gX3_has e15) (by decide)) (gX3_has e15) rfl (by decide) lkX4_85 ⟨Nat.le_of_ble_eq_true rfl, Nat.le_of_ble_eq_true rfl⟩ ⟨Nat.le_of_ble_eq_true rfl, Nat.le_of_ble_eq_true rfl⟩ [] rfl (Nat.le_of_ble_eq_true rfl) dX4_contains_23 rfl (fun H locs hM => ?_)
    refine r_if_eq (np := 29) (tgt := 33) G rfl dX4_contains_26 (by decide) rfl (fun h16 => ?_) (fun h16 => ?_)
    · have hm := b_t h16 hm
      refine r_iconst (np := 34) G 0 dX4_contains_33 rfl ?_
      exact r_zret G hr hk hM (Or.inl rfl) hm dX4_contains_34
    · have hm := b_f h16 hm
      refine r_iconst (np := 30) G 1 dX4_contains_29 rfl ?_
      refine r_goto (np := 34) G dX4_contains_30 (by decide) ?_
      exact r_zret G hr hk hM (Or.inr rfl) hm dX4_contains_34
theorem gX4_contains {v0 : Nat} {v1 : Nat} {σ : mSt} {out : Int × mSt} (hm : mX4_contains v0 v1 σ = some out) : isC v0 4 := (g_t hm).1
set_option maxRecDepth 100000 in
set_option maxHeartbeats 4000000 in
theorem wX4_takesRight_B69 (l : Launch) (E : mE) (out : Int × mSt) {p : Program} {e : Env} {s : State} {m : MethodId} {args : Array Value} {below : List Frame} {meth : Method} {c : Code} (G : CallFix p m c cX4_takesRight 4 s args mTs RX4) (hr : meth.sig.returnType = (some .boolean)) (hk : meth.locks = false) (v0 : Nat) (v1 : Nat) (g0 : isC v0 4) : ∀ (v2 : Int) (σ : mSt) (H : Heap) (locs : List Loc) (ls : Array Slot), mX4_takesRight_B69 v0 v1 v2 σ = some out → mM (mA E 276) E 276 σ s H locs → lv_has ls 4 [(2, vI v2)] → mGo l p e 5 125 s m args below meth c E (some (vI out.1)) out.2 H locs (F0 m 69 ls []) := by
  intro v2 σ H locs ls hm hM hl
  unfold mX4_takesRight_B69 at hm
  refine r_iload_n (np := 70) G hl 0 rfl dX4_takesRight_69 rfl rfl ?_
  obtain ⟨g1, hm⟩ := g_t hm
  exact r_zret G hr hk hM g1 hm dX4_takesRight_70
set_option maxRecDepth 100000 in
set_option maxHeartbeats 4000000 in
theorem wX4_takesRight_L4 (l : Launch) (E : mE) (out : Int × mSt) {p : Program} {e : Env} {s : State} {m : MethodId} {args : Array Value} {below : List Frame} {meth : Method} {c : Code} (G : CallFix p m c cX4_takesRight 4 s args mTs RX4) (hr : meth.sig.returnType = (some .boolean)) (hk : meth.locks = false) (v0 : Nat) (v1 : Nat) (g0 : isC v0 4) (x69 : Int → mSt → Option (Int × mSt)) (hx69 : ∀ (v2 : Int) (σ : mSt) (H : Heap) (locs : List Loc) (ls : Array Slot), x69 v2 σ = some out → mM (mA E 276) E 276 σ s H locs → lv_has ls 4 [(2, vI v2)] → mGo l p e 5 125 s m args below meth c E (some (vI out.1)) out.2 H locs (F0 m 69 ls [])) : ∀ (n : Nat) (v2 : Int) (v3 : Int) (σ : mSt) (H : Heap) (locs : List Loc) (ls : Array Slot), mX4_takesRight_L4 v0 v1 x69 n v2 v3 σ = some out → mM (mA E 276) E 276 σ s H locs → lv_has ls 4 [(0, .ref (eA E v0)), (1, .ref (eA E v1)), (2, vI v2), (3, vI v3)] → mGo l p e 5 125 s m args below meth c E (some (vI out.1)) out.2 H locs (F0 m 4 ls []) := by
  intro n
  induction n with
  | zero =>
    intro v2 v3 σ H locs ls hm hM hl
    exact absurd hm (by rw [mX4_takesRight_L4.eq_1]; exact fun h => nomatch h)
  | succ n ih =>
    intro v2 v3 σ H locs ls hm hM hl
    rw [mX4_takesRight_L4.eq_2] at hm
    refine r_iload_n (np := 5) G hl 3 rfl dX4_takesRight_4 rfl rfl ?_
    refine r_iconst (np := 6) G 4 dX4_takesRight_5 rfl ?_
    refine r_icmp_ge (np := 9) (tgt := 69) G rfl (wIk 4 rfl) dX4_takesRight_6 (by decide) rfl (fun h2 => ?_) (fun h2 => ?_)
    · have hm := b_t h2 hm
      exact hx69 v2 _ _ _ _ hm hM (lv_sub hl [2] rfl)
    · have hm := b_f h2 hm
      refine r_iload_n (np := 10) G hl 2 rfl dX4_takesRight_9 rfl rfl ?_
      refine r_if_eq (np := 13) (tgt := 69) G rfl dX4_takesRight_10 (by decide) rfl (fun h3 => ?_) (fun h3 => ?_)
      · have hm := b_t h3 hm
        exact hx69 v2 _ _ _ _ hm hM (lv_sub hl [2] rfl)
      · have hm := b_f h3 hm
        refine r_aload_n (np := 14) G hl 0 rfl dX4_takesRight_13 rfl rfl ?_
        obtain ⟨r4, e5, hm⟩ := ref_t hm
        refine r_getR (np := 17) G hM (shp_lt g0 (by decide)) g0 e5 fdX4_0 lkX4_10 dX4_takesRight_14 rfl ?_
        refine r_aload_n (np := 18) G hl 1 rfl dX4_takesRight_17 rfl rfl ?_
        obtain ⟨g6, hm⟩ := g_t hm
        obtain ⟨r7, e8, hm⟩ := ref_t hm
        refine r_getRN (np := 21) G hM (shp_lt g6 (by decide)) g6 e8 fdX1_0 lkX4_34 dX4_takesRight_18 rfl ?_
        refine r_aload_n (np := 22) G hl 0 rfl dX4_takesRight_21 rfl rfl ?_
        obtain ⟨r9, e10, hm⟩ := ref_t hm
        refine r_getR (np := 25) G hM (shp_lt g0 (by decide)) g0 e10 fdX4_0 lkX4_10 dX4_takesRight_22 rfl ?_
        refine r_iload_n (np := 26) G hl 3 rfl dX4_takesRight_25 rfl rfl ?_
        obtain ⟨b11, s12, e13, hm⟩ := call_t hm
        refine m_callVR (np := 29) G hM hl.1 [vI v3] (qX6_numbersOf l E σ r9 v3 _ e13) myX6_numbersOf (shp_lt (gX6_numbersOf e13) (by decide)) (gX6_numbersOf e13) rfl (by decide) lkX4_62 ⟨Nat.le_of_ble_eq_true rfl, Nat.le_of_ble_eq_true rfl⟩ ⟨Nat.le_of_ble_eq_true rfl, Nat.le_of_ble_eq_true rfl⟩ [.ref (eA E r7), .ref (eA E r4)] rfl (Nat.le_of_ble_eq_true rfl) dX4_takesRight_26 rfl (fun H locs hM => ?_)
        refine r_aload_n (np := 30) G hl 1 rfl dX4_takesRight_29 rfl rfl ?_
        refine r_getLN (np := 33) G hM (shp_lt g6 (by decide)) g6 fdX1_1 lkX4_43 dX4_takesRight_30 rfl ?_
        refine r_aload_n (np := 34) G hl 0 rfl dX4_takesRight_33 rfl rfl ?_
        obtain ⟨r14, e15, hm⟩ := ref_t hm
        refine r_getR (np := 37) G hM (shp_lt g0 (by decide)) g0 e15 fdX4_2 lkX4_23 dX4_takesRight_34 rfl ?_
        obtain ⟨b16, s17, e18, hm⟩ := call_t hm
        refine m_callVI (np := 40) G hM hl.1 [.ref (eA E r7), .ref (eA E b11.toNat), vL (s12 v1 1), .ref (eA E r14)] (qX6_expressProduct l E s12 r4 r7 b11.toNat (s12 v1 1) r14 _ e18) myX6_expressProduct (shp_lt (gX6_expressProduct e18) (by decide)) (gX6_expressProduct e18) rfl (by decide) lkX4_66 ⟨Nat.le_of_ble_eq_true rfl, Nat.le_of_ble_eq_true rfl⟩ ⟨Nat.le_of_ble_eq_true rfl, Nat.le_of_ble_eq_true rfl⟩ [] rfl (Nat.le_of_ble_eq_true rfl) dX4_takesRight_37 rfl (fun H locs hM => ?_)
        refine r_if_eq (np := 43) (tgt := 61) G rfl dX4_takesRight_40 (by decide) rfl (fun h19 => ?_) (fun h19 => ?_)
        · have hm := b_t h19 hm
          refine r_iconst (np := 62) G 0 dX4_takesRight_61 rfl ?_
          refine r_istore_n (np := 63) G hl rfl [(2, vI 0), (0, .ref (eA E v0)), (1, .ref (eA E v1)), (3, vI v3)] dX4_takesRight_62 rfl rfl (by decide) rfl (fun ls hl => ?_)
          obtain ⟨a20, e21, hm⟩ := bnd_t hm
          refine r_iinc (np := 66) G hl 3 rfl e21 [(3, vI a20), (2, vI 0), (0, .ref (eA E v0)), (1, .ref (eA E v1))] dX4_takesRight_63 rfl (by decide) rfl (fun ls hl => ?_)
          refine r_goto (np := 4) G dX4_takesRight_66 (by decide) ?_
          exact ih 0 a20 _ _ _ _ hm hM (lv_sub hl [2, 3, 1, 0] rfl)
        · have hm := b_f h19 hm
          refine r_aload_n (np := 44) G hl 0 rfl dX4_takesRight_43 rfl rfl ?_
          obtain ⟨r22, e23, hm⟩ := ref_t hm
          refine r_getR (np := 47) G hM (shp_lt g0 (by decide)) g0 e23 fdX4_1 lkX4_19 dX4_takesRight_44 rfl ?_
          refine r_aload_n (np := 48) G hl 0 rfl dX4_takesRight_47 rfl rfl ?_
          obtain ⟨r24, e25, hm⟩ := ref_t hm
          refine r_getR (np := 51) G hM (shp_lt g0 (by decide)) g0 e25 fdX4_2 lkX4_23 dX4_takesRight_48 rfl ?_
          obtain ⟨b26, s27, e28, hm⟩ := call_t hm
          refine m_callVI (np := 54) G hM hl.1 [.ref (eA E r24)] (qX3_has l E s17 r22 r24 _ e28) myX3_has (shp_lt (gX3_has e28) (by decide)) (gX3_has e28) rfl (by decide) lkX4_85 ⟨Nat.le_of_ble_eq_true rfl, Nat.le_of_ble_eq_true rfl⟩ ⟨Nat.le_of_ble_eq_true rfl, Nat.le_of_ble_eq_true rfl⟩ [] rfl (Nat.le_of_ble_eq_true rfl) dX4_takesRight_51 rfl (fun H locs hM => ?_)
          refine r_if_eq (np := 57) (tgt := 61) G rfl dX4_takesRight_54 (by decide) rfl (fun h29 => ?_) (fun h29 => ?_)
          · have hm := b_t h29 hm
            refine r_iconst (np := 62) G 0 dX4_takesRight_61 rfl ?_
            refine r_istore_n (np := 63) G hl rfl [(2, vI 0), (0, .ref (eA E v0)), (1, .ref (eA E v1)), (3, vI v3)] dX4_takesRight_62 rfl rfl (by decide) rfl (fun ls hl => ?_)
            obtain ⟨a30, e31, hm⟩ := bnd_t hm
            refine r_iinc (np := 66) G hl 3 rfl e31 [(3, vI a30), (2, vI 0), (0, .ref (eA E v0)), (1, .ref (eA E v1))] dX4_takesRight_63 rfl (by decide) rfl (fun ls hl => ?_)
            refine r_goto (np := 4) G dX4_takesRight_66 (by decide) ?_
            exact ih 0 a30 _ _ _ _ hm hM (lv_sub hl [2, 3, 1, 0] rfl)
          · have hm := b_f h29 hm
            refine r_iconst (np := 58) G 1 dX4_takesRight_57 rfl ?_
            refine r_goto (np := 62) G dX4_takesRight_58 (by decide) ?_
            refine r_istore_n (np := 63) G hl rfl [(2, vI 1), (0, .ref (eA E v0)), (1, .ref (eA E v1)), (3, vI v3)] dX4_takesRight_62 rfl rfl (by decide) rfl (fun ls hl => ?_)
            obtain ⟨a32, e33, hm⟩ := bnd_t hm
            refine r_iinc (np := 66) G hl 3 rfl e33 [(3, vI a32), (2, vI 1), (0, .ref (eA E v0)), (1, .ref (eA E v1))] dX4_takesRight_63 rfl (by decide) rfl (fun ls hl => ?_)
            refine r_goto (np := 4) G dX4_takesRight_66 (by decide) ?_
            exact ih 1 a32 _ _ _ _ hm hM (lv_sub hl [2, 3, 1, 0] rfl)
set_option maxRecDepth 100000 in
set_option maxHeartbeats 4000000 in
theorem qX4_takesRight (l : Launch) (E : mE) (σ : mSt) (v0 : Nat) (v1 : Nat) (out : Int × mSt) (hm : mX4_takesRight v0 v1 σ = some out) : mMet l yX4_takesRight cX4_takesRight 4 (some .boolean) 5 125 E 276 [.ref (eA E v0), .ref (eA E v1)] σ (some (vI out.1)) out.2 := by
  unfold mX4_takesRight at hm
  obtain ⟨g0, hm⟩ := g_t hm
  refine m_entry (by decide +kernel) (Nat.le_of_ble_eq_true rfl) (fun p e s m args below meth c G hr hk hM ls hl => ?_)
  have G : CallFix p m c cX4_takesRight 4 s args mTs RX4 := G
  have hl : lv_has ls 4 [(0, .ref (eA E v0)), (1, .ref (eA E v1))] := hl
  refine r_iconst (np := 1) G 1 dX4_takesRight_0 rfl ?_
  refine r_istore_n (np := 2) G hl rfl [(2, vI 1), (0, .ref (eA E v0)), (1, .ref (eA E v1))] dX4_takesRight_1 rfl rfl (by decide) rfl (fun ls hl => ?_)
  refine r_iconst (np := 3) G 0 dX4_takesRight_2 rfl ?_
  refine r_istore_n (np := 4) G hl rfl [(3, vI 0), (2, vI 1), (0, .ref (eA E v0)), (1, .ref (eA E v1))] dX4_takesRight_3 rfl rfl (by decide) rfl (fun ls hl => ?_)
  exact wX4_takesRight_L4 l E out G hr hk v0 v1 g0 (fun z2 zσ => mX4_takesRight_B69 v0 v1 z2 zσ) (fun z2 zσ zH zl zs zm zM zv => wX4_takesRight_B69 l E out G hr hk v0 v1 g0 z2 zσ zH zl zs zm zM zv) mF 1 0 _ _ _ _ hm hM (lv_sub hl [2, 3, 1, 0] rfl)
theorem gX4_takesRight {v0 : Nat} {v1 : Nat} {σ : mSt} {out : Int × mSt} (hm : mX4_takesRight v0 v1 σ = some out) : isC v0 4 := (g_t hm).1
set_option maxRecDepth 100000 in
set_option maxHeartbeats 4000000 in
theorem qX6_begin (l : Launch) (E : mE) (σ : mSt) (v0 : Nat) (v1 : Int) (v3 : Int) (out : Int × mSt) (hm : mX6_begin v0 v1 v3 σ = some out) : mMet l yX6_begin cX6_begin 5 none 1 24 E 276 [.ref (eA E v0), vL v1, vL v3] σ none out.2 := by
  unfold mX6_begin at hm
  obtain ⟨g0, hm⟩ := g_t hm
  refine m_entry (by decide +kernel) (Nat.le_of_ble_eq_true rfl) (fun p e s m args below meth c G hr hk hM ls hl => ?_)
  have G : CallFix p m c cX6_begin 5 s args mTs RX6 := G
  have hl : lv_has ls 5 [(0, .ref (eA E v0)), (1, vL v1), (3, vL v3)] := hl
  refine r_aload_n (np := 1) G hl 0 rfl dX6_begin_0 rfl rfl ?_
  refine r_lload_n (np := 2) G hl 1 rfl dX6_begin_1 rfl rfl ?_
  obtain ⟨s1, e2, hm⟩ := bnd_t hm
  refine r_putL (np := 5) G hM (shp_lt g0 (by decide)) g0 ptX6_0 rfl lkX6_7 s1 e2 dX6_begin_2 rfl (fun H locs hM => ?_)
  refine r_aload_n (np := 6) G hl 0 rfl dX6_begin_5 rfl rfl ?_
  refine r_lload_n (np := 7) G hl 2 rfl dX6_begin_6 rfl rfl ?_
  obtain ⟨s3, e4, hm⟩ := bnd_t hm
  refine r_putL (np := 10) G hM (shp_lt g0 (by decide)) g0 ptX6_1 rfl lkX6_13 s3 e4 dX6_begin_7 rfl (fun H locs hM => ?_)
  refine r_aload_n (np := 11) G hl 0 rfl dX6_begin_10 rfl rfl ?_
  obtain ⟨r5, e6, hm⟩ := ref_t hm
  refine r_getR (np := 14) G hM (shp_lt g0 (by decide)) g0 e6 fdX6_2 lkX6_19 dX6_begin_11 rfl ?_
  refine r_lconst (np := 15) G 1 dX6_begin_14 rfl rfl ?_
  obtain ⟨b7, s8, e9, hm⟩ := call_t hm
  refine m_callVV (np := 18) G hM hl.1 [vL 1] (qX3_begin l E s3 r5 1 _ e9) myX3_begin (shp_lt (gX3_begin e9) (by decide)) (gX3_begin e9) rfl (by decide) lkX6_27 ⟨Nat.le_of_ble_eq_true rfl, Nat.le_of_ble_eq_true rfl⟩ ⟨Nat.le_of_ble_eq_true rfl, Nat.le_of_ble_eq_true rfl⟩ [] rfl (Nat.le_of_ble_eq_true rfl) dX6_begin_15 rfl (fun H locs hM => ?_)
  exact r_vret G hr hk hM hm dX6_begin_18
theorem gX6_begin {v0 : Nat} {v1 : Int} {v3 : Int} {σ : mSt} {out : Int × mSt} (hm : mX6_begin v0 v1 v3 σ = some out) : isC v0 5 := (g_t hm).1
set_option maxRecDepth 100000 in
set_option maxHeartbeats 4000000 in
theorem qX6_leastFrom (l : Launch) (E : mE) (σ : mSt) (v0 : Nat) (v1 : Int) (v3 : Int) (v5 : Int) (out : Int × mSt) (hm : mX6_leastFrom v0 v1 v3 v5 σ = some out) : mMet l yX6_leastFrom cX6_leastFrom 7 (some .long) 2 48 E 276 [.ref (eA E v0), vL v1, vL v3, vL v5] σ (some (vL out.1)) out.2 := by
  unfold mX6_leastFrom at hm
  obtain ⟨g0, hm⟩ := g_t hm
  refine m_entry (by decide +kernel) (Nat.le_of_ble_eq_true rfl) (fun p e s m args below meth c G hr hk hM ls hl => ?_)
  have G : CallFix p m c cX6_leastFrom 7 s args mTs RX6 := G
  have hl : lv_has ls 7 [(0, .ref (eA E v0)), (1, vL v1), (3, vL v3), (5, vL v5)] := hl
  refine r_lload_n (np := 1) G hl 1 rfl dX6_leastFrom_0 rfl rfl ?_
  refine r_lload_n (np := 2) G hl 2 rfl dX6_leastFrom_1 rfl rfl ?_
  refine r_lload_n (np := 3) G hl 1 rfl dX6_leastFrom_2 rfl rfl ?_
  refine r_lsub (np := 4) G dX6_leastFrom_3 rfl ?_
  refine r_lload (np := 6) G hl 3 rfl dX6_leastFrom_4 rfl ?_
  obtain ⟨b1, s2, e3, hm⟩ := call_t hm
  refine m_callSL (np := 9) G hM hl.1 [vL (v3 - v1), vL v5] (qX5_rest l E σ (v3 - v1) v5 _ e3) myX5_rest lkX6_106 ⟨Nat.le_of_ble_eq_true rfl, Nat.le_of_ble_eq_true rfl⟩ ⟨Nat.le_of_ble_eq_true rfl, Nat.le_of_ble_eq_true rfl⟩ [vL v1] rfl (Nat.le_of_ble_eq_true rfl) dX6_leastFrom_6 rfl (fun H locs hM => ?_)
  refine r_ladd (np := 10) G dX6_leastFrom_9 rfl ?_
  exact r_lret G hr hk hM hm dX6_leastFrom_10
theorem gX6_leastFrom {v0 : Nat} {v1 : Int} {v3 : Int} {v5 : Int} {σ : mSt} {out : Int × mSt} (hm : mX6_leastFrom v0 v1 v3 v5 σ = some out) : isC v0 5 := (g_t hm).1
set_option maxRecDepth 100000 in
set_option maxHeartbeats 4000000 in
theorem wX6_countFourth_B79 (l : Launch) (E : mE) (out : Int × mSt) {p : Program} {e : Env} {s : State} {m : MethodId} {args : Array Value} {below : List Frame} {meth : Method} {c : Code} (G : CallFix p m c cX6_countFourth 12 s args mTs RX6) (hr : meth.sig.returnType = (some .int)) (hk : meth.locks = false) (v0 : Nat) (v1 : Int) (v3 : Int) (g0 : isC v0 5) : ∀ (v7 : Int) (v9 : Int) (t0 : Int) (σ : mSt) (H : Heap) (locs : List Loc) (ls : Array Slot), mX6_countFourth_B79 v0 v1 v3 v7 v9 t0 σ = some out → mM (mA E 276) E 276 σ s H locs → lv_has ls 12 [(3, vL v3), (7, vL v7), (9, vL v9)] → mGo l p e 2 48 s m args below meth c E (some (vI out.1)) out.2 H locs (F0 m 79 ls [vI t0]) := by
  intro v7 v9 t0 σ H locs ls hm hM hl
  unfold mX6_countFourth_B79 at hm
  refine r_istore (np := 81) G hl rfl [(11, vI t0), (3, vL v3), (7, vL v7), (9, vL v9)] dX6_countFourth_79 rfl (by decide) rfl (fun ls hl => ?_)
  refine r_lload (np := 83) G hl 2 rfl dX6_countFourth_81 rfl ?_
  refine r_lconst (np := 84) G 0 dX6_countFourth_83 rfl rfl ?_
  refine r_lcmp_eq (np := 88) (tgt := 108) G rfl (wLk 0 rfl) dX6_countFourth_84 dX6_countFourth_85 (by decide) rfl (fun h1 => ?_) (fun h1 => ?_)
  · have hm := b_t h1 hm
    refine r_iload (np := 110) G hl 0 rfl dX6_countFourth_108 rfl ?_
    exact r_iret G hr hk hM hm dX6_countFourth_110
  · have hm := b_f h1 hm
    refine r_lload (np := 90) G hl 3 rfl dX6_countFourth_88 rfl ?_
    refine r_lload (np := 92) G hl 2 rfl dX6_countFourth_90 rfl ?_
    refine r_lneg (np := 93) G dX6_countFourth_92 rfl ?_
    refine r_lload_n (np := 94) G hl 1 rfl dX6_countFourth_93 rfl rfl ?_
    refine r_lsub (np := 95) G dX6_countFourth_94 rfl ?_
    obtain ⟨b2, s3, e4, hm⟩ := call_t hm
    refine m_callSI (np := 98) G hM hl.1 [vL v9, vL ((-v7) - v3)] (qX5_divides l E σ v9 ((-v7) - v3) _ e4) myX5_divides lkX6_54 ⟨Nat.le_of_ble_eq_true rfl, Nat.le_of_ble_eq_true rfl⟩ ⟨Nat.le_of_ble_eq_true rfl, Nat.le_of_ble_eq_true rfl⟩ [] rfl (Nat.le_of_ble_eq_true rfl) dX6_countFourth_95 rfl (fun H locs hM => ?_)
    refine r_if_eq (np := 101) (tgt := 108) G rfl dX6_countFourth_98 (by decide) rfl (fun h5 => ?_) (fun h5 => ?_)
    · have hm := b_t h5 hm
      refine r_iload (np := 110) G hl 0 rfl dX6_countFourth_108 rfl ?_
      exact r_iret G hr hk hM hm dX6_countFourth_110
    · have hm := b_f h5 hm
      refine r_iload (np := 103) G hl 0 rfl dX6_countFourth_101 rfl ?_
      refine r_iconst (np := 104) G 1 dX6_countFourth_103 rfl ?_
      refine r_iadd (np := 105) G dX6_countFourth_104 rfl ?_
      refine r_goto (np := 110) G dX6_countFourth_105 (by decide) ?_
      exact r_iret G hr hk hM hm dX6_countFourth_110
set_option maxRecDepth 100000 in
set_option maxHeartbeats 4000000 in
theorem qX6_countFourth (l : Launch) (E : mE) (σ : mSt) (v0 : Nat) (v1 : Int) (v3 : Int) (out : Int × mSt) (hm : mX6_countFourth v0 v1 v3 σ = some out) : mMet l yX6_countFourth cX6_countFourth 12 (some .int) 2 48 E 276 [.ref (eA E v0), vL v1, vL v3] σ (some (vI out.1)) out.2 := by
  unfold mX6_countFourth at hm
  obtain ⟨g0, hm⟩ := g_t hm
  refine m_entry (by decide +kernel) (Nat.le_of_ble_eq_true rfl) (fun p e s m args below meth c G hr hk hM ls hl => ?_)
  have G : CallFix p m c cX6_countFourth 12 s args mTs RX6 := G
  have hl : lv_has ls 12 [(0, .ref (eA E v0)), (1, vL v1), (3, vL v3)] := hl
  refine r_aload_n (np := 1) G hl 0 rfl dX6_countFourth_0 rfl rfl ?_
  refine r_getL (np := 4) G hM (shp_lt g0 (by decide)) g0 fdX6_0 lkX6_7 dX6_countFourth_1 rfl ?_
  refine r_aload_n (np := 5) G hl 0 rfl dX6_countFourth_4 rfl rfl ?_
  refine r_getL (np := 8) G hM (shp_lt g0 (by decide)) g0 fdX6_1 lkX6_13 dX6_countFourth_5 rfl ?_
  refine r_lmul (np := 9) G dX6_countFourth_8 rfl ?_
  refine r_lload_n (np := 10) G hl 1 rfl dX6_countFourth_9 rfl rfl ?_
  obtain ⟨b6, s7, e8, hm⟩ := call_t hm
  refine m_callSI (np := 13) G hM hl.1 [vL ((σ v0 0) * (σ v0 1)), vL v1] (qX5_divides l E σ ((σ v0 0) * (σ v0 1)) v1 _ e8) myX5_divides lkX6_54 ⟨Nat.le_of_ble_eq_true rfl, Nat.le_of_ble_eq_true rfl⟩ ⟨Nat.le_of_ble_eq_true rfl, Nat.le_of_ble_eq_true rfl⟩ [] rfl (Nat.le_of_ble_eq_true rfl) dX6_countFourth_10 rfl (fun H locs hM => ?_)
  refine r_if_ne (np := 16) (tgt := 18) G rfl dX6_countFourth_13 (by decide) rfl (fun h9 => ?_) (fun h9 => ?_)
  · have hm := b_f h9 hm
    refine r_lload_n (np := 19) G hl 1 rfl dX6_countFourth_18 rfl rfl ?_
    refine r_aload_n (np := 20) G hl 0 rfl dX6_countFourth_19 rfl rfl ?_
    refine r_getL (np := 23) G hM (shp_lt g0 (by decide)) g0 fdX6_0 lkX6_7 dX6_countFourth_20 rfl ?_
    refine r_aload_n (np := 24) G hl 0 rfl dX6_countFourth_23 rfl rfl ?_
    refine r_getL (np := 27) G hM (shp_lt g0 (by decide)) g0 fdX6_1 lkX6_13 dX6_countFourth_24 rfl ?_
    refine r_lmul (np := 28) G dX6_countFourth_27 rfl ?_
    obtain ⟨b10, s11, e12, hm⟩ := call_t hm
    refine m_callSL (np := 31) G hM hl.1 [vL v1, vL ((s7 v0 0) * (s7 v0 1))] (qX5_quotient l E s7 v1 ((s7 v0 0) * (s7 v0 1)) _ e12) myX5_quotient lkX6_60 ⟨Nat.le_of_ble_eq_true rfl, Nat.le_of_ble_eq_true rfl⟩ ⟨Nat.le_of_ble_eq_true rfl, Nat.le_of_ble_eq_true rfl⟩ [] rfl (Nat.le_of_ble_eq_true rfl) dX6_countFourth_28 rfl (fun H locs hM => ?_)
    refine r_lstore (np := 33) G hl rfl [(5, vL b10), (0, .ref (eA E v0)), (1, vL v1), (3, vL v3)] dX6_countFourth_31 rfl (by decide) rfl (fun ls hl => ?_)
    refine r_lload (np := 35) G hl 0 rfl dX6_countFourth_33 rfl ?_
    obtain ⟨b13, s14, e15, hm⟩ := call_t hm
    refine m_callSL (np := 38) G hM hl.1 [vL b10] (qX5_root l E s11 b10 _ e15) myX5_root lkX6_87 ⟨Nat.le_of_ble_eq_true rfl, Nat.le_of_ble_eq_true rfl⟩ ⟨Nat.le_of_ble_eq_true rfl, Nat.le_of_ble_eq_true rfl⟩ [] rfl (Nat.le_of_ble_eq_true rfl) dX6_countFourth_35 rfl (fun H locs hM => ?_)
    refine r_lstore (np := 40) G hl rfl [(7, vL b13), (5, vL b10), (0, .ref (eA E v0)), (1, vL v1), (3, vL v3)] dX6_countFourth_38 rfl (by decide) rfl (fun ls hl => ?_)
    refine r_lload (np := 42) G hl 0 rfl dX6_countFourth_40 rfl ?_
    refine r_lload (np := 44) G hl 0 rfl dX6_countFourth_42 rfl ?_
    refine r_lmul (np := 45) G dX6_countFourth_44 rfl ?_
    refine r_lload (np := 47) G hl 1 rfl dX6_countFourth_45 rfl ?_
    refine r_lcmp_eq (np := 51) (tgt := 53) G rfl rfl dX6_countFourth_47 dX6_countFourth_48 (by decide) rfl (fun h16 => ?_) (fun h16 => ?_)
    · have hm := b_t h16 hm
      refine r_aload_n (np := 54) G hl 2 rfl dX6_countFourth_53 rfl rfl ?_
      refine r_iconst (np := 55) G 3 dX6_countFourth_54 rfl ?_
      obtain ⟨b17, s18, e19, hm⟩ := call_t hm
      refine m_callVR (np := 58) G hM hl.1 [vI 3] (qX6_numbersOf l E s14 v0 3 _ e19) myX6_numbersOf (shp_lt (gX6_numbersOf e19) (by decide)) (gX6_numbersOf e19) rfl (by decide) lkX6_86 ⟨Nat.le_of_ble_eq_true rfl, Nat.le_of_ble_eq_true rfl⟩ ⟨Nat.le_of_ble_eq_true rfl, Nat.le_of_ble_eq_true rfl⟩ [] rfl (Nat.le_of_ble_eq_true rfl) dX6_countFourth_55 rfl (fun H locs hM => ?_)
      refine r_iconst (np := 59) G 3 dX6_countFourth_58 rfl ?_
      obtain ⟨g20, hm⟩ := g_t hm
      refine r_laload (np := 60) G hM g20 rfl dX6_countFourth_59 rfl ?_
      obtain ⟨a21, e22, hm⟩ := bnd_t hm
      refine r_lstore (np := 62) G hl e22 [(9, vL a21), (7, vL b13), (5, vL b10), (0, .ref (eA E v0)), (1, vL v1), (3, vL v3)] dX6_countFourth_60 rfl (by decide) rfl (fun ls hl => ?_)
      refine r_lload (np := 64) G hl 0 rfl dX6_countFourth_62 rfl ?_
      refine r_lload (np := 66) G hl 1 rfl dX6_countFourth_64 rfl ?_
      refine r_lload_n (np := 67) G hl 5 rfl dX6_countFourth_66 rfl rfl ?_
      refine r_lsub (np := 68) G dX6_countFourth_67 rfl ?_
      obtain ⟨b23, s24, e25, hm⟩ := call_t hm
      refine m_callSI (np := 71) G hM hl.1 [vL a21, vL (b13 - v3)] (qX5_divides l E s18 a21 (b13 - v3) _ e25) myX5_divides lkX6_54 ⟨Nat.le_of_ble_eq_true rfl, Nat.le_of_ble_eq_true rfl⟩ ⟨Nat.le_of_ble_eq_true rfl, Nat.le_of_ble_eq_true rfl⟩ [] rfl (Nat.le_of_ble_eq_true rfl) dX6_countFourth_68 rfl (fun H locs hM => ?_)
      refine r_if_eq (np := 74) (tgt := 78) G rfl dX6_countFourth_71 (by decide) rfl (fun h26 => ?_) (fun h26 => ?_)
      · have hm := b_t h26 hm
        refine r_iconst (np := 79) G 0 dX6_countFourth_78 rfl ?_
        exact wX6_countFourth_B79 l E out G hr hk v0 v1 v3 g0 b13 a21 0 _ _ _ _ hm hM (lv_sub hl [5, 1, 0] rfl)
      · have hm := b_f h26 hm
        refine r_iconst (np := 75) G 1 dX6_countFourth_74 rfl ?_
        refine r_goto (np := 79) G dX6_countFourth_75 (by decide) ?_
        exact wX6_countFourth_B79 l E out G hr hk v0 v1 v3 g0 b13 a21 1 _ _ _ _ hm hM (lv_sub hl [5, 1, 0] rfl)
    · have hm := b_f h16 hm
      refine r_iconst (np := 52) G 0 dX6_countFourth_51 rfl ?_
      exact r_iret G hr hk hM hm dX6_countFourth_52
  · have hm := b_t h9 hm
    refine r_iconst (np := 17) G 0 dX6_countFourth_16 rfl ?_
    exact r_iret G hr hk hM hm dX6_countFourth_17
theorem gX6_countFourth {v0 : Nat} {v1 : Int} {v3 : Int} {σ : mSt} {out : Int × mSt} (hm : mX6_countFourth v0 v1 v3 σ = some out) : isC v0 5 := (g_t hm).1
set_option maxRecDepth 100000 in
set_option maxHeartbeats 4000000 in
theorem wX6_countThird_B108 (l : Launch) (E : mE) (out : Int × mSt) {p : Program} {e : Env} {s : State} {m : MethodId} {args : Array Value} {below : List Frame} {meth : Method} {c : Code} (G : CallFix p m c cX6_countThird 16 s args mTs RX6) (hr : meth.sig.returnType = (some .int)) (hk : meth.locks = false) (v0 : Nat) (v1 : Int) (v3 : Int) (v5 : Int) (g0 : isC v0 5) : ∀ (v7 : Int) (σ : mSt) (H : Heap) (locs : List Loc) (ls : Array Slot), mX6_countThird_B108 v0 v1 v3 v5 v7 σ = some out → mM (mA E 276) E 276 σ s H locs → lv_has ls 16 [(7, vI v7)] → mGo l p e 3 79 s m args below meth c E (some (vI out.1)) out.2 H locs (F0 m 108 ls []) := by
  intro v7 σ H locs ls hm hM hl
  unfold mX6_countThird_B108 at hm
  refine r_iload (np := 110) G hl 0 rfl dX6_countThird_108 rfl ?_
  exact r_iret G hr hk hM hm dX6_countThird_110
set_option maxRecDepth 100000 in
set_option maxHeartbeats 4000000 in
theorem wX6_countThird_L38 (l : Launch) (E : mE) (out : Int × mSt) {p : Program} {e : Env} {s : State} {m : MethodId} {args : Array Value} {below : List Frame} {meth : Method} {c : Code} (G : CallFix p m c cX6_countThird 16 s args mTs RX6) (hr : meth.sig.returnType = (some .int)) (hk : meth.locks = false) (v0 : Nat) (v1 : Int) (v3 : Int) (v5 : Int) (v8 : Int) (v10 : Int) (g0 : isC v0 5) (x108 : Int → mSt → Option (Int × mSt)) (hx108 : ∀ (v7 : Int) (σ : mSt) (H : Heap) (locs : List Loc) (ls : Array Slot), x108 v7 σ = some out → mM (mA E 276) E 276 σ s H locs → lv_has ls 16 [(7, vI v7)] → mGo l p e 3 79 s m args below meth c E (some (vI out.1)) out.2 H locs (F0 m 108 ls [])) : ∀ (n : Nat) (v7 : Int) (v12 : Int) (σ : mSt) (H : Heap) (locs : List Loc) (ls : Array Slot), mX6_countThird_L38 v0 v1 v3 v5 v8 v10 x108 n v7 v12 σ = some out → mM (mA E 276) E 276 σ s H locs → lv_has ls 16 [(0, .ref (eA E v0)), (1, vL v1), (3, vL v3), (5, vL v5), (7, vI v7), (8, vL v8), (10, vL v10), (12, vL v12)] → mGo l p e 3 79 s m args below meth c E (some (vI out.1)) out.2 H locs (F0 m 38 ls []) := by
  intro n
  induction n with
  | zero =>
    intro v7 v12 σ H locs ls hm hM hl
    exact absurd hm (by rw [mX6_countThird_L38.eq_1]; exact fun h => nomatch h)
  | succ n ih =>
    intro v7 v12 σ H locs ls hm hM hl
    rw [mX6_countThird_L38.eq_2] at hm
    refine r_lload (np := 40) G hl 7 rfl dX6_countThird_38 rfl ?_
    refine r_lload (np := 42) G hl 6 rfl dX6_countThird_40 rfl ?_
    refine r_lcmp_gt (np := 46) (tgt := 108) G rfl rfl dX6_countThird_42 dX6_countThird_43 (by decide) rfl (fun h1 => ?_) (fun h1 => ?_)
    · have hm := b_t h1 hm
      exact hx108 v7 _ _ _ _ hm hM (lv_sub hl [4] rfl)
    · have hm := b_f h1 hm
      refine r_lload (np := 48) G hl 5 rfl dX6_countThird_46 rfl ?_
      refine r_lconst (np := 49) G 0 dX6_countThird_48 rfl rfl ?_
      refine r_lcmp_le (np := 53) (tgt := 108) G rfl (wLk 0 rfl) dX6_countThird_49 dX6_countThird_50 (by decide) rfl (fun h2 => ?_) (fun h2 => ?_)
      · have hm := b_t h2 hm
        exact hx108 v7 _ _ _ _ hm hM (lv_sub hl [4] rfl)
      · have hm := b_f h2 hm
        refine r_lload (np := 55) G hl 7 rfl dX6_countThird_53 rfl ?_
        refine r_lload_n (np := 56) G hl 2 rfl dX6_countThird_55 rfl rfl ?_
        refine r_lsub (np := 57) G dX6_countThird_56 rfl ?_
        refine r_lload (np := 59) G hl 5 rfl dX6_countThird_57 rfl ?_
        obtain ⟨b3, s4, e5, hm⟩ := call_t hm
        refine m_callSL (np := 62) G hM hl.1 [vL (v12 - v3), vL v8] (qX5_quotient l E σ (v12 - v3) v8 _ e5) myX5_quotient lkX6_60 ⟨Nat.le_of_ble_eq_true rfl, Nat.le_of_ble_eq_true rfl⟩ ⟨Nat.le_of_ble_eq_true rfl, Nat.le_of_ble_eq_true rfl⟩ [] rfl (Nat.le_of_ble_eq_true rfl) dX6_countThird_59 rfl (fun H locs hM => ?_)
        refine r_lstore (np := 64) G hl rfl [(14, vL b3), (0, .ref (eA E v0)), (1, vL v1), (3, vL v3), (5, vL v5), (7, vI v7), (8, vL v8), (10, vL v10), (12, vL v12)] dX6_countThird_62 rfl (by decide) rfl (fun ls hl => ?_)
        refine r_iload (np := 66) G hl 5 rfl dX6_countThird_64 rfl ?_
        refine r_aload_n (np := 67) G hl 1 rfl dX6_countThird_66 rfl rfl ?_
        refine r_lload_n (np := 68) G hl 2 rfl dX6_countThird_67 rfl rfl ?_
        refine r_aload_n (np := 69) G hl 1 rfl dX6_countThird_68 rfl rfl ?_
        refine r_getL (np := 72) G hM (shp_lt g0 (by decide)) g0 fdX6_1 lkX6_13 dX6_countThird_69 rfl ?_
        refine r_lload (np := 74) G hl 8 rfl dX6_countThird_72 rfl ?_
        refine r_lmul (np := 75) G dX6_countThird_74 rfl ?_
        refine r_lload (np := 77) G hl 8 rfl dX6_countThird_75 rfl ?_
        refine r_lmul (np := 78) G dX6_countThird_77 rfl ?_
        refine r_ladd (np := 79) G dX6_countThird_78 rfl ?_
        refine r_lload (np := 81) G hl 4 rfl dX6_countThird_79 rfl ?_
        refine r_lload (np := 83) G hl 0 rfl dX6_countThird_81 rfl ?_
        refine r_aload_n (np := 84) G hl 1 rfl dX6_countThird_83 rfl rfl ?_
        refine r_iconst (np := 85) G 2 dX6_countThird_84 rfl ?_
        obtain ⟨b6, s7, e8, hm⟩ := call_t hm
        refine m_callVR (np := 88) G hM hl.1 [vI 2] (qX6_numbersOf l E s4 v0 2 _ e8) myX6_numbersOf (shp_lt (gX6_numbersOf e8) (by decide)) (gX6_numbersOf e8) rfl (by decide) lkX6_86 ⟨Nat.le_of_ble_eq_true rfl, Nat.le_of_ble_eq_true rfl⟩ ⟨Nat.le_of_ble_eq_true rfl, Nat.le_of_ble_eq_true rfl⟩ [vL b3, vL v5, vL (v1 + (((s4 v0 1) * v12) * v12)), .ref (eA E v0), vI v7] rfl (Nat.le_of_ble_eq_true rfl) dX6_countThird_85 rfl (fun H locs hM => ?_)
        refine r_iconst (np := 89) G 3 dX6_countThird_88 rfl ?_
        obtain ⟨g9, hm⟩ := g_t hm
        refine r_laload (np := 90) G hM g9 rfl dX6_countThird_89 rfl ?_
        refine r_lmul (np := 91) G dX6_countThird_90 rfl ?_
        refine r_ladd (np := 92) G dX6_countThird_91 rfl ?_
        obtain ⟨b10, s11, e12, hm⟩ := call_t hm
        refine m_callVI (np := 95) G hM hl.1 [vL (v1 + (((s4 v0 1) * v12) * v12)), vL (v5 + (b3 * (s7 b6.toNat 3)))] (qX6_countFourth l E s7 v0 (v1 + (((s4 v0 1) * v12) * v12)) (v5 + (b3 * (s7 b6.toNat 3))) _ e12) myX6_countFourth (shp_lt (gX6_countFourth e12) (by decide)) (gX6_countFourth e12) rfl (by decide) lkX6_102 ⟨Nat.le_of_ble_eq_true rfl, Nat.le_of_ble_eq_true rfl⟩ ⟨Nat.le_of_ble_eq_true rfl, Nat.le_of_ble_eq_true rfl⟩ [vI v7] rfl (Nat.le_of_ble_eq_true rfl) dX6_countThird_92 rfl (fun H locs hM => ?_)
        refine r_iadd (np := 96) G dX6_countThird_95 rfl ?_
        obtain ⟨a13, e14, hm⟩ := bnd_t hm
        refine r_istore (np := 98) G hl e14 [(7, vI a13), (14, vL b3), (0, .ref (eA E v0)), (1, vL v1), (3, vL v3), (5, vL v5), (8, vL v8), (10, vL v10), (12, vL v12)] dX6_countThird_96 rfl (by decide) rfl (fun ls hl => ?_)
        refine r_lload (np := 100) G hl 8 rfl dX6_countThird_98 rfl ?_
        refine r_lload (np := 102) G hl 6 rfl dX6_countThird_100 rfl ?_
        refine r_ladd (np := 103) G dX6_countThird_102 rfl ?_
        obtain ⟨a15, e16, hm⟩ := bnd_t hm
        refine r_lstore (np := 105) G hl e16 [(12, vL a15), (7, vI a13), (14, vL b3), (0, .ref (eA E v0)), (1, vL v1), (3, vL v3), (5, vL v5), (8, vL v8), (10, vL v10)] dX6_countThird_103 rfl (by decide) rfl (fun ls hl => ?_)
        refine r_goto (np := 38) G dX6_countThird_105 (by decide) ?_
        exact ih a13 a15 _ _ _ _ hm hM (lv_sub hl [3, 4, 5, 6, 1, 7, 8, 0] rfl)
set_option maxRecDepth 100000 in
set_option maxHeartbeats 4000000 in
theorem qX6_countThird (l : Launch) (E : mE) (σ : mSt) (v0 : Nat) (v1 : Int) (v3 : Int) (v5 : Int) (out : Int × mSt) (hm : mX6_countThird v0 v1 v3 v5 σ = some out) : mMet l yX6_countThird cX6_countThird 16 (some .int) 3 79 E 276 [.ref (eA E v0), vL v1, vL v3, vL v5] σ (some (vI out.1)) out.2 := by
  unfold mX6_countThird at hm
  obtain ⟨g0, hm⟩ := g_t hm
  refine m_entry (by decide +kernel) (Nat.le_of_ble_eq_true rfl) (fun p e s m args below meth c G hr hk hM ls hl => ?_)
  have G : CallFix p m c cX6_countThird 16 s args mTs RX6 := G
  have hl : lv_has ls 16 [(0, .ref (eA E v0)), (1, vL v1), (3, vL v3), (5, vL v5)] := hl
  refine r_iconst (np := 1) G 0 dX6_countThird_0 rfl ?_
  refine r_istore (np := 3) G hl rfl [(7, vI 0), (0, .ref (eA E v0)), (1, vL v1), (3, vL v3), (5, vL v5)] dX6_countThird_1 rfl (by decide) rfl (fun ls hl => ?_)
  refine r_aload_n (np := 4) G hl 1 rfl dX6_countThird_3 rfl rfl ?_
  refine r_iconst (np := 5) G 2 dX6_countThird_4 rfl ?_
  obtain ⟨b17, s18, e19, hm⟩ := call_t hm
  refine m_callVR (np := 8) G hM hl.1 [vI 2] (qX6_numbersOf l E σ v0 2 _ e19) myX6_numbersOf (shp_lt (gX6_numbersOf e19) (by decide)) (gX6_numbersOf e19) rfl (by decide) lkX6_86 ⟨Nat.le_of_ble_eq_true rfl, Nat.le_of_ble_eq_true rfl⟩ ⟨Nat.le_of_ble_eq_true rfl, Nat.le_of_ble_eq_true rfl⟩ [] rfl (Nat.le_of_ble_eq_true rfl) dX6_countThird_5 rfl (fun H locs hM => ?_)
  refine r_iconst (np := 9) G 2 dX6_countThird_8 rfl ?_
  obtain ⟨g20, hm⟩ := g_t hm
  refine r_laload (np := 10) G hM g20 rfl dX6_countThird_9 rfl ?_
  obtain ⟨a21, e22, hm⟩ := bnd_t hm
  refine r_lstore (np := 12) G hl e22 [(8, vL a21), (7, vI 0), (0, .ref (eA E v0)), (1, vL v1), (3, vL v3), (5, vL v5)] dX6_countThird_10 rfl (by decide) rfl (fun ls hl => ?_)
  refine r_lload_n (np := 13) G hl 3 rfl dX6_countThird_12 rfl rfl ?_
  refine r_aload_n (np := 14) G hl 2 rfl dX6_countThird_13 rfl rfl ?_
  refine r_getL (np := 17) G hM (shp_lt g0 (by decide)) g0 fdX6_1 lkX6_13 dX6_countThird_14 rfl ?_
  refine r_lneg (np := 18) G dX6_countThird_17 rfl ?_
  obtain ⟨b23, s24, e25, hm⟩ := call_t hm
  refine m_callSL (np := 21) G hM hl.1 [vL v1, vL (-(s18 v0 1))] (qX5_quotient l E s18 v1 (-(s18 v0 1)) _ e25) myX5_quotient lkX6_60 ⟨Nat.le_of_ble_eq_true rfl, Nat.le_of_ble_eq_true rfl⟩ ⟨Nat.le_of_ble_eq_true rfl, Nat.le_of_ble_eq_true rfl⟩ [] rfl (Nat.le_of_ble_eq_true rfl) dX6_countThird_18 rfl (fun H locs hM => ?_)
  obtain ⟨b26, s27, e28, hm⟩ := call_t hm
  refine m_callSL (np := 24) G hM hl.1 [vL b23] (qX5_root l E s24 b23 _ e28) myX5_root lkX6_87 ⟨Nat.le_of_ble_eq_true rfl, Nat.le_of_ble_eq_true rfl⟩ ⟨Nat.le_of_ble_eq_true rfl, Nat.le_of_ble_eq_true rfl⟩ [] rfl (Nat.le_of_ble_eq_true rfl) dX6_countThird_21 rfl (fun H locs hM => ?_)
  refine r_lstore (np := 26) G hl rfl [(10, vL b26), (8, vL a21), (7, vI 0), (0, .ref (eA E v0)), (1, vL v1), (3, vL v3), (5, vL v5)] dX6_countThird_24 rfl (by decide) rfl (fun ls hl => ?_)
  refine r_aload_n (np := 27) G hl 3 rfl dX6_countThird_26 rfl rfl ?_
  refine r_lload (np := 29) G hl 0 rfl dX6_countThird_27 rfl ?_
  refine r_lneg (np := 30) G dX6_countThird_29 rfl ?_
  refine r_lload_n (np := 31) G hl 5 rfl dX6_countThird_30 rfl rfl ?_
  refine r_lload (np := 33) G hl 1 rfl dX6_countThird_31 rfl ?_
  obtain ⟨b29, s30, e31, hm⟩ := call_t hm
  refine m_callVL (np := 36) G hM hl.1 [vL (-b26), vL v3, vL a21] (qX6_leastFrom l E s27 v0 (-b26) v3 a21 _ e31) myX6_leastFrom (shp_lt (gX6_leastFrom e31) (by decide)) (gX6_leastFrom e31) rfl (by decide) lkX6_94 ⟨Nat.le_of_ble_eq_true rfl, Nat.le_of_ble_eq_true rfl⟩ ⟨Nat.le_of_ble_eq_true rfl, Nat.le_of_ble_eq_true rfl⟩ [] rfl (Nat.le_of_ble_eq_true rfl) dX6_countThird_33 rfl (fun H locs hM => ?_)
  refine r_lstore (np := 38) G hl rfl [(12, vL b29), (10, vL b26), (8, vL a21), (7, vI 0), (0, .ref (eA E v0)), (1, vL v1), (3, vL v3), (5, vL v5)] dX6_countThird_36 rfl (by decide) rfl (fun ls hl => ?_)
  exact wX6_countThird_L38 l E out G hr hk v0 v1 v3 v5 a21 b26 g0 (fun z7 zσ => mX6_countThird_B108 v0 v1 v3 v5 z7 zσ) (fun z7 zσ zH zl zs zm zM zv => wX6_countThird_B108 l E out G hr hk v0 v1 v3 v5 g0 z7 zσ zH zl zs zm zM zv) mF 0 b29 _ _ _ _ hm hM (lv_sub hl [4, 5, 6, 7, 3, 2, 1, 0] rfl)
theorem gX6_countThird {v0 : Nat} {v1 : Int} {v3 : Int} {v5 : Int} {σ : mSt} {out : Int × mSt} (hm : mX6_countThird v0 v1 v3 v5 σ = some out) : isC v0 5 := (g_t hm).1
set_option maxRecDepth 100000 in
set_option maxHeartbeats 4000000 in
theorem wX6_countSecond_B144 (l : Launch) (E : mE) (out : Int × mSt) {p : Program} {e : Env} {s : State} {m : MethodId} {args : Array Value} {below : List Frame} {meth : Method} {c : Code} (G : CallFix p m c cX6_countSecond 16 s args mTs RX6) (hr : meth.sig.returnType = (some .int)) (hk : meth.locks = false) (v0 : Nat) (v1 : Int) (g0 : isC v0 5) : ∀ (v3 : Int) (σ : mSt) (H : Heap) (locs : List Loc) (ls : Array Slot), mX6_countSecond_B144 v0 v1 v3 σ = some out → mM (mA E 276) E 276 σ s H locs → lv_has ls 16 [(3, vI v3)] → mGo l p e 4 114 s m args below meth c E (some (vI out.1)) out.2 H locs (F0 m 144 ls []) := by
  intro v3 σ H locs ls hm hM hl
  unfold mX6_countSecond_B144 at hm
  refine r_iload_n (np := 145) G hl 0 rfl dX6_countSecond_144 rfl rfl ?_
  exact r_iret G hr hk hM hm dX6_countSecond_145
set_option maxRecDepth 100000 in
set_option maxHeartbeats 4000000 in
theorem wX6_countSecond_L42 (l : Launch) (E : mE) (out : Int × mSt) {p : Program} {e : Env} {s : State} {m : MethodId} {args : Array Value} {below : List Frame} {meth : Method} {c : Code} (G : CallFix p m c cX6_countSecond 16 s args mTs RX6) (hr : meth.sig.returnType = (some .int)) (hk : meth.locks = false) (v0 : Nat) (v1 : Int) (v4 : Int) (v6 : Int) (g0 : isC v0 5) (x144 : Int → mSt → Option (Int × mSt)) (hx144 : ∀ (v3 : Int) (σ : mSt) (H : Heap) (locs : List Loc) (ls : Array Slot), x144 v3 σ = some out → mM (mA E 276) E 276 σ s H locs → lv_has ls 16 [(3, vI v3)] → mGo l p e 4 114 s m args below meth c E (some (vI out.1)) out.2 H locs (F0 m 144 ls [])) : ∀ (n : Nat) (v3 : Int) (v8 : Int) (σ : mSt) (H : Heap) (locs : List Loc) (ls : Array Slot), mX6_countSecond_L42 v0 v1 v4 v6 x144 n v3 v8 σ = some out → mM (mA E 276) E 276 σ s H locs → lv_has ls 16 [(0, .ref (eA E v0)), (1, vL v1), (3, vI v3), (4, vL v4), (6, vL v6), (8, vL v8)] → mGo l p e 4 114 s m args below meth c E (some (vI out.1)) out.2 H locs (F0 m 42 ls []) := by
  intro n
  induction n with
  | zero =>
    intro v3 v8 σ H locs ls hm hM hl
    exact absurd hm (by rw [mX6_countSecond_L42.eq_1]; exact fun h => nomatch h)
  | succ n ih =>
    intro v3 v8 σ H locs ls hm hM hl
    rw [mX6_countSecond_L42.eq_2] at hm
    refine r_lload (np := 44) G hl 5 rfl dX6_countSecond_42 rfl ?_
    refine r_lload (np := 46) G hl 4 rfl dX6_countSecond_44 rfl ?_
    refine r_lcmp_gt (np := 50) (tgt := 144) G rfl rfl dX6_countSecond_46 dX6_countSecond_47 (by decide) rfl (fun h1 => ?_) (fun h1 => ?_)
    · have hm := b_t h1 hm
      exact hx144 v3 _ _ _ _ hm hM (lv_sub hl [2] rfl)
    · have hm := b_f h1 hm
      refine r_lload (np := 52) G hl 3 rfl dX6_countSecond_50 rfl ?_
      refine r_lconst (np := 53) G 0 dX6_countSecond_52 rfl rfl ?_
      refine r_lcmp_le (np := 57) (tgt := 144) G rfl (wLk 0 rfl) dX6_countSecond_53 dX6_countSecond_54 (by decide) rfl (fun h2 => ?_) (fun h2 => ?_)
      · have hm := b_t h2 hm
        exact hx144 v3 _ _ _ _ hm hM (lv_sub hl [2] rfl)
      · have hm := b_f h2 hm
        refine r_lload (np := 59) G hl 5 rfl dX6_countSecond_57 rfl ?_
        refine r_aload_n (np := 60) G hl 0 rfl dX6_countSecond_59 rfl rfl ?_
        obtain ⟨r3, e4, hm⟩ := ref_t hm
        refine r_getR (np := 63) G hM (shp_lt g0 (by decide)) g0 e4 fdX6_3 lkX6_23 dX6_countSecond_60 rfl ?_
        refine r_iconst (np := 64) G 1 dX6_countSecond_63 rfl ?_
        obtain ⟨g5, hm⟩ := g_t hm
        refine r_laload (np := 65) G hM g5 rfl dX6_countSecond_64 rfl ?_
        refine r_lsub (np := 66) G dX6_countSecond_65 rfl ?_
        refine r_lload (np := 68) G hl 3 rfl dX6_countSecond_66 rfl ?_
        obtain ⟨b6, s7, e8, hm⟩ := call_t hm
        refine m_callSL (np := 71) G hM hl.1 [vL (v8 - (σ r3 1)), vL v4] (qX5_quotient l E σ (v8 - (σ r3 1)) v4 _ e8) myX5_quotient lkX6_60 ⟨Nat.le_of_ble_eq_true rfl, Nat.le_of_ble_eq_true rfl⟩ ⟨Nat.le_of_ble_eq_true rfl, Nat.le_of_ble_eq_true rfl⟩ [] rfl (Nat.le_of_ble_eq_true rfl) dX6_countSecond_68 rfl (fun H locs hM => ?_)
        refine r_lstore (np := 73) G hl rfl [(10, vL b6), (0, .ref (eA E v0)), (1, vL v1), (3, vI v3), (4, vL v4), (6, vL v6), (8, vL v8)] dX6_countSecond_71 rfl (by decide) rfl (fun ls hl => ?_)
        refine r_aload_n (np := 74) G hl 1 rfl dX6_countSecond_73 rfl rfl ?_
        obtain ⟨r9, e10, hm⟩ := ref_t hm
        refine r_getR (np := 77) G hM (shp_lt g0 (by decide)) g0 e10 fdX6_3 lkX6_23 dX6_countSecond_74 rfl ?_
        refine r_iconst (np := 78) G 2 dX6_countSecond_77 rfl ?_
        obtain ⟨g11, hm⟩ := g_t hm
        refine r_laload (np := 79) G hM g11 rfl dX6_countSecond_78 rfl ?_
        refine r_lload (np := 81) G hl 0 rfl dX6_countSecond_79 rfl ?_
        refine r_aload_n (np := 82) G hl 1 rfl dX6_countSecond_81 rfl rfl ?_
        refine r_iconst (np := 83) G 1 dX6_countSecond_82 rfl ?_
        obtain ⟨b12, s13, e14, hm⟩ := call_t hm
        refine m_callVR (np := 86) G hM hl.1 [vI 1] (qX6_numbersOf l E s7 v0 1 _ e14) myX6_numbersOf (shp_lt (gX6_numbersOf e14) (by decide)) (gX6_numbersOf e14) rfl (by decide) lkX6_86 ⟨Nat.le_of_ble_eq_true rfl, Nat.le_of_ble_eq_true rfl⟩ ⟨Nat.le_of_ble_eq_true rfl, Nat.le_of_ble_eq_true rfl⟩ [vL b6, vL (s7 r9 2)] rfl (Nat.le_of_ble_eq_true rfl) dX6_countSecond_83 rfl (fun H locs hM => ?_)
        refine r_iconst (np := 87) G 2 dX6_countSecond_86 rfl ?_
        obtain ⟨g15, hm⟩ := g_t hm
        refine r_laload (np := 88) G hM g15 rfl dX6_countSecond_87 rfl ?_
        refine r_lmul (np := 89) G dX6_countSecond_88 rfl ?_
        refine r_ladd (np := 90) G dX6_countSecond_89 rfl ?_
        obtain ⟨a16, e17, hm⟩ := bnd_t hm
        refine r_lstore (np := 92) G hl e17 [(12, vL a16), (10, vL b6), (0, .ref (eA E v0)), (1, vL v1), (3, vI v3), (4, vL v4), (6, vL v6), (8, vL v8)] dX6_countSecond_90 rfl (by decide) rfl (fun ls hl => ?_)
        refine r_aload_n (np := 93) G hl 2 rfl dX6_countSecond_92 rfl rfl ?_
        obtain ⟨r18, e19, hm⟩ := ref_t hm
        refine r_getR (np := 96) G hM (shp_lt g0 (by decide)) g0 e19 fdX6_3 lkX6_23 dX6_countSecond_93 rfl ?_
        refine r_iconst (np := 97) G 3 dX6_countSecond_96 rfl ?_
        obtain ⟨g20, hm⟩ := g_t hm
        refine r_laload (np := 98) G hM g20 rfl dX6_countSecond_97 rfl ?_
        refine r_lload (np := 100) G hl 1 rfl dX6_countSecond_98 rfl ?_
        refine r_aload_n (np := 101) G hl 2 rfl dX6_countSecond_100 rfl rfl ?_
        refine r_iconst (np := 102) G 1 dX6_countSecond_101 rfl ?_
        obtain ⟨b21, s22, e23, hm⟩ := call_t hm
        refine m_callVR (np := 105) G hM hl.1 [vI 1] (qX6_numbersOf l E s13 v0 1 _ e23) myX6_numbersOf (shp_lt (gX6_numbersOf e23) (by decide)) (gX6_numbersOf e23) rfl (by decide) lkX6_86 ⟨Nat.le_of_ble_eq_true rfl, Nat.le_of_ble_eq_true rfl⟩ ⟨Nat.le_of_ble_eq_true rfl, Nat.le_of_ble_eq_true rfl⟩ [vL b6, vL (s13 r18 3)] rfl (Nat.le_of_ble_eq_true rfl) dX6_countSecond_102 rfl (fun H locs hM => ?_)
        refine r_iconst (np := 106) G 3 dX6_countSecond_105 rfl ?_
        obtain ⟨g24, hm⟩ := g_t hm
        refine r_laload (np := 107) G hM g24 rfl dX6_countSecond_106 rfl ?_
        refine r_lmul (np := 108) G dX6_countSecond_107 rfl ?_
        refine r_ladd (np := 109) G dX6_countSecond_108 rfl ?_
        obtain ⟨a25, e26, hm⟩ := bnd_t hm
        refine r_lstore (np := 111) G hl e26 [(14, vL a25), (12, vL a16), (10, vL b6), (0, .ref (eA E v0)), (1, vL v1), (3, vI v3), (4, vL v4), (6, vL v6), (8, vL v8)] dX6_countSecond_109 rfl (by decide) rfl (fun ls hl => ?_)
        refine r_iload_n (np := 112) G hl 5 rfl dX6_countSecond_111 rfl rfl ?_
        refine r_aload_n (np := 113) G hl 3 rfl dX6_countSecond_112 rfl rfl ?_
        refine r_lload_n (np := 114) G hl 4 rfl dX6_countSecond_113 rfl rfl ?_
        refine r_aload_n (np := 115) G hl 3 rfl dX6_countSecond_114 rfl rfl ?_
        refine r_getL (np := 118) G hM (shp_lt g0 (by decide)) g0 fdX6_0 lkX6_7 dX6_countSecond_115 rfl ?_
        refine r_lload (np := 120) G hl 8 rfl dX6_countSecond_118 rfl ?_
        refine r_lmul (np := 121) G dX6_countSecond_120 rfl ?_
        refine r_lload (np := 123) G hl 8 rfl dX6_countSecond_121 rfl ?_
        refine r_lmul (np := 124) G dX6_countSecond_123 rfl ?_
        refine r_ladd (np := 125) G dX6_countSecond_124 rfl ?_
        refine r_lload (np := 127) G hl 1 rfl dX6_countSecond_125 rfl ?_
        refine r_lload (np := 129) G hl 0 rfl dX6_countSecond_127 rfl ?_
        obtain ⟨b27, s28, e29, hm⟩ := call_t hm
        refine m_callVI (np := 132) G hM hl.1 [vL (v1 + (((s22 v0 0) * v8) * v8)), vL a16, vL a25] (qX6_countThird l E s22 v0 (v1 + (((s22 v0 0) * v8) * v8)) a16 a25 _ e29) myX6_countThird (shp_lt (gX6_countThird e29) (by decide)) (gX6_countThird e29) rfl (by decide) lkX6_98 ⟨Nat.le_of_ble_eq_true rfl, Nat.le_of_ble_eq_true rfl⟩ ⟨Nat.le_of_ble_eq_true rfl, Nat.le_of_ble_eq_true rfl⟩ [vI v3] rfl (Nat.le_of_ble_eq_true rfl) dX6_countSecond_129 rfl (fun H locs hM => ?_)
        refine r_iadd (np := 133) G dX6_countSecond_132 rfl ?_
        obtain ⟨a30, e31, hm⟩ := bnd_t hm
        refine r_istore_n (np := 134) G hl e31 [(3, vI a30), (14, vL a25), (12, vL a16), (10, vL b6), (0, .ref (eA E v0)), (1, vL v1), (4, vL v4), (6, vL v6), (8, vL v8)] dX6_countSecond_133 rfl rfl (by decide) rfl (fun ls hl => ?_)
        refine r_lload (np := 136) G hl 8 rfl dX6_countSecond_134 rfl ?_
        refine r_lload (np := 138) G hl 6 rfl dX6_countSecond_136 rfl ?_
        refine r_ladd (np := 139) G dX6_countSecond_138 rfl ?_
        obtain ⟨a32, e33, hm⟩ := bnd_t hm
        refine r_lstore (np := 141) G hl e33 [(8, vL a32), (3, vI a30), (14, vL a25), (12, vL a16), (10, vL b6), (0, .ref (eA E v0)), (1, vL v1), (4, vL v4), (6, vL v6)] dX6_countSecond_139 rfl (by decide) rfl (fun ls hl => ?_)
        refine r_goto (np := 42) G dX6_countSecond_141 (by decide) ?_
        exact ih a30 a32 _ _ _ _ hm hM (lv_sub hl [5, 6, 1, 7, 8, 0] rfl)
set_option maxRecDepth 100000 in
set_option maxHeartbeats 4000000 in
theorem qX6_countSecond (l : Launch) (E : mE) (σ : mSt) (v0 : Nat) (v1 : Int) (out : Int × mSt) (hm : mX6_countSecond v0 v1 σ = some out) : mMet l yX6_countSecond cX6_countSecond 16 (some .int) 4 114 E 276 [.ref (eA E v0), vL v1] σ (some (vI out.1)) out.2 := by
  unfold mX6_countSecond at hm
  obtain ⟨g0, hm⟩ := g_t hm
  refine m_entry (by decide +kernel) (Nat.le_of_ble_eq_true rfl) (fun p e s m args below meth c G hr hk hM ls hl => ?_)
  have G : CallFix p m c cX6_countSecond 16 s args mTs RX6 := G
  have hl : lv_has ls 16 [(0, .ref (eA E v0)), (1, vL v1)] := hl
  refine r_iconst (np := 1) G 0 dX6_countSecond_0 rfl ?_
  refine r_istore_n (np := 2) G hl rfl [(3, vI 0), (0, .ref (eA E v0)), (1, vL v1)] dX6_countSecond_1 rfl rfl (by decide) rfl (fun ls hl => ?_)
  refine r_aload_n (np := 3) G hl 1 rfl dX6_countSecond_2 rfl rfl ?_
  refine r_iconst (np := 4) G 1 dX6_countSecond_3 rfl ?_
  obtain ⟨b34, s35, e36, hm⟩ := call_t hm
  refine m_callVR (np := 7) G hM hl.1 [vI 1] (qX6_numbersOf l E σ v0 1 _ e36) myX6_numbersOf (shp_lt (gX6_numbersOf e36) (by decide)) (gX6_numbersOf e36) rfl (by decide) lkX6_86 ⟨Nat.le_of_ble_eq_true rfl, Nat.le_of_ble_eq_true rfl⟩ ⟨Nat.le_of_ble_eq_true rfl, Nat.le_of_ble_eq_true rfl⟩ [] rfl (Nat.le_of_ble_eq_true rfl) dX6_countSecond_4 rfl (fun H locs hM => ?_)
  refine r_iconst (np := 8) G 1 dX6_countSecond_7 rfl ?_
  obtain ⟨g37, hm⟩ := g_t hm
  refine r_laload (np := 9) G hM g37 rfl dX6_countSecond_8 rfl ?_
  obtain ⟨a38, e39, hm⟩ := bnd_t hm
  refine r_lstore (np := 11) G hl e39 [(4, vL a38), (3, vI 0), (0, .ref (eA E v0)), (1, vL v1)] dX6_countSecond_9 rfl (by decide) rfl (fun ls hl => ?_)
  refine r_lload_n (np := 12) G hl 3 rfl dX6_countSecond_11 rfl rfl ?_
  refine r_aload_n (np := 13) G hl 2 rfl dX6_countSecond_12 rfl rfl ?_
  refine r_getL (np := 16) G hM (shp_lt g0 (by decide)) g0 fdX6_0 lkX6_7 dX6_countSecond_13 rfl ?_
  refine r_lneg (np := 17) G dX6_countSecond_16 rfl ?_
  obtain ⟨b40, s41, e42, hm⟩ := call_t hm
  refine m_callSL (np := 20) G hM hl.1 [vL v1, vL (-(s35 v0 0))] (qX5_quotient l E s35 v1 (-(s35 v0 0)) _ e42) myX5_quotient lkX6_60 ⟨Nat.le_of_ble_eq_true rfl, Nat.le_of_ble_eq_true rfl⟩ ⟨Nat.le_of_ble_eq_true rfl, Nat.le_of_ble_eq_true rfl⟩ [] rfl (Nat.le_of_ble_eq_true rfl) dX6_countSecond_17 rfl (fun H locs hM => ?_)
  obtain ⟨b43, s44, e45, hm⟩ := call_t hm
  refine m_callSL (np := 23) G hM hl.1 [vL b40] (qX5_root l E s41 b40 _ e45) myX5_root lkX6_87 ⟨Nat.le_of_ble_eq_true rfl, Nat.le_of_ble_eq_true rfl⟩ ⟨Nat.le_of_ble_eq_true rfl, Nat.le_of_ble_eq_true rfl⟩ [] rfl (Nat.le_of_ble_eq_true rfl) dX6_countSecond_20 rfl (fun H locs hM => ?_)
  refine r_lstore (np := 25) G hl rfl [(6, vL b43), (4, vL a38), (3, vI 0), (0, .ref (eA E v0)), (1, vL v1)] dX6_countSecond_23 rfl (by decide) rfl (fun ls hl => ?_)
  refine r_aload_n (np := 26) G hl 3 rfl dX6_countSecond_25 rfl rfl ?_
  refine r_lload (np := 28) G hl 0 rfl dX6_countSecond_26 rfl ?_
  refine r_lneg (np := 29) G dX6_countSecond_28 rfl ?_
  refine r_aload_n (np := 30) G hl 3 rfl dX6_countSecond_29 rfl rfl ?_
  obtain ⟨r46, e47, hm⟩ := ref_t hm
  refine r_getR (np := 33) G hM (shp_lt g0 (by decide)) g0 e47 fdX6_3 lkX6_23 dX6_countSecond_30 rfl ?_
  refine r_iconst (np := 34) G 1 dX6_countSecond_33 rfl ?_
  obtain ⟨g48, hm⟩ := g_t hm
  refine r_laload (np := 35) G hM g48 rfl dX6_countSecond_34 rfl ?_
  refine r_lload (np := 37) G hl 1 rfl dX6_countSecond_35 rfl ?_
  obtain ⟨b49, s50, e51, hm⟩ := call_t hm
  refine m_callVL (np := 40) G hM hl.1 [vL (-b43), vL (s44 r46 1), vL a38] (qX6_leastFrom l E s44 v0 (-b43) (s44 r46 1) a38 _ e51) myX6_leastFrom (shp_lt (gX6_leastFrom e51) (by decide)) (gX6_leastFrom e51) rfl (by decide) lkX6_94 ⟨Nat.le_of_ble_eq_true rfl, Nat.le_of_ble_eq_true rfl⟩ ⟨Nat.le_of_ble_eq_true rfl, Nat.le_of_ble_eq_true rfl⟩ [] rfl (Nat.le_of_ble_eq_true rfl) dX6_countSecond_37 rfl (fun H locs hM => ?_)
  refine r_lstore (np := 42) G hl rfl [(8, vL b49), (6, vL b43), (4, vL a38), (3, vI 0), (0, .ref (eA E v0)), (1, vL v1)] dX6_countSecond_40 rfl (by decide) rfl (fun ls hl => ?_)
  exact wX6_countSecond_L42 l E out G hr hk v0 v1 a38 b43 g0 (fun z3 zσ => mX6_countSecond_B144 v0 v1 z3 zσ) (fun z3 zσ zH zl zs zm zM zv => wX6_countSecond_B144 l E out G hr hk v0 v1 g0 z3 zσ zH zl zs zm zM zv) mF 0 b49 _ _ _ _ hm hM (lv_sub hl [4, 5, 3, 2, 1, 0] rfl)
theorem gX6_countSecond {v0 : Nat} {v1 : Int} {σ : mSt} {out : Int × mSt} (hm : mX6_countSecond v0 v1 σ = some out) : isC v0 5 := (g_t hm).1
