theorem lkX0_9 : Cond.fieldLink RX0 9 (TX0 0).1 (TX0 0).2.1 (TX0 0).2.2.1 ∈ mTs := mTs_in 185 (by decide +kernel) (by decide +kernel)
theorem inX0 : ∀ w ∈ u_ws RX0 TX0 8, w ∈ mTs := mTs_ins _ [193, 195, 197, 199, 201, 203, 205, 207] (by decide +kernel) (by decide +kernel)
theorem fdX0_0 : mFld 0 0 0 8 RX0 TX0 := ⟨rfl, inX0, by decide, rfl, by decide⟩
theorem lkX0_15 : Cond.fieldLink RX0 15 (TX0 1).1 (TX0 1).2.1 (TX0 1).2.2.1 ∈ mTs := mTs_in 186 (by decide +kernel) (by decide +kernel)
theorem fdX0_1 : mFld 0 1 2 8 RX0 TX0 := ⟨rfl, inX0, by decide, rfl, by decide⟩
theorem lkX0_19 : Cond.fieldLink RX0 19 (TX0 2).1 (TX0 2).2.1 (TX0 2).2.2.1 ∈ mTs := mTs_in 187 (by decide +kernel) (by decide +kernel)
theorem fdX0_2 : mFld 0 2 2 8 RX0 TX0 := ⟨rfl, inX0, by decide, rfl, by decide⟩
theorem lkX0_22 : Cond.fieldLink RX0 22 (TX0 3).1 (TX0 3).2.1 (TX0 3).2.2.1 ∈ mTs := mTs_in 188 (by decide +kernel) (by decide +kernel)
theorem fdX0_3 : mFld 0 3 2 8 RX0 TX0 := ⟨rfl, inX0, by decide, rfl, by decide⟩
theorem lkX0_30 : Cond.fieldLink RX0 30 (TX0 5).1 (TX0 5).2.1 (TX0 5).2.2.1 ∈ mTs := mTs_in 190 (by decide +kernel) (by decide +kernel)
theorem fdX0_5 : mFld 0 5 2 8 RX0 TX0 := ⟨rfl, inX0, by decide, rfl, by decide⟩
theorem lkX0_35 : Cond.fieldLink RX0 35 (TX0 6).1 (TX0 6).2.1 (TX0 6).2.2.1 ∈ mTs := mTs_in 191 (by decide +kernel) (by decide +kernel)
theorem fdX0_6 : mFld 0 6 2 8 RX0 TX0 := ⟨rfl, inX0, by decide, rfl, by decide⟩
theorem lkX0_38 : Cond.fieldLink RX0 38 (TX0 7).1 (TX0 7).2.1 (TX0 7).2.2.1 ∈ mTs := mTs_in 192 (by decide +kernel) (by decide +kernel)
theorem fdX0_7 : mFld 0 7 2 8 RX0 TX0 := ⟨rfl, inX0, by decide, rfl, by decide⟩
theorem ptX0_0 : mPut 0 0 0 8 RX0 TX0 tyX0 .int := ⟨fdX0_0, tyX0_ok, nmX0, (by decide +kernel), rfl⟩
theorem lkX10_22 : Cond.fieldLink RX10 22 (TX10 3).1 (TX10 3).2.1 (TX10 3).2.2.1 ∈ mTs := mTs_in 161 (by decide +kernel) (by decide +kernel)
theorem inX10 : ∀ w ∈ u_ws RX10 TX10 5, w ∈ mTs := mTs_ins _ [163, 165, 167, 169, 171] (by decide +kernel) (by decide +kernel)
theorem fdX10_3 : mFld 9 3 0 5 RX10 TX10 := ⟨rfl, inX10, by decide, rfl, by decide⟩
theorem lkX10_19 : Cond.fieldLink RX10 19 (TX10 2).1 (TX10 2).2.1 (TX10 2).2.2.1 ∈ mTs := mTs_in 160 (by decide +kernel) (by decide +kernel)
theorem fdX10_2 : mFld 9 2 0 5 RX10 TX10 := ⟨rfl, inX10, by decide, rfl, by decide⟩
theorem lkX10_9 : Cond.fieldLink RX10 9 (TX10 0).1 (TX10 0).2.1 (TX10 0).2.2.1 ∈ mTs := mTs_in 158 (by decide +kernel) (by decide +kernel)
theorem fdX10_0 : mFld 9 0 2 5 RX10 TX10 := ⟨rfl, inX10, by decide, rfl, by decide⟩
theorem lkX0_25 : Cond.fieldLink RX0 25 (TX0 4).1 (TX0 4).2.1 (TX0 4).2.2.1 ∈ mTs := mTs_in 189 (by decide +kernel) (by decide +kernel)
theorem fdX0_4 : mFld 0 4 2 8 RX0 TX0 := ⟨rfl, inX0, by decide, rfl, by decide⟩
theorem lkX0_51 : Cond.methodLink RX0 51 yX10_byteAt ∈ mTs := mTs_in 572 (by decide +kernel) (by decide +kernel)
theorem myX10_byteAt : mYV yX10_byteAt cX10_byteAt 2 (some .byte) 1 := ⟨⟨mTs_in 538 (by decide +kernel) (by decide +kernel), mTs_in 118 (by decide +kernel) (by decide +kernel), ⟨by decide, by decide⟩, by decide +kernel⟩, mTs_in 536 (by decide +kernel) (by decide +kernel), mTs_in 537 (by decide +kernel) (by decide +kernel)⟩
theorem lkX0_41 : Cond.methodLink RX0 41 yX0_isFull ∈ mTs := mTs_in 577 (by decide +kernel) (by decide +kernel)
theorem myX0_isFull : mYV yX0_isFull cX0_isFull 1 (some .boolean) 0 := ⟨⟨mTs_in 552 (by decide +kernel) (by decide +kernel), mTs_in 119 (by decide +kernel) (by decide +kernel), ⟨by decide, by decide⟩, by decide +kernel⟩, mTs_in 550 (by decide +kernel) (by decide +kernel), mTs_in 551 (by decide +kernel) (by decide +kernel)⟩
theorem lkX0_45 : Cond.methodLink RX0 45 yX10_length ∈ mTs := mTs_in 571 (by decide +kernel) (by decide +kernel)
theorem myX10_length : mYV yX10_length cX10_length 1 (some .int) 0 := ⟨⟨mTs_in 496 (by decide +kernel) (by decide +kernel), mTs_in 118 (by decide +kernel) (by decide +kernel), ⟨by decide, by decide⟩, by decide +kernel⟩, mTs_in 494 (by decide +kernel) (by decide +kernel), mTs_in 495 (by decide +kernel) (by decide +kernel)⟩
theorem lkX0_55 : Cond.methodLink RX0 55 yX0_hasAllTerms ∈ mTs := mTs_in 640 (by decide +kernel) (by decide +kernel)
theorem myX0_hasAllTerms : mYV yX0_hasAllTerms cX0_hasAllTerms 1 (some .boolean) 0 := ⟨⟨mTs_in 635 (by decide +kernel) (by decide +kernel), mTs_in 119 (by decide +kernel) (by decide +kernel), ⟨by decide, by decide⟩, by decide +kernel⟩, mTs_in 633 (by decide +kernel) (by decide +kernel), mTs_in 634 (by decide +kernel) (by decide +kernel)⟩
theorem lkX0_58 : Cond.methodLink RX0 58 yX0_hasName ∈ mTs := mTs_in 567 (by decide +kernel) (by decide +kernel)
theorem myX0_hasName : mYV yX0_hasName cX0_hasName 5 (some .boolean) 2 := ⟨⟨mTs_in 570 (by decide +kernel) (by decide +kernel), mTs_in 119 (by decide +kernel) (by decide +kernel), ⟨by decide, by decide⟩, by decide +kernel⟩, mTs_in 569 (by decide +kernel) (by decide +kernel), mTs_in 9 (by decide +kernel) (by decide +kernel)⟩
theorem lkX1_19 : Cond.fieldLink RX1 19 (TX1 2).1 (TX1 2).2.1 (TX1 2).2.2.1 ∈ mTs := mTs_in 379 (by decide +kernel) (by decide +kernel)
theorem inX1 : ∀ w ∈ u_ws RX1 TX1 3, w ∈ mTs := mTs_ins _ [381, 383, 385] (by decide +kernel) (by decide +kernel)
theorem fdX1_2 : mFld 1 2 0 3 RX1 TX1 := ⟨rfl, inX1, by decide, rfl, by decide⟩
theorem ptX1_2 : mPut 1 2 0 3 RX1 TX1 tyX1 .int := ⟨fdX1_2, tyX1_ok, nmX1, (by decide +kernel), rfl⟩
theorem lkX1_29 : Cond.methodLink RX1 29 yX5_quotient ∈ mTs := mTs_in 830 (by decide +kernel) (by decide +kernel)
theorem lkX1_15 : Cond.fieldLink RX1 15 (TX1 1).1 (TX1 1).2.1 (TX1 1).2.2.1 ∈ mTs := mTs_in 375 (by decide +kernel) (by decide +kernel)
theorem fdX1_1 : mFld 1 1 1 3 RX1 TX1 := ⟨rfl, inX1, by decide, rfl, by decide⟩
theorem ptX1_1 : mPut 1 1 1 3 RX1 TX1 tyX1 .long := ⟨fdX1_1, tyX1_ok, nmX1, (by decide +kernel), rfl⟩
theorem lkX1_9 : Cond.fieldLink RX1 9 (TX1 0).1 (TX1 0).2.1 (TX1 0).2.2.1 ∈ mTs := mTs_in 371 (by decide +kernel) (by decide +kernel)
theorem fdX1_0 : mFld 1 0 2 3 RX1 TX1 := ⟨rfl, inX1, by decide, rfl, by decide⟩
theorem lkX1_34 : Cond.methodLink RX1 34 yJ9_abs_067f4 ∈ mTs := mTs_in 832 (by decide +kernel) (by decide +kernel)
theorem lkX1_32 : Cond.constantLong RX1 32 (1000000) ∈ mTs := mTs_in 831 (by decide +kernel) (by decide +kernel)
theorem lkX1_23 : Cond.methodLink RX1 23 yX5_greatestDivisor ∈ mTs := mTs_in 829 (by decide +kernel) (by decide +kernel)
theorem lkX1_40 : Cond.constantLong RX1 40 (2) ∈ mTs := mTs_in 1003 (by decide +kernel) (by decide +kernel)
theorem lkX3_18 : Cond.fieldLink RX3 18 (TX3 2).1 (TX3 2).2.1 (TX3 2).2.2.1 ∈ mTs := mTs_in 272 (by decide +kernel) (by decide +kernel)
theorem inX3 : ∀ w ∈ u_ws RX3 TX3 3, w ∈ mTs := mTs_ins _ [273, 275, 277] (by decide +kernel) (by decide +kernel)
theorem fdX3_2 : mFld 3 2 1 3 RX3 TX3 := ⟨rfl, inX3, by decide, rfl, by decide⟩
theorem lkX6_19 : Cond.fieldLink RX6 19 (TX6 2).1 (TX6 2).2.1 (TX6 2).2.2.1 ∈ mTs := mTs_in 287 (by decide +kernel) (by decide +kernel)
theorem inX6 : ∀ w ∈ u_ws RX6 TX6 4, w ∈ mTs := mTs_ins _ [290, 292, 294, 296] (by decide +kernel) (by decide +kernel)
theorem fdX6_2 : mFld 5 2 2 4 RX6 TX6 := ⟨rfl, inX6, by decide, rfl, by decide⟩
theorem lkX6_31 : Cond.methodLink RX6 31 yX3_modulus ∈ mTs := mTs_in 948 (by decide +kernel) (by decide +kernel)
theorem myX3_modulus : mYV yX3_modulus cX3_modulus 1 (some .long) 0 := ⟨⟨mTs_in 951 (by decide +kernel) (by decide +kernel), mTs_in 123 (by decide +kernel) (by decide +kernel), ⟨by decide, by decide⟩, by decide +kernel⟩, mTs_in 949 (by decide +kernel) (by decide +kernel), mTs_in 950 (by decide +kernel) (by decide +kernel)⟩
theorem lkX3_9 : Cond.fieldLink RX3 9 (TX3 0).1 (TX3 0).2.1 (TX3 0).2.2.1 ∈ mTs := mTs_in 270 (by decide +kernel) (by decide +kernel)
theorem fdX3_0 : mFld 3 0 2 3 RX3 TX3 := ⟨rfl, inX3, by decide, rfl, by decide⟩
theorem lkX6_35 : Cond.methodLink RX6 35 yX3_numbersOf ∈ mTs := mTs_in 960 (by decide +kernel) (by decide +kernel)
theorem myX3_numbersOf : mYV yX3_numbersOf cX3_numbersOf 2 (some (.array .long)) 1 := ⟨⟨mTs_in 963 (by decide +kernel) (by decide +kernel), mTs_in 123 (by decide +kernel) (by decide +kernel), ⟨by decide, by decide⟩, by decide +kernel⟩, mTs_in 961 (by decide +kernel) (by decide +kernel), mTs_in 962 (by decide +kernel) (by decide +kernel)⟩
theorem lkX2_20 : Cond.fieldLink RX2 20 (TX2 2).1 (TX2 2).2.1 (TX2 2).2.2.1 ∈ mTs := mTs_in 304 (by decide +kernel) (by decide +kernel)
theorem inX2 : ∀ w ∈ u_ws RX2 TX2 7, w ∈ mTs := mTs_ins _ [309, 311, 313, 315, 317, 319, 321] (by decide +kernel) (by decide +kernel)
theorem fdX2_2 : mFld 2 2 1 7 RX2 TX2 := ⟨rfl, inX2, by decide, rfl, by decide⟩
theorem lkX2_84 : Cond.constantLong RX2 84 (2) ∈ mTs := mTs_in 964 (by decide +kernel) (by decide +kernel)
theorem lkX2_36 : Cond.fieldLink RX2 36 (TX2 5).1 (TX2 5).2.1 (TX2 5).2.2.1 ∈ mTs := mTs_in 307 (by decide +kernel) (by decide +kernel)
theorem fdX2_5 : mFld 2 5 2 7 RX2 TX2 := ⟨rfl, inX2, by decide, rfl, by decide⟩
theorem lkX2_86 : Cond.methodLink RX2 86 yX5_divides ∈ mTs := mTs_in 965 (by decide +kernel) (by decide +kernel)
theorem myX5_divides : mYS yX5_divides cX5_divides 4 (some .boolean) 2 := ⟨⟨mTs_in 921 (by decide +kernel) (by decide +kernel), mTs_in 133 (by decide +kernel) (by decide +kernel), ⟨by decide, by decide⟩, by decide +kernel⟩, mTs_in 920 (by decide +kernel) (by decide +kernel)⟩
theorem lkX2_10 : Cond.fieldLink RX2 10 (TX2 0).1 (TX2 0).2.1 (TX2 0).2.2.1 ∈ mTs := mTs_in 302 (by decide +kernel) (by decide +kernel)
theorem fdX2_0 : mFld 2 0 2 7 RX2 TX2 := ⟨rfl, inX2, by decide, rfl, by decide⟩
theorem lkX2_78 : Cond.fieldLinkNest RX2 78 (TX6 0).1 (TX6 0).2.1 (TX6 0).2.2.1 "MiddleAlgebras" ∈ mTs := mTs_in 283 (by decide +kernel) (by decide +kernel)
theorem fdX6_0 : mFld 5 0 1 4 RX6 TX6 := ⟨rfl, inX6, by decide, rfl, by decide⟩
theorem lkX2_81 : Cond.fieldLinkNest RX2 81 (TX6 1).1 (TX6 1).2.1 (TX6 1).2.2.1 "MiddleAlgebras" ∈ mTs := mTs_in 286 (by decide +kernel) (by decide +kernel)
theorem fdX6_1 : mFld 5 1 1 4 RX6 TX6 := ⟨rfl, inX6, by decide, rfl, by decide⟩
theorem lkX2_74 : Cond.methodLink RX2 74 yX6_numbersOf ∈ mTs := mTs_in 956 (by decide +kernel) (by decide +kernel)
theorem myX6_numbersOf : mYV yX6_numbersOf cX6_numbersOf 2 (some (.array .long)) 1 := ⟨⟨mTs_in 959 (by decide +kernel) (by decide +kernel), mTs_in 122 (by decide +kernel) (by decide +kernel), ⟨by decide, by decide⟩, by decide +kernel⟩, mTs_in 957 (by decide +kernel) (by decide +kernel), mTs_in 958 (by decide +kernel) (by decide +kernel)⟩
theorem ptX3_2 : mPut 3 2 1 3 RX3 TX3 tyX3 .long := ⟨fdX3_2, tyX3_ok, nmX3, (by decide +kernel), rfl⟩
theorem lkX3_14 : Cond.fieldLink RX3 14 (TX3 1).1 (TX3 1).2.1 (TX3 1).2.2.1 ∈ mTs := mTs_in 271 (by decide +kernel) (by decide +kernel)
theorem fdX3_1 : mFld 3 1 2 3 RX3 TX3 := ⟨rfl, inX3, by decide, rfl, by decide⟩
theorem lkX3_22 : Cond.methodLink RX3 22 yX5_rest ∈ mTs := mTs_in 979 (by decide +kernel) (by decide +kernel)
theorem lkX3_28 : Cond.methodLink RX3 28 yX5_quotient ∈ mTs := mTs_in 918 (by decide +kernel) (by decide +kernel)
theorem lkX3_31 : Cond.methodLink RX3 31 yX5_greatestDivisor ∈ mTs := mTs_in 988 (by decide +kernel) (by decide +kernel)
theorem dX0_size_0 : decode cX0_size 0 = .ok (.aload_n 0, 1) := by decide +kernel
theorem dX0_size_1 : decode cX0_size 1 = .ok (.getfield 9, 3) := by decide +kernel
theorem dX0_size_4 : decode cX0_size 4 = .ok (.ireturn, 1) := by decide +kernel
theorem dX0_kind_0 : decode cX0_kind 0 = .ok (.aload_n 0, 1) := by decide +kernel
theorem dX0_kind_1 : decode cX0_kind 1 = .ok (.getfield 15, 3) := by decide +kernel
theorem dX0_kind_4 : decode cX0_kind 4 = .ok (.iload_n 1, 1) := by decide +kernel
theorem dX0_kind_5 : decode cX0_kind 5 = .ok (.iaload, 1) := by decide +kernel
theorem dX0_kind_6 : decode cX0_kind 6 = .ok (.ireturn, 1) := by decide +kernel
theorem dX0_first_0 : decode cX0_first 0 = .ok (.aload_n 0, 1) := by decide +kernel
theorem dX0_first_1 : decode cX0_first 1 = .ok (.getfield 19, 3) := by decide +kernel
theorem dX0_first_4 : decode cX0_first 4 = .ok (.iload_n 1, 1) := by decide +kernel
theorem dX0_first_5 : decode cX0_first 5 = .ok (.iaload, 1) := by decide +kernel
theorem dX0_first_6 : decode cX0_first 6 = .ok (.ireturn, 1) := by decide +kernel
theorem dX0_second_0 : decode cX0_second 0 = .ok (.aload_n 0, 1) := by decide +kernel
theorem dX0_second_1 : decode cX0_second 1 = .ok (.getfield 22, 3) := by decide +kernel
theorem dX0_second_4 : decode cX0_second 4 = .ok (.iload_n 1, 1) := by decide +kernel
theorem dX0_second_5 : decode cX0_second 5 = .ok (.iaload, 1) := by decide +kernel
theorem dX0_second_6 : decode cX0_second 6 = .ok (.ireturn, 1) := by decide +kernel
theorem dX0_letter_0 : decode cX0_letter 0 = .ok (.aload_n 0, 1) := by decide +kernel
theorem dX0_letter_1 : decode cX0_letter 1 = .ok (.getfield 30, 3) := by decide +kernel
theorem dX0_letter_4 : decode cX0_letter 4 = .ok (.iload_n 1, 1) := by decide +kernel
theorem dX0_letter_5 : decode cX0_letter 5 = .ok (.aaload, 1) := by decide +kernel
theorem dX0_letter_6 : decode cX0_letter 6 = .ok (.iconst 0, 1) := by decide +kernel
theorem dX0_letter_7 : decode cX0_letter 7 = .ok (.baload, 1) := by decide +kernel
theorem dX0_letter_8 : decode cX0_letter 8 = .ok (.bipush 97, 2) := by decide +kernel
theorem dX0_letter_10 : decode cX0_letter 10 = .ok (.isub, 1) := by decide +kernel
theorem dX0_letter_11 : decode cX0_letter 11 = .ok (.ireturn, 1) := by decide +kernel
theorem dX0_term_0 : decode cX0_term 0 = .ok (.aload_n 0, 1) := by decide +kernel
theorem dX0_term_1 : decode cX0_term 1 = .ok (.getfield 35, 3) := by decide +kernel
theorem dX0_term_4 : decode cX0_term 4 = .ok (.iload_n 1, 1) := by decide +kernel
theorem dX0_term_5 : decode cX0_term 5 = .ok (.aaload, 1) := by decide +kernel
theorem dX0_term_6 : decode cX0_term 6 = .ok (.iload_n 2, 1) := by decide +kernel
theorem dX0_term_7 : decode cX0_term 7 = .ok (.iaload, 1) := by decide +kernel
theorem dX0_term_8 : decode cX0_term 8 = .ok (.ireturn, 1) := by decide +kernel
theorem dX0_sign_0 : decode cX0_sign 0 = .ok (.aload_n 0, 1) := by decide +kernel
theorem dX0_sign_1 : decode cX0_sign 1 = .ok (.getfield 38, 3) := by decide +kernel
theorem dX0_sign_4 : decode cX0_sign 4 = .ok (.iload_n 1, 1) := by decide +kernel
theorem dX0_sign_5 : decode cX0_sign 5 = .ok (.aaload, 1) := by decide +kernel
theorem dX0_sign_6 : decode cX0_sign 6 = .ok (.iload_n 2, 1) := by decide +kernel
theorem dX0_sign_7 : decode cX0_sign 7 = .ok (.iaload, 1) := by decide +kernel
theorem dX0_sign_8 : decode cX0_sign 8 = .ok (.ireturn, 1) := by decide +kernel
theorem dX0_clear_0 : decode cX0_clear 0 = .ok (.aload_n 0, 1) := by decide +kernel
theorem dX0_clear_1 : decode cX0_clear 1 = .ok (.iconst 0, 1) := by decide +kernel
theorem dX0_clear_2 : decode cX0_clear 2 = .ok (.putfield 9, 3) := by decide +kernel
theorem dX0_clear_5 : decode cX0_clear 5 = .ok (.return_, 1) := by decide +kernel
theorem dX0_isFull_0 : decode cX0_isFull 0 = .ok (.aload_n 0, 1) := by decide +kernel
theorem dX0_isFull_1 : decode cX0_isFull 1 = .ok (.getfield 9, 3) := by decide +kernel
theorem dX0_isFull_4 : decode cX0_isFull 4 = .ok (.bipush 8, 2) := by decide +kernel
theorem dX0_isFull_6 : decode cX0_isFull 6 = .ok (.if_icmp .lt 7, 3) := by decide +kernel
theorem dX0_isFull_9 : decode cX0_isFull 9 = .ok (.iconst 1, 1) := by decide +kernel
theorem dX0_isFull_10 : decode cX0_isFull 10 = .ok (.goto 4, 3) := by decide +kernel
theorem dX0_isFull_13 : decode cX0_isFull 13 = .ok (.iconst 0, 1) := by decide +kernel
theorem dX0_isFull_14 : decode cX0_isFull 14 = .ok (.ireturn, 1) := by decide +kernel
theorem dX10_length_0 : decode cX10_length 0 = .ok (.aload_n 0, 1) := by decide +kernel
theorem dX10_length_1 : decode cX10_length 1 = .ok (.getfield 22, 3) := by decide +kernel
theorem dX10_length_4 : decode cX10_length 4 = .ok (.aload_n 0, 1) := by decide +kernel
theorem dX10_length_5 : decode cX10_length 5 = .ok (.getfield 19, 3) := by decide +kernel
theorem dX10_length_8 : decode cX10_length 8 = .ok (.isub, 1) := by decide +kernel
theorem dX10_length_9 : decode cX10_length 9 = .ok (.ireturn, 1) := by decide +kernel
theorem dX10_byteAt_0 : decode cX10_byteAt 0 = .ok (.iload_n 1, 1) := by decide +kernel
theorem dX10_byteAt_1 : decode cX10_byteAt 1 = .ok (.ifCond .lt 30, 3) := by decide +kernel
theorem dX10_byteAt_4 : decode cX10_byteAt 4 = .ok (.aload_n 0, 1) := by decide +kernel
theorem dX10_byteAt_5 : decode cX10_byteAt 5 = .ok (.getfield 19, 3) := by decide +kernel
theorem dX10_byteAt_8 : decode cX10_byteAt 8 = .ok (.iload_n 1, 1) := by decide +kernel
theorem dX10_byteAt_9 : decode cX10_byteAt 9 = .ok (.iadd, 1) := by decide +kernel
theorem dX10_byteAt_10 : decode cX10_byteAt 10 = .ok (.aload_n 0, 1) := by decide +kernel
theorem dX10_byteAt_11 : decode cX10_byteAt 11 = .ok (.getfield 22, 3) := by decide +kernel
theorem dX10_byteAt_14 : decode cX10_byteAt 14 = .ok (.if_icmp .ge 17, 3) := by decide +kernel
theorem dX10_byteAt_17 : decode cX10_byteAt 17 = .ok (.aload_n 0, 1) := by decide +kernel
theorem dX10_byteAt_18 : decode cX10_byteAt 18 = .ok (.getfield 9, 3) := by decide +kernel
theorem dX10_byteAt_21 : decode cX10_byteAt 21 = .ok (.aload_n 0, 1) := by decide +kernel
theorem dX10_byteAt_22 : decode cX10_byteAt 22 = .ok (.getfield 19, 3) := by decide +kernel
theorem dX10_byteAt_25 : decode cX10_byteAt 25 = .ok (.iload_n 1, 1) := by decide +kernel
theorem dX10_byteAt_26 : decode cX10_byteAt 26 = .ok (.iadd, 1) := by decide +kernel
theorem dX10_byteAt_27 : decode cX10_byteAt 27 = .ok (.baload, 1) := by decide +kernel
theorem dX10_byteAt_28 : decode cX10_byteAt 28 = .ok (.goto 4, 3) := by decide +kernel
theorem dX10_byteAt_31 : decode cX10_byteAt 31 = .ok (.iconst 0, 1) := by decide +kernel
theorem dX10_byteAt_32 : decode cX10_byteAt 32 = .ok (.ireturn, 1) := by decide +kernel
theorem dX0_begin_0 : decode cX0_begin 0 = .ok (.aload_n 0, 1) := by decide +kernel
theorem dX0_begin_1 : decode cX0_begin 1 = .ok (.invokevirtual 41, 3) := by decide +kernel
theorem dX0_begin_4 : decode cX0_begin 4 = .ok (.ifCond .ne 12, 3) := by decide +kernel
theorem dX0_begin_7 : decode cX0_begin 7 = .ok (.aload_n 2, 1) := by decide +kernel
theorem dX0_begin_8 : decode cX0_begin 8 = .ok (.invokevirtual 45, 3) := by decide +kernel
theorem dX0_begin_11 : decode cX0_begin 11 = .ok (.bipush 10, 2) := by decide +kernel
theorem dX0_begin_13 : decode cX0_begin 13 = .ok (.if_icmp .le 4, 3) := by decide +kernel
theorem dX0_begin_16 : decode cX0_begin 16 = .ok (.return_, 1) := by decide +kernel
theorem dX0_begin_17 : decode cX0_begin 17 = .ok (.aload_n 0, 1) := by decide +kernel
theorem dX0_begin_18 : decode cX0_begin 18 = .ok (.getfield 15, 3) := by decide +kernel
theorem dX0_begin_21 : decode cX0_begin 21 = .ok (.aload_n 0, 1) := by decide +kernel
theorem dX0_begin_22 : decode cX0_begin 22 = .ok (.getfield 9, 3) := by decide +kernel
theorem dX0_begin_25 : decode cX0_begin 25 = .ok (.iload_n 1, 1) := by decide +kernel
theorem dX0_begin_26 : decode cX0_begin 26 = .ok (.iastore, 1) := by decide +kernel
theorem dX0_begin_27 : decode cX0_begin 27 = .ok (.aload_n 0, 1) := by decide +kernel
theorem dX0_begin_28 : decode cX0_begin 28 = .ok (.getfield 19, 3) := by decide +kernel
theorem dX0_begin_31 : decode cX0_begin 31 = .ok (.aload_n 0, 1) := by decide +kernel
theorem dX0_begin_32 : decode cX0_begin 32 = .ok (.getfield 9, 3) := by decide +kernel
theorem dX0_begin_35 : decode cX0_begin 35 = .ok (.iconst 0, 1) := by decide +kernel
theorem dX0_begin_36 : decode cX0_begin 36 = .ok (.iastore, 1) := by decide +kernel
theorem dX0_begin_37 : decode cX0_begin 37 = .ok (.aload_n 0, 1) := by decide +kernel
theorem dX0_begin_38 : decode cX0_begin 38 = .ok (.getfield 22, 3) := by decide +kernel
theorem dX0_begin_41 : decode cX0_begin 41 = .ok (.aload_n 0, 1) := by decide +kernel
theorem dX0_begin_42 : decode cX0_begin 42 = .ok (.getfield 9, 3) := by decide +kernel
theorem dX0_begin_45 : decode cX0_begin 45 = .ok (.iconst 0, 1) := by decide +kernel
theorem dX0_begin_46 : decode cX0_begin 46 = .ok (.iastore, 1) := by decide +kernel
theorem dX0_begin_47 : decode cX0_begin 47 = .ok (.aload_n 0, 1) := by decide +kernel
theorem dX0_begin_48 : decode cX0_begin 48 = .ok (.getfield 25, 3) := by decide +kernel
theorem dX0_begin_51 : decode cX0_begin 51 = .ok (.aload_n 0, 1) := by decide +kernel
theorem dX0_begin_52 : decode cX0_begin 52 = .ok (.getfield 9, 3) := by decide +kernel
theorem dX0_begin_55 : decode cX0_begin 55 = .ok (.aload_n 2, 1) := by decide +kernel
theorem dX0_begin_56 : decode cX0_begin 56 = .ok (.invokevirtual 45, 3) := by decide +kernel
theorem dX0_begin_59 : decode cX0_begin 59 = .ok (.iastore, 1) := by decide +kernel
theorem dX0_begin_60 : decode cX0_begin 60 = .ok (.iconst 0, 1) := by decide +kernel
theorem dX0_begin_61 : decode cX0_begin 61 = .ok (.istore_n 3, 1) := by decide +kernel
theorem dX0_begin_62 : decode cX0_begin 62 = .ok (.iload_n 3, 1) := by decide +kernel
theorem dX0_begin_63 : decode cX0_begin 63 = .ok (.aload_n 0, 1) := by decide +kernel
theorem dX0_begin_64 : decode cX0_begin 64 = .ok (.getfield 25, 3) := by decide +kernel
theorem dX0_begin_67 : decode cX0_begin 67 = .ok (.aload_n 0, 1) := by decide +kernel
theorem dX0_begin_68 : decode cX0_begin 68 = .ok (.getfield 9, 3) := by decide +kernel
theorem dX0_begin_71 : decode cX0_begin 71 = .ok (.iaload, 1) := by decide +kernel
theorem dX0_begin_72 : decode cX0_begin 72 = .ok (.if_icmp .ge 25, 3) := by decide +kernel
theorem dX0_begin_75 : decode cX0_begin 75 = .ok (.aload_n 0, 1) := by decide +kernel
theorem dX0_begin_76 : decode cX0_begin 76 = .ok (.getfield 30, 3) := by decide +kernel
theorem dX0_begin_79 : decode cX0_begin 79 = .ok (.aload_n 0, 1) := by decide +kernel
theorem dX0_begin_80 : decode cX0_begin 80 = .ok (.getfield 9, 3) := by decide +kernel
theorem dX0_begin_83 : decode cX0_begin 83 = .ok (.aaload, 1) := by decide +kernel
theorem dX0_begin_84 : decode cX0_begin 84 = .ok (.iload_n 3, 1) := by decide +kernel
theorem dX0_begin_85 : decode cX0_begin 85 = .ok (.aload_n 2, 1) := by decide +kernel
theorem dX0_begin_86 : decode cX0_begin 86 = .ok (.iload_n 3, 1) := by decide +kernel
theorem dX0_begin_87 : decode cX0_begin 87 = .ok (.invokevirtual 51, 3) := by decide +kernel
theorem dX0_begin_90 : decode cX0_begin 90 = .ok (.bastore, 1) := by decide +kernel
theorem dX0_begin_91 : decode cX0_begin 91 = .ok (.iinc 3 1, 3) := by decide +kernel
theorem dX0_begin_94 : decode cX0_begin 94 = .ok (.goto (-32), 3) := by decide +kernel
theorem dX0_begin_97 : decode cX0_begin 97 = .ok (.return_, 1) := by decide +kernel
theorem dX0_setFirst_0 : decode cX0_setFirst 0 = .ok (.aload_n 0, 1) := by decide +kernel
theorem dX0_setFirst_1 : decode cX0_setFirst 1 = .ok (.invokevirtual 41, 3) := by decide +kernel
theorem dX0_setFirst_4 : decode cX0_setFirst 4 = .ok (.ifCond .ne 14, 3) := by decide +kernel
theorem dX0_setFirst_7 : decode cX0_setFirst 7 = .ok (.aload_n 0, 1) := by decide +kernel
theorem dX0_setFirst_8 : decode cX0_setFirst 8 = .ok (.getfield 19, 3) := by decide +kernel
theorem dX0_setFirst_11 : decode cX0_setFirst 11 = .ok (.aload_n 0, 1) := by decide +kernel
theorem dX0_setFirst_12 : decode cX0_setFirst 12 = .ok (.getfield 9, 3) := by decide +kernel
theorem dX0_setFirst_15 : decode cX0_setFirst 15 = .ok (.lload_n 1, 1) := by decide +kernel
theorem dX0_setFirst_16 : decode cX0_setFirst 16 = .ok (.l2i, 1) := by decide +kernel
theorem dX0_setFirst_17 : decode cX0_setFirst 17 = .ok (.iastore, 1) := by decide +kernel
theorem dX0_setFirst_18 : decode cX0_setFirst 18 = .ok (.return_, 1) := by decide +kernel
theorem dX0_setSecond_0 : decode cX0_setSecond 0 = .ok (.aload_n 0, 1) := by decide +kernel
theorem dX0_setSecond_1 : decode cX0_setSecond 1 = .ok (.invokevirtual 41, 3) := by decide +kernel
theorem dX0_setSecond_4 : decode cX0_setSecond 4 = .ok (.ifCond .ne 14, 3) := by decide +kernel
theorem dX0_setSecond_7 : decode cX0_setSecond 7 = .ok (.aload_n 0, 1) := by decide +kernel
theorem dX0_setSecond_8 : decode cX0_setSecond 8 = .ok (.getfield 22, 3) := by decide +kernel
theorem dX0_setSecond_11 : decode cX0_setSecond 11 = .ok (.aload_n 0, 1) := by decide +kernel
theorem dX0_setSecond_12 : decode cX0_setSecond 12 = .ok (.getfield 9, 3) := by decide +kernel
theorem dX0_setSecond_15 : decode cX0_setSecond 15 = .ok (.lload_n 1, 1) := by decide +kernel
theorem dX0_setSecond_16 : decode cX0_setSecond 16 = .ok (.l2i, 1) := by decide +kernel
theorem dX0_setSecond_17 : decode cX0_setSecond 17 = .ok (.iastore, 1) := by decide +kernel
theorem dX0_setSecond_18 : decode cX0_setSecond 18 = .ok (.return_, 1) := by decide +kernel
theorem dX0_hasAllTerms_0 : decode cX0_hasAllTerms 0 = .ok (.aload_n 0, 1) := by decide +kernel
theorem dX0_hasAllTerms_1 : decode cX0_hasAllTerms 1 = .ok (.invokevirtual 41, 3) := by decide +kernel
theorem dX0_hasAllTerms_4 : decode cX0_hasAllTerms 4 = .ok (.ifCond .ne 16, 3) := by decide +kernel
theorem dX0_hasAllTerms_7 : decode cX0_hasAllTerms 7 = .ok (.aload_n 0, 1) := by decide +kernel
theorem dX0_hasAllTerms_8 : decode cX0_hasAllTerms 8 = .ok (.getfield 19, 3) := by decide +kernel
theorem dX0_hasAllTerms_11 : decode cX0_hasAllTerms 11 = .ok (.aload_n 0, 1) := by decide +kernel
theorem dX0_hasAllTerms_12 : decode cX0_hasAllTerms 12 = .ok (.getfield 9, 3) := by decide +kernel
theorem dX0_hasAllTerms_15 : decode cX0_hasAllTerms 15 = .ok (.iaload, 1) := by decide +kernel
theorem dX0_hasAllTerms_16 : decode cX0_hasAllTerms 16 = .ok (.iconst 4, 1) := by decide +kernel
theorem dX0_hasAllTerms_17 : decode cX0_hasAllTerms 17 = .ok (.if_icmp .lt 7, 3) := by decide +kernel
theorem dX0_hasAllTerms_20 : decode cX0_hasAllTerms 20 = .ok (.iconst 1, 1) := by decide +kernel
theorem dX0_hasAllTerms_21 : decode cX0_hasAllTerms 21 = .ok (.goto 4, 3) := by decide +kernel
theorem dX0_hasAllTerms_24 : decode cX0_hasAllTerms 24 = .ok (.iconst 0, 1) := by decide +kernel
theorem dX0_hasAllTerms_25 : decode cX0_hasAllTerms 25 = .ok (.ireturn, 1) := by decide +kernel
theorem dX0_addTerm_0 : decode cX0_addTerm 0 = .ok (.aload_n 0, 1) := by decide +kernel
theorem dX0_addTerm_1 : decode cX0_addTerm 1 = .ok (.invokevirtual 55, 3) := by decide +kernel
theorem dX0_addTerm_4 : decode cX0_addTerm 4 = .ok (.ifCond .ne 56, 3) := by decide +kernel
theorem dX0_addTerm_7 : decode cX0_addTerm 7 = .ok (.aload_n 0, 1) := by decide +kernel
theorem dX0_addTerm_8 : decode cX0_addTerm 8 = .ok (.getfield 35, 3) := by decide +kernel
theorem dX0_addTerm_11 : decode cX0_addTerm 11 = .ok (.aload_n 0, 1) := by decide +kernel
theorem dX0_addTerm_12 : decode cX0_addTerm 12 = .ok (.getfield 9, 3) := by decide +kernel
theorem dX0_addTerm_15 : decode cX0_addTerm 15 = .ok (.aaload, 1) := by decide +kernel
theorem dX0_addTerm_16 : decode cX0_addTerm 16 = .ok (.aload_n 0, 1) := by decide +kernel
theorem dX0_addTerm_17 : decode cX0_addTerm 17 = .ok (.getfield 19, 3) := by decide +kernel
theorem dX0_addTerm_20 : decode cX0_addTerm 20 = .ok (.aload_n 0, 1) := by decide +kernel
theorem dX0_addTerm_21 : decode cX0_addTerm 21 = .ok (.getfield 9, 3) := by decide +kernel
theorem dX0_addTerm_24 : decode cX0_addTerm 24 = .ok (.iaload, 1) := by decide +kernel
theorem dX0_addTerm_25 : decode cX0_addTerm 25 = .ok (.iload_n 2, 1) := by decide +kernel
theorem dX0_addTerm_26 : decode cX0_addTerm 26 = .ok (.iastore, 1) := by decide +kernel
theorem dX0_addTerm_27 : decode cX0_addTerm 27 = .ok (.aload_n 0, 1) := by decide +kernel
theorem dX0_addTerm_28 : decode cX0_addTerm 28 = .ok (.getfield 38, 3) := by decide +kernel
theorem dX0_addTerm_31 : decode cX0_addTerm 31 = .ok (.aload_n 0, 1) := by decide +kernel
theorem dX0_addTerm_32 : decode cX0_addTerm 32 = .ok (.getfield 9, 3) := by decide +kernel
theorem dX0_addTerm_35 : decode cX0_addTerm 35 = .ok (.aaload, 1) := by decide +kernel
theorem dX0_addTerm_36 : decode cX0_addTerm 36 = .ok (.aload_n 0, 1) := by decide +kernel
theorem dX0_addTerm_37 : decode cX0_addTerm 37 = .ok (.getfield 19, 3) := by decide +kernel
theorem dX0_addTerm_40 : decode cX0_addTerm 40 = .ok (.aload_n 0, 1) := by decide +kernel
theorem dX0_addTerm_41 : decode cX0_addTerm 41 = .ok (.getfield 9, 3) := by decide +kernel
theorem dX0_addTerm_44 : decode cX0_addTerm 44 = .ok (.iaload, 1) := by decide +kernel
theorem dX0_addTerm_45 : decode cX0_addTerm 45 = .ok (.iload_n 1, 1) := by decide +kernel
theorem dX0_addTerm_46 : decode cX0_addTerm 46 = .ok (.iastore, 1) := by decide +kernel
theorem dX0_addTerm_47 : decode cX0_addTerm 47 = .ok (.aload_n 0, 1) := by decide +kernel
theorem dX0_addTerm_48 : decode cX0_addTerm 48 = .ok (.getfield 19, 3) := by decide +kernel
theorem dX0_addTerm_51 : decode cX0_addTerm 51 = .ok (.aload_n 0, 1) := by decide +kernel
theorem dX0_addTerm_52 : decode cX0_addTerm 52 = .ok (.getfield 9, 3) := by decide +kernel
theorem dX0_addTerm_55 : decode cX0_addTerm 55 = .ok (.dup2, 1) := by decide +kernel
theorem dX0_addTerm_56 : decode cX0_addTerm 56 = .ok (.iaload, 1) := by decide +kernel
theorem dX0_addTerm_57 : decode cX0_addTerm 57 = .ok (.iconst 1, 1) := by decide +kernel
theorem dX0_addTerm_58 : decode cX0_addTerm 58 = .ok (.iadd, 1) := by decide +kernel
theorem dX0_addTerm_59 : decode cX0_addTerm 59 = .ok (.iastore, 1) := by decide +kernel
theorem dX0_addTerm_60 : decode cX0_addTerm 60 = .ok (.return_, 1) := by decide +kernel
theorem dX0_finish_0 : decode cX0_finish 0 = .ok (.aload_n 0, 1) := by decide +kernel
theorem dX0_finish_1 : decode cX0_finish 1 = .ok (.invokevirtual 41, 3) := by decide +kernel
theorem dX0_finish_4 : decode cX0_finish 4 = .ok (.ifCond .ne 13, 3) := by decide +kernel
theorem dX0_finish_7 : decode cX0_finish 7 = .ok (.aload_n 0, 1) := by decide +kernel
theorem dX0_finish_8 : decode cX0_finish 8 = .ok (.dup, 1) := by decide +kernel
theorem dX0_finish_9 : decode cX0_finish 9 = .ok (.getfield 9, 3) := by decide +kernel
theorem dX0_finish_12 : decode cX0_finish 12 = .ok (.iconst 1, 1) := by decide +kernel
theorem dX0_finish_13 : decode cX0_finish 13 = .ok (.iadd, 1) := by decide +kernel
theorem dX0_finish_14 : decode cX0_finish 14 = .ok (.putfield 9, 3) := by decide +kernel
theorem dX0_finish_17 : decode cX0_finish 17 = .ok (.return_, 1) := by decide +kernel
theorem dX0_hasName_0 : decode cX0_hasName 0 = .ok (.aload_n 0, 1) := by decide +kernel
theorem dX0_hasName_1 : decode cX0_hasName 1 = .ok (.getfield 25, 3) := by decide +kernel
theorem dX0_hasName_4 : decode cX0_hasName 4 = .ok (.iload_n 1, 1) := by decide +kernel
theorem dX0_hasName_5 : decode cX0_hasName 5 = .ok (.iaload, 1) := by decide +kernel
theorem dX0_hasName_6 : decode cX0_hasName 6 = .ok (.aload_n 2, 1) := by decide +kernel
theorem dX0_hasName_7 : decode cX0_hasName 7 = .ok (.invokevirtual 45, 3) := by decide +kernel
theorem dX0_hasName_10 : decode cX0_hasName 10 = .ok (.if_icmp .ne 7, 3) := by decide +kernel
theorem dX0_hasName_13 : decode cX0_hasName 13 = .ok (.iconst 1, 1) := by decide +kernel
theorem dX0_hasName_14 : decode cX0_hasName 14 = .ok (.goto 4, 3) := by decide +kernel
theorem dX0_hasName_17 : decode cX0_hasName 17 = .ok (.iconst 0, 1) := by decide +kernel
theorem dX0_hasName_18 : decode cX0_hasName 18 = .ok (.istore_n 3, 1) := by decide +kernel
theorem dX0_hasName_19 : decode cX0_hasName 19 = .ok (.iconst 0, 1) := by decide +kernel
theorem dX0_hasName_20 : decode cX0_hasName 20 = .ok (.istore 4, 2) := by decide +kernel
theorem dX0_hasName_22 : decode cX0_hasName 22 = .ok (.iload 4, 2) := by decide +kernel
theorem dX0_hasName_24 : decode cX0_hasName 24 = .ok (.aload_n 0, 1) := by decide +kernel
theorem dX0_hasName_25 : decode cX0_hasName 25 = .ok (.getfield 25, 3) := by decide +kernel
theorem dX0_hasName_28 : decode cX0_hasName 28 = .ok (.iload_n 1, 1) := by decide +kernel
theorem dX0_hasName_29 : decode cX0_hasName 29 = .ok (.iaload, 1) := by decide +kernel
theorem dX0_hasName_30 : decode cX0_hasName 30 = .ok (.if_icmp .ge 37, 3) := by decide +kernel
theorem dX0_hasName_33 : decode cX0_hasName 33 = .ok (.iload_n 3, 1) := by decide +kernel
theorem dX0_hasName_34 : decode cX0_hasName 34 = .ok (.ifCond .eq 33, 3) := by decide +kernel
theorem dX0_hasName_37 : decode cX0_hasName 37 = .ok (.aload_n 0, 1) := by decide +kernel
theorem dX0_hasName_38 : decode cX0_hasName 38 = .ok (.getfield 30, 3) := by decide +kernel
theorem dX0_hasName_41 : decode cX0_hasName 41 = .ok (.iload_n 1, 1) := by decide +kernel
theorem dX0_hasName_42 : decode cX0_hasName 42 = .ok (.aaload, 1) := by decide +kernel
theorem dX0_hasName_43 : decode cX0_hasName 43 = .ok (.iload 4, 2) := by decide +kernel
theorem dX0_hasName_45 : decode cX0_hasName 45 = .ok (.baload, 1) := by decide +kernel
theorem dX0_hasName_46 : decode cX0_hasName 46 = .ok (.aload_n 2, 1) := by decide +kernel
theorem dX0_hasName_47 : decode cX0_hasName 47 = .ok (.iload 4, 2) := by decide +kernel
theorem dX0_hasName_49 : decode cX0_hasName 49 = .ok (.invokevirtual 51, 3) := by decide +kernel
theorem dX0_hasName_52 : decode cX0_hasName 52 = .ok (.if_icmp .ne 7, 3) := by decide +kernel
theorem dX0_hasName_55 : decode cX0_hasName 55 = .ok (.iconst 1, 1) := by decide +kernel
theorem dX0_hasName_56 : decode cX0_hasName 56 = .ok (.goto 4, 3) := by decide +kernel
theorem dX0_hasName_59 : decode cX0_hasName 59 = .ok (.iconst 0, 1) := by decide +kernel
theorem dX0_hasName_60 : decode cX0_hasName 60 = .ok (.istore_n 3, 1) := by decide +kernel
theorem dX0_hasName_61 : decode cX0_hasName 61 = .ok (.iinc 4 1, 3) := by decide +kernel
theorem dX0_hasName_64 : decode cX0_hasName 64 = .ok (.goto (-42), 3) := by decide +kernel
theorem dX0_hasName_67 : decode cX0_hasName 67 = .ok (.iload_n 3, 1) := by decide +kernel
theorem dX0_hasName_68 : decode cX0_hasName 68 = .ok (.ireturn, 1) := by decide +kernel
theorem dX0_find_0 : decode cX0_find 0 = .ok (.iconst 0, 1) := by decide +kernel
theorem dX0_find_1 : decode cX0_find 1 = .ok (.istore_n 2, 1) := by decide +kernel
theorem dX0_find_2 : decode cX0_find 2 = .ok (.iload_n 2, 1) := by decide +kernel
theorem dX0_find_3 : decode cX0_find 3 = .ok (.aload_n 0, 1) := by decide +kernel
theorem dX0_find_4 : decode cX0_find 4 = .ok (.getfield 9, 3) := by decide +kernel
theorem dX0_find_7 : decode cX0_find 7 = .ok (.if_icmp .ge 20, 3) := by decide +kernel
theorem dX0_find_10 : decode cX0_find 10 = .ok (.aload_n 0, 1) := by decide +kernel
theorem dX0_find_11 : decode cX0_find 11 = .ok (.iload_n 2, 1) := by decide +kernel
theorem dX0_find_12 : decode cX0_find 12 = .ok (.aload_n 1, 1) := by decide +kernel
theorem dX0_find_13 : decode cX0_find 13 = .ok (.invokevirtual 58, 3) := by decide +kernel
theorem dX0_find_16 : decode cX0_find 16 = .ok (.ifCond .eq 5, 3) := by decide +kernel
theorem dX0_find_19 : decode cX0_find 19 = .ok (.iload_n 2, 1) := by decide +kernel
theorem dX0_find_20 : decode cX0_find 20 = .ok (.ireturn, 1) := by decide +kernel
theorem dX0_find_21 : decode cX0_find 21 = .ok (.iinc 2 1, 3) := by decide +kernel
theorem dX0_find_24 : decode cX0_find 24 = .ok (.goto (-22), 3) := by decide +kernel
theorem dX0_find_27 : decode cX0_find 27 = .ok (.iconst (-1), 1) := by decide +kernel
theorem dX0_find_28 : decode cX0_find 28 = .ok (.ireturn, 1) := by decide +kernel
theorem dX1_isThere_0 : decode cX1_isThere 0 = .ok (.aload_n 0, 1) := by decide +kernel
theorem dX1_isThere_1 : decode cX1_isThere 1 = .ok (.getfield 19, 3) := by decide +kernel
theorem dX1_isThere_4 : decode cX1_isThere 4 = .ok (.iconst (-1), 1) := by decide +kernel
theorem dX1_isThere_5 : decode cX1_isThere 5 = .ok (.if_icmp .eq 7, 3) := by decide +kernel
theorem dX1_isThere_8 : decode cX1_isThere 8 = .ok (.iconst 1, 1) := by decide +kernel
theorem dX1_isThere_9 : decode cX1_isThere 9 = .ok (.goto 4, 3) := by decide +kernel
theorem dX1_isThere_12 : decode cX1_isThere 12 = .ok (.iconst 0, 1) := by decide +kernel
theorem dX1_isThere_13 : decode cX1_isThere 13 = .ok (.ireturn, 1) := by decide +kernel
theorem dX1_drop_0 : decode cX1_drop 0 = .ok (.aload_n 0, 1) := by decide +kernel
theorem dX1_drop_1 : decode cX1_drop 1 = .ok (.iconst (-1), 1) := by decide +kernel
theorem dX1_drop_2 : decode cX1_drop 2 = .ok (.putfield 19, 3) := by decide +kernel
theorem dX1_drop_5 : decode cX1_drop 5 = .ok (.return_, 1) := by decide +kernel
theorem dX1_take_0 : decode cX1_take 0 = .ok (.lload_n 3, 1) := by decide +kernel
theorem dX1_take_1 : decode cX1_take 1 = .ok (.lstore 5, 2) := by decide +kernel
theorem dX1_take_3 : decode cX1_take 3 = .ok (.iconst 0, 1) := by decide +kernel
theorem dX1_take_4 : decode cX1_take 4 = .ok (.istore 7, 2) := by decide +kernel
theorem dX1_take_6 : decode cX1_take 6 = .ok (.iload 7, 2) := by decide +kernel
theorem dX1_take_8 : decode cX1_take 8 = .ok (.iconst 4, 1) := by decide +kernel
theorem dX1_take_9 : decode cX1_take 9 = .ok (.if_icmp .ge 20, 3) := by decide +kernel
theorem dX1_take_12 : decode cX1_take 12 = .ok (.lload 5, 2) := by decide +kernel
theorem dX1_take_14 : decode cX1_take 14 = .ok (.aload_n 2, 1) := by decide +kernel
theorem dX1_take_15 : decode cX1_take 15 = .ok (.iload 7, 2) := by decide +kernel
theorem dX1_take_17 : decode cX1_take 17 = .ok (.laload, 1) := by decide +kernel
theorem dX1_take_18 : decode cX1_take 18 = .ok (.invokestatic 23, 3) := by decide +kernel
theorem dX1_take_21 : decode cX1_take 21 = .ok (.lstore 5, 2) := by decide +kernel
theorem dX1_take_23 : decode cX1_take 23 = .ok (.iinc 7 1, 3) := by decide +kernel
theorem dX1_take_26 : decode cX1_take 26 = .ok (.goto (-20), 3) := by decide +kernel
theorem dX1_take_29 : decode cX1_take 29 = .ok (.lload_n 3, 1) := by decide +kernel
theorem dX1_take_30 : decode cX1_take 30 = .ok (.lconst 0, 1) := by decide +kernel
theorem dX1_take_31 : decode cX1_take 31 = .ok (.lcmp, 1) := by decide +kernel
theorem dX1_take_32 : decode cX1_take 32 = .ok (.ifCond .le 20, 3) := by decide +kernel
theorem dX1_take_35 : decode cX1_take 35 = .ok (.lload_n 3, 1) := by decide +kernel
theorem dX1_take_36 : decode cX1_take 36 = .ok (.lload 5, 2) := by decide +kernel
theorem dX1_take_38 : decode cX1_take 38 = .ok (.invokestatic 29, 3) := by decide +kernel
theorem dX1_take_41 : decode cX1_take 41 = .ok (.ldc2_w 32, 3) := by decide +kernel
theorem dX1_take_44 : decode cX1_take 44 = .ok (.lcmp, 1) := by decide +kernel
theorem dX1_take_45 : decode cX1_take 45 = .ok (.ifCond .gt 7, 3) := by decide +kernel
theorem dX1_take_48 : decode cX1_take 48 = .ok (.iconst 1, 1) := by decide +kernel
theorem dX1_take_49 : decode cX1_take 49 = .ok (.goto 4, 3) := by decide +kernel
theorem dX1_take_52 : decode cX1_take 52 = .ok (.iconst 0, 1) := by decide +kernel
theorem dX1_take_53 : decode cX1_take 53 = .ok (.istore 7, 2) := by decide +kernel
theorem dX1_take_55 : decode cX1_take 55 = .ok (.iconst 0, 1) := by decide +kernel
theorem dX1_take_56 : decode cX1_take 56 = .ok (.istore 8, 2) := by decide +kernel
theorem dX1_take_58 : decode cX1_take 58 = .ok (.iload 8, 2) := by decide +kernel
theorem dX1_take_60 : decode cX1_take 60 = .ok (.iconst 4, 1) := by decide +kernel
theorem dX1_take_61 : decode cX1_take 61 = .ok (.if_icmp .ge 40, 3) := by decide +kernel
theorem dX1_take_64 : decode cX1_take 64 = .ok (.iload 7, 2) := by decide +kernel
theorem dX1_take_66 : decode cX1_take 66 = .ok (.ifCond .eq 35, 3) := by decide +kernel
theorem dX1_take_69 : decode cX1_take 69 = .ok (.aload_n 2, 1) := by decide +kernel
theorem dX1_take_70 : decode cX1_take 70 = .ok (.iload 8, 2) := by decide +kernel
theorem dX1_take_72 : decode cX1_take 72 = .ok (.laload, 1) := by decide +kernel
theorem dX1_take_73 : decode cX1_take 73 = .ok (.lload 5, 2) := by decide +kernel
theorem dX1_take_75 : decode cX1_take 75 = .ok (.invokestatic 29, 3) := by decide +kernel
theorem dX1_take_78 : decode cX1_take 78 = .ok (.invokestatic 34, 3) := by decide +kernel
theorem dX1_take_81 : decode cX1_take 81 = .ok (.ldc2_w 32, 3) := by decide +kernel
theorem dX1_take_84 : decode cX1_take 84 = .ok (.lcmp, 1) := by decide +kernel
theorem dX1_take_85 : decode cX1_take 85 = .ok (.ifCond .gt 7, 3) := by decide +kernel
theorem dX1_take_88 : decode cX1_take 88 = .ok (.iconst 1, 1) := by decide +kernel
theorem dX1_take_89 : decode cX1_take 89 = .ok (.goto 4, 3) := by decide +kernel
theorem dX1_take_92 : decode cX1_take 92 = .ok (.iconst 0, 1) := by decide +kernel
theorem dX1_take_93 : decode cX1_take 93 = .ok (.istore 7, 2) := by decide +kernel
theorem dX1_take_95 : decode cX1_take 95 = .ok (.iinc 8 1, 3) := by decide +kernel
theorem dX1_take_98 : decode cX1_take 98 = .ok (.goto (-40), 3) := by decide +kernel
theorem dX1_take_101 : decode cX1_take 101 = .ok (.iload 7, 2) := by decide +kernel
theorem dX1_take_103 : decode cX1_take 103 = .ok (.ifCond .ne 5, 3) := by decide +kernel
theorem dX1_take_106 : decode cX1_take 106 = .ok (.iconst 0, 1) := by decide +kernel
theorem dX1_take_107 : decode cX1_take 107 = .ok (.ireturn, 1) := by decide +kernel
theorem dX1_take_108 : decode cX1_take 108 = .ok (.iconst 0, 1) := by decide +kernel
theorem dX1_take_109 : decode cX1_take 109 = .ok (.istore 8, 2) := by decide +kernel
theorem dX1_take_111 : decode cX1_take 111 = .ok (.iload 8, 2) := by decide +kernel
theorem dX1_take_113 : decode cX1_take 113 = .ok (.iconst 4, 1) := by decide +kernel
theorem dX1_take_114 : decode cX1_take 114 = .ok (.if_icmp .ge 25, 3) := by decide +kernel
theorem dX1_take_117 : decode cX1_take 117 = .ok (.aload_n 0, 1) := by decide +kernel
theorem dX1_take_118 : decode cX1_take 118 = .ok (.getfield 9, 3) := by decide +kernel
theorem dX1_take_121 : decode cX1_take 121 = .ok (.iload 8, 2) := by decide +kernel
theorem dX1_take_123 : decode cX1_take 123 = .ok (.aload_n 2, 1) := by decide +kernel
theorem dX1_take_124 : decode cX1_take 124 = .ok (.iload 8, 2) := by decide +kernel
theorem dX1_take_126 : decode cX1_take 126 = .ok (.laload, 1) := by decide +kernel
theorem dX1_take_127 : decode cX1_take 127 = .ok (.lload 5, 2) := by decide +kernel
theorem dX1_take_129 : decode cX1_take 129 = .ok (.invokestatic 29, 3) := by decide +kernel
theorem dX1_take_132 : decode cX1_take 132 = .ok (.lastore, 1) := by decide +kernel
theorem dX1_take_133 : decode cX1_take 133 = .ok (.iinc 8 1, 3) := by decide +kernel
theorem dX1_take_136 : decode cX1_take 136 = .ok (.goto (-25), 3) := by decide +kernel
theorem dX1_take_139 : decode cX1_take 139 = .ok (.aload_n 0, 1) := by decide +kernel
theorem dX1_take_140 : decode cX1_take 140 = .ok (.lload_n 3, 1) := by decide +kernel
theorem dX1_take_141 : decode cX1_take 141 = .ok (.lload 5, 2) := by decide +kernel
theorem dX1_take_143 : decode cX1_take 143 = .ok (.invokestatic 29, 3) := by decide +kernel
theorem dX1_take_146 : decode cX1_take 146 = .ok (.putfield 15, 3) := by decide +kernel
theorem dX1_take_149 : decode cX1_take 149 = .ok (.aload_n 0, 1) := by decide +kernel
theorem dX1_take_150 : decode cX1_take 150 = .ok (.iload_n 1, 1) := by decide +kernel
theorem dX1_take_151 : decode cX1_take 151 = .ok (.putfield 19, 3) := by decide +kernel
theorem dX1_take_154 : decode cX1_take 154 = .ok (.iconst 1, 1) := by decide +kernel
theorem dX1_take_155 : decode cX1_take 155 = .ok (.ireturn, 1) := by decide +kernel
theorem dX1_isWithin_0 : decode cX1_isWithin 0 = .ok (.aload_n 0, 1) := by decide +kernel
theorem dX1_isWithin_1 : decode cX1_isWithin 1 = .ok (.getfield 15, 3) := by decide +kernel
theorem dX1_isWithin_4 : decode cX1_isWithin 4 = .ok (.iload_n 1, 1) := by decide +kernel
theorem dX1_isWithin_5 : decode cX1_isWithin 5 = .ok (.i2l, 1) := by decide +kernel
theorem dX1_isWithin_6 : decode cX1_isWithin 6 = .ok (.lcmp, 1) := by decide +kernel
theorem dX1_isWithin_7 : decode cX1_isWithin 7 = .ok (.ifCond .gt 7, 3) := by decide +kernel
theorem dX1_isWithin_10 : decode cX1_isWithin 10 = .ok (.iconst 1, 1) := by decide +kernel
theorem dX1_isWithin_11 : decode cX1_isWithin 11 = .ok (.goto 4, 3) := by decide +kernel
theorem dX1_isWithin_14 : decode cX1_isWithin 14 = .ok (.iconst 0, 1) := by decide +kernel
theorem dX1_isWithin_15 : decode cX1_isWithin 15 = .ok (.istore_n 2, 1) := by decide +kernel
theorem dX1_isWithin_16 : decode cX1_isWithin 16 = .ok (.iconst 0, 1) := by decide +kernel
theorem dX1_isWithin_17 : decode cX1_isWithin 17 = .ok (.istore_n 3, 1) := by decide +kernel
theorem dX1_isWithin_18 : decode cX1_isWithin 18 = .ok (.iload_n 3, 1) := by decide +kernel
theorem dX1_isWithin_19 : decode cX1_isWithin 19 = .ok (.iconst 4, 1) := by decide +kernel
theorem dX1_isWithin_20 : decode cX1_isWithin 20 = .ok (.if_icmp .ge 34, 3) := by decide +kernel
theorem dX1_isWithin_23 : decode cX1_isWithin 23 = .ok (.iload_n 2, 1) := by decide +kernel
theorem dX1_isWithin_24 : decode cX1_isWithin 24 = .ok (.ifCond .eq 30, 3) := by decide +kernel
theorem dX1_isWithin_27 : decode cX1_isWithin 27 = .ok (.aload_n 0, 1) := by decide +kernel
theorem dX1_isWithin_28 : decode cX1_isWithin 28 = .ok (.getfield 9, 3) := by decide +kernel
theorem dX1_isWithin_31 : decode cX1_isWithin 31 = .ok (.iload_n 3, 1) := by decide +kernel
theorem dX1_isWithin_32 : decode cX1_isWithin 32 = .ok (.laload, 1) := by decide +kernel
theorem dX1_isWithin_33 : decode cX1_isWithin 33 = .ok (.invokestatic 34, 3) := by decide +kernel
theorem dX1_isWithin_36 : decode cX1_isWithin 36 = .ok (.iload_n 1, 1) := by decide +kernel
theorem dX1_isWithin_37 : decode cX1_isWithin 37 = .ok (.i2l, 1) := by decide +kernel
theorem dX1_isWithin_38 : decode cX1_isWithin 38 = .ok (.lcmp, 1) := by decide +kernel
theorem dX1_isWithin_39 : decode cX1_isWithin 39 = .ok (.ifCond .gt 7, 3) := by decide +kernel
theorem dX1_isWithin_42 : decode cX1_isWithin 42 = .ok (.iconst 1, 1) := by decide +kernel
theorem dX1_isWithin_43 : decode cX1_isWithin 43 = .ok (.goto 4, 3) := by decide +kernel
theorem dX1_isWithin_46 : decode cX1_isWithin 46 = .ok (.iconst 0, 1) := by decide +kernel
theorem dX1_isWithin_47 : decode cX1_isWithin 47 = .ok (.istore_n 2, 1) := by decide +kernel
theorem dX1_isWithin_48 : decode cX1_isWithin 48 = .ok (.iinc 3 1, 3) := by decide +kernel
theorem dX1_isWithin_51 : decode cX1_isWithin 51 = .ok (.goto (-33), 3) := by decide +kernel
theorem dX1_isWithin_54 : decode cX1_isWithin 54 = .ok (.iload_n 2, 1) := by decide +kernel
theorem dX1_isWithin_55 : decode cX1_isWithin 55 = .ok (.ireturn, 1) := by decide +kernel
theorem dX1_multiply_0 : decode cX1_multiply 0 = .ok (.aload 6, 2) := by decide +kernel
theorem dX1_multiply_2 : decode cX1_multiply 2 = .ok (.iconst 0, 1) := by decide +kernel
theorem dX1_multiply_3 : decode cX1_multiply 3 = .ok (.aload 4, 2) := by decide +kernel
theorem dX1_multiply_5 : decode cX1_multiply 5 = .ok (.iconst 0, 1) := by decide +kernel
theorem dX1_multiply_6 : decode cX1_multiply 6 = .ok (.laload, 1) := by decide +kernel
theorem dX1_multiply_7 : decode cX1_multiply 7 = .ok (.aload 5, 2) := by decide +kernel
theorem dX1_multiply_9 : decode cX1_multiply 9 = .ok (.iconst 0, 1) := by decide +kernel
theorem dX1_multiply_10 : decode cX1_multiply 10 = .ok (.laload, 1) := by decide +kernel
theorem dX1_multiply_11 : decode cX1_multiply 11 = .ok (.lmul, 1) := by decide +kernel
theorem dX1_multiply_12 : decode cX1_multiply 12 = .ok (.lload_n 0, 1) := by decide +kernel
theorem dX1_multiply_13 : decode cX1_multiply 13 = .ok (.aload 4, 2) := by decide +kernel
theorem dX1_multiply_15 : decode cX1_multiply 15 = .ok (.iconst 1, 1) := by decide +kernel
theorem dX1_multiply_16 : decode cX1_multiply 16 = .ok (.laload, 1) := by decide +kernel
theorem dX1_multiply_17 : decode cX1_multiply 17 = .ok (.lmul, 1) := by decide +kernel
theorem dX1_multiply_18 : decode cX1_multiply 18 = .ok (.aload 5, 2) := by decide +kernel
theorem dX1_multiply_20 : decode cX1_multiply 20 = .ok (.iconst 1, 1) := by decide +kernel
theorem dX1_multiply_21 : decode cX1_multiply 21 = .ok (.laload, 1) := by decide +kernel
theorem dX1_multiply_22 : decode cX1_multiply 22 = .ok (.lmul, 1) := by decide +kernel
theorem dX1_multiply_23 : decode cX1_multiply 23 = .ok (.ladd, 1) := by decide +kernel
theorem dX1_multiply_24 : decode cX1_multiply 24 = .ok (.lload_n 2, 1) := by decide +kernel
theorem dX1_multiply_25 : decode cX1_multiply 25 = .ok (.aload 4, 2) := by decide +kernel
theorem dX1_multiply_27 : decode cX1_multiply 27 = .ok (.iconst 2, 1) := by decide +kernel
theorem dX1_multiply_28 : decode cX1_multiply 28 = .ok (.laload, 1) := by decide +kernel
theorem dX1_multiply_29 : decode cX1_multiply 29 = .ok (.lmul, 1) := by decide +kernel
theorem dX1_multiply_30 : decode cX1_multiply 30 = .ok (.aload 5, 2) := by decide +kernel
theorem dX1_multiply_32 : decode cX1_multiply 32 = .ok (.iconst 2, 1) := by decide +kernel
theorem dX1_multiply_33 : decode cX1_multiply 33 = .ok (.laload, 1) := by decide +kernel
theorem dX1_multiply_34 : decode cX1_multiply 34 = .ok (.lmul, 1) := by decide +kernel
theorem dX1_multiply_35 : decode cX1_multiply 35 = .ok (.ladd, 1) := by decide +kernel
theorem dX1_multiply_36 : decode cX1_multiply 36 = .ok (.lload_n 0, 1) := by decide +kernel
theorem dX1_multiply_37 : decode cX1_multiply 37 = .ok (.lload_n 2, 1) := by decide +kernel
theorem dX1_multiply_38 : decode cX1_multiply 38 = .ok (.lmul, 1) := by decide +kernel
theorem dX1_multiply_39 : decode cX1_multiply 39 = .ok (.aload 4, 2) := by decide +kernel
theorem dX1_multiply_41 : decode cX1_multiply 41 = .ok (.iconst 3, 1) := by decide +kernel
theorem dX1_multiply_42 : decode cX1_multiply 42 = .ok (.laload, 1) := by decide +kernel
theorem dX1_multiply_43 : decode cX1_multiply 43 = .ok (.lmul, 1) := by decide +kernel
theorem dX1_multiply_44 : decode cX1_multiply 44 = .ok (.aload 5, 2) := by decide +kernel
theorem dX1_multiply_46 : decode cX1_multiply 46 = .ok (.iconst 3, 1) := by decide +kernel
theorem dX1_multiply_47 : decode cX1_multiply 47 = .ok (.laload, 1) := by decide +kernel
theorem dX1_multiply_48 : decode cX1_multiply 48 = .ok (.lmul, 1) := by decide +kernel
theorem dX1_multiply_49 : decode cX1_multiply 49 = .ok (.lsub, 1) := by decide +kernel
theorem dX1_multiply_50 : decode cX1_multiply 50 = .ok (.lastore, 1) := by decide +kernel
theorem dX1_multiply_51 : decode cX1_multiply 51 = .ok (.aload 6, 2) := by decide +kernel
theorem dX1_multiply_53 : decode cX1_multiply 53 = .ok (.iconst 1, 1) := by decide +kernel
theorem dX1_multiply_54 : decode cX1_multiply 54 = .ok (.aload 4, 2) := by decide +kernel
theorem dX1_multiply_56 : decode cX1_multiply 56 = .ok (.iconst 0, 1) := by decide +kernel
theorem dX1_multiply_57 : decode cX1_multiply 57 = .ok (.laload, 1) := by decide +kernel
theorem dX1_multiply_58 : decode cX1_multiply 58 = .ok (.aload 5, 2) := by decide +kernel
theorem dX1_multiply_60 : decode cX1_multiply 60 = .ok (.iconst 1, 1) := by decide +kernel
theorem dX1_multiply_61 : decode cX1_multiply 61 = .ok (.laload, 1) := by decide +kernel
theorem dX1_multiply_62 : decode cX1_multiply 62 = .ok (.lmul, 1) := by decide +kernel
theorem dX1_multiply_63 : decode cX1_multiply 63 = .ok (.aload 4, 2) := by decide +kernel
theorem dX1_multiply_65 : decode cX1_multiply 65 = .ok (.iconst 1, 1) := by decide +kernel
theorem dX1_multiply_66 : decode cX1_multiply 66 = .ok (.laload, 1) := by decide +kernel
theorem dX1_multiply_67 : decode cX1_multiply 67 = .ok (.aload 5, 2) := by decide +kernel
theorem dX1_multiply_69 : decode cX1_multiply 69 = .ok (.iconst 0, 1) := by decide +kernel
theorem dX1_multiply_70 : decode cX1_multiply 70 = .ok (.laload, 1) := by decide +kernel
theorem dX1_multiply_71 : decode cX1_multiply 71 = .ok (.lmul, 1) := by decide +kernel
theorem dX1_multiply_72 : decode cX1_multiply 72 = .ok (.ladd, 1) := by decide +kernel
theorem dX1_multiply_73 : decode cX1_multiply 73 = .ok (.lload_n 2, 1) := by decide +kernel
theorem dX1_multiply_74 : decode cX1_multiply 74 = .ok (.aload 4, 2) := by decide +kernel
theorem dX1_multiply_76 : decode cX1_multiply 76 = .ok (.iconst 3, 1) := by decide +kernel
theorem dX1_multiply_77 : decode cX1_multiply 77 = .ok (.laload, 1) := by decide +kernel
theorem dX1_multiply_78 : decode cX1_multiply 78 = .ok (.aload 5, 2) := by decide +kernel
theorem dX1_multiply_80 : decode cX1_multiply 80 = .ok (.iconst 2, 1) := by decide +kernel
theorem dX1_multiply_81 : decode cX1_multiply 81 = .ok (.laload, 1) := by decide +kernel
theorem dX1_multiply_82 : decode cX1_multiply 82 = .ok (.lmul, 1) := by decide +kernel
theorem dX1_multiply_83 : decode cX1_multiply 83 = .ok (.aload 4, 2) := by decide +kernel
theorem dX1_multiply_85 : decode cX1_multiply 85 = .ok (.iconst 2, 1) := by decide +kernel
theorem dX1_multiply_86 : decode cX1_multiply 86 = .ok (.laload, 1) := by decide +kernel
theorem dX1_multiply_87 : decode cX1_multiply 87 = .ok (.aload 5, 2) := by decide +kernel
theorem dX1_multiply_89 : decode cX1_multiply 89 = .ok (.iconst 3, 1) := by decide +kernel
theorem dX1_multiply_90 : decode cX1_multiply 90 = .ok (.laload, 1) := by decide +kernel
theorem dX1_multiply_91 : decode cX1_multiply 91 = .ok (.lmul, 1) := by decide +kernel
theorem dX1_multiply_92 : decode cX1_multiply 92 = .ok (.lsub, 1) := by decide +kernel
theorem dX1_multiply_93 : decode cX1_multiply 93 = .ok (.lmul, 1) := by decide +kernel
theorem dX1_multiply_94 : decode cX1_multiply 94 = .ok (.ladd, 1) := by decide +kernel
theorem dX1_multiply_95 : decode cX1_multiply 95 = .ok (.lastore, 1) := by decide +kernel
theorem dX1_multiply_96 : decode cX1_multiply 96 = .ok (.aload 6, 2) := by decide +kernel
theorem dX1_multiply_98 : decode cX1_multiply 98 = .ok (.iconst 2, 1) := by decide +kernel
theorem dX1_multiply_99 : decode cX1_multiply 99 = .ok (.aload 4, 2) := by decide +kernel
theorem dX1_multiply_101 : decode cX1_multiply 101 = .ok (.iconst 0, 1) := by decide +kernel
theorem dX1_multiply_102 : decode cX1_multiply 102 = .ok (.laload, 1) := by decide +kernel
theorem dX1_multiply_103 : decode cX1_multiply 103 = .ok (.aload 5, 2) := by decide +kernel
theorem dX1_multiply_105 : decode cX1_multiply 105 = .ok (.iconst 2, 1) := by decide +kernel
theorem dX1_multiply_106 : decode cX1_multiply 106 = .ok (.laload, 1) := by decide +kernel
theorem dX1_multiply_107 : decode cX1_multiply 107 = .ok (.lmul, 1) := by decide +kernel
theorem dX1_multiply_108 : decode cX1_multiply 108 = .ok (.aload 4, 2) := by decide +kernel
theorem dX1_multiply_110 : decode cX1_multiply 110 = .ok (.iconst 2, 1) := by decide +kernel
theorem dX1_multiply_111 : decode cX1_multiply 111 = .ok (.laload, 1) := by decide +kernel
theorem dX1_multiply_112 : decode cX1_multiply 112 = .ok (.aload 5, 2) := by decide +kernel
theorem dX1_multiply_114 : decode cX1_multiply 114 = .ok (.iconst 0, 1) := by decide +kernel
theorem dX1_multiply_115 : decode cX1_multiply 115 = .ok (.laload, 1) := by decide +kernel
theorem dX1_multiply_116 : decode cX1_multiply 116 = .ok (.lmul, 1) := by decide +kernel
theorem dX1_multiply_117 : decode cX1_multiply 117 = .ok (.ladd, 1) := by decide +kernel
theorem dX1_multiply_118 : decode cX1_multiply 118 = .ok (.lload_n 0, 1) := by decide +kernel
theorem dX1_multiply_119 : decode cX1_multiply 119 = .ok (.aload 4, 2) := by decide +kernel
theorem dX1_multiply_121 : decode cX1_multiply 121 = .ok (.iconst 1, 1) := by decide +kernel
theorem dX1_multiply_122 : decode cX1_multiply 122 = .ok (.laload, 1) := by decide +kernel
theorem dX1_multiply_123 : decode cX1_multiply 123 = .ok (.aload 5, 2) := by decide +kernel
theorem dX1_multiply_125 : decode cX1_multiply 125 = .ok (.iconst 3, 1) := by decide +kernel
theorem dX1_multiply_126 : decode cX1_multiply 126 = .ok (.laload, 1) := by decide +kernel
theorem dX1_multiply_127 : decode cX1_multiply 127 = .ok (.lmul, 1) := by decide +kernel
theorem dX1_multiply_128 : decode cX1_multiply 128 = .ok (.aload 4, 2) := by decide +kernel
theorem dX1_multiply_130 : decode cX1_multiply 130 = .ok (.iconst 3, 1) := by decide +kernel
theorem dX1_multiply_131 : decode cX1_multiply 131 = .ok (.laload, 1) := by decide +kernel
theorem dX1_multiply_132 : decode cX1_multiply 132 = .ok (.aload 5, 2) := by decide +kernel
theorem dX1_multiply_134 : decode cX1_multiply 134 = .ok (.iconst 1, 1) := by decide +kernel
theorem dX1_multiply_135 : decode cX1_multiply 135 = .ok (.laload, 1) := by decide +kernel
theorem dX1_multiply_136 : decode cX1_multiply 136 = .ok (.lmul, 1) := by decide +kernel
theorem dX1_multiply_137 : decode cX1_multiply 137 = .ok (.lsub, 1) := by decide +kernel
theorem dX1_multiply_138 : decode cX1_multiply 138 = .ok (.lmul, 1) := by decide +kernel
theorem dX1_multiply_139 : decode cX1_multiply 139 = .ok (.ladd, 1) := by decide +kernel
theorem dX1_multiply_140 : decode cX1_multiply 140 = .ok (.lastore, 1) := by decide +kernel
theorem dX1_multiply_141 : decode cX1_multiply 141 = .ok (.aload 6, 2) := by decide +kernel
theorem dX1_multiply_143 : decode cX1_multiply 143 = .ok (.iconst 3, 1) := by decide +kernel
theorem dX1_multiply_144 : decode cX1_multiply 144 = .ok (.aload 4, 2) := by decide +kernel
theorem dX1_multiply_146 : decode cX1_multiply 146 = .ok (.iconst 0, 1) := by decide +kernel
theorem dX1_multiply_147 : decode cX1_multiply 147 = .ok (.laload, 1) := by decide +kernel
theorem dX1_multiply_148 : decode cX1_multiply 148 = .ok (.aload 5, 2) := by decide +kernel
theorem dX1_multiply_150 : decode cX1_multiply 150 = .ok (.iconst 3, 1) := by decide +kernel
theorem dX1_multiply_151 : decode cX1_multiply 151 = .ok (.laload, 1) := by decide +kernel
theorem dX1_multiply_152 : decode cX1_multiply 152 = .ok (.lmul, 1) := by decide +kernel
theorem dX1_multiply_153 : decode cX1_multiply 153 = .ok (.aload 4, 2) := by decide +kernel
theorem dX1_multiply_155 : decode cX1_multiply 155 = .ok (.iconst 3, 1) := by decide +kernel
theorem dX1_multiply_156 : decode cX1_multiply 156 = .ok (.laload, 1) := by decide +kernel
theorem dX1_multiply_157 : decode cX1_multiply 157 = .ok (.aload 5, 2) := by decide +kernel
theorem dX1_multiply_159 : decode cX1_multiply 159 = .ok (.iconst 0, 1) := by decide +kernel
theorem dX1_multiply_160 : decode cX1_multiply 160 = .ok (.laload, 1) := by decide +kernel
theorem dX1_multiply_161 : decode cX1_multiply 161 = .ok (.lmul, 1) := by decide +kernel
theorem dX1_multiply_162 : decode cX1_multiply 162 = .ok (.ladd, 1) := by decide +kernel
theorem dX1_multiply_163 : decode cX1_multiply 163 = .ok (.aload 4, 2) := by decide +kernel
theorem dX1_multiply_165 : decode cX1_multiply 165 = .ok (.iconst 1, 1) := by decide +kernel
theorem dX1_multiply_166 : decode cX1_multiply 166 = .ok (.laload, 1) := by decide +kernel
theorem dX1_multiply_167 : decode cX1_multiply 167 = .ok (.aload 5, 2) := by decide +kernel
theorem dX1_multiply_169 : decode cX1_multiply 169 = .ok (.iconst 2, 1) := by decide +kernel
theorem dX1_multiply_170 : decode cX1_multiply 170 = .ok (.laload, 1) := by decide +kernel
theorem dX1_multiply_171 : decode cX1_multiply 171 = .ok (.lmul, 1) := by decide +kernel
theorem dX1_multiply_172 : decode cX1_multiply 172 = .ok (.ladd, 1) := by decide +kernel
theorem dX1_multiply_173 : decode cX1_multiply 173 = .ok (.aload 4, 2) := by decide +kernel
theorem dX1_multiply_175 : decode cX1_multiply 175 = .ok (.iconst 2, 1) := by decide +kernel
theorem dX1_multiply_176 : decode cX1_multiply 176 = .ok (.laload, 1) := by decide +kernel
theorem dX1_multiply_177 : decode cX1_multiply 177 = .ok (.aload 5, 2) := by decide +kernel
theorem dX1_multiply_179 : decode cX1_multiply 179 = .ok (.iconst 1, 1) := by decide +kernel
theorem dX1_multiply_180 : decode cX1_multiply 180 = .ok (.laload, 1) := by decide +kernel
theorem dX1_multiply_181 : decode cX1_multiply 181 = .ok (.lmul, 1) := by decide +kernel
theorem dX1_multiply_182 : decode cX1_multiply 182 = .ok (.lsub, 1) := by decide +kernel
theorem dX1_multiply_183 : decode cX1_multiply 183 = .ok (.lastore, 1) := by decide +kernel
theorem dX1_multiply_184 : decode cX1_multiply 184 = .ok (.return_, 1) := by decide +kernel
theorem dX1_reflect_0 : decode cX1_reflect 0 = .ok (.aload_n 3, 1) := by decide +kernel
theorem dX1_reflect_1 : decode cX1_reflect 1 = .ok (.iconst 0, 1) := by decide +kernel
theorem dX1_reflect_2 : decode cX1_reflect 2 = .ok (.aload_n 0, 1) := by decide +kernel
theorem dX1_reflect_3 : decode cX1_reflect 3 = .ok (.iconst 0, 1) := by decide +kernel
theorem dX1_reflect_4 : decode cX1_reflect 4 = .ok (.laload, 1) := by decide +kernel
theorem dX1_reflect_5 : decode cX1_reflect 5 = .ok (.lload_n 1, 1) := by decide +kernel
theorem dX1_reflect_6 : decode cX1_reflect 6 = .ok (.lmul, 1) := by decide +kernel
theorem dX1_reflect_7 : decode cX1_reflect 7 = .ok (.lastore, 1) := by decide +kernel
theorem dX1_reflect_8 : decode cX1_reflect 8 = .ok (.iconst 1, 1) := by decide +kernel
theorem dX1_reflect_9 : decode cX1_reflect 9 = .ok (.istore 4, 2) := by decide +kernel
theorem dX1_reflect_11 : decode cX1_reflect 11 = .ok (.iload 4, 2) := by decide +kernel
theorem dX1_reflect_13 : decode cX1_reflect 13 = .ok (.iconst 4, 1) := by decide +kernel
theorem dX1_reflect_14 : decode cX1_reflect 14 = .ok (.if_icmp .ge 20, 3) := by decide +kernel
theorem dX1_reflect_17 : decode cX1_reflect 17 = .ok (.aload_n 3, 1) := by decide +kernel
theorem dX1_reflect_18 : decode cX1_reflect 18 = .ok (.iload 4, 2) := by decide +kernel
theorem dX1_reflect_20 : decode cX1_reflect 20 = .ok (.aload_n 0, 1) := by decide +kernel
theorem dX1_reflect_21 : decode cX1_reflect 21 = .ok (.iload 4, 2) := by decide +kernel
theorem dX1_reflect_23 : decode cX1_reflect 23 = .ok (.laload, 1) := by decide +kernel
theorem dX1_reflect_24 : decode cX1_reflect 24 = .ok (.lneg, 1) := by decide +kernel
theorem dX1_reflect_25 : decode cX1_reflect 25 = .ok (.lload_n 1, 1) := by decide +kernel
theorem dX1_reflect_26 : decode cX1_reflect 26 = .ok (.lmul, 1) := by decide +kernel
theorem dX1_reflect_27 : decode cX1_reflect 27 = .ok (.lastore, 1) := by decide +kernel
theorem dX1_reflect_28 : decode cX1_reflect 28 = .ok (.iinc 4 1, 3) := by decide +kernel
theorem dX1_reflect_31 : decode cX1_reflect 31 = .ok (.goto (-20), 3) := by decide +kernel
theorem dX1_reflect_34 : decode cX1_reflect 34 = .ok (.return_, 1) := by decide +kernel
theorem dX1_form_0 : decode cX1_form 0 = .ok (.aload 4, 2) := by decide +kernel
theorem dX1_form_2 : decode cX1_form 2 = .ok (.iconst 0, 1) := by decide +kernel
theorem dX1_form_3 : decode cX1_form 3 = .ok (.laload, 1) := by decide +kernel
theorem dX1_form_4 : decode cX1_form 4 = .ok (.aload 4, 2) := by decide +kernel
theorem dX1_form_6 : decode cX1_form 6 = .ok (.iconst 0, 1) := by decide +kernel
theorem dX1_form_7 : decode cX1_form 7 = .ok (.laload, 1) := by decide +kernel
theorem dX1_form_8 : decode cX1_form 8 = .ok (.lmul, 1) := by decide +kernel
theorem dX1_form_9 : decode cX1_form 9 = .ok (.lload_n 0, 1) := by decide +kernel
theorem dX1_form_10 : decode cX1_form 10 = .ok (.aload 4, 2) := by decide +kernel
theorem dX1_form_12 : decode cX1_form 12 = .ok (.iconst 1, 1) := by decide +kernel
theorem dX1_form_13 : decode cX1_form 13 = .ok (.laload, 1) := by decide +kernel
theorem dX1_form_14 : decode cX1_form 14 = .ok (.lmul, 1) := by decide +kernel
theorem dX1_form_15 : decode cX1_form 15 = .ok (.aload 4, 2) := by decide +kernel
theorem dX1_form_17 : decode cX1_form 17 = .ok (.iconst 1, 1) := by decide +kernel
theorem dX1_form_18 : decode cX1_form 18 = .ok (.laload, 1) := by decide +kernel
theorem dX1_form_19 : decode cX1_form 19 = .ok (.lmul, 1) := by decide +kernel
theorem dX1_form_20 : decode cX1_form 20 = .ok (.lsub, 1) := by decide +kernel
theorem dX1_form_21 : decode cX1_form 21 = .ok (.lload_n 2, 1) := by decide +kernel
theorem dX1_form_22 : decode cX1_form 22 = .ok (.aload 4, 2) := by decide +kernel
theorem dX1_form_24 : decode cX1_form 24 = .ok (.iconst 2, 1) := by decide +kernel
theorem dX1_form_25 : decode cX1_form 25 = .ok (.laload, 1) := by decide +kernel
theorem dX1_form_26 : decode cX1_form 26 = .ok (.lmul, 1) := by decide +kernel
theorem dX1_form_27 : decode cX1_form 27 = .ok (.aload 4, 2) := by decide +kernel
theorem dX1_form_29 : decode cX1_form 29 = .ok (.iconst 2, 1) := by decide +kernel
theorem dX1_form_30 : decode cX1_form 30 = .ok (.laload, 1) := by decide +kernel
theorem dX1_form_31 : decode cX1_form 31 = .ok (.lmul, 1) := by decide +kernel
theorem dX1_form_32 : decode cX1_form 32 = .ok (.lsub, 1) := by decide +kernel
theorem dX1_form_33 : decode cX1_form 33 = .ok (.lload_n 0, 1) := by decide +kernel
theorem dX1_form_34 : decode cX1_form 34 = .ok (.lload_n 2, 1) := by decide +kernel
theorem dX1_form_35 : decode cX1_form 35 = .ok (.lmul, 1) := by decide +kernel
theorem dX1_form_36 : decode cX1_form 36 = .ok (.aload 4, 2) := by decide +kernel
theorem dX1_form_38 : decode cX1_form 38 = .ok (.iconst 3, 1) := by decide +kernel
theorem dX1_form_39 : decode cX1_form 39 = .ok (.laload, 1) := by decide +kernel
theorem dX1_form_40 : decode cX1_form 40 = .ok (.lmul, 1) := by decide +kernel
theorem dX1_form_41 : decode cX1_form 41 = .ok (.aload 4, 2) := by decide +kernel
theorem dX1_form_43 : decode cX1_form 43 = .ok (.iconst 3, 1) := by decide +kernel
theorem dX1_form_44 : decode cX1_form 44 = .ok (.laload, 1) := by decide +kernel
theorem dX1_form_45 : decode cX1_form 45 = .ok (.lmul, 1) := by decide +kernel
theorem dX1_form_46 : decode cX1_form 46 = .ok (.ladd, 1) := by decide +kernel
theorem dX1_form_47 : decode cX1_form 47 = .ok (.lreturn, 1) := by decide +kernel
theorem dX1_pairing_0 : decode cX1_pairing 0 = .ok (.ldc2_w 40, 3) := by decide +kernel
theorem dX1_pairing_3 : decode cX1_pairing 3 = .ok (.aload 4, 2) := by decide +kernel
theorem dX1_pairing_5 : decode cX1_pairing 5 = .ok (.iconst 0, 1) := by decide +kernel
theorem dX1_pairing_6 : decode cX1_pairing 6 = .ok (.laload, 1) := by decide +kernel
theorem dX1_pairing_7 : decode cX1_pairing 7 = .ok (.aload 5, 2) := by decide +kernel
theorem dX1_pairing_9 : decode cX1_pairing 9 = .ok (.iconst 0, 1) := by decide +kernel
theorem dX1_pairing_10 : decode cX1_pairing 10 = .ok (.laload, 1) := by decide +kernel
theorem dX1_pairing_11 : decode cX1_pairing 11 = .ok (.lmul, 1) := by decide +kernel
theorem dX1_pairing_12 : decode cX1_pairing 12 = .ok (.lload_n 0, 1) := by decide +kernel
theorem dX1_pairing_13 : decode cX1_pairing 13 = .ok (.aload 4, 2) := by decide +kernel
theorem dX1_pairing_15 : decode cX1_pairing 15 = .ok (.iconst 1, 1) := by decide +kernel
theorem dX1_pairing_16 : decode cX1_pairing 16 = .ok (.laload, 1) := by decide +kernel
theorem dX1_pairing_17 : decode cX1_pairing 17 = .ok (.lmul, 1) := by decide +kernel
theorem dX1_pairing_18 : decode cX1_pairing 18 = .ok (.aload 5, 2) := by decide +kernel
theorem dX1_pairing_20 : decode cX1_pairing 20 = .ok (.iconst 1, 1) := by decide +kernel
theorem dX1_pairing_21 : decode cX1_pairing 21 = .ok (.laload, 1) := by decide +kernel
theorem dX1_pairing_22 : decode cX1_pairing 22 = .ok (.lmul, 1) := by decide +kernel
theorem dX1_pairing_23 : decode cX1_pairing 23 = .ok (.lsub, 1) := by decide +kernel
theorem dX1_pairing_24 : decode cX1_pairing 24 = .ok (.lload_n 2, 1) := by decide +kernel
theorem dX1_pairing_25 : decode cX1_pairing 25 = .ok (.aload 4, 2) := by decide +kernel
theorem dX1_pairing_27 : decode cX1_pairing 27 = .ok (.iconst 2, 1) := by decide +kernel
theorem dX1_pairing_28 : decode cX1_pairing 28 = .ok (.laload, 1) := by decide +kernel
theorem dX1_pairing_29 : decode cX1_pairing 29 = .ok (.lmul, 1) := by decide +kernel
theorem dX1_pairing_30 : decode cX1_pairing 30 = .ok (.aload 5, 2) := by decide +kernel
theorem dX1_pairing_32 : decode cX1_pairing 32 = .ok (.iconst 2, 1) := by decide +kernel
theorem dX1_pairing_33 : decode cX1_pairing 33 = .ok (.laload, 1) := by decide +kernel
theorem dX1_pairing_34 : decode cX1_pairing 34 = .ok (.lmul, 1) := by decide +kernel
theorem dX1_pairing_35 : decode cX1_pairing 35 = .ok (.lsub, 1) := by decide +kernel
theorem dX1_pairing_36 : decode cX1_pairing 36 = .ok (.lload_n 0, 1) := by decide +kernel
theorem dX1_pairing_37 : decode cX1_pairing 37 = .ok (.lload_n 2, 1) := by decide +kernel
theorem dX1_pairing_38 : decode cX1_pairing 38 = .ok (.lmul, 1) := by decide +kernel
theorem dX1_pairing_39 : decode cX1_pairing 39 = .ok (.aload 4, 2) := by decide +kernel
theorem dX1_pairing_41 : decode cX1_pairing 41 = .ok (.iconst 3, 1) := by decide +kernel
theorem dX1_pairing_42 : decode cX1_pairing 42 = .ok (.laload, 1) := by decide +kernel
theorem dX1_pairing_43 : decode cX1_pairing 43 = .ok (.lmul, 1) := by decide +kernel
theorem dX1_pairing_44 : decode cX1_pairing 44 = .ok (.aload 5, 2) := by decide +kernel
theorem dX1_pairing_46 : decode cX1_pairing 46 = .ok (.iconst 3, 1) := by decide +kernel
theorem dX1_pairing_47 : decode cX1_pairing 47 = .ok (.laload, 1) := by decide +kernel
theorem dX1_pairing_48 : decode cX1_pairing 48 = .ok (.lmul, 1) := by decide +kernel
theorem dX1_pairing_49 : decode cX1_pairing 49 = .ok (.ladd, 1) := by decide +kernel
theorem dX1_pairing_50 : decode cX1_pairing 50 = .ok (.lmul, 1) := by decide +kernel
theorem dX1_pairing_51 : decode cX1_pairing 51 = .ok (.lreturn, 1) := by decide +kernel
theorem dX3_modulus_0 : decode cX3_modulus 0 = .ok (.aload_n 0, 1) := by decide +kernel
theorem dX3_modulus_1 : decode cX3_modulus 1 = .ok (.getfield 18, 3) := by decide +kernel
theorem dX3_modulus_4 : decode cX3_modulus 4 = .ok (.lreturn, 1) := by decide +kernel
theorem dX6_below_0 : decode cX6_below 0 = .ok (.aload_n 0, 1) := by decide +kernel
theorem dX6_below_1 : decode cX6_below 1 = .ok (.getfield 19, 3) := by decide +kernel
theorem dX6_below_4 : decode cX6_below 4 = .ok (.invokevirtual 31, 3) := by decide +kernel
theorem dX6_below_7 : decode cX6_below 7 = .ok (.lreturn, 1) := by decide +kernel
theorem dX3_numbersOf_0 : decode cX3_numbersOf 0 = .ok (.aload_n 0, 1) := by decide +kernel
theorem dX3_numbersOf_1 : decode cX3_numbersOf 1 = .ok (.getfield 9, 3) := by decide +kernel
theorem dX3_numbersOf_4 : decode cX3_numbersOf 4 = .ok (.iload_n 1, 1) := by decide +kernel
theorem dX3_numbersOf_5 : decode cX3_numbersOf 5 = .ok (.aaload, 1) := by decide +kernel
theorem dX3_numbersOf_6 : decode cX3_numbersOf 6 = .ok (.areturn, 1) := by decide +kernel
theorem dX6_numbersOf_0 : decode cX6_numbersOf 0 = .ok (.aload_n 0, 1) := by decide +kernel
theorem dX6_numbersOf_1 : decode cX6_numbersOf 1 = .ok (.getfield 19, 3) := by decide +kernel
theorem dX6_numbersOf_4 : decode cX6_numbersOf 4 = .ok (.iload_n 1, 1) := by decide +kernel
theorem dX6_numbersOf_5 : decode cX6_numbersOf 5 = .ok (.invokevirtual 35, 3) := by decide +kernel
theorem dX6_numbersOf_8 : decode cX6_numbersOf 8 = .ok (.areturn, 1) := by decide +kernel
theorem dX2_goesOn_0 : decode cX2_goesOn 0 = .ok (.aload_n 0, 1) := by decide +kernel
theorem dX2_goesOn_1 : decode cX2_goesOn 1 = .ok (.getfield 10, 3) := by decide +kernel
theorem dX2_goesOn_4 : decode cX2_goesOn 4 = .ok (.iload_n 1, 1) := by decide +kernel
theorem dX2_goesOn_5 : decode cX2_goesOn 5 = .ok (.invokevirtual 74, 3) := by decide +kernel
theorem dX2_goesOn_8 : decode cX2_goesOn 8 = .ok (.astore_n 3, 1) := by decide +kernel
theorem dX2_goesOn_9 : decode cX2_goesOn 9 = .ok (.iconst 0, 1) := by decide +kernel
theorem dX2_goesOn_10 : decode cX2_goesOn 10 = .ok (.istore 4, 2) := by decide +kernel
theorem dX2_goesOn_12 : decode cX2_goesOn 12 = .ok (.iload 4, 2) := by decide +kernel
theorem dX2_goesOn_14 : decode cX2_goesOn 14 = .ok (.iconst 4, 1) := by decide +kernel
theorem dX2_goesOn_15 : decode cX2_goesOn 15 = .ok (.if_icmp .ge 37, 3) := by decide +kernel
theorem dX2_goesOn_18 : decode cX2_goesOn 18 = .ok (.aload_n 0, 1) := by decide +kernel
theorem dX2_goesOn_19 : decode cX2_goesOn 19 = .ok (.getfield 36, 3) := by decide +kernel
theorem dX2_goesOn_22 : decode cX2_goesOn 22 = .ok (.iload_n 1, 1) := by decide +kernel
theorem dX2_goesOn_23 : decode cX2_goesOn 23 = .ok (.iconst 1, 1) := by decide +kernel
theorem dX2_goesOn_24 : decode cX2_goesOn 24 = .ok (.iadd, 1) := by decide +kernel
theorem dX2_goesOn_25 : decode cX2_goesOn 25 = .ok (.aaload, 1) := by decide +kernel
theorem dX2_goesOn_26 : decode cX2_goesOn 26 = .ok (.iload 4, 2) := by decide +kernel
theorem dX2_goesOn_28 : decode cX2_goesOn 28 = .ok (.aload_n 0, 1) := by decide +kernel
theorem dX2_goesOn_29 : decode cX2_goesOn 29 = .ok (.getfield 36, 3) := by decide +kernel
theorem dX2_goesOn_32 : decode cX2_goesOn 32 = .ok (.iload_n 1, 1) := by decide +kernel
theorem dX2_goesOn_33 : decode cX2_goesOn 33 = .ok (.aaload, 1) := by decide +kernel
theorem dX2_goesOn_34 : decode cX2_goesOn 34 = .ok (.iload 4, 2) := by decide +kernel
theorem dX2_goesOn_36 : decode cX2_goesOn 36 = .ok (.laload, 1) := by decide +kernel
theorem dX2_goesOn_37 : decode cX2_goesOn 37 = .ok (.iload_n 2, 1) := by decide +kernel
theorem dX2_goesOn_38 : decode cX2_goesOn 38 = .ok (.i2l, 1) := by decide +kernel
theorem dX2_goesOn_39 : decode cX2_goesOn 39 = .ok (.aload_n 3, 1) := by decide +kernel
theorem dX2_goesOn_40 : decode cX2_goesOn 40 = .ok (.iload 4, 2) := by decide +kernel
theorem dX2_goesOn_42 : decode cX2_goesOn 42 = .ok (.laload, 1) := by decide +kernel
theorem dX2_goesOn_43 : decode cX2_goesOn 43 = .ok (.lmul, 1) := by decide +kernel
theorem dX2_goesOn_44 : decode cX2_goesOn 44 = .ok (.ladd, 1) := by decide +kernel
theorem dX2_goesOn_45 : decode cX2_goesOn 45 = .ok (.lastore, 1) := by decide +kernel
theorem dX2_goesOn_46 : decode cX2_goesOn 46 = .ok (.iinc 4 1, 3) := by decide +kernel
theorem dX2_goesOn_49 : decode cX2_goesOn 49 = .ok (.goto (-37), 3) := by decide +kernel
theorem dX2_goesOn_52 : decode cX2_goesOn 52 = .ok (.iload_n 1, 1) := by decide +kernel
theorem dX2_goesOn_53 : decode cX2_goesOn 53 = .ok (.ifCond .ne 7, 3) := by decide +kernel
theorem dX2_goesOn_56 : decode cX2_goesOn 56 = .ok (.lconst 1, 1) := by decide +kernel
theorem dX2_goesOn_57 : decode cX2_goesOn 57 = .ok (.goto 48, 3) := by decide +kernel
theorem dX2_goesOn_60 : decode cX2_goesOn 60 = .ok (.iload_n 1, 1) := by decide +kernel
theorem dX2_goesOn_61 : decode cX2_goesOn 61 = .ok (.iconst 1, 1) := by decide +kernel
theorem dX2_goesOn_62 : decode cX2_goesOn 62 = .ok (.if_icmp .ne 13, 3) := by decide +kernel
theorem dX2_goesOn_65 : decode cX2_goesOn 65 = .ok (.aload_n 0, 1) := by decide +kernel
theorem dX2_goesOn_66 : decode cX2_goesOn 66 = .ok (.getfield 10, 3) := by decide +kernel
theorem dX2_goesOn_69 : decode cX2_goesOn 69 = .ok (.getfield 78, 3) := by decide +kernel
theorem dX2_goesOn_72 : decode cX2_goesOn 72 = .ok (.goto 33, 3) := by decide +kernel
theorem dX2_goesOn_75 : decode cX2_goesOn 75 = .ok (.iload_n 1, 1) := by decide +kernel
theorem dX2_goesOn_76 : decode cX2_goesOn 76 = .ok (.iconst 2, 1) := by decide +kernel
theorem dX2_goesOn_77 : decode cX2_goesOn 77 = .ok (.if_icmp .ne 13, 3) := by decide +kernel
theorem dX2_goesOn_80 : decode cX2_goesOn 80 = .ok (.aload_n 0, 1) := by decide +kernel
theorem dX2_goesOn_81 : decode cX2_goesOn 81 = .ok (.getfield 10, 3) := by decide +kernel
theorem dX2_goesOn_84 : decode cX2_goesOn 84 = .ok (.getfield 81, 3) := by decide +kernel
theorem dX2_goesOn_87 : decode cX2_goesOn 87 = .ok (.goto 18, 3) := by decide +kernel
theorem dX2_goesOn_90 : decode cX2_goesOn 90 = .ok (.aload_n 0, 1) := by decide +kernel
theorem dX2_goesOn_91 : decode cX2_goesOn 91 = .ok (.getfield 10, 3) := by decide +kernel
theorem dX2_goesOn_94 : decode cX2_goesOn 94 = .ok (.getfield 78, 3) := by decide +kernel
theorem dX2_goesOn_97 : decode cX2_goesOn 97 = .ok (.aload_n 0, 1) := by decide +kernel
theorem dX2_goesOn_98 : decode cX2_goesOn 98 = .ok (.getfield 10, 3) := by decide +kernel
theorem dX2_goesOn_101 : decode cX2_goesOn 101 = .ok (.getfield 81, 3) := by decide +kernel
theorem dX2_goesOn_104 : decode cX2_goesOn 104 = .ok (.lmul, 1) := by decide +kernel
theorem dX2_goesOn_105 : decode cX2_goesOn 105 = .ok (.lstore 4, 2) := by decide +kernel
theorem dX2_goesOn_107 : decode cX2_goesOn 107 = .ok (.aload_n 0, 1) := by decide +kernel
theorem dX2_goesOn_108 : decode cX2_goesOn 108 = .ok (.getfield 20, 3) := by decide +kernel
theorem dX2_goesOn_111 : decode cX2_goesOn 111 = .ok (.ldc2_w 84, 3) := by decide +kernel
theorem dX2_goesOn_114 : decode cX2_goesOn 114 = .ok (.lload 4, 2) := by decide +kernel
theorem dX2_goesOn_116 : decode cX2_goesOn 116 = .ok (.lmul, 1) := by decide +kernel
theorem dX2_goesOn_117 : decode cX2_goesOn 117 = .ok (.aload_n 0, 1) := by decide +kernel
theorem dX2_goesOn_118 : decode cX2_goesOn 118 = .ok (.getfield 36, 3) := by decide +kernel
theorem dX2_goesOn_121 : decode cX2_goesOn 121 = .ok (.iload_n 1, 1) := by decide +kernel
theorem dX2_goesOn_122 : decode cX2_goesOn 122 = .ok (.iconst 1, 1) := by decide +kernel
theorem dX2_goesOn_123 : decode cX2_goesOn 123 = .ok (.iadd, 1) := by decide +kernel
theorem dX2_goesOn_124 : decode cX2_goesOn 124 = .ok (.aaload, 1) := by decide +kernel
theorem dX2_goesOn_125 : decode cX2_goesOn 125 = .ok (.iload_n 1, 1) := by decide +kernel
theorem dX2_goesOn_126 : decode cX2_goesOn 126 = .ok (.laload, 1) := by decide +kernel
theorem dX2_goesOn_127 : decode cX2_goesOn 127 = .ok (.lmul, 1) := by decide +kernel
theorem dX2_goesOn_128 : decode cX2_goesOn 128 = .ok (.invokestatic 86, 3) := by decide +kernel
theorem dX2_goesOn_131 : decode cX2_goesOn 131 = .ok (.ireturn, 1) := by decide +kernel
theorem dX3_copy_0 : decode cX3_copy 0 = .ok (.aload_n 0, 1) := by decide +kernel
theorem dX3_copy_1 : decode cX3_copy 1 = .ok (.aload_n 1, 1) := by decide +kernel
theorem dX3_copy_2 : decode cX3_copy 2 = .ok (.getfield 18, 3) := by decide +kernel
theorem dX3_copy_5 : decode cX3_copy 5 = .ok (.lload_n 2, 1) := by decide +kernel
theorem dX3_copy_6 : decode cX3_copy 6 = .ok (.lmul, 1) := by decide +kernel
theorem dX3_copy_7 : decode cX3_copy 7 = .ok (.putfield 18, 3) := by decide +kernel
theorem dX3_copy_10 : decode cX3_copy 10 = .ok (.iconst 0, 1) := by decide +kernel
theorem dX3_copy_11 : decode cX3_copy 11 = .ok (.istore 4, 2) := by decide +kernel
theorem dX3_copy_13 : decode cX3_copy 13 = .ok (.iload 4, 2) := by decide +kernel
theorem dX3_copy_15 : decode cX3_copy 15 = .ok (.iconst 4, 1) := by decide +kernel
theorem dX3_copy_16 : decode cX3_copy 16 = .ok (.if_icmp .ge 46, 3) := by decide +kernel
theorem dX3_copy_19 : decode cX3_copy 19 = .ok (.iconst 0, 1) := by decide +kernel
theorem dX3_copy_20 : decode cX3_copy 20 = .ok (.istore 5, 2) := by decide +kernel
theorem dX3_copy_22 : decode cX3_copy 22 = .ok (.iload 5, 2) := by decide +kernel
theorem dX3_copy_24 : decode cX3_copy 24 = .ok (.iconst 4, 1) := by decide +kernel
theorem dX3_copy_25 : decode cX3_copy 25 = .ok (.if_icmp .ge 31, 3) := by decide +kernel
theorem dX3_copy_28 : decode cX3_copy 28 = .ok (.aload_n 0, 1) := by decide +kernel
theorem dX3_copy_29 : decode cX3_copy 29 = .ok (.getfield 9, 3) := by decide +kernel
theorem dX3_copy_32 : decode cX3_copy 32 = .ok (.iload 4, 2) := by decide +kernel
theorem dX3_copy_34 : decode cX3_copy 34 = .ok (.aaload, 1) := by decide +kernel
theorem dX3_copy_35 : decode cX3_copy 35 = .ok (.iload 5, 2) := by decide +kernel
theorem dX3_copy_37 : decode cX3_copy 37 = .ok (.aload_n 1, 1) := by decide +kernel
theorem dX3_copy_38 : decode cX3_copy 38 = .ok (.getfield 9, 3) := by decide +kernel
theorem dX3_copy_41 : decode cX3_copy 41 = .ok (.iload 4, 2) := by decide +kernel
theorem dX3_copy_43 : decode cX3_copy 43 = .ok (.aaload, 1) := by decide +kernel
theorem dX3_copy_44 : decode cX3_copy 44 = .ok (.iload 5, 2) := by decide +kernel
theorem dX3_copy_46 : decode cX3_copy 46 = .ok (.laload, 1) := by decide +kernel
theorem dX3_copy_47 : decode cX3_copy 47 = .ok (.lload_n 2, 1) := by decide +kernel
theorem dX3_copy_48 : decode cX3_copy 48 = .ok (.lmul, 1) := by decide +kernel
theorem dX3_copy_49 : decode cX3_copy 49 = .ok (.lastore, 1) := by decide +kernel
theorem dX3_copy_50 : decode cX3_copy 50 = .ok (.iinc 5 1, 3) := by decide +kernel
theorem dX3_copy_53 : decode cX3_copy 53 = .ok (.goto (-31), 3) := by decide +kernel
theorem dX3_copy_56 : decode cX3_copy 56 = .ok (.iinc 4 1, 3) := by decide +kernel
theorem dX3_copy_59 : decode cX3_copy 59 = .ok (.goto (-46), 3) := by decide +kernel
theorem dX3_copy_62 : decode cX3_copy 62 = .ok (.return_, 1) := by decide +kernel
theorem dX3_add_0 : decode cX3_add 0 = .ok (.iconst 0, 1) := by decide +kernel
theorem dX3_add_1 : decode cX3_add 1 = .ok (.istore_n 2, 1) := by decide +kernel
theorem dX3_add_2 : decode cX3_add 2 = .ok (.iload_n 2, 1) := by decide +kernel
theorem dX3_add_3 : decode cX3_add 3 = .ok (.iconst 4, 1) := by decide +kernel
theorem dX3_add_4 : decode cX3_add 4 = .ok (.if_icmp .ge 25, 3) := by decide +kernel
theorem dX3_add_7 : decode cX3_add 7 = .ok (.aload_n 0, 1) := by decide +kernel
theorem dX3_add_8 : decode cX3_add 8 = .ok (.getfield 14, 3) := by decide +kernel
theorem dX3_add_11 : decode cX3_add 11 = .ok (.iload_n 2, 1) := by decide +kernel
theorem dX3_add_12 : decode cX3_add 12 = .ok (.aload_n 1, 1) := by decide +kernel
theorem dX3_add_13 : decode cX3_add 13 = .ok (.iload_n 2, 1) := by decide +kernel
theorem dX3_add_14 : decode cX3_add 14 = .ok (.laload, 1) := by decide +kernel
theorem dX3_add_15 : decode cX3_add 15 = .ok (.aload_n 0, 1) := by decide +kernel
theorem dX3_add_16 : decode cX3_add 16 = .ok (.getfield 18, 3) := by decide +kernel
theorem dX3_add_19 : decode cX3_add 19 = .ok (.invokestatic 22, 3) := by decide +kernel
theorem dX3_add_22 : decode cX3_add 22 = .ok (.lastore, 1) := by decide +kernel
theorem dX3_add_23 : decode cX3_add 23 = .ok (.iinc 2 1, 3) := by decide +kernel
theorem dX3_add_26 : decode cX3_add 26 = .ok (.goto (-24), 3) := by decide +kernel
theorem dX3_add_29 : decode cX3_add 29 = .ok (.iconst 0, 1) := by decide +kernel
theorem dX3_add_30 : decode cX3_add 30 = .ok (.istore_n 2, 1) := by decide +kernel
theorem dX3_add_31 : decode cX3_add 31 = .ok (.iload_n 2, 1) := by decide +kernel
theorem dX3_add_32 : decode cX3_add 32 = .ok (.iconst 4, 1) := by decide +kernel
theorem dX3_add_33 : decode cX3_add 33 = .ok (.if_icmp .ge 126, 3) := by decide +kernel
theorem dX3_add_36 : decode cX3_add 36 = .ok (.aload_n 0, 1) := by decide +kernel
theorem dX3_add_37 : decode cX3_add 37 = .ok (.getfield 9, 3) := by decide +kernel
theorem dX3_add_40 : decode cX3_add 40 = .ok (.iload_n 2, 1) := by decide +kernel
theorem dX3_add_41 : decode cX3_add 41 = .ok (.aaload, 1) := by decide +kernel
theorem dX3_add_42 : decode cX3_add 42 = .ok (.astore_n 3, 1) := by decide +kernel
theorem dX3_add_43 : decode cX3_add 43 = .ok (.iconst 0, 1) := by decide +kernel
theorem dX3_add_44 : decode cX3_add 44 = .ok (.istore 4, 2) := by decide +kernel
theorem dX3_add_46 : decode cX3_add 46 = .ok (.iload 4, 2) := by decide +kernel
theorem dX3_add_48 : decode cX3_add 48 = .ok (.sipush 200, 3) := by decide +kernel
theorem dX3_add_51 : decode cX3_add 51 = .ok (.if_icmp .ge 102, 3) := by decide +kernel
theorem dX3_add_54 : decode cX3_add 54 = .ok (.aload_n 0, 1) := by decide +kernel
theorem dX3_add_55 : decode cX3_add 55 = .ok (.getfield 14, 3) := by decide +kernel
theorem dX3_add_58 : decode cX3_add 58 = .ok (.iload_n 2, 1) := by decide +kernel
theorem dX3_add_59 : decode cX3_add 59 = .ok (.laload, 1) := by decide +kernel
theorem dX3_add_60 : decode cX3_add 60 = .ok (.lconst 0, 1) := by decide +kernel
theorem dX3_add_61 : decode cX3_add 61 = .ok (.lcmp, 1) := by decide +kernel
theorem dX3_add_62 : decode cX3_add 62 = .ok (.ifCond .eq 91, 3) := by decide +kernel
theorem dX3_add_65 : decode cX3_add 65 = .ok (.aload_n 3, 1) := by decide +kernel
theorem dX3_add_66 : decode cX3_add 66 = .ok (.iload_n 2, 1) := by decide +kernel
theorem dX3_add_67 : decode cX3_add 67 = .ok (.laload, 1) := by decide +kernel
theorem dX3_add_68 : decode cX3_add 68 = .ok (.aload_n 0, 1) := by decide +kernel
theorem dX3_add_69 : decode cX3_add 69 = .ok (.getfield 14, 3) := by decide +kernel
theorem dX3_add_72 : decode cX3_add 72 = .ok (.iload_n 2, 1) := by decide +kernel
theorem dX3_add_73 : decode cX3_add 73 = .ok (.laload, 1) := by decide +kernel
theorem dX3_add_74 : decode cX3_add 74 = .ok (.ldiv, 1) := by decide +kernel
theorem dX3_add_75 : decode cX3_add 75 = .ok (.lstore 5, 2) := by decide +kernel
theorem dX3_add_77 : decode cX3_add 77 = .ok (.iload_n 2, 1) := by decide +kernel
theorem dX3_add_78 : decode cX3_add 78 = .ok (.istore 7, 2) := by decide +kernel
theorem dX3_add_80 : decode cX3_add 80 = .ok (.iload 7, 2) := by decide +kernel
theorem dX3_add_82 : decode cX3_add 82 = .ok (.iconst 4, 1) := by decide +kernel
theorem dX3_add_83 : decode cX3_add 83 = .ok (.if_icmp .ge 64, 3) := by decide +kernel
theorem dX3_add_86 : decode cX3_add 86 = .ok (.aload_n 3, 1) := by decide +kernel
theorem dX3_add_87 : decode cX3_add 87 = .ok (.iload 7, 2) := by decide +kernel
theorem dX3_add_89 : decode cX3_add 89 = .ok (.laload, 1) := by decide +kernel
theorem dX3_add_90 : decode cX3_add 90 = .ok (.lload 5, 2) := by decide +kernel
theorem dX3_add_92 : decode cX3_add 92 = .ok (.aload_n 0, 1) := by decide +kernel
theorem dX3_add_93 : decode cX3_add 93 = .ok (.getfield 14, 3) := by decide +kernel
theorem dX3_add_96 : decode cX3_add 96 = .ok (.iload 7, 2) := by decide +kernel
theorem dX3_add_98 : decode cX3_add 98 = .ok (.laload, 1) := by decide +kernel
theorem dX3_add_99 : decode cX3_add 99 = .ok (.lmul, 1) := by decide +kernel
theorem dX3_add_100 : decode cX3_add 100 = .ok (.lsub, 1) := by decide +kernel
theorem dX3_add_101 : decode cX3_add 101 = .ok (.lstore 8, 2) := by decide +kernel
theorem dX3_add_103 : decode cX3_add 103 = .ok (.aload_n 3, 1) := by decide +kernel
theorem dX3_add_104 : decode cX3_add 104 = .ok (.iload 7, 2) := by decide +kernel
theorem dX3_add_106 : decode cX3_add 106 = .ok (.aload_n 0, 1) := by decide +kernel
theorem dX3_add_107 : decode cX3_add 107 = .ok (.getfield 14, 3) := by decide +kernel
theorem dX3_add_110 : decode cX3_add 110 = .ok (.iload 7, 2) := by decide +kernel
theorem dX3_add_112 : decode cX3_add 112 = .ok (.laload, 1) := by decide +kernel
theorem dX3_add_113 : decode cX3_add 113 = .ok (.lastore, 1) := by decide +kernel
theorem dX3_add_114 : decode cX3_add 114 = .ok (.aload_n 0, 1) := by decide +kernel
theorem dX3_add_115 : decode cX3_add 115 = .ok (.getfield 14, 3) := by decide +kernel
theorem dX3_add_118 : decode cX3_add 118 = .ok (.iload 7, 2) := by decide +kernel
theorem dX3_add_120 : decode cX3_add 120 = .ok (.iload 7, 2) := by decide +kernel
theorem dX3_add_122 : decode cX3_add 122 = .ok (.iload_n 2, 1) := by decide +kernel
theorem dX3_add_123 : decode cX3_add 123 = .ok (.if_icmp .ne 8, 3) := by decide +kernel
theorem dX3_add_126 : decode cX3_add 126 = .ok (.lload 8, 2) := by decide +kernel
theorem dX3_add_128 : decode cX3_add 128 = .ok (.goto 12, 3) := by decide +kernel
theorem dX3_add_131 : decode cX3_add 131 = .ok (.lload 8, 2) := by decide +kernel
theorem dX3_add_133 : decode cX3_add 133 = .ok (.aload_n 0, 1) := by decide +kernel
theorem dX3_add_134 : decode cX3_add 134 = .ok (.getfield 18, 3) := by decide +kernel
theorem dX3_add_137 : decode cX3_add 137 = .ok (.invokestatic 22, 3) := by decide +kernel
theorem dX3_add_140 : decode cX3_add 140 = .ok (.lastore, 1) := by decide +kernel
theorem dX3_add_141 : decode cX3_add 141 = .ok (.iinc 7 1, 3) := by decide +kernel
theorem dX3_add_144 : decode cX3_add 144 = .ok (.goto (-64), 3) := by decide +kernel
theorem dX3_add_147 : decode cX3_add 147 = .ok (.iinc 4 1, 3) := by decide +kernel
theorem dX3_add_150 : decode cX3_add 150 = .ok (.goto (-104), 3) := by decide +kernel
theorem dX3_add_153 : decode cX3_add 153 = .ok (.iinc 2 1, 3) := by decide +kernel
theorem dX3_add_156 : decode cX3_add 156 = .ok (.goto (-125), 3) := by decide +kernel
theorem dX3_add_159 : decode cX3_add 159 = .ok (.return_, 1) := by decide +kernel
theorem dX3_settle_0 : decode cX3_settle 0 = .ok (.iconst 2, 1) := by decide +kernel
theorem dX3_settle_1 : decode cX3_settle 1 = .ok (.istore_n 1, 1) := by decide +kernel
theorem dX3_settle_2 : decode cX3_settle 2 = .ok (.iload_n 1, 1) := by decide +kernel
theorem dX3_settle_3 : decode cX3_settle 3 = .ok (.ifCond .lt 82, 3) := by decide +kernel
theorem dX3_settle_6 : decode cX3_settle 6 = .ok (.iload_n 1, 1) := by decide +kernel
theorem dX3_settle_7 : decode cX3_settle 7 = .ok (.iconst 1, 1) := by decide +kernel
theorem dX3_settle_8 : decode cX3_settle 8 = .ok (.iadd, 1) := by decide +kernel
theorem dX3_settle_9 : decode cX3_settle 9 = .ok (.istore_n 2, 1) := by decide +kernel
theorem dX3_settle_10 : decode cX3_settle 10 = .ok (.iload_n 2, 1) := by decide +kernel
theorem dX3_settle_11 : decode cX3_settle 11 = .ok (.iconst 4, 1) := by decide +kernel
theorem dX3_settle_12 : decode cX3_settle 12 = .ok (.if_icmp .ge 67, 3) := by decide +kernel
theorem dX3_settle_15 : decode cX3_settle 15 = .ok (.aload_n 0, 1) := by decide +kernel
theorem dX3_settle_16 : decode cX3_settle 16 = .ok (.getfield 9, 3) := by decide +kernel
theorem dX3_settle_19 : decode cX3_settle 19 = .ok (.iload_n 1, 1) := by decide +kernel
theorem dX3_settle_20 : decode cX3_settle 20 = .ok (.aaload, 1) := by decide +kernel
theorem dX3_settle_21 : decode cX3_settle 21 = .ok (.iload_n 2, 1) := by decide +kernel
theorem dX3_settle_22 : decode cX3_settle 22 = .ok (.laload, 1) := by decide +kernel
theorem dX3_settle_23 : decode cX3_settle 23 = .ok (.aload_n 0, 1) := by decide +kernel
theorem dX3_settle_24 : decode cX3_settle 24 = .ok (.getfield 9, 3) := by decide +kernel
theorem dX3_settle_27 : decode cX3_settle 27 = .ok (.iload_n 2, 1) := by decide +kernel
theorem dX3_settle_28 : decode cX3_settle 28 = .ok (.aaload, 1) := by decide +kernel
theorem dX3_settle_29 : decode cX3_settle 29 = .ok (.iload_n 2, 1) := by decide +kernel
theorem dX3_settle_30 : decode cX3_settle 30 = .ok (.laload, 1) := by decide +kernel
theorem dX3_settle_31 : decode cX3_settle 31 = .ok (.invokestatic 28, 3) := by decide +kernel
theorem dX3_settle_34 : decode cX3_settle 34 = .ok (.lstore_n 3, 1) := by decide +kernel
theorem dX3_settle_35 : decode cX3_settle 35 = .ok (.iload_n 2, 1) := by decide +kernel
theorem dX3_settle_36 : decode cX3_settle 36 = .ok (.istore 5, 2) := by decide +kernel
theorem dX3_settle_38 : decode cX3_settle 38 = .ok (.iload 5, 2) := by decide +kernel
theorem dX3_settle_40 : decode cX3_settle 40 = .ok (.iconst 4, 1) := by decide +kernel
theorem dX3_settle_41 : decode cX3_settle 41 = .ok (.if_icmp .ge 32, 3) := by decide +kernel
theorem dX3_settle_44 : decode cX3_settle 44 = .ok (.aload_n 0, 1) := by decide +kernel
theorem dX3_settle_45 : decode cX3_settle 45 = .ok (.getfield 9, 3) := by decide +kernel
theorem dX3_settle_48 : decode cX3_settle 48 = .ok (.iload_n 1, 1) := by decide +kernel
theorem dX3_settle_49 : decode cX3_settle 49 = .ok (.aaload, 1) := by decide +kernel
theorem dX3_settle_50 : decode cX3_settle 50 = .ok (.iload 5, 2) := by decide +kernel
theorem dX3_settle_52 : decode cX3_settle 52 = .ok (.dup2, 1) := by decide +kernel
theorem dX3_settle_53 : decode cX3_settle 53 = .ok (.laload, 1) := by decide +kernel
theorem dX3_settle_54 : decode cX3_settle 54 = .ok (.lload_n 3, 1) := by decide +kernel
theorem dX3_settle_55 : decode cX3_settle 55 = .ok (.aload_n 0, 1) := by decide +kernel
theorem dX3_settle_56 : decode cX3_settle 56 = .ok (.getfield 9, 3) := by decide +kernel
theorem dX3_settle_59 : decode cX3_settle 59 = .ok (.iload_n 2, 1) := by decide +kernel
theorem dX3_settle_60 : decode cX3_settle 60 = .ok (.aaload, 1) := by decide +kernel
theorem dX3_settle_61 : decode cX3_settle 61 = .ok (.iload 5, 2) := by decide +kernel
theorem dX3_settle_63 : decode cX3_settle 63 = .ok (.laload, 1) := by decide +kernel
theorem dX3_settle_64 : decode cX3_settle 64 = .ok (.lmul, 1) := by decide +kernel
theorem dX3_settle_65 : decode cX3_settle 65 = .ok (.lsub, 1) := by decide +kernel
theorem dX3_settle_66 : decode cX3_settle 66 = .ok (.lastore, 1) := by decide +kernel
theorem dX3_settle_67 : decode cX3_settle 67 = .ok (.iinc 5 1, 3) := by decide +kernel
theorem dX3_settle_70 : decode cX3_settle 70 = .ok (.goto (-32), 3) := by decide +kernel
theorem dX3_settle_73 : decode cX3_settle 73 = .ok (.iinc 2 1, 3) := by decide +kernel
theorem dX3_settle_76 : decode cX3_settle 76 = .ok (.goto (-66), 3) := by decide +kernel
theorem dX3_settle_79 : decode cX3_settle 79 = .ok (.iinc 1 (-1), 3) := by decide +kernel
theorem dX3_settle_82 : decode cX3_settle 82 = .ok (.goto (-80), 3) := by decide +kernel
theorem dX3_settle_85 : decode cX3_settle 85 = .ok (.return_, 1) := by decide +kernel
theorem dX3_lower_0 : decode cX3_lower 0 = .ok (.aload_n 0, 1) := by decide +kernel
theorem dX3_lower_1 : decode cX3_lower 1 = .ok (.getfield 18, 3) := by decide +kernel
theorem dX3_lower_4 : decode cX3_lower 4 = .ok (.lstore_n 1, 1) := by decide +kernel
theorem dX3_lower_5 : decode cX3_lower 5 = .ok (.iconst 0, 1) := by decide +kernel
theorem dX3_lower_6 : decode cX3_lower 6 = .ok (.istore_n 3, 1) := by decide +kernel
theorem dX3_lower_7 : decode cX3_lower 7 = .ok (.iload_n 3, 1) := by decide +kernel
theorem dX3_lower_8 : decode cX3_lower 8 = .ok (.iconst 4, 1) := by decide +kernel
theorem dX3_lower_9 : decode cX3_lower 9 = .ok (.if_icmp .ge 38, 3) := by decide +kernel
theorem dX3_lower_12 : decode cX3_lower 12 = .ok (.iload_n 3, 1) := by decide +kernel
theorem dX3_lower_13 : decode cX3_lower 13 = .ok (.istore 4, 2) := by decide +kernel
theorem dX3_lower_15 : decode cX3_lower 15 = .ok (.iload 4, 2) := by decide +kernel
theorem dX3_lower_17 : decode cX3_lower 17 = .ok (.iconst 4, 1) := by decide +kernel
theorem dX3_lower_18 : decode cX3_lower 18 = .ok (.if_icmp .ge 23, 3) := by decide +kernel
theorem dX3_lower_21 : decode cX3_lower 21 = .ok (.lload_n 1, 1) := by decide +kernel
theorem dX3_lower_22 : decode cX3_lower 22 = .ok (.aload_n 0, 1) := by decide +kernel
theorem dX3_lower_23 : decode cX3_lower 23 = .ok (.getfield 9, 3) := by decide +kernel
theorem dX3_lower_26 : decode cX3_lower 26 = .ok (.iload_n 3, 1) := by decide +kernel
theorem dX3_lower_27 : decode cX3_lower 27 = .ok (.aaload, 1) := by decide +kernel
theorem dX3_lower_28 : decode cX3_lower 28 = .ok (.iload 4, 2) := by decide +kernel
theorem dX3_lower_30 : decode cX3_lower 30 = .ok (.laload, 1) := by decide +kernel
theorem dX3_lower_31 : decode cX3_lower 31 = .ok (.invokestatic 31, 3) := by decide +kernel
theorem dX3_lower_34 : decode cX3_lower 34 = .ok (.lstore_n 1, 1) := by decide +kernel
theorem dX3_lower_35 : decode cX3_lower 35 = .ok (.iinc 4 1, 3) := by decide +kernel
theorem dX3_lower_38 : decode cX3_lower 38 = .ok (.goto (-23), 3) := by decide +kernel
theorem dX3_lower_41 : decode cX3_lower 41 = .ok (.iinc 3 1, 3) := by decide +kernel
theorem dX3_lower_44 : decode cX3_lower 44 = .ok (.goto (-37), 3) := by decide +kernel
theorem dX3_lower_47 : decode cX3_lower 47 = .ok (.iconst 0, 1) := by decide +kernel
theorem dX3_lower_48 : decode cX3_lower 48 = .ok (.istore_n 3, 1) := by decide +kernel
theorem dX3_lower_49 : decode cX3_lower 49 = .ok (.iload_n 3, 1) := by decide +kernel
theorem dX3_lower_50 : decode cX3_lower 50 = .ok (.iconst 4, 1) := by decide +kernel
theorem dX3_lower_51 : decode cX3_lower 51 = .ok (.if_icmp .ge 46, 3) := by decide +kernel
theorem dX3_lower_54 : decode cX3_lower 54 = .ok (.iload_n 3, 1) := by decide +kernel
theorem dX3_lower_55 : decode cX3_lower 55 = .ok (.istore 4, 2) := by decide +kernel
theorem dX3_lower_57 : decode cX3_lower 57 = .ok (.iload 4, 2) := by decide +kernel
theorem dX3_lower_59 : decode cX3_lower 59 = .ok (.iconst 4, 1) := by decide +kernel
theorem dX3_lower_60 : decode cX3_lower 60 = .ok (.if_icmp .ge 31, 3) := by decide +kernel
theorem dX3_lower_63 : decode cX3_lower 63 = .ok (.aload_n 0, 1) := by decide +kernel
theorem dX3_lower_64 : decode cX3_lower 64 = .ok (.getfield 9, 3) := by decide +kernel
theorem dX3_lower_67 : decode cX3_lower 67 = .ok (.iload_n 3, 1) := by decide +kernel
theorem dX3_lower_68 : decode cX3_lower 68 = .ok (.aaload, 1) := by decide +kernel
theorem dX3_lower_69 : decode cX3_lower 69 = .ok (.iload 4, 2) := by decide +kernel
theorem dX3_lower_71 : decode cX3_lower 71 = .ok (.aload_n 0, 1) := by decide +kernel
theorem dX3_lower_72 : decode cX3_lower 72 = .ok (.getfield 9, 3) := by decide +kernel
theorem dX3_lower_75 : decode cX3_lower 75 = .ok (.iload_n 3, 1) := by decide +kernel
theorem dX3_lower_76 : decode cX3_lower 76 = .ok (.aaload, 1) := by decide +kernel
theorem dX3_lower_77 : decode cX3_lower 77 = .ok (.iload 4, 2) := by decide +kernel
theorem dX3_lower_79 : decode cX3_lower 79 = .ok (.laload, 1) := by decide +kernel
theorem dX3_lower_80 : decode cX3_lower 80 = .ok (.lload_n 1, 1) := by decide +kernel
theorem dX3_lower_81 : decode cX3_lower 81 = .ok (.invokestatic 28, 3) := by decide +kernel
theorem dX3_lower_84 : decode cX3_lower 84 = .ok (.lastore, 1) := by decide +kernel
theorem dX3_lower_85 : decode cX3_lower 85 = .ok (.iinc 4 1, 3) := by decide +kernel
theorem dX3_lower_88 : decode cX3_lower 88 = .ok (.goto (-31), 3) := by decide +kernel
theorem dX3_lower_91 : decode cX3_lower 91 = .ok (.iinc 3 1, 3) := by decide +kernel
theorem dX3_lower_94 : decode cX3_lower 94 = .ok (.goto (-45), 3) := by decide +kernel
theorem dX3_lower_97 : decode cX3_lower 97 = .ok (.aload_n 0, 1) := by decide +kernel
theorem dX3_lower_98 : decode cX3_lower 98 = .ok (.aload_n 0, 1) := by decide +kernel
theorem dX3_lower_99 : decode cX3_lower 99 = .ok (.getfield 18, 3) := by decide +kernel
theorem dX3_lower_102 : decode cX3_lower 102 = .ok (.lload_n 1, 1) := by decide +kernel
theorem dX3_lower_103 : decode cX3_lower 103 = .ok (.invokestatic 28, 3) := by decide +kernel
theorem dX3_lower_106 : decode cX3_lower 106 = .ok (.putfield 18, 3) := by decide +kernel
theorem dX3_lower_109 : decode cX3_lower 109 = .ok (.return_, 1) := by decide +kernel
def mX0_size (v0 : Nat) (σ : mSt) : Option (Int × mSt) := mG (isC v0 0) <| some (σ v0 0, σ)
def mX0_kind (v0 : Nat) (v1 : Int) (σ : mSt) : Option (Int × mSt) := mG (isC v0 0) <| mRef (σ v0 1) fun r1 => mG (ixOK r1 20 v1) <| some (σ r1 (wI v1).toNat, σ)
def mX0_first (v0 : Nat) (v1 : Int) (σ : mSt) : Option (Int × mSt) := mG (isC v0 0) <| mRef (σ v0 2) fun r1 => mG (ixOK r1 20 v1) <| some (σ r1 (wI v1).toNat, σ)
def mX0_second (v0 : Nat) (v1 : Int) (σ : mSt) : Option (Int × mSt) := mG (isC v0 0) <| mRef (σ v0 3) fun r1 => mG (ixOK r1 20 v1) <| some (σ r1 (wI v1).toNat, σ)
def mX0_letter (v0 : Nat) (v1 : Int) (σ : mSt) : Option (Int × mSt) := mG (isC v0 0) <| mRef (σ v0 5) fun r1 => mG (ixOK r1 25 v1) <| mRef (σ r1 (wI v1).toNat) fun r4 => mG (ixOK r4 22 0) <| some ((σ r4 0) - 97, σ)
def mX0_term (v0 : Nat) (v1 : Int) (v2 : Int) (σ : mSt) : Option (Int × mSt) := mG (isC v0 0) <| mRef (σ v0 6) fun r1 => mG (ixOK r1 26 v1) <| mRef (σ r1 (wI v1).toNat) fun r4 => mG (ixOK r4 20 v2) <| some (σ r4 (wI v2).toNat, σ)
def mX0_sign (v0 : Nat) (v1 : Int) (v2 : Int) (σ : mSt) : Option (Int × mSt) := mG (isC v0 0) <| mRef (σ v0 7) fun r1 => mG (ixOK r1 26 v1) <| mRef (σ r1 (wI v1).toNat) fun r4 => mG (ixOK r4 20 v2) <| some (σ r4 (wI v2).toNat, σ)
def mX0_clear (v0 : Nat) (σ : mSt) : Option (Int × mSt) := mG (isC v0 0) <| bnd (upS σ v0 0 0) fun s1 => some (0, s1)
def mX0_isFull (v0 : Nat) (σ : mSt) : Option (Int × mSt) := mG (isC v0 0) <| if wI (σ v0 0) < 8 then (some (0, σ)) else some (1, σ)
def mX10_length (v0 : Nat) (σ : mSt) : Option (Int × mSt) := mG (isC v0 9) <| some ((σ v0 3) - (σ v0 2), σ)
def mX10_byteAt_B31 (v0 : Nat) (v1 : Int) (σ : mSt) : Option (Int × mSt) := some (0, σ)
def mX10_byteAt (v0 : Nat) (v1 : Int) (σ : mSt) : Option (Int × mSt) := mG (isC v0 9) <| if wI v1 < 0 then (mX10_byteAt_B31 v0 v1 σ) else if wI (σ v0 3) ≤ wI ((σ v0 2) + v1) then (mX10_byteAt_B31 v0 v1 σ) else mRef (σ v0 0) fun r3 => mG (ixOK r3 22 ((σ v0 2) + v1)) <| mG (-128 ≤ σ r3 (wI ((σ v0 2) + v1)).toNat ∧ σ r3 (wI ((σ v0 2) + v1)).toNat < 128) <| some (σ r3 (wI ((σ v0 2) + v1)).toNat, σ)
def mX0_begin_B97 (v0 : Nat) (v1 : Int) (v2 : Nat) (σ : mSt) : Option (Int × mSt) := some (0, σ)
def mX0_begin_L62 (v0 : Nat) (v1 : Int) (v2 : Nat) (x97 : mSt → Option (Int × mSt)) : Nat → Int → mSt → Option (Int × mSt)
  | 0, _, _ => none
  | n + 1, v3, σ => mRef (σ v0 4) fun r1 => mG (ixOK r1 20 (σ v0 0)) <| if wI (σ r1 (wI (σ v0 0)).toNat) ≤ wI v3 then (x97 σ) else mRef (σ v0 5) fun r5 => mG (ixOK r5 25 (σ v0 0)) <| mRef (σ r5 (wI (σ v0 0)).toNat) fun r8 => mCall (mX10_byteAt v2 v3 σ) fun b10 s11 => mG (ixOK r8 22 v3) <| mG (-128 ≤ b10 ∧ b10 < 128) <| bnd (upS s11 r8 (wI v3).toNat b10) fun s15 => bnd (v3 + 1) fun a17 => mX0_begin_L62 v0 v1 v2 x97 n a17 s15
def mX0_begin (v0 : Nat) (v1 : Int) (v2 : Nat) (σ : mSt) : Option (Int × mSt) := mG (isC v0 0) <| mCall (mX0_isFull v0 σ) fun b19 s20 => if wI b19 = 0 then (mCall (mX10_length v2 s20) fun b23 s24 => if wI b23 ≤ 10 then (mRef (s24 v0 1) fun r27 => mG (ixOK r27 20 (s24 v0 0)) <| bnd (upS s24 r27 (wI (s24 v0 0)).toNat v1) fun s30 => mRef (s30 v0 2) fun r32 => mG (ixOK r32 20 (s30 v0 0)) <| bnd (upS s30 r32 (wI (s30 v0 0)).toNat 0) fun s35 => mRef (s35 v0 3) fun r37 => mG (ixOK r37 20 (s35 v0 0)) <| bnd (upS s35 r37 (wI (s35 v0 0)).toNat 0) fun s40 => mRef (s40 v0 4) fun r42 => mCall (mX10_length v2 s40) fun b44 s45 => mG (ixOK r42 20 (s40 v0 0)) <| bnd (upS s45 r42 (wI (s40 v0 0)).toNat b44) fun s48 => mX0_begin_L62 v0 v1 v2 (fun zσ => mX0_begin_B97 v0 v1 v2 zσ) mF 0 s48) else some (0, s24)) else some (0, s20)
def mX0_setFirst (v0 : Nat) (v1 : Int) (σ : mSt) : Option (Int × mSt) := mG (isC v0 0) <| mCall (mX0_isFull v0 σ) fun b1 s2 => if wI b1 = 0 then (mRef (s2 v0 2) fun r5 => mG (ixOK r5 20 (s2 v0 0)) <| bnd (upS s2 r5 (wI (s2 v0 0)).toNat v1) fun s8 => some (0, s8)) else some (0, s2)
def mX0_setSecond (v0 : Nat) (v1 : Int) (σ : mSt) : Option (Int × mSt) := mG (isC v0 0) <| mCall (mX0_isFull v0 σ) fun b1 s2 => if wI b1 = 0 then (mRef (s2 v0 3) fun r5 => mG (ixOK r5 20 (s2 v0 0)) <| bnd (upS s2 r5 (wI (s2 v0 0)).toNat v1) fun s8 => some (0, s8)) else some (0, s2)
def mX0_hasAllTerms_B20 (v0 : Nat) (σ : mSt) : Option (Int × mSt) := some (1, σ)
def mX0_hasAllTerms (v0 : Nat) (σ : mSt) : Option (Int × mSt) := mG (isC v0 0) <| mCall (mX0_isFull v0 σ) fun b1 s2 => if wI b1 = 0 then (mRef (s2 v0 2) fun r5 => mG (ixOK r5 20 (s2 v0 0)) <| if wI (s2 r5 (wI (s2 v0 0)).toNat) < 4 then (some (0, s2)) else mX0_hasAllTerms_B20 v0 s2) else mX0_hasAllTerms_B20 v0 s2
def mX0_addTerm (v0 : Nat) (v1 : Int) (v2 : Int) (σ : mSt) : Option (Int × mSt) := mG (isC v0 0) <| mCall (mX0_hasAllTerms v0 σ) fun b1 s2 => if wI b1 = 0 then (mRef (s2 v0 6) fun r5 => mG (ixOK r5 26 (s2 v0 0)) <| mRef (s2 r5 (wI (s2 v0 0)).toNat) fun r8 => mRef (s2 v0 2) fun r10 => mG (ixOK r10 20 (s2 v0 0)) <| mG (ixOK r8 20 (s2 r10 (wI (s2 v0 0)).toNat)) <| bnd (upS s2 r8 (wI (s2 r10 (wI (s2 v0 0)).toNat)).toNat v2) fun s14 => mRef (s14 v0 7) fun r16 => mG (ixOK r16 26 (s14 v0 0)) <| mRef (s14 r16 (wI (s14 v0 0)).toNat) fun r19 => mRef (s14 v0 2) fun r21 => mG (ixOK r21 20 (s14 v0 0)) <| mG (ixOK r19 20 (s14 r21 (wI (s14 v0 0)).toNat)) <| bnd (upS s14 r19 (wI (s14 r21 (wI (s14 v0 0)).toNat)).toNat v1) fun s25 => mRef (s25 v0 2) fun r27 => mG (ixOK r27 20 (s25 v0 0)) <| bnd (upS s25 r27 (wI (s25 v0 0)).toNat ((s25 r27 (wI (s25 v0 0)).toNat) + 1)) fun s30 => some (0, s30)) else some (0, s2)
def mX0_finish (v0 : Nat) (σ : mSt) : Option (Int × mSt) := mG (isC v0 0) <| mCall (mX0_isFull v0 σ) fun b1 s2 => if wI b1 = 0 then (bnd (upS s2 v0 0 ((s2 v0 0) + 1)) fun s5 => some (0, s5)) else some (0, s2)
def mX0_hasName_B67 (v0 : Nat) (v1 : Int) (v2 : Nat) (v3 : Int) (σ : mSt) : Option (Int × mSt) := mG (v3 = 0 ∨ v3 = 1) <| some (v3, σ)
def mX0_hasName_L22 (v0 : Nat) (v1 : Int) (v2 : Nat) (x67 : Int → mSt → Option (Int × mSt)) : Nat → Int → Int → mSt → Option (Int × mSt)
  | 0, _, _, _ => none
  | n + 1, v3, v4, σ => mRef (σ v0 4) fun r2 => mG (ixOK r2 20 v1) <| if wI (σ r2 (wI v1).toNat) ≤ wI v4 then (x67 v3 σ) else if wI v3 = 0 then (x67 v3 σ) else mRef (σ v0 5) fun r7 => mG (ixOK r7 25 v1) <| mRef (σ r7 (wI v1).toNat) fun r10 => mG (ixOK r10 22 v4) <| mCall (mX10_byteAt v2 v4 σ) fun b13 s14 => if wI (σ r10 (wI v4).toNat) = wI b13 then (bnd (v4 + 1) fun a19 => mX0_hasName_L22 v0 v1 v2 x67 n 1 a19 s14) else bnd (v4 + 1) fun a17 => mX0_hasName_L22 v0 v1 v2 x67 n 0 a17 s14
def mX0_hasName_B18 (v0 : Nat) (v1 : Int) (v2 : Nat) (t0 : Int) (σ : mSt) : Option (Int × mSt) := mX0_hasName_L22 v0 v1 v2 (fun z3 zσ => mX0_hasName_B67 v0 v1 v2 z3 zσ) mF t0 0 σ
def mX0_hasName (v0 : Nat) (v1 : Int) (v2 : Nat) (σ : mSt) : Option (Int × mSt) := mG (isC v0 0) <| mRef (σ v0 4) fun r21 => mG (ixOK r21 20 v1) <| mCall (mX10_length v2 σ) fun b24 s25 => if wI (σ r21 (wI v1).toNat) = wI b24 then (mX0_hasName_B18 v0 v1 v2 1 s25) else mX0_hasName_B18 v0 v1 v2 0 s25
def mX0_find_B27 (v0 : Nat) (v1 : Nat) (σ : mSt) : Option (Int × mSt) := some ((-1), σ)
def mX0_find_L2 (v0 : Nat) (v1 : Nat) (x27 : mSt → Option (Int × mSt)) : Nat → Int → mSt → Option (Int × mSt)
  | 0, _, _ => none
  | n + 1, v2, σ => if wI (σ v0 0) ≤ wI v2 then (x27 σ) else mCall (mX0_hasName v0 v2 v1 σ) fun b2 s3 => if wI b2 = 0 then (bnd (v2 + 1) fun a6 => mX0_find_L2 v0 v1 x27 n a6 s3) else some (v2, s3)
def mX0_find (v0 : Nat) (v1 : Nat) (σ : mSt) : Option (Int × mSt) := mG (isC v0 0) <| mX0_find_L2 v0 v1 (fun zσ => mX0_find_B27 v0 v1 zσ) mF 0 σ
def mX1_isThere (v0 : Nat) (σ : mSt) : Option (Int × mSt) := mG (isC v0 1) <| if wI (σ v0 2) = (-1) then (some (0, σ)) else some (1, σ)
def mX1_drop (v0 : Nat) (σ : mSt) : Option (Int × mSt) := mG (isC v0 1) <| bnd (upS σ v0 2 (-1)) fun s1 => some (0, s1)
def mX1_take_B139 (v0 : Nat) (v1 : Int) (v2 : Nat) (v3 : Int) (v5 : Int) (σ : mSt) : Option (Int × mSt) := mCall (mX5_quotient v3 v5 σ) fun b1 s2 => bnd (upS s2 v0 1 b1) fun s4 => bnd (upS s4 v0 2 v1) fun s6 => some (1, s6)
def mX1_take_L111 (v0 : Nat) (v1 : Int) (v2 : Nat) (v3 : Int) (v5 : Int) (x139 : mSt → Option (Int × mSt)) : Nat → Int → mSt → Option (Int × mSt)
  | 0, _, _ => none
  | n + 1, v8, σ => if 4 ≤ wI v8 then (x139 σ) else mRef (σ v0 0) fun r9 => mG (ixOK v2 21 v8) <| mCall (mX5_quotient (σ v2 (wI v8).toNat) v5 σ) fun b12 s13 => mG (ixOK r9 21 v8) <| bnd (upS s13 r9 (wI v8).toNat b12) fun s16 => bnd (v8 + 1) fun a18 => mX1_take_L111 v0 v1 v2 v3 v5 x139 n a18 s16
def mX1_take_B101 (v0 : Nat) (v1 : Int) (v2 : Nat) (v3 : Int) (v5 : Int) (v7 : Int) (σ : mSt) : Option (Int × mSt) := if wI v7 = 0 then (some (0, σ)) else mX1_take_L111 v0 v1 v2 v3 v5 (fun zσ => mX1_take_B139 v0 v1 v2 v3 v5 zσ) mF 0 σ
def mX1_take_L58 (v0 : Nat) (v1 : Int) (v2 : Nat) (v3 : Int) (v5 : Int) (x101 : Int → mSt → Option (Int × mSt)) : Nat → Int → Int → mSt → Option (Int × mSt)
  | 0, _, _, _ => none
  | n + 1, v7, v8, σ => if 4 ≤ wI v8 then (x101 v7 σ) else if wI v7 = 0 then (x101 v7 σ) else mG (ixOK v2 21 v8) <| mCall (mX5_quotient (σ v2 (wI v8).toNat) v5 σ) fun b24 s25 => mCall (mJ9_abs_067f4 b24 s25) fun b27 s28 => if 1000000 < wL b27 then (bnd (v8 + 1) fun a31 => mX1_take_L58 v0 v1 v2 v3 v5 x101 n 0 a31 s28) else bnd (v8 + 1) fun a33 => mX1_take_L58 v0 v1 v2 v3 v5 x101 n 1 a33 s28
def mX1_take_B53 (v0 : Nat) (v1 : Int) (v2 : Nat) (v3 : Int) (v5 : Int) (t0 : Int) (σ : mSt) : Option (Int × mSt) := mX1_take_L58 v0 v1 v2 v3 v5 (fun z7 zσ => mX1_take_B101 v0 v1 v2 v3 v5 z7 zσ) mF t0 0 σ
def mX1_take_B52 (v0 : Nat) (v1 : Int) (v2 : Nat) (v3 : Int) (v5 : Int) (σ : mSt) : Option (Int × mSt) := mX1_take_B53 v0 v1 v2 v3 v5 0 σ
def mX1_take_B29 (v0 : Nat) (v1 : Int) (v2 : Nat) (v3 : Int) (v5 : Int) (σ : mSt) : Option (Int × mSt) := if wL v3 ≤ 0 then (mX1_take_B52 v0 v1 v2 v3 v5 σ) else mCall (mX5_quotient v3 v5 σ) fun b36 s37 => if 1000000 < wL b36 then (mX1_take_B52 v0 v1 v2 v3 v5 s37) else mX1_take_B53 v0 v1 v2 v3 v5 1 s37
def mX1_take_L6 (v0 : Nat) (v1 : Int) (v2 : Nat) (v3 : Int) (x29 : Int → mSt → Option (Int × mSt)) : Nat → Int → Int → mSt → Option (Int × mSt)
  | 0, _, _, _ => none
  | n + 1, v5, v7, σ => if 4 ≤ wI v7 then (x29 v5 σ) else mG (ixOK v2 21 v7) <| mCall (mX5_greatestDivisor v5 (σ v2 (wI v7).toNat) σ) fun b42 s43 => bnd (v7 + 1) fun a45 => mX1_take_L6 v0 v1 v2 v3 x29 n b42 a45 s43
def mX1_take (v0 : Nat) (v1 : Int) (v2 : Nat) (v3 : Int) (σ : mSt) : Option (Int × mSt) := mG (isC v0 1) <| mX1_take_L6 v0 v1 v2 v3 (fun z5 zσ => mX1_take_B29 v0 v1 v2 v3 z5 zσ) mF v3 0 σ
def mX1_isWithin_B54 (v0 : Nat) (v1 : Int) (v2 : Int) (σ : mSt) : Option (Int × mSt) := mG (v2 = 0 ∨ v2 = 1) <| some (v2, σ)
def mX1_isWithin_L18 (v0 : Nat) (v1 : Int) (x54 : Int → mSt → Option (Int × mSt)) : Nat → Int → Int → mSt → Option (Int × mSt)
  | 0, _, _, _ => none
  | n + 1, v2, v3, σ => if 4 ≤ wI v3 then (x54 v2 σ) else if wI v2 = 0 then (x54 v2 σ) else mRef (σ v0 0) fun r4 => mG (ixOK r4 21 v3) <| mCall (mJ9_abs_067f4 (σ r4 (wI v3).toNat) σ) fun b7 s8 => if wL (wI v1) < wL b7 then (bnd (v3 + 1) fun a11 => mX1_isWithin_L18 v0 v1 x54 n 0 a11 s8) else bnd (v3 + 1) fun a13 => mX1_isWithin_L18 v0 v1 x54 n 1 a13 s8
def mX1_isWithin_B15 (v0 : Nat) (v1 : Int) (t0 : Int) (σ : mSt) : Option (Int × mSt) := mX1_isWithin_L18 v0 v1 (fun z2 zσ => mX1_isWithin_B54 v0 v1 z2 zσ) mF t0 0 σ
def mX1_isWithin (v0 : Nat) (v1 : Int) (σ : mSt) : Option (Int × mSt) := mG (isC v0 1) <| if wL (wI v1) < wL (σ v0 1) then (mX1_isWithin_B15 v0 v1 0 σ) else mX1_isWithin_B15 v0 v1 1 σ
def mX1_multiply (v0 : Int) (v2 : Int) (v4 : Nat) (v5 : Nat) (v6 : Nat) (σ : mSt) : Option (Int × mSt) := mG (ixOK v4 21 0) <| mG (ixOK v5 21 0) <| mG (ixOK v4 21 1) <| mG (ixOK v5 21 1) <| mG (ixOK v4 21 2) <| mG (ixOK v5 21 2) <| mG (ixOK v4 21 3) <| mG (ixOK v5 21 3) <| mG (ixOK v6 21 0) <| bnd (upS σ v6 0 (((((σ v4 0) * (σ v5 0)) + ((v0 * (σ v4 1)) * (σ v5 1))) + ((v2 * (σ v4 2)) * (σ v5 2))) - (((v0 * v2) * (σ v4 3)) * (σ v5 3)))) fun s10 => mG (ixOK v6 21 1) <| bnd (upS s10 v6 1 ((((s10 v4 0) * (s10 v5 1)) + ((s10 v4 1) * (s10 v5 0))) + (v2 * (((s10 v4 3) * (s10 v5 2)) - ((s10 v4 2) * (s10 v5 3)))))) fun s13 => mG (ixOK v6 21 2) <| bnd (upS s13 v6 2 ((((s13 v4 0) * (s13 v5 2)) + ((s13 v4 2) * (s13 v5 0))) + (v0 * (((s13 v4 1) * (s13 v5 3)) - ((s13 v4 3) * (s13 v5 1)))))) fun s16 => mG (ixOK v6 21 3) <| bnd (upS s16 v6 3 (((((s16 v4 0) * (s16 v5 3)) + ((s16 v4 3) * (s16 v5 0))) + ((s16 v4 1) * (s16 v5 2))) - ((s16 v4 2) * (s16 v5 1)))) fun s19 => some (0, s19)
def mX1_reflect_B34 (v0 : Nat) (v1 : Int) (v3 : Nat) (σ : mSt) : Option (Int × mSt) := some (0, σ)
def mX1_reflect_L11 (v0 : Nat) (v1 : Int) (v3 : Nat) (x34 : mSt → Option (Int × mSt)) : Nat → Int → mSt → Option (Int × mSt)
  | 0, _, _ => none
  | n + 1, v4, σ => if 4 ≤ wI v4 then (x34 σ) else mG (ixOK v0 21 v4) <| mG (ixOK v3 21 v4) <| bnd (upS σ v3 (wI v4).toNat ((-(σ v0 (wI v4).toNat)) * v1)) fun s4 => bnd (v4 + 1) fun a6 => mX1_reflect_L11 v0 v1 v3 x34 n a6 s4
def mX1_reflect (v0 : Nat) (v1 : Int) (v3 : Nat) (σ : mSt) : Option (Int × mSt) := mG (ixOK v0 21 0) <| mG (ixOK v3 21 0) <| bnd (upS σ v3 0 ((σ v0 0) * v1)) fun s10 => mX1_reflect_L11 v0 v1 v3 (fun zσ => mX1_reflect_B34 v0 v1 v3 zσ) mF 1 s10
def mX1_form (v0 : Int) (v2 : Int) (v4 : Nat) (σ : mSt) : Option (Int × mSt) := mG (ixOK v4 21 0) <| mG (ixOK v4 21 1) <| mG (ixOK v4 21 2) <| mG (ixOK v4 21 3) <| some (((((σ v4 0) * (σ v4 0)) - ((v0 * (σ v4 1)) * (σ v4 1))) - ((v2 * (σ v4 2)) * (σ v4 2))) + (((v0 * v2) * (σ v4 3)) * (σ v4 3)), σ)
def mX1_pairing (v0 : Int) (v2 : Int) (v4 : Nat) (v5 : Nat) (σ : mSt) : Option (Int × mSt) := mG (ixOK v4 21 0) <| mG (ixOK v5 21 0) <| mG (ixOK v4 21 1) <| mG (ixOK v5 21 1) <| mG (ixOK v4 21 2) <| mG (ixOK v5 21 2) <| mG (ixOK v4 21 3) <| mG (ixOK v5 21 3) <| some (2 * (((((σ v4 0) * (σ v5 0)) - ((v0 * (σ v4 1)) * (σ v5 1))) - ((v2 * (σ v4 2)) * (σ v5 2))) + (((v0 * v2) * (σ v4 3)) * (σ v5 3))), σ)
def mX3_modulus (v0 : Nat) (σ : mSt) : Option (Int × mSt) := mG (isC v0 3) <| some (σ v0 2, σ)
def mX6_below (v0 : Nat) (σ : mSt) : Option (Int × mSt) := mG (isC v0 5) <| mRef (σ v0 2) fun r1 => mCall (mX3_modulus r1 σ) fun b3 s4 => some (b3, s4)
def mX3_numbersOf (v0 : Nat) (v1 : Int) (σ : mSt) : Option (Int × mSt) := mG (isC v0 3) <| mRef (σ v0 0) fun r1 => mG (ixOK r1 27 v1) <| mRef (σ r1 (wI v1).toNat) fun r4 => some ((r4 : Int), σ)
def mX6_numbersOf (v0 : Nat) (v1 : Int) (σ : mSt) : Option (Int × mSt) := mG (isC v0 5) <| mRef (σ v0 2) fun r1 => mCall (mX3_numbersOf r1 v1 σ) fun b3 s4 => some ((b3.toNat : Int), s4)
def mX2_goesOn_B105 (v0 : Nat) (v1 : Int) (v2 : Int) (t0 : Int) (σ : mSt) : Option (Int × mSt) := mRef (σ v0 5) fun r1 => mG (ixOK r1 27 (v1 + 1)) <| mRef (σ r1 (wI (v1 + 1)).toNat) fun r4 => mG (ixOK r4 21 v1) <| mCall (mX5_divides (σ v0 2) ((2 * t0) * (σ r4 (wI v1).toNat)) σ) fun b7 s8 => mG (b7 = 0 ∨ b7 = 1) <| some (b7, s8)
def mX2_goesOn_B52 (v0 : Nat) (v1 : Int) (v2 : Int) (σ : mSt) : Option (Int × mSt) := if wI v1 = 0 then (mX2_goesOn_B105 v0 v1 v2 1 σ) else if wI v1 = 1 then (mRef (σ v0 0) fun r23 => mG (isC r23 5) <| mX2_goesOn_B105 v0 v1 v2 (σ r23 0) σ) else if wI v1 = 2 then (mRef (σ v0 0) fun r20 => mG (isC r20 5) <| mX2_goesOn_B105 v0 v1 v2 (σ r20 1) σ) else mRef (σ v0 0) fun r14 => mG (isC r14 5) <| mRef (σ v0 0) fun r17 => mG (isC r17 5) <| mX2_goesOn_B105 v0 v1 v2 ((σ r14 0) * (σ r17 1)) σ
def mX2_goesOn_L12 (v0 : Nat) (v1 : Int) (v2 : Int) (v3 : Nat) (x52 : mSt → Option (Int × mSt)) : Nat → Int → mSt → Option (Int × mSt)
  | 0, _, _ => none
  | n + 1, v4, σ => if 4 ≤ wI v4 then (x52 σ) else mRef (σ v0 5) fun r27 => mG (ixOK r27 27 (v1 + 1)) <| mRef (σ r27 (wI (v1 + 1)).toNat) fun r30 => mRef (σ v0 5) fun r32 => mG (ixOK r32 27 v1) <| mRef (σ r32 (wI v1).toNat) fun r35 => mG (ixOK r35 21 v4) <| mG (ixOK v3 21 v4) <| mG (ixOK r30 21 v4) <| bnd (upS σ r30 (wI v4).toNat ((σ r35 (wI v4).toNat) + ((wI v2) * (σ v3 (wI v4).toNat)))) fun s40 => bnd (v4 + 1) fun a42 => mX2_goesOn_L12 v0 v1 v2 v3 x52 n a42 s40
def mX2_goesOn (v0 : Nat) (v1 : Int) (v2 : Int) (σ : mSt) : Option (Int × mSt) := mG (isC v0 2) <| mRef (σ v0 0) fun r44 => mCall (mX6_numbersOf r44 v1 σ) fun b46 s47 => mX2_goesOn_L12 v0 v1 v2 b46.toNat (fun zσ => mX2_goesOn_B52 v0 v1 v2 zσ) mF 0 s47
def mX3_copy_B62 (v0 : Nat) (v1 : Nat) (v2 : Int) (σ : mSt) : Option (Int × mSt) := some (0, σ)
def mX3_copy_B56 (v0 : Nat) (v1 : Nat) (v2 : Int) (c13 : Int → mSt → Option (Int × mSt)) (x62 : mSt → Option (Int × mSt)) (v4 : Int) (σ : mSt) : Option (Int × mSt) := bnd (v4 + 1) fun a1 => c13 a1 σ
def mX3_copy_L22 (v0 : Nat) (v1 : Nat) (v2 : Int) (v4 : Int) (x56 : mSt → Option (Int × mSt)) : Nat → Int → mSt → Option (Int × mSt)
  | 0, _, _ => none
  | n + 1, v5, σ => if 4 ≤ wI v5 then (x56 σ) else mRef (σ v0 0) fun r4 => mG (ixOK r4 27 v4) <| mRef (σ r4 (wI v4).toNat) fun r7 => mG (isC v1 3) <| mRef (σ v1 0) fun r10 => mG (ixOK r10 27 v4) <| mRef (σ r10 (wI v4).toNat) fun r13 => mG (ixOK r13 21 v5) <| mG (ixOK r7 21 v5) <| bnd (upS σ r7 (wI v5).toNat ((σ r13 (wI v5).toNat) * v2)) fun s17 => bnd (v5 + 1) fun a19 => mX3_copy_L22 v0 v1 v2 v4 x56 n a19 s17
def mX3_copy_L13 (v0 : Nat) (v1 : Nat) (v2 : Int) (x62 : mSt → Option (Int × mSt)) : Nat → Int → mSt → Option (Int × mSt)
  | 0, _, _ => none
  | n + 1, v4, σ => if 4 ≤ wI v4 then (x62 σ) else mX3_copy_L22 v0 v1 v2 v4 (fun zσ => mX3_copy_B56 v0 v1 v2 (mX3_copy_L13 v0 v1 v2 x62 n) x62 v4 zσ) mF 0 σ
def mX3_copy (v0 : Nat) (v1 : Nat) (v2 : Int) (σ : mSt) : Option (Int × mSt) := mG (isC v0 3) <| mG (isC v1 3) <| bnd (upS σ v0 2 ((σ v1 2) * v2)) fun s23 => mX3_copy_L13 v0 v1 v2 (fun zσ => mX3_copy_B62 v0 v1 v2 zσ) mF 0 s23
def mX3_add_B159 (v0 : Nat) (v1 : Nat) (σ : mSt) : Option (Int × mSt) := some (0, σ)
def mX3_add_B153 (v0 : Nat) (v1 : Nat) (c31 : Int → mSt → Option (Int × mSt)) (x159 : mSt → Option (Int × mSt)) (v2 : Int) (σ : mSt) : Option (Int × mSt) := bnd (v2 + 1) fun a1 => c31 a1 σ
def mX3_add_B147 (v0 : Nat) (v1 : Nat) (v2 : Int) (v3 : Nat) (c46 : Int → mSt → Option (Int × mSt)) (x153 : mSt → Option (Int × mSt)) (v4 : Int) (σ : mSt) : Option (Int × mSt) := bnd (v4 + 1) fun a3 => c46 a3 σ
def mX3_add_L80 (v0 : Nat) (v1 : Nat) (v2 : Int) (v3 : Nat) (v4 : Int) (v5 : Int) (x147 : mSt → Option (Int × mSt)) : Nat → Int → mSt → Option (Int × mSt)
  | 0, _, _ => none
  | n + 1, v7, σ => if 4 ≤ wI v7 then (x147 σ) else mG (ixOK v3 21 v7) <| mRef (σ v0 1) fun r7 => mG (ixOK r7 21 v7) <| bnd ((σ v3 (wI v7).toNat) - (v5 * (σ r7 (wI v7).toNat))) fun a10 => mRef (σ v0 1) fun r12 => mG (ixOK r12 21 v7) <| bnd (upS σ v3 (wI v7).toNat (σ r12 (wI v7).toNat)) fun s15 => mRef (s15 v0 1) fun r17 => if wI v7 = wI v2 then (mG (ixOK r17 21 v7) <| bnd (upS s15 r17 (wI v7).toNat a10) fun s29 => bnd (v7 + 1) fun a31 => mX3_add_L80 v0 v1 v2 v3 v4 v5 x147 n a31 s29) else mCall (mX5_rest a10 (s15 v0 2) s15) fun b20 s21 => mG (ixOK r17 21 v7) <| bnd (upS s21 r17 (wI v7).toNat b20) fun s24 => bnd (v7 + 1) fun a26 => mX3_add_L80 v0 v1 v2 v3 v4 v5 x147 n a26 s24
def mX3_add_L46 (v0 : Nat) (v1 : Nat) (v2 : Int) (v3 : Nat) (x153 : mSt → Option (Int × mSt)) : Nat → Int → mSt → Option (Int × mSt)
  | 0, _, _ => none
  | n + 1, v4, σ => if 200 ≤ wI v4 then (x153 σ) else mRef (σ v0 1) fun r34 => mG (ixOK r34 21 v2) <| if wL (σ r34 (wI v2).toNat) = 0 then (x153 σ) else mG (ixOK v3 21 v2) <| mRef (σ v0 1) fun r39 => mG (ixOK r39 21 v2) <| mG (wL (σ r39 (wI v2).toNat) ≠ 0) <| bnd ((wL (σ v3 (wI v2).toNat)).tdiv (wL (σ r39 (wI v2).toNat))) fun a43 => mX3_add_L80 v0 v1 v2 v3 v4 a43 (fun zσ => mX3_add_B147 v0 v1 v2 v3 (mX3_add_L46 v0 v1 v2 v3 x153 n) x153 v4 zσ) mF v2 σ
def mX3_add_L31 (v0 : Nat) (v1 : Nat) (x159 : mSt → Option (Int × mSt)) : Nat → Int → mSt → Option (Int × mSt)
  | 0, _, _ => none
  | n + 1, v2, σ => if 4 ≤ wI v2 then (x159 σ) else mRef (σ v0 0) fun r46 => mG (ixOK r46 27 v2) <| mRef (σ r46 (wI v2).toNat) fun r49 => mX3_add_L46 v0 v1 v2 r49 (fun zσ => mX3_add_B153 v0 v1 (mX3_add_L31 v0 v1 x159 n) x159 v2 zσ) mF 0 σ
def mX3_add_B29 (v0 : Nat) (v1 : Nat) (σ : mSt) : Option (Int × mSt) := mX3_add_L31 v0 v1 (fun zσ => mX3_add_B159 v0 v1 zσ) mF 0 σ
def mX3_add_L2 (v0 : Nat) (v1 : Nat) (x29 : mSt → Option (Int × mSt)) : Nat → Int → mSt → Option (Int × mSt)
  | 0, _, _ => none
  | n + 1, v2, σ => if 4 ≤ wI v2 then (x29 σ) else mRef (σ v0 1) fun r52 => mG (ixOK v1 21 v2) <| mCall (mX5_rest (σ v1 (wI v2).toNat) (σ v0 2) σ) fun b55 s56 => mG (ixOK r52 21 v2) <| bnd (upS s56 r52 (wI v2).toNat b55) fun s59 => bnd (v2 + 1) fun a61 => mX3_add_L2 v0 v1 x29 n a61 s59
def mX3_add (v0 : Nat) (v1 : Nat) (σ : mSt) : Option (Int × mSt) := mG (isC v0 3) <| mX3_add_L2 v0 v1 (fun zσ => mX3_add_B29 v0 v1 zσ) mF 0 σ
def mX3_settle_B85 (v0 : Nat) (σ : mSt) : Option (Int × mSt) := some (0, σ)
def mX3_settle_B79 (v0 : Nat) (c2 : Int → mSt → Option (Int × mSt)) (x85 : mSt → Option (Int × mSt)) (v1 : Int) (σ : mSt) : Option (Int × mSt) := bnd (v1 + (-1)) fun a1 => c2 a1 σ
def mX3_settle_B73 (v0 : Nat) (v1 : Int) (c10 : Int → mSt → Option (Int × mSt)) (x79 : mSt → Option (Int × mSt)) (v2 : Int) (σ : mSt) : Option (Int × mSt) := bnd (v2 + 1) fun a3 => c10 a3 σ
def mX3_settle_L38 (v0 : Nat) (v1 : Int) (v2 : Int) (v3 : Int) (x73 : mSt → Option (Int × mSt)) : Nat → Int → mSt → Option (Int × mSt)
  | 0, _, _ => none
  | n + 1, v5, σ => if 4 ≤ wI v5 then (x73 σ) else mRef (σ v0 0) fun r6 => mG (ixOK r6 27 v1) <| mRef (σ r6 (wI v1).toNat) fun r9 => mG (ixOK r9 21 v5) <| mRef (σ v0 0) fun r12 => mG (ixOK r12 27 v2) <| mRef (σ r12 (wI v2).toNat) fun r15 => mG (ixOK r15 21 v5) <| bnd (upS σ r9 (wI v5).toNat ((σ r9 (wI v5).toNat) - (v3 * (σ r15 (wI v5).toNat)))) fun s18 => bnd (v5 + 1) fun a20 => mX3_settle_L38 v0 v1 v2 v3 x73 n a20 s18
def mX3_settle_L10 (v0 : Nat) (v1 : Int) (x79 : mSt → Option (Int × mSt)) : Nat → Int → mSt → Option (Int × mSt)
  | 0, _, _ => none
  | n + 1, v2, σ => if 4 ≤ wI v2 then (x79 σ) else mRef (σ v0 0) fun r23 => mG (ixOK r23 27 v1) <| mRef (σ r23 (wI v1).toNat) fun r26 => mG (ixOK r26 21 v2) <| mRef (σ v0 0) fun r29 => mG (ixOK r29 27 v2) <| mRef (σ r29 (wI v2).toNat) fun r32 => mG (ixOK r32 21 v2) <| mCall (mX5_quotient (σ r26 (wI v2).toNat) (σ r32 (wI v2).toNat) σ) fun b35 s36 => mX3_settle_L38 v0 v1 v2 b35 (fun zσ => mX3_settle_B73 v0 v1 (mX3_settle_L10 v0 v1 x79 n) x79 v2 zσ) mF v2 s36
def mX3_settle_L2 (v0 : Nat) (x85 : mSt → Option (Int × mSt)) : Nat → Int → mSt → Option (Int × mSt)
  | 0, _, _ => none
  | n + 1, v1, σ => if wI v1 < 0 then (x85 σ) else bnd (v1 + 1) fun a39 => mX3_settle_L10 v0 v1 (fun zσ => mX3_settle_B79 v0 (mX3_settle_L2 v0 x85 n) x85 v1 zσ) mF a39 σ
def mX3_settle (v0 : Nat) (σ : mSt) : Option (Int × mSt) := mG (isC v0 3) <| mX3_settle_L2 v0 (fun zσ => mX3_settle_B85 v0 zσ) mF 2 σ
def mX3_lower_B97 (v0 : Nat) (v1 : Int) (σ : mSt) : Option (Int × mSt) := mCall (mX5_quotient (σ v0 2) v1 σ) fun b1 s2 => bnd (upS s2 v0 2 b1) fun s4 => some (0, s4)
def mX3_lower_B91 (v0 : Nat) (v1 : Int) (c49 : Int → mSt → Option (Int × mSt)) (x97 : mSt → Option (Int × mSt)) (v3 : Int) (σ : mSt) : Option (Int × mSt) := bnd (v3 + 1) fun a6 => c49 a6 σ
def mX3_lower_L57 (v0 : Nat) (v1 : Int) (v3 : Int) (x91 : mSt → Option (Int × mSt)) : Nat → Int → mSt → Option (Int × mSt)
  | 0, _, _ => none
  | n + 1, v4, σ => if 4 ≤ wI v4 then (x91 σ) else mRef (σ v0 0) fun r9 => mG (ixOK r9 27 v3) <| mRef (σ r9 (wI v3).toNat) fun r12 => mRef (σ v0 0) fun r14 => mG (ixOK r14 27 v3) <| mRef (σ r14 (wI v3).toNat) fun r17 => mG (ixOK r17 21 v4) <| mCall (mX5_quotient (σ r17 (wI v4).toNat) v1 σ) fun b20 s21 => mG (ixOK r12 21 v4) <| bnd (upS s21 r12 (wI v4).toNat b20) fun s24 => bnd (v4 + 1) fun a26 => mX3_lower_L57 v0 v1 v3 x91 n a26 s24
def mX3_lower_L49 (v0 : Nat) (v1 : Int) (x97 : mSt → Option (Int × mSt)) : Nat → Int → mSt → Option (Int × mSt)
  | 0, _, _ => none
  | n + 1, v3, σ => if 4 ≤ wI v3 then (x97 σ) else mX3_lower_L57 v0 v1 v3 (fun zσ => mX3_lower_B91 v0 v1 (mX3_lower_L49 v0 v1 x97 n) x97 v3 zσ) mF v3 σ
def mX3_lower_B47 (v0 : Nat) (v1 : Int) (σ : mSt) : Option (Int × mSt) := mX3_lower_L49 v0 v1 (fun zσ => mX3_lower_B97 v0 v1 zσ) mF 0 σ
def mX3_lower_B41 (v0 : Nat) (c7 : Int → Int → mSt → Option (Int × mSt)) (x47 : Int → mSt → Option (Int × mSt)) (v1 : Int) (v3 : Int) (σ : mSt) : Option (Int × mSt) := bnd (v3 + 1) fun a29 => c7 v1 a29 σ
def mX3_lower_L15 (v0 : Nat) (v3 : Int) (x41 : Int → mSt → Option (Int × mSt)) : Nat → Int → Int → mSt → Option (Int × mSt)
  | 0, _, _, _ => none
  | n + 1, v1, v4, σ => if 4 ≤ wI v4 then (x41 v1 σ) else mRef (σ v0 0) fun r32 => mG (ixOK r32 27 v3) <| mRef (σ r32 (wI v3).toNat) fun r35 => mG (ixOK r35 21 v4) <| mCall (mX5_greatestDivisor v1 (σ r35 (wI v4).toNat) σ) fun b38 s39 => bnd (v4 + 1) fun a41 => mX3_lower_L15 v0 v3 x41 n b38 a41 s39
def mX3_lower_L7 (v0 : Nat) (x47 : Int → mSt → Option (Int × mSt)) : Nat → Int → Int → mSt → Option (Int × mSt)
  | 0, _, _, _ => none
  | n + 1, v1, v3, σ => if 4 ≤ wI v3 then (x47 v1 σ) else mX3_lower_L15 v0 v3 (fun z1 zσ => mX3_lower_B41 v0 (mX3_lower_L7 v0 x47 n) x47 z1 v3 zσ) mF v1 v3 σ
def mX3_lower (v0 : Nat) (σ : mSt) : Option (Int × mSt) := mG (isC v0 3) <| bnd (σ v0 2) fun a44 => mX3_lower_L7 v0 (fun z1 zσ => mX3_lower_B47 v0 z1 zσ) mF a44 0 σ
set_option maxRecDepth 100000 in
set_option maxHeartbeats 4000000 in
theorem qX0_size (l : Launch) (E : mE) (σ : mSt) (v0 : Nat) (out : Int × mSt) (hm : mX0_size v0 σ = some out) : mMet l yX0_size cX0_size 1 (some .int) 0 0 E 276 [.ref (eA E v0)] σ (some (vI out.1)) out.2 := by
  unfold mX0_size at hm
  obtain ⟨g0, hm⟩ := g_t hm
  refine m_entry (by decide +kernel) (Nat.le_of_ble_eq_true rfl) (fun p e s m args below meth c G hr hk hM ls hl => ?_)
  have G : CallFix p m c cX0_size 1 s args mTs RX0 := G
  have hl : lv_has ls 1 [(0, .ref (eA E v0))] := hl
  refine r_aload_n (np := 1) G hl 0 rfl dX0_size_0 rfl rfl ?_
  refine r_getI (np := 4) G hM (shp_lt g0 (by decide)) g0 fdX0_0 lkX0_9 dX0_size_1 rfl ?_
  exact r_iret G hr hk hM hm dX0_size_4
theorem gX0_size {v0 : Nat} {σ : mSt} {out : Int × mSt} (hm : mX0_size v0 σ = some out) : isC v0 0 := (g_t hm).1
set_option maxRecDepth 100000 in
set_option maxHeartbeats 4000000 in
theorem qX0_kind (l : Launch) (E : mE) (σ : mSt) (v0 : Nat) (v1 : Int) (out : Int × mSt) (hm : mX0_kind v0 v1 σ = some out) : mMet l yX0_kind cX0_kind 2 (some .int) 0 0 E 276 [.ref (eA E v0), vI v1] σ (some (vI out.1)) out.2 := by
  unfold mX0_kind at hm
  obtain ⟨g0, hm⟩ := g_t hm
  refine m_entry (by decide +kernel) (Nat.le_of_ble_eq_true rfl) (fun p e s m args below meth c G hr hk hM ls hl => ?_)
  have G : CallFix p m c cX0_kind 2 s args mTs RX0 := G
  have hl : lv_has ls 2 [(0, .ref (eA E v0)), (1, vI v1)] := hl
  refine r_aload_n (np := 1) G hl 0 rfl dX0_kind_0 rfl rfl ?_
  obtain ⟨r1, e2, hm⟩ := ref_t hm
  refine r_getR (np := 4) G hM (shp_lt g0 (by decide)) g0 e2 fdX0_1 lkX0_15 dX0_kind_1 rfl ?_
  refine r_iload_n (np := 5) G hl 1 rfl dX0_kind_4 rfl rfl ?_
  obtain ⟨g3, hm⟩ := g_t hm
  refine r_iaload (np := 6) G hM g3 rfl dX0_kind_5 rfl ?_
  exact r_iret G hr hk hM hm dX0_kind_6
theorem gX0_kind {v0 : Nat} {v1 : Int} {σ : mSt} {out : Int × mSt} (hm : mX0_kind v0 v1 σ = some out) : isC v0 0 := (g_t hm).1
set_option maxRecDepth 100000 in
set_option maxHeartbeats 4000000 in
theorem qX0_first (l : Launch) (E : mE) (σ : mSt) (v0 : Nat) (v1 : Int) (out : Int × mSt) (hm : mX0_first v0 v1 σ = some out) : mMet l yX0_first cX0_first 2 (some .int) 0 0 E 276 [.ref (eA E v0), vI v1] σ (some (vI out.1)) out.2 := by
  unfold mX0_first at hm
  obtain ⟨g0, hm⟩ := g_t hm
  refine m_entry (by decide +kernel) (Nat.le_of_ble_eq_true rfl) (fun p e s m args below meth c G hr hk hM ls hl => ?_)
  have G : CallFix p m c cX0_first 2 s args mTs RX0 := G
  have hl : lv_has ls 2 [(0, .ref (eA E v0)), (1, vI v1)] := hl
  refine r_aload_n (np := 1) G hl 0 rfl dX0_first_0 rfl rfl ?_
  obtain ⟨r1, e2, hm⟩ := ref_t hm
  refine r_getR (np := 4) G hM (shp_lt g0 (by decide)) g0 e2 fdX0_2 lkX0_19 dX0_first_1 rfl ?_
  refine r_iload_n (np := 5) G hl 1 rfl dX0_first_4 rfl rfl ?_
  obtain ⟨g3, hm⟩ := g_t hm
  refine r_iaload (np := 6) G hM g3 rfl dX0_first_5 rfl ?_
  exact r_iret G hr hk hM hm dX0_first_6
theorem gX0_first {v0 : Nat} {v1 : Int} {σ : mSt} {out : Int × mSt} (hm : mX0_first v0 v1 σ = some out) : isC v0 0 := (g_t hm).1
set_option maxRecDepth 100000 in
set_option maxHeartbeats 4000000 in
theorem qX0_second (l : Launch) (E : mE) (σ : mSt) (v0 : Nat) (v1 : Int) (out : Int × mSt) (hm : mX0_second v0 v1 σ = some out) : mMet l yX0_second cX0_second 2 (some .int) 0 0 E 276 [.ref (eA E v0), vI v1] σ (some (vI out.1)) out.2 := by
  unfold mX0_second at hm
  obtain ⟨g0, hm⟩ := g_t hm
  refine m_entry (by decide +kernel) (Nat.le_of_ble_eq_true rfl) (fun p e s m args below meth c G hr hk hM ls hl => ?_)
  have G : CallFix p m c cX0_second 2 s args mTs RX0 := G
  have hl : lv_has ls 2 [(0, .ref (eA E v0)), (1, vI v1)] := hl
  refine r_aload_n (np := 1) G hl 0 rfl dX0_second_0 rfl rfl ?_
  obtain ⟨r1, e2, hm⟩ := ref_t hm
  refine r_getR (np := 4) G hM (shp_lt g0 (by decide)) g0 e2 fdX0_3 lkX0_22 dX0_second_1 rfl ?_
  refine r_iload_n (np := 5) G hl 1 rfl dX0_second_4 rfl rfl ?_
  obtain ⟨g3, hm⟩ := g_t hm
  refine r_iaload (np := 6) G hM g3 rfl dX0_second_5 rfl ?_
  exact r_iret G hr hk hM hm dX0_second_6
theorem gX0_second {v0 : Nat} {v1 : Int} {σ : mSt} {out : Int × mSt} (hm : mX0_second v0 v1 σ = some out) : isC v0 0 := (g_t hm).1
set_option maxRecDepth 100000 in
set_option maxHeartbeats 4000000 in
theorem qX0_letter (l : Launch) (E : mE) (σ : mSt) (v0 : Nat) (v1 : Int) (out : Int × mSt) (hm : mX0_letter v0 v1 σ = some out) : mMet l yX0_letter cX0_letter 2 (some .int) 0 0 E 276 [.ref (eA E v0), vI v1] σ (some (vI out.1)) out.2 := by
  unfold mX0_letter at hm
  obtain ⟨g0, hm⟩ := g_t hm
  refine m_entry (by decide +kernel) (Nat.le_of_ble_eq_true rfl) (fun p e s m args below meth c G hr hk hM ls hl => ?_)
  have G : CallFix p m c cX0_letter 2 s args mTs RX0 := G
  have hl : lv_has ls 2 [(0, .ref (eA E v0)), (1, vI v1)] := hl
  refine r_aload_n (np := 1) G hl 0 rfl dX0_letter_0 rfl rfl ?_
  obtain ⟨r1, e2, hm⟩ := ref_t hm
  refine r_getR (np := 4) G hM (shp_lt g0 (by decide)) g0 e2 fdX0_5 lkX0_30 dX0_letter_1 rfl ?_
  refine r_iload_n (np := 5) G hl 1 rfl dX0_letter_4 rfl rfl ?_
  obtain ⟨g3, hm⟩ := g_t hm
  obtain ⟨r4, e5, hm⟩ := ref_t hm
  refine r_aaload (np := 6) G hM (t := 5) g3 rfl ⟨by decide, by decide⟩ rfl rfl e5 dX0_letter_5 rfl ?_
  refine r_iconst (np := 7) G 0 dX0_letter_6 rfl ?_
  obtain ⟨g6, hm⟩ := g_t hm
  refine r_baload (np := 8) G hM g6 rfl dX0_letter_7 rfl ?_
  refine r_bipush (np := 10) G 97 dX0_letter_8 (by decide) rfl ?_
  refine r_isub (np := 11) G dX0_letter_10 rfl ?_
  exact r_iret G hr hk hM hm dX0_letter_11
theorem gX0_letter {v0 : Nat} {v1 : Int} {σ : mSt} {out : Int × mSt} (hm : mX0_letter v0 v1 σ = some out) : isC v0 0 := (g_t hm).1
set_option maxRecDepth 100000 in
set_option maxHeartbeats 4000000 in
theorem qX0_term (l : Launch) (E : mE) (σ : mSt) (v0 : Nat) (v1 : Int) (v2 : Int) (out : Int × mSt) (hm : mX0_term v0 v1 v2 σ = some out) : mMet l yX0_term cX0_term 3 (some .int) 0 0 E 276 [.ref (eA E v0), vI v1, vI v2] σ (some (vI out.1)) out.2 := by
  unfold mX0_term at hm
  obtain ⟨g0, hm⟩ := g_t hm
  refine m_entry (by decide +kernel) (Nat.le_of_ble_eq_true rfl) (fun p e s m args below meth c G hr hk hM ls hl => ?_)
  have G : CallFix p m c cX0_term 3 s args mTs RX0 := G
  have hl : lv_has ls 3 [(0, .ref (eA E v0)), (1, vI v1), (2, vI v2)] := hl
  refine r_aload_n (np := 1) G hl 0 rfl dX0_term_0 rfl rfl ?_
  obtain ⟨r1, e2, hm⟩ := ref_t hm
  refine r_getR (np := 4) G hM (shp_lt g0 (by decide)) g0 e2 fdX0_6 lkX0_35 dX0_term_1 rfl ?_
  refine r_iload_n (np := 5) G hl 1 rfl dX0_term_4 rfl rfl ?_
  obtain ⟨g3, hm⟩ := g_t hm
  obtain ⟨r4, e5, hm⟩ := ref_t hm
  refine r_aaload (np := 6) G hM (t := 6) g3 rfl ⟨by decide, by decide⟩ rfl rfl e5 dX0_term_5 rfl ?_
  refine r_iload_n (np := 7) G hl 2 rfl dX0_term_6 rfl rfl ?_
  obtain ⟨g6, hm⟩ := g_t hm
  refine r_iaload (np := 8) G hM g6 rfl dX0_term_7 rfl ?_
  exact r_iret G hr hk hM hm dX0_term_8
theorem gX0_term {v0 : Nat} {v1 : Int} {v2 : Int} {σ : mSt} {out : Int × mSt} (hm : mX0_term v0 v1 v2 σ = some out) : isC v0 0 := (g_t hm).1
set_option maxRecDepth 100000 in
set_option maxHeartbeats 4000000 in
theorem qX0_sign (l : Launch) (E : mE) (σ : mSt) (v0 : Nat) (v1 : Int) (v2 : Int) (out : Int × mSt) (hm : mX0_sign v0 v1 v2 σ = some out) : mMet l yX0_sign cX0_sign 3 (some .int) 0 0 E 276 [.ref (eA E v0), vI v1, vI v2] σ (some (vI out.1)) out.2 := by
  unfold mX0_sign at hm
  obtain ⟨g0, hm⟩ := g_t hm
  refine m_entry (by decide +kernel) (Nat.le_of_ble_eq_true rfl) (fun p e s m args below meth c G hr hk hM ls hl => ?_)
  have G : CallFix p m c cX0_sign 3 s args mTs RX0 := G
  have hl : lv_has ls 3 [(0, .ref (eA E v0)), (1, vI v1), (2, vI v2)] := hl
  refine r_aload_n (np := 1) G hl 0 rfl dX0_sign_0 rfl rfl ?_
  obtain ⟨r1, e2, hm⟩ := ref_t hm
  refine r_getR (np := 4) G hM (shp_lt g0 (by decide)) g0 e2 fdX0_7 lkX0_38 dX0_sign_1 rfl ?_
  refine r_iload_n (np := 5) G hl 1 rfl dX0_sign_4 rfl rfl ?_
  obtain ⟨g3, hm⟩ := g_t hm
  obtain ⟨r4, e5, hm⟩ := ref_t hm
  refine r_aaload (np := 6) G hM (t := 6) g3 rfl ⟨by decide, by decide⟩ rfl rfl e5 dX0_sign_5 rfl ?_
  refine r_iload_n (np := 7) G hl 2 rfl dX0_sign_6 rfl rfl ?_
  obtain ⟨g6, hm⟩ := g_t hm
  refine r_iaload (np := 8) G hM g6 rfl dX0_sign_7 rfl ?_
  exact r_iret G hr hk hM hm dX0_sign_8
theorem gX0_sign {v0 : Nat} {v1 : Int} {v2 : Int} {σ : mSt} {out : Int × mSt} (hm : mX0_sign v0 v1 v2 σ = some out) : isC v0 0 := (g_t hm).1
set_option maxRecDepth 100000 in
set_option maxHeartbeats 4000000 in
theorem qX0_clear (l : Launch) (E : mE) (σ : mSt) (v0 : Nat) (out : Int × mSt) (hm : mX0_clear v0 σ = some out) : mMet l yX0_clear cX0_clear 1 none 0 0 E 276 [.ref (eA E v0)] σ none out.2 := by
  unfold mX0_clear at hm
  obtain ⟨g0, hm⟩ := g_t hm
  refine m_entry (by decide +kernel) (Nat.le_of_ble_eq_true rfl) (fun p e s m args below meth c G hr hk hM ls hl => ?_)
  have G : CallFix p m c cX0_clear 1 s args mTs RX0 := G
  have hl : lv_has ls 1 [(0, .ref (eA E v0))] := hl
  refine r_aload_n (np := 1) G hl 0 rfl dX0_clear_0 rfl rfl ?_
  refine r_iconst (np := 2) G 0 dX0_clear_1 rfl ?_
  obtain ⟨s1, e2, hm⟩ := bnd_t hm
  refine r_putI (np := 5) G hM (shp_lt g0 (by decide)) g0 ptX0_0 rfl lkX0_9 s1 e2 dX0_clear_2 rfl (fun H locs hM => ?_)
  exact r_vret G hr hk hM hm dX0_clear_5
theorem gX0_clear {v0 : Nat} {σ : mSt} {out : Int × mSt} (hm : mX0_clear v0 σ = some out) : isC v0 0 := (g_t hm).1
set_option maxRecDepth 100000 in
set_option maxHeartbeats 4000000 in
theorem qX0_isFull (l : Launch) (E : mE) (σ : mSt) (v0 : Nat) (out : Int × mSt) (hm : mX0_isFull v0 σ = some out) : mMet l yX0_isFull cX0_isFull 1 (some .boolean) 0 0 E 276 [.ref (eA E v0)] σ (some (vI out.1)) out.2 := by
  unfold mX0_isFull at hm
  obtain ⟨g0, hm⟩ := g_t hm
  refine m_entry (by decide +kernel) (Nat.le_of_ble_eq_true rfl) (fun p e s m args below meth c G hr hk hM ls hl => ?_)
  have G : CallFix p m c cX0_isFull 1 s args mTs RX0 := G
  have hl : lv_has ls 1 [(0, .ref (eA E v0))] := hl
  refine r_aload_n (np := 1) G hl 0 rfl dX0_isFull_0 rfl rfl ?_
  refine r_getI (np := 4) G hM (shp_lt g0 (by decide)) g0 fdX0_0 lkX0_9 dX0_isFull_1 rfl ?_
  refine r_bipush (np := 6) G 8 dX0_isFull_4 (by decide) rfl ?_
  refine r_icmp_lt (np := 9) (tgt := 13) G rfl (wIk 8 rfl) dX0_isFull_6 (by decide) rfl (fun h1 => ?_) (fun h1 => ?_)
  · have hm := b_t h1 hm
    refine r_iconst (np := 14) G 0 dX0_isFull_13 rfl ?_
    exact r_zret G hr hk hM (Or.inl rfl) hm dX0_isFull_14
  · have hm := b_f h1 hm
    refine r_iconst (np := 10) G 1 dX0_isFull_9 rfl ?_
    refine r_goto (np := 14) G dX0_isFull_10 (by decide) ?_
    exact r_zret G hr hk hM (Or.inr rfl) hm dX0_isFull_14
theorem gX0_isFull {v0 : Nat} {σ : mSt} {out : Int × mSt} (hm : mX0_isFull v0 σ = some out) : isC v0 0 := (g_t hm).1
set_option maxRecDepth 100000 in
set_option maxHeartbeats 4000000 in
theorem qX10_length (l : Launch) (E : mE) (σ : mSt) (v0 : Nat) (out : Int × mSt) (hm : mX10_length v0 σ = some out) : mMet l yX10_length cX10_length 1 (some .int) 0 0 E 276 [.ref (eA E v0)] σ (some (vI out.1)) out.2 := by
  unfold mX10_length at hm
  obtain ⟨g0, hm⟩ := g_t hm
  refine m_entry (by decide +kernel) (Nat.le_of_ble_eq_true rfl) (fun p e s m args below meth c G hr hk hM ls hl => ?_)
  have G : CallFix p m c cX10_length 1 s args mTs RX10 := G
  have hl : lv_has ls 1 [(0, .ref (eA E v0))] := hl
  refine r_aload_n (np := 1) G hl 0 rfl dX10_length_0 rfl rfl ?_
  refine r_getI (np := 4) G hM (shp_lt g0 (by decide)) g0 fdX10_3 lkX10_22 dX10_length_1 rfl ?_
  refine r_aload_n (np := 5) G hl 0 rfl dX10_length_4 rfl rfl ?_
  refine r_getI (np := 8) G hM (shp_lt g0 (by decide)) g0 fdX10_2 lkX10_19 dX10_length_5 rfl ?_
  refine r_isub (np := 9) G dX10_length_8 rfl ?_
  exact r_iret G hr hk hM hm dX10_length_9
theorem gX10_length {v0 : Nat} {σ : mSt} {out : Int × mSt} (hm : mX10_length v0 σ = some out) : isC v0 9 := (g_t hm).1
set_option maxRecDepth 100000 in
set_option maxHeartbeats 4000000 in
theorem wX10_byteAt_B31 (l : Launch) (E : mE) (out : Int × mSt) {p : Program} {e : Env} {s : State} {m : MethodId} {args : Array Value} {below : List Frame} {meth : Method} {c : Code} (G : CallFix p m c cX10_byteAt 2 s args mTs RX10) (hr : meth.sig.returnType = (some .byte)) (hk : meth.locks = false) (v0 : Nat) (v1 : Int) (g0 : isC v0 9) : ∀ (σ : mSt) (H : Heap) (locs : List Loc) (ls : Array Slot), mX10_byteAt_B31 v0 v1 σ = some out → mM (mA E 276) E 276 σ s H locs → lv_has ls 2 [] → mGo l p e 0 0 s m args below meth c E (some (vI out.1)) out.2 H locs (F0 m 31 ls []) := by
  intro σ H locs ls hm hM hl
  unfold mX10_byteAt_B31 at hm
  refine r_iconst (np := 32) G 0 dX10_byteAt_31 rfl ?_
  exact r_bret G hr hk hM ⟨by decide, by decide⟩ hm dX10_byteAt_32
set_option maxRecDepth 100000 in
set_option maxHeartbeats 4000000 in
theorem qX10_byteAt (l : Launch) (E : mE) (σ : mSt) (v0 : Nat) (v1 : Int) (out : Int × mSt) (hm : mX10_byteAt v0 v1 σ = some out) : mMet l yX10_byteAt cX10_byteAt 2 (some .byte) 0 0 E 276 [.ref (eA E v0), vI v1] σ (some (vI out.1)) out.2 := by
  unfold mX10_byteAt at hm
  obtain ⟨g0, hm⟩ := g_t hm
  refine m_entry (by decide +kernel) (Nat.le_of_ble_eq_true rfl) (fun p e s m args below meth c G hr hk hM ls hl => ?_)
  have G : CallFix p m c cX10_byteAt 2 s args mTs RX10 := G
  have hl : lv_has ls 2 [(0, .ref (eA E v0)), (1, vI v1)] := hl
  refine r_iload_n (np := 1) G hl 1 rfl dX10_byteAt_0 rfl rfl ?_
  refine r_if_lt (np := 4) (tgt := 31) G rfl dX10_byteAt_1 (by decide) rfl (fun h1 => ?_) (fun h1 => ?_)
  · have hm := b_t h1 hm
    exact wX10_byteAt_B31 l E out G hr hk v0 v1 g0 _ _ _ _ hm hM (lv_sub hl [] rfl)
  · have hm := b_f h1 hm
    refine r_aload_n (np := 5) G hl 0 rfl dX10_byteAt_4 rfl rfl ?_
    refine r_getI (np := 8) G hM (shp_lt g0 (by decide)) g0 fdX10_2 lkX10_19 dX10_byteAt_5 rfl ?_
    refine r_iload_n (np := 9) G hl 1 rfl dX10_byteAt_8 rfl rfl ?_
    refine r_iadd (np := 10) G dX10_byteAt_9 rfl ?_
    refine r_aload_n (np := 11) G hl 0 rfl dX10_byteAt_10 rfl rfl ?_
    refine r_getI (np := 14) G hM (shp_lt g0 (by decide)) g0 fdX10_3 lkX10_22 dX10_byteAt_11 rfl ?_
    refine r_icmp_ge (np := 17) (tgt := 31) G rfl rfl dX10_byteAt_14 (by decide) rfl (fun h2 => ?_) (fun h2 => ?_)
    · have hm := b_t h2 hm
      exact wX10_byteAt_B31 l E out G hr hk v0 v1 g0 _ _ _ _ hm hM (lv_sub hl [] rfl)
    · have hm := b_f h2 hm
      refine r_aload_n (np := 18) G hl 0 rfl dX10_byteAt_17 rfl rfl ?_
      obtain ⟨r3, e4, hm⟩ := ref_t hm
      refine r_getR (np := 21) G hM (shp_lt g0 (by decide)) g0 e4 fdX10_0 lkX10_9 dX10_byteAt_18 rfl ?_
      refine r_aload_n (np := 22) G hl 0 rfl dX10_byteAt_21 rfl rfl ?_
      refine r_getI (np := 25) G hM (shp_lt g0 (by decide)) g0 fdX10_2 lkX10_19 dX10_byteAt_22 rfl ?_
      refine r_iload_n (np := 26) G hl 1 rfl dX10_byteAt_25 rfl rfl ?_
      refine r_iadd (np := 27) G dX10_byteAt_26 rfl ?_
      obtain ⟨g5, hm⟩ := g_t hm
      refine r_baload (np := 28) G hM g5 rfl dX10_byteAt_27 rfl ?_
      refine r_goto (np := 32) G dX10_byteAt_28 (by decide) ?_
      obtain ⟨g6, hm⟩ := g_t hm
      exact r_bret G hr hk hM g6 hm dX10_byteAt_32
theorem gX10_byteAt {v0 : Nat} {v1 : Int} {σ : mSt} {out : Int × mSt} (hm : mX10_byteAt v0 v1 σ = some out) : isC v0 9 := (g_t hm).1
set_option maxRecDepth 100000 in
set_option maxHeartbeats 4000000 in
theorem wX0_begin_B97 (l : Launch) (E : mE) (out : Int × mSt) {p : Program} {e : Env} {s : State} {m : MethodId} {args : Array Value} {below : List Frame} {meth : Method} {c : Code} (G : CallFix p m c cX0_begin 4 s args mTs RX0) (hr : meth.sig.returnType = none) (hk : meth.locks = false) (v0 : Nat) (v1 : Int) (v2 : Nat) (g0 : isC v0 0) : ∀ (σ : mSt) (H : Heap) (locs : List Loc) (ls : Array Slot), mX0_begin_B97 v0 v1 v2 σ = some out → mM (mA E 276) E 276 σ s H locs → lv_has ls 4 [] → mGo l p e 1 21 s m args below meth c E none out.2 H locs (F0 m 97 ls []) := by
  intro σ H locs ls hm hM hl
  unfold mX0_begin_B97 at hm
  exact r_vret G hr hk hM hm dX0_begin_97
set_option maxRecDepth 100000 in
set_option maxHeartbeats 4000000 in
theorem wX0_begin_L62 (l : Launch) (E : mE) (out : Int × mSt) {p : Program} {e : Env} {s : State} {m : MethodId} {args : Array Value} {below : List Frame} {meth : Method} {c : Code} (G : CallFix p m c cX0_begin 4 s args mTs RX0) (hr : meth.sig.returnType = none) (hk : meth.locks = false) (v0 : Nat) (v1 : Int) (v2 : Nat) (g0 : isC v0 0) (x97 : mSt → Option (Int × mSt)) (hx97 : ∀ (σ : mSt) (H : Heap) (locs : List Loc) (ls : Array Slot), x97 σ = some out → mM (mA E 276) E 276 σ s H locs → lv_has ls 4 [] → mGo l p e 1 21 s m args below meth c E none out.2 H locs (F0 m 97 ls [])) : ∀ (n : Nat) (v3 : Int) (σ : mSt) (H : Heap) (locs : List Loc) (ls : Array Slot), mX0_begin_L62 v0 v1 v2 x97 n v3 σ = some out → mM (mA E 276) E 276 σ s H locs → lv_has ls 4 [(0, .ref (eA E v0)), (2, .ref (eA E v2)), (3, vI v3)] → mGo l p e 1 21 s m args below meth c E none out.2 H locs (F0 m 62 ls []) := by
  intro n
  induction n with
  | zero =>
    intro v3 σ H locs ls hm hM hl
    exact absurd hm (by rw [mX0_begin_L62.eq_1]; exact fun h => nomatch h)
  | succ n ih =>
    intro v3 σ H locs ls hm hM hl
    rw [mX0_begin_L62.eq_2] at hm
    refine r_iload_n (np := 63) G hl 2 rfl dX0_begin_62 rfl rfl ?_
    refine r_aload_n (np := 64) G hl 0 rfl dX0_begin_63 rfl rfl ?_
    obtain ⟨r1, e2, hm⟩ := ref_t hm
    refine r_getR (np := 67) G hM (shp_lt g0 (by decide)) g0 e2 fdX0_4 lkX0_25 dX0_begin_64 rfl ?_
    refine r_aload_n (np := 68) G hl 0 rfl dX0_begin_67 rfl rfl ?_
    refine r_getI (np := 71) G hM (shp_lt g0 (by decide)) g0 fdX0_0 lkX0_9 dX0_begin_68 rfl ?_
    obtain ⟨g3, hm⟩ := g_t hm
    refine r_iaload (np := 72) G hM g3 rfl dX0_begin_71 rfl ?_
    refine r_icmp_ge (np := 75) (tgt := 97) G rfl rfl dX0_begin_72 (by decide) rfl (fun h4 => ?_) (fun h4 => ?_)
    · have hm := b_t h4 hm
      exact hx97 _ _ _ _ hm hM (lv_sub hl [] rfl)
    · have hm := b_f h4 hm
      refine r_aload_n (np := 76) G hl 0 rfl dX0_begin_75 rfl rfl ?_
      obtain ⟨r5, e6, hm⟩ := ref_t hm
      refine r_getR (np := 79) G hM (shp_lt g0 (by decide)) g0 e6 fdX0_5 lkX0_30 dX0_begin_76 rfl ?_
      refine r_aload_n (np := 80) G hl 0 rfl dX0_begin_79 rfl rfl ?_
      refine r_getI (np := 83) G hM (shp_lt g0 (by decide)) g0 fdX0_0 lkX0_9 dX0_begin_80 rfl ?_
      obtain ⟨g7, hm⟩ := g_t hm
      obtain ⟨r8, e9, hm⟩ := ref_t hm
      refine r_aaload (np := 84) G hM (t := 5) g7 rfl ⟨by decide, by decide⟩ rfl rfl e9 dX0_begin_83 rfl ?_
      refine r_iload_n (np := 85) G hl 2 rfl dX0_begin_84 rfl rfl ?_
      refine r_aload_n (np := 86) G hl 1 rfl dX0_begin_85 rfl rfl ?_
      refine r_iload_n (np := 87) G hl 2 rfl dX0_begin_86 rfl rfl ?_
      obtain ⟨b10, s11, e12, hm⟩ := call_t hm
      refine m_callVI (np := 90) G hM hl.1 [vI v3] (qX10_byteAt l E σ v2 v3 _ e12) myX10_byteAt (shp_lt (gX10_byteAt e12) (by decide)) (gX10_byteAt e12) rfl (by decide) lkX0_51 ⟨Nat.le_of_ble_eq_true rfl, Nat.le_of_ble_eq_true rfl⟩ ⟨Nat.le_of_ble_eq_true rfl, Nat.le_of_ble_eq_true rfl⟩ [vI v3, .ref (eA E r8)] rfl (Nat.le_of_ble_eq_true rfl) dX0_begin_87 rfl (fun H locs hM => ?_)
      obtain ⟨g13, hm⟩ := g_t hm
      obtain ⟨g14, hm⟩ := g_t hm
      obtain ⟨s15, e16, hm⟩ := bnd_t hm
      refine r_bastore (np := 91) G hM g13 rfl g14 s15 e16 dX0_begin_90 rfl (fun H locs hM => ?_)
      obtain ⟨a17, e18, hm⟩ := bnd_t hm
      refine r_iinc (np := 94) G hl 2 rfl e18 [(3, vI a17), (0, .ref (eA E v0)), (2, .ref (eA E v2))] dX0_begin_91 rfl (by decide) rfl (fun ls hl => ?_)
      refine r_goto (np := 62) G dX0_begin_94 (by decide) ?_
      exact ih a17 _ _ _ _ hm hM (lv_sub hl [1, 2, 0] rfl)
set_option maxRecDepth 100000 in
set_option maxHeartbeats 4000000 in
theorem qX0_begin (l : Launch) (E : mE) (σ : mSt) (v0 : Nat) (v1 : Int) (v2 : Nat) (out : Int × mSt) (hm : mX0_begin v0 v1 v2 σ = some out) : mMet l yX0_begin cX0_begin 4 none 1 21 E 276 [.ref (eA E v0), vI v1, .ref (eA E v2)] σ none out.2 := by
  unfold mX0_begin at hm
  obtain ⟨g0, hm⟩ := g_t hm
  refine m_entry (by decide +kernel) (Nat.le_of_ble_eq_true rfl) (fun p e s m args below meth c G hr hk hM ls hl => ?_)
  have G : CallFix p m c cX0_begin 4 s args mTs RX0 := G
  have hl : lv_has ls 4 [(0, .ref (eA E v0)), (1, vI v1), (2, .ref (eA E v2))] := hl
  refine r_aload_n (np := 1) G hl 0 rfl dX0_begin_0 rfl rfl ?_
  obtain ⟨b19, s20, e21, hm⟩ := call_t hm
  refine m_callVI (np := 4) G hM hl.1 [] (qX0_isFull l E σ v0 _ e21) myX0_isFull (shp_lt (gX0_isFull e21) (by decide)) (gX0_isFull e21) rfl (by decide) lkX0_41 ⟨Nat.le_of_ble_eq_true rfl, Nat.le_of_ble_eq_true rfl⟩ ⟨Nat.le_of_ble_eq_true rfl, Nat.le_of_ble_eq_true rfl⟩ [] rfl (Nat.le_of_ble_eq_true rfl) dX0_begin_1 rfl (fun H locs hM => ?_)
  refine r_if_ne (np := 7) (tgt := 16) G rfl dX0_begin_4 (by decide) rfl (fun h22 => ?_) (fun h22 => ?_)
  · have hm := b_f h22 hm
    exact r_vret G hr hk hM hm dX0_begin_16
  · have hm := b_t h22 hm
    refine r_aload_n (np := 8) G hl 2 rfl dX0_begin_7 rfl rfl ?_
    obtain ⟨b23, s24, e25, hm⟩ := call_t hm
    refine m_callVI (np := 11) G hM hl.1 [] (qX10_length l E s20 v2 _ e25) myX10_length (shp_lt (gX10_length e25) (by decide)) (gX10_length e25) rfl (by decide) lkX0_45 ⟨Nat.le_of_ble_eq_true rfl, Nat.le_of_ble_eq_true rfl⟩ ⟨Nat.le_of_ble_eq_true rfl, Nat.le_of_ble_eq_true rfl⟩ [] rfl (Nat.le_of_ble_eq_true rfl) dX0_begin_8 rfl (fun H locs hM => ?_)
    refine r_bipush (np := 13) G 10 dX0_begin_11 (by decide) rfl ?_
    refine r_icmp_le (np := 16) (tgt := 17) G rfl (wIk 10 rfl) dX0_begin_13 (by decide) rfl (fun h26 => ?_) (fun h26 => ?_)
    · have hm := b_t h26 hm
      refine r_aload_n (np := 18) G hl 0 rfl dX0_begin_17 rfl rfl ?_
      obtain ⟨r27, e28, hm⟩ := ref_t hm
      refine r_getR (np := 21) G hM (shp_lt g0 (by decide)) g0 e28 fdX0_1 lkX0_15 dX0_begin_18 rfl ?_
      refine r_aload_n (np := 22) G hl 0 rfl dX0_begin_21 rfl rfl ?_
      refine r_getI (np := 25) G hM (shp_lt g0 (by decide)) g0 fdX0_0 lkX0_9 dX0_begin_22 rfl ?_
      refine r_iload_n (np := 26) G hl 1 rfl dX0_begin_25 rfl rfl ?_
      obtain ⟨g29, hm⟩ := g_t hm
      obtain ⟨s30, e31, hm⟩ := bnd_t hm
      refine r_iastore (np := 27) G hM g29 rfl s30 e31 dX0_begin_26 rfl (fun H locs hM => ?_)
      refine r_aload_n (np := 28) G hl 0 rfl dX0_begin_27 rfl rfl ?_
      obtain ⟨r32, e33, hm⟩ := ref_t hm
      refine r_getR (np := 31) G hM (shp_lt g0 (by decide)) g0 e33 fdX0_2 lkX0_19 dX0_begin_28 rfl ?_
      refine r_aload_n (np := 32) G hl 0 rfl dX0_begin_31 rfl rfl ?_
      refine r_getI (np := 35) G hM (shp_lt g0 (by decide)) g0 fdX0_0 lkX0_9 dX0_begin_32 rfl ?_
      refine r_iconst (np := 36) G 0 dX0_begin_35 rfl ?_
      obtain ⟨g34, hm⟩ := g_t hm
      obtain ⟨s35, e36, hm⟩ := bnd_t hm
      refine r_iastore (np := 37) G hM g34 rfl s35 e36 dX0_begin_36 rfl (fun H locs hM => ?_)
      refine r_aload_n (np := 38) G hl 0 rfl dX0_begin_37 rfl rfl ?_
      obtain ⟨r37, e38, hm⟩ := ref_t hm
      refine r_getR (np := 41) G hM (shp_lt g0 (by decide)) g0 e38 fdX0_3 lkX0_22 dX0_begin_38 rfl ?_
      refine r_aload_n (np := 42) G hl 0 rfl dX0_begin_41 rfl rfl ?_
      refine r_getI (np := 45) G hM (shp_lt g0 (by decide)) g0 fdX0_0 lkX0_9 dX0_begin_42 rfl ?_
      refine r_iconst (np := 46) G 0 dX0_begin_45 rfl ?_
      obtain ⟨g39, hm⟩ := g_t hm
      obtain ⟨s40, e41, hm⟩ := bnd_t hm
      refine r_iastore (np := 47) G hM g39 rfl s40 e41 dX0_begin_46 rfl (fun H locs hM => ?_)
      refine r_aload_n (np := 48) G hl 0 rfl dX0_begin_47 rfl rfl ?_
      obtain ⟨r42, e43, hm⟩ := ref_t hm
      refine r_getR (np := 51) G hM (shp_lt g0 (by decide)) g0 e43 fdX0_4 lkX0_25 dX0_begin_48 rfl ?_
      refine r_aload_n (np := 52) G hl 0 rfl dX0_begin_51 rfl rfl ?_
      refine r_getI (np := 55) G hM (shp_lt g0 (by decide)) g0 fdX0_0 lkX0_9 dX0_begin_52 rfl ?_
      refine r_aload_n (np := 56) G hl 2 rfl dX0_begin_55 rfl rfl ?_
      obtain ⟨b44, s45, e46, hm⟩ := call_t hm
      refine m_callVI (np := 59) G hM hl.1 [] (qX10_length l E s40 v2 _ e46) myX10_length (shp_lt (gX10_length e46) (by decide)) (gX10_length e46) rfl (by decide) lkX0_45 ⟨Nat.le_of_ble_eq_true rfl, Nat.le_of_ble_eq_true rfl⟩ ⟨Nat.le_of_ble_eq_true rfl, Nat.le_of_ble_eq_true rfl⟩ [vI (s40 v0 0), .ref (eA E r42)] rfl (Nat.le_of_ble_eq_true rfl) dX0_begin_56 rfl (fun H locs hM => ?_)
      obtain ⟨g47, hm⟩ := g_t hm
      obtain ⟨s48, e49, hm⟩ := bnd_t hm
      refine r_iastore (np := 60) G hM g47 rfl s48 e49 dX0_begin_59 rfl (fun H locs hM => ?_)
      refine r_iconst (np := 61) G 0 dX0_begin_60 rfl ?_
      refine r_istore_n (np := 62) G hl rfl [(3, vI 0), (0, .ref (eA E v0)), (1, vI v1), (2, .ref (eA E v2))] dX0_begin_61 rfl rfl (by decide) rfl (fun ls hl => ?_)
      exact wX0_begin_L62 l E out G hr hk v0 v1 v2 g0 (fun zσ => mX0_begin_B97 v0 v1 v2 zσ) (fun zσ zH zl zs zm zM zv => wX0_begin_B97 l E out G hr hk v0 v1 v2 g0 zσ zH zl zs zm zM zv) mF 0 _ _ _ _ hm hM (lv_sub hl [1, 3, 0] rfl)
    · have hm := b_f h26 hm
      exact r_vret G hr hk hM hm dX0_begin_16
theorem gX0_begin {v0 : Nat} {v1 : Int} {v2 : Nat} {σ : mSt} {out : Int × mSt} (hm : mX0_begin v0 v1 v2 σ = some out) : isC v0 0 := (g_t hm).1
set_option maxRecDepth 100000 in
set_option maxHeartbeats 4000000 in
theorem qX0_setFirst (l : Launch) (E : mE) (σ : mSt) (v0 : Nat) (v1 : Int) (out : Int × mSt) (hm : mX0_setFirst v0 v1 σ = some out) : mMet l yX0_setFirst cX0_setFirst 3 none 1 20 E 276 [.ref (eA E v0), vL v1] σ none out.2 := by
  unfold mX0_setFirst at hm
  obtain ⟨g0, hm⟩ := g_t hm
  refine m_entry (by decide +kernel) (Nat.le_of_ble_eq_true rfl) (fun p e s m args below meth c G hr hk hM ls hl => ?_)
  have G : CallFix p m c cX0_setFirst 3 s args mTs RX0 := G
  have hl : lv_has ls 3 [(0, .ref (eA E v0)), (1, vL v1)] := hl
  refine r_aload_n (np := 1) G hl 0 rfl dX0_setFirst_0 rfl rfl ?_
  obtain ⟨b1, s2, e3, hm⟩ := call_t hm
  refine m_callVI (np := 4) G hM hl.1 [] (qX0_isFull l E σ v0 _ e3) myX0_isFull (shp_lt (gX0_isFull e3) (by decide)) (gX0_isFull e3) rfl (by decide) lkX0_41 ⟨Nat.le_of_ble_eq_true rfl, Nat.le_of_ble_eq_true rfl⟩ ⟨Nat.le_of_ble_eq_true rfl, Nat.le_of_ble_eq_true rfl⟩ [] rfl (Nat.le_of_ble_eq_true rfl) dX0_setFirst_1 rfl (fun H locs hM => ?_)
  refine r_if_ne (np := 7) (tgt := 18) G rfl dX0_setFirst_4 (by decide) rfl (fun h4 => ?_) (fun h4 => ?_)
  · have hm := b_f h4 hm
    exact r_vret G hr hk hM hm dX0_setFirst_18
  · have hm := b_t h4 hm
    refine r_aload_n (np := 8) G hl 0 rfl dX0_setFirst_7 rfl rfl ?_
    obtain ⟨r5, e6, hm⟩ := ref_t hm
    refine r_getR (np := 11) G hM (shp_lt g0 (by decide)) g0 e6 fdX0_2 lkX0_19 dX0_setFirst_8 rfl ?_
    refine r_aload_n (np := 12) G hl 0 rfl dX0_setFirst_11 rfl rfl ?_
    refine r_getI (np := 15) G hM (shp_lt g0 (by decide)) g0 fdX0_0 lkX0_9 dX0_setFirst_12 rfl ?_
    refine r_lload_n (np := 16) G hl 1 rfl dX0_setFirst_15 rfl rfl ?_
    refine r_l2i (np := 17) G dX0_setFirst_16 rfl ?_
    obtain ⟨g7, hm⟩ := g_t hm
    obtain ⟨s8, e9, hm⟩ := bnd_t hm
    refine r_iastore (np := 18) G hM g7 rfl s8 e9 dX0_setFirst_17 rfl (fun H locs hM => ?_)
    exact r_vret G hr hk hM hm dX0_setFirst_18
theorem gX0_setFirst {v0 : Nat} {v1 : Int} {σ : mSt} {out : Int × mSt} (hm : mX0_setFirst v0 v1 σ = some out) : isC v0 0 := (g_t hm).1
set_option maxRecDepth 100000 in
set_option maxHeartbeats 4000000 in
theorem qX0_setSecond (l : Launch) (E : mE) (σ : mSt) (v0 : Nat) (v1 : Int) (out : Int × mSt) (hm : mX0_setSecond v0 v1 σ = some out) : mMet l yX0_setSecond cX0_setSecond 3 none 1 20 E 276 [.ref (eA E v0), vL v1] σ none out.2 := by
  unfold mX0_setSecond at hm
  obtain ⟨g0, hm⟩ := g_t hm
  refine m_entry (by decide +kernel) (Nat.le_of_ble_eq_true rfl) (fun p e s m args below meth c G hr hk hM ls hl => ?_)
  have G : CallFix p m c cX0_setSecond 3 s args mTs RX0 := G
  have hl : lv_has ls 3 [(0, .ref (eA E v0)), (1, vL v1)] := hl
  refine r_aload_n (np := 1) G hl 0 rfl dX0_setSecond_0 rfl rfl ?_
  obtain ⟨b1, s2, e3, hm⟩ := call_t hm
  refine m_callVI (np := 4) G hM hl.1 [] (qX0_isFull l E σ v0 _ e3) myX0_isFull (shp_lt (gX0_isFull e3) (by decide)) (gX0_isFull e3) rfl (by decide) lkX0_41 ⟨Nat.le_of_ble_eq_true rfl, Nat.le_of_ble_eq_true rfl⟩ ⟨Nat.le_of_ble_eq_true rfl, Nat.le_of_ble_eq_true rfl⟩ [] rfl (Nat.le_of_ble_eq_true rfl) dX0_setSecond_1 rfl (fun H locs hM => ?_)
  refine r_if_ne (np := 7) (tgt := 18) G rfl dX0_setSecond_4 (by decide) rfl (fun h4 => ?_) (fun h4 => ?_)
  · have hm := b_f h4 hm
    exact r_vret G hr hk hM hm dX0_setSecond_18
  · have hm := b_t h4 hm
    refine r_aload_n (np := 8) G hl 0 rfl dX0_setSecond_7 rfl rfl ?_
    obtain ⟨r5, e6, hm⟩ := ref_t hm
    refine r_getR (np := 11) G hM (shp_lt g0 (by decide)) g0 e6 fdX0_3 lkX0_22 dX0_setSecond_8 rfl ?_
    refine r_aload_n (np := 12) G hl 0 rfl dX0_setSecond_11 rfl rfl ?_
    refine r_getI (np := 15) G hM (shp_lt g0 (by decide)) g0 fdX0_0 lkX0_9 dX0_setSecond_12 rfl ?_
    refine r_lload_n (np := 16) G hl 1 rfl dX0_setSecond_15 rfl rfl ?_
    refine r_l2i (np := 17) G dX0_setSecond_16 rfl ?_
    obtain ⟨g7, hm⟩ := g_t hm
    obtain ⟨s8, e9, hm⟩ := bnd_t hm
    refine r_iastore (np := 18) G hM g7 rfl s8 e9 dX0_setSecond_17 rfl (fun H locs hM => ?_)
    exact r_vret G hr hk hM hm dX0_setSecond_18
theorem gX0_setSecond {v0 : Nat} {v1 : Int} {σ : mSt} {out : Int × mSt} (hm : mX0_setSecond v0 v1 σ = some out) : isC v0 0 := (g_t hm).1
set_option maxRecDepth 100000 in
set_option maxHeartbeats 4000000 in
theorem wX0_hasAllTerms_B20 (l : Launch) (E : mE) (out : Int × mSt) {p : Program} {e : Env} {s : State} {m : MethodId} {args : Array Value} {below : List Frame} {meth : Method} {c : Code} (G : CallFix p m c cX0_hasAllTerms 1 s args mTs RX0) (hr : meth.sig.returnType = (some .boolean)) (hk : meth.locks = false) (v0 : Nat) (g0 : isC v0 0) : ∀ (σ : mSt) (H : Heap) (locs : List Loc) (ls : Array Slot), mX0_hasAllTerms_B20 v0 σ = some out → mM (mA E 276) E 276 σ s H locs → lv_has ls 1 [] → mGo l p e 1 20 s m args below meth c E (some (vI out.1)) out.2 H locs (F0 m 20 ls []) := by
  intro σ H locs ls hm hM hl
  unfold mX0_hasAllTerms_B20 at hm
  refine r_iconst (np := 21) G 1 dX0_hasAllTerms_20 rfl ?_
  refine r_goto (np := 25) G dX0_hasAllTerms_21 (by decide) ?_
  exact r_zret G hr hk hM (Or.inr rfl) hm dX0_hasAllTerms_25
set_option maxRecDepth 100000 in
set_option maxHeartbeats 4000000 in
theorem qX0_hasAllTerms (l : Launch) (E : mE) (σ : mSt) (v0 : Nat) (out : Int × mSt) (hm : mX0_hasAllTerms v0 σ = some out) : mMet l yX0_hasAllTerms cX0_hasAllTerms 1 (some .boolean) 1 20 E 276 [.ref (eA E v0)] σ (some (vI out.1)) out.2 := by
  unfold mX0_hasAllTerms at hm
  obtain ⟨g0, hm⟩ := g_t hm
  refine m_entry (by decide +kernel) (Nat.le_of_ble_eq_true rfl) (fun p e s m args below meth c G hr hk hM ls hl => ?_)
  have G : CallFix p m c cX0_hasAllTerms 1 s args mTs RX0 := G
  have hl : lv_has ls 1 [(0, .ref (eA E v0))] := hl
  refine r_aload_n (np := 1) G hl 0 rfl dX0_hasAllTerms_0 rfl rfl ?_
  obtain ⟨b1, s2, e3, hm⟩ := call_t hm
  refine m_callVI (np := 4) G hM hl.1 [] (qX0_isFull l E σ v0 _ e3) myX0_isFull (shp_lt (gX0_isFull e3) (by decide)) (gX0_isFull e3) rfl (by decide) lkX0_41 ⟨Nat.le_of_ble_eq_true rfl, Nat.le_of_ble_eq_true rfl⟩ ⟨Nat.le_of_ble_eq_true rfl, Nat.le_of_ble_eq_true rfl⟩ [] rfl (Nat.le_of_ble_eq_true rfl) dX0_hasAllTerms_1 rfl (fun H locs hM => ?_)
  refine r_if_ne (np := 7) (tgt := 20) G rfl dX0_hasAllTerms_4 (by decide) rfl (fun h4 => ?_) (fun h4 => ?_)
  · have hm := b_f h4 hm
    exact wX0_hasAllTerms_B20 l E out G hr hk v0 g0 _ _ _ _ hm hM (lv_sub hl [] rfl)
  · have hm := b_t h4 hm
    refine r_aload_n (np := 8) G hl 0 rfl dX0_hasAllTerms_7 rfl rfl ?_
    obtain ⟨r5, e6, hm⟩ := ref_t hm
    refine r_getR (np := 11) G hM (shp_lt g0 (by decide)) g0 e6 fdX0_2 lkX0_19 dX0_hasAllTerms_8 rfl ?_
    refine r_aload_n (np := 12) G hl 0 rfl dX0_hasAllTerms_11 rfl rfl ?_
    refine r_getI (np := 15) G hM (shp_lt g0 (by decide)) g0 fdX0_0 lkX0_9 dX0_hasAllTerms_12 rfl ?_
    obtain ⟨g7, hm⟩ := g_t hm
    refine r_iaload (np := 16) G hM g7 rfl dX0_hasAllTerms_15 rfl ?_
    refine r_iconst (np := 17) G 4 dX0_hasAllTerms_16 rfl ?_
    refine r_icmp_lt (np := 20) (tgt := 24) G rfl (wIk 4 rfl) dX0_hasAllTerms_17 (by decide) rfl (fun h8 => ?_) (fun h8 => ?_)
    · have hm := b_t h8 hm
      refine r_iconst (np := 25) G 0 dX0_hasAllTerms_24 rfl ?_
      exact r_zret G hr hk hM (Or.inl rfl) hm dX0_hasAllTerms_25
    · have hm := b_f h8 hm
      exact wX0_hasAllTerms_B20 l E out G hr hk v0 g0 _ _ _ _ hm hM (lv_sub hl [] rfl)
theorem gX0_hasAllTerms {v0 : Nat} {σ : mSt} {out : Int × mSt} (hm : mX0_hasAllTerms v0 σ = some out) : isC v0 0 := (g_t hm).1
set_option maxRecDepth 100000 in
set_option maxHeartbeats 4000000 in
theorem qX0_addTerm (l : Launch) (E : mE) (σ : mSt) (v0 : Nat) (v1 : Int) (v2 : Int) (out : Int × mSt) (hm : mX0_addTerm v0 v1 v2 σ = some out) : mMet l yX0_addTerm cX0_addTerm 3 none 2 40 E 276 [.ref (eA E v0), vI v1, vI v2] σ none out.2 := by
  unfold mX0_addTerm at hm
  obtain ⟨g0, hm⟩ := g_t hm
  refine m_entry (by decide +kernel) (Nat.le_of_ble_eq_true rfl) (fun p e s m args below meth c G hr hk hM ls hl => ?_)
  have G : CallFix p m c cX0_addTerm 3 s args mTs RX0 := G
  have hl : lv_has ls 3 [(0, .ref (eA E v0)), (1, vI v1), (2, vI v2)] := hl
  refine r_aload_n (np := 1) G hl 0 rfl dX0_addTerm_0 rfl rfl ?_
  obtain ⟨b1, s2, e3, hm⟩ := call_t hm
  refine m_callVI (np := 4) G hM hl.1 [] (qX0_hasAllTerms l E σ v0 _ e3) myX0_hasAllTerms (shp_lt (gX0_hasAllTerms e3) (by decide)) (gX0_hasAllTerms e3) rfl (by decide) lkX0_55 ⟨Nat.le_of_ble_eq_true rfl, Nat.le_of_ble_eq_true rfl⟩ ⟨Nat.le_of_ble_eq_true rfl, Nat.le_of_ble_eq_true rfl⟩ [] rfl (Nat.le_of_ble_eq_true rfl) dX0_addTerm_1 rfl (fun H locs hM => ?_)
  refine r_if_ne (np := 7) (tgt := 60) G rfl dX0_addTerm_4 (by decide) rfl (fun h4 => ?_) (fun h4 => ?_)
  · have hm := b_f h4 hm
    exact r_vret G hr hk hM hm dX0_addTerm_60
  · have hm := b_t h4 hm
    refine r_aload_n (np := 8) G hl 0 rfl dX0_addTerm_7 rfl rfl ?_
    obtain ⟨r5, e6, hm⟩ := ref_t hm
    refine r_getR (np := 11) G hM (shp_lt g0 (by decide)) g0 e6 fdX0_6 lkX0_35 dX0_addTerm_8 rfl ?_
    refine r_aload_n (np := 12) G hl 0 rfl dX0_addTerm_11 rfl rfl ?_
    refine r_getI (np := 15) G hM (shp_lt g0 (by decide)) g0 fdX0_0 lkX0_9 dX0_addTerm_12 rfl ?_
    obtain ⟨g7, hm⟩ := g_t hm
    obtain ⟨r8, e9, hm⟩ := ref_t hm
    refine r_aaload (np := 16) G hM (t := 6) g7 rfl ⟨by decide, by decide⟩ rfl rfl e9 dX0_addTerm_15 rfl ?_
    refine r_aload_n (np := 17) G hl 0 rfl dX0_addTerm_16 rfl rfl ?_
    obtain ⟨r10, e11, hm⟩ := ref_t hm
    refine r_getR (np := 20) G hM (shp_lt g0 (by decide)) g0 e11 fdX0_2 lkX0_19 dX0_addTerm_17 rfl ?_
    refine r_aload_n (np := 21) G hl 0 rfl dX0_addTerm_20 rfl rfl ?_
    refine r_getI (np := 24) G hM (shp_lt g0 (by decide)) g0 fdX0_0 lkX0_9 dX0_addTerm_21 rfl ?_
    obtain ⟨g12, hm⟩ := g_t hm
    refine r_iaload (np := 25) G hM g12 rfl dX0_addTerm_24 rfl ?_
    refine r_iload_n (np := 26) G hl 2 rfl dX0_addTerm_25 rfl rfl ?_
    obtain ⟨g13, hm⟩ := g_t hm
    obtain ⟨s14, e15, hm⟩ := bnd_t hm
    refine r_iastore (np := 27) G hM g13 rfl s14 e15 dX0_addTerm_26 rfl (fun H locs hM => ?_)
    refine r_aload_n (np := 28) G hl 0 rfl dX0_addTerm_27 rfl rfl ?_
    obtain ⟨r16, e17, hm⟩ := ref_t hm
    refine r_getR (np := 31) G hM (shp_lt g0 (by decide)) g0 e17 fdX0_7 lkX0_38 dX0_addTerm_28 rfl ?_
    refine r_aload_n (np := 32) G hl 0 rfl dX0_addTerm_31 rfl rfl ?_
    refine r_getI (np := 35) G hM (shp_lt g0 (by decide)) g0 fdX0_0 lkX0_9 dX0_addTerm_32 rfl ?_
    obtain ⟨g18, hm⟩ := g_t hm
    obtain ⟨r19, e20, hm⟩ := ref_t hm
    refine r_aaload (np := 36) G hM (t := 6) g18 rfl ⟨by decide, by decide⟩ rfl rfl e20 dX0_addTerm_35 rfl ?_
    refine r_aload_n (np := 37) G hl 0 rfl dX0_addTerm_36 rfl rfl ?_
    obtain ⟨r21, e22, hm⟩ := ref_t hm
    refine r_getR (np := 40) G hM (shp_lt g0 (by decide)) g0 e22 fdX0_2 lkX0_19 dX0_addTerm_37 rfl ?_
    refine r_aload_n (np := 41) G hl 0 rfl dX0_addTerm_40 rfl rfl ?_
    refine r_getI (np := 44) G hM (shp_lt g0 (by decide)) g0 fdX0_0 lkX0_9 dX0_addTerm_41 rfl ?_
    obtain ⟨g23, hm⟩ := g_t hm
    refine r_iaload (np := 45) G hM g23 rfl dX0_addTerm_44 rfl ?_
    refine r_iload_n (np := 46) G hl 1 rfl dX0_addTerm_45 rfl rfl ?_
    obtain ⟨g24, hm⟩ := g_t hm
    obtain ⟨s25, e26, hm⟩ := bnd_t hm
    refine r_iastore (np := 47) G hM g24 rfl s25 e26 dX0_addTerm_46 rfl (fun H locs hM => ?_)
    refine r_aload_n (np := 48) G hl 0 rfl dX0_addTerm_47 rfl rfl ?_
    obtain ⟨r27, e28, hm⟩ := ref_t hm
    refine r_getR (np := 51) G hM (shp_lt g0 (by decide)) g0 e28 fdX0_2 lkX0_19 dX0_addTerm_48 rfl ?_
    refine r_aload_n (np := 52) G hl 0 rfl dX0_addTerm_51 rfl rfl ?_
    refine r_getI (np := 55) G hM (shp_lt g0 (by decide)) g0 fdX0_0 lkX0_9 dX0_addTerm_52 rfl ?_
    refine r_dup2 (np := 56) G dX0_addTerm_55 rfl rfl rfl ?_
    obtain ⟨g29, hm⟩ := g_t hm
    refine r_iaload (np := 57) G hM g29 rfl dX0_addTerm_56 rfl ?_
    refine r_iconst (np := 58) G 1 dX0_addTerm_57 rfl ?_
    refine r_iadd (np := 59) G dX0_addTerm_58 rfl ?_
    obtain ⟨s30, e31, hm⟩ := bnd_t hm
    refine r_iastore (np := 60) G hM g29 rfl s30 e31 dX0_addTerm_59 rfl (fun H locs hM => ?_)
    exact r_vret G hr hk hM hm dX0_addTerm_60
theorem gX0_addTerm {v0 : Nat} {v1 : Int} {v2 : Int} {σ : mSt} {out : Int × mSt} (hm : mX0_addTerm v0 v1 v2 σ = some out) : isC v0 0 := (g_t hm).1
set_option maxRecDepth 100000 in
set_option maxHeartbeats 4000000 in
theorem qX0_finish (l : Launch) (E : mE) (σ : mSt) (v0 : Nat) (out : Int × mSt) (hm : mX0_finish v0 σ = some out) : mMet l yX0_finish cX0_finish 1 none 1 20 E 276 [.ref (eA E v0)] σ none out.2 := by
  unfold mX0_finish at hm
  obtain ⟨g0, hm⟩ := g_t hm
  refine m_entry (by decide +kernel) (Nat.le_of_ble_eq_true rfl) (fun p e s m args below meth c G hr hk hM ls hl => ?_)
  have G : CallFix p m c cX0_finish 1 s args mTs RX0 := G
  have hl : lv_has ls 1 [(0, .ref (eA E v0))] := hl
  refine r_aload_n (np := 1) G hl 0 rfl dX0_finish_0 rfl rfl ?_
  obtain ⟨b1, s2, e3, hm⟩ := call_t hm
  refine m_callVI (np := 4) G hM hl.1 [] (qX0_isFull l E σ v0 _ e3) myX0_isFull (shp_lt (gX0_isFull e3) (by decide)) (gX0_isFull e3) rfl (by decide) lkX0_41 ⟨Nat.le_of_ble_eq_true rfl, Nat.le_of_ble_eq_true rfl⟩ ⟨Nat.le_of_ble_eq_true rfl, Nat.le_of_ble_eq_true rfl⟩ [] rfl (Nat.le_of_ble_eq_true rfl) dX0_finish_1 rfl (fun H locs hM => ?_)
  refine r_if_ne (np := 7) (tgt := 17) G rfl dX0_finish_4 (by decide) rfl (fun h4 => ?_) (fun h4 => ?_)
  · have hm := b_f h4 hm
    exact r_vret G hr hk hM hm dX0_finish_17
  · have hm := b_t h4 hm
    refine r_aload_n (np := 8) G hl 0 rfl dX0_finish_7 rfl rfl ?_
    refine r_dup (np := 9) G dX0_finish_8 rfl rfl ?_
    refine r_getI (np := 12) G hM (shp_lt g0 (by decide)) g0 fdX0_0 lkX0_9 dX0_finish_9 rfl ?_
    refine r_iconst (np := 13) G 1 dX0_finish_12 rfl ?_
    refine r_iadd (np := 14) G dX0_finish_13 rfl ?_
    obtain ⟨s5, e6, hm⟩ := bnd_t hm
    refine r_putI (np := 17) G hM (shp_lt g0 (by decide)) g0 ptX0_0 rfl lkX0_9 s5 e6 dX0_finish_14 rfl (fun H locs hM => ?_)
    exact r_vret G hr hk hM hm dX0_finish_17
theorem gX0_finish {v0 : Nat} {σ : mSt} {out : Int × mSt} (hm : mX0_finish v0 σ = some out) : isC v0 0 := (g_t hm).1
set_option maxRecDepth 100000 in
set_option maxHeartbeats 4000000 in
theorem wX0_hasName_B67 (l : Launch) (E : mE) (out : Int × mSt) {p : Program} {e : Env} {s : State} {m : MethodId} {args : Array Value} {below : List Frame} {meth : Method} {c : Code} (G : CallFix p m c cX0_hasName 5 s args mTs RX0) (hr : meth.sig.returnType = (some .boolean)) (hk : meth.locks = false) (v0 : Nat) (v1 : Int) (v2 : Nat) (g0 : isC v0 0) : ∀ (v3 : Int) (σ : mSt) (H : Heap) (locs : List Loc) (ls : Array Slot), mX0_hasName_B67 v0 v1 v2 v3 σ = some out → mM (mA E 276) E 276 σ s H locs → lv_has ls 5 [(3, vI v3)] → mGo l p e 1 21 s m args below meth c E (some (vI out.1)) out.2 H locs (F0 m 67 ls []) := by
  intro v3 σ H locs ls hm hM hl
  unfold mX0_hasName_B67 at hm
  refine r_iload_n (np := 68) G hl 0 rfl dX0_hasName_67 rfl rfl ?_
  obtain ⟨g1, hm⟩ := g_t hm
  exact r_zret G hr hk hM g1 hm dX0_hasName_68
set_option maxRecDepth 100000 in
set_option maxHeartbeats 4000000 in
theorem wX0_hasName_L22 (l : Launch) (E : mE) (out : Int × mSt) {p : Program} {e : Env} {s : State} {m : MethodId} {args : Array Value} {below : List Frame} {meth : Method} {c : Code} (G : CallFix p m c cX0_hasName 5 s args mTs RX0) (hr : meth.sig.returnType = (some .boolean)) (hk : meth.locks = false) (v0 : Nat) (v1 : Int) (v2 : Nat) (g0 : isC v0 0) (x67 : Int → mSt → Option (Int × mSt)) (hx67 : ∀ (v3 : Int) (σ : mSt) (H : Heap) (locs : List Loc) (ls : Array Slot), x67 v3 σ = some out → mM (mA E 276) E 276 σ s H locs → lv_has ls 5 [(3, vI v3)] → mGo l p e 1 21 s m args below meth c E (some (vI out.1)) out.2 H locs (F0 m 67 ls [])) : ∀ (n : Nat) (v3 : Int) (v4 : Int) (σ : mSt) (H : Heap) (locs : List Loc) (ls : Array Slot), mX0_hasName_L22 v0 v1 v2 x67 n v3 v4 σ = some out → mM (mA E 276) E 276 σ s H locs → lv_has ls 5 [(0, .ref (eA E v0)), (1, vI v1), (2, .ref (eA E v2)), (3, vI v3), (4, vI v4)] → mGo l p e 1 21 s m args below meth c E (some (vI out.1)) out.2 H locs (F0 m 22 ls []) := by
  intro n
  induction n with
  | zero =>
    intro v3 v4 σ H locs ls hm hM hl
    exact absurd hm (by rw [mX0_hasName_L22.eq_1]; exact fun h => nomatch h)
  | succ n ih =>
    intro v3 v4 σ H locs ls hm hM hl
    rw [mX0_hasName_L22.eq_2] at hm
    refine r_iload (np := 24) G hl 4 rfl dX0_hasName_22 rfl ?_
    refine r_aload_n (np := 25) G hl 0 rfl dX0_hasName_24 rfl rfl ?_
    obtain ⟨r2, e3, hm⟩ := ref_t hm
    refine r_getR (np := 28) G hM (shp_lt g0 (by decide)) g0 e3 fdX0_4 lkX0_25 dX0_hasName_25 rfl ?_
    refine r_iload_n (np := 29) G hl 1 rfl dX0_hasName_28 rfl rfl ?_
    obtain ⟨g4, hm⟩ := g_t hm
    refine r_iaload (np := 30) G hM g4 rfl dX0_hasName_29 rfl ?_
    refine r_icmp_ge (np := 33) (tgt := 67) G rfl rfl dX0_hasName_30 (by decide) rfl (fun h5 => ?_) (fun h5 => ?_)
    · have hm := b_t h5 hm
      exact hx67 v3 _ _ _ _ hm hM (lv_sub hl [3] rfl)
    · have hm := b_f h5 hm
      refine r_iload_n (np := 34) G hl 3 rfl dX0_hasName_33 rfl rfl ?_
      refine r_if_eq (np := 37) (tgt := 67) G rfl dX0_hasName_34 (by decide) rfl (fun h6 => ?_) (fun h6 => ?_)
      · have hm := b_t h6 hm
        exact hx67 v3 _ _ _ _ hm hM (lv_sub hl [3] rfl)
      · have hm := b_f h6 hm
        refine r_aload_n (np := 38) G hl 0 rfl dX0_hasName_37 rfl rfl ?_
        obtain ⟨r7, e8, hm⟩ := ref_t hm
        refine r_getR (np := 41) G hM (shp_lt g0 (by decide)) g0 e8 fdX0_5 lkX0_30 dX0_hasName_38 rfl ?_
        refine r_iload_n (np := 42) G hl 1 rfl dX0_hasName_41 rfl rfl ?_
        obtain ⟨g9, hm⟩ := g_t hm
        obtain ⟨r10, e11, hm⟩ := ref_t hm
        refine r_aaload (np := 43) G hM (t := 5) g9 rfl ⟨by decide, by decide⟩ rfl rfl e11 dX0_hasName_42 rfl ?_
        refine r_iload (np := 45) G hl 4 rfl dX0_hasName_43 rfl ?_
        obtain ⟨g12, hm⟩ := g_t hm
        refine r_baload (np := 46) G hM g12 rfl dX0_hasName_45 rfl ?_
        refine r_aload_n (np := 47) G hl 2 rfl dX0_hasName_46 rfl rfl ?_
        refine r_iload (np := 49) G hl 4 rfl dX0_hasName_47 rfl ?_
        obtain ⟨b13, s14, e15, hm⟩ := call_t hm
        refine m_callVI (np := 52) G hM hl.1 [vI v4] (qX10_byteAt l E σ v2 v4 _ e15) myX10_byteAt (shp_lt (gX10_byteAt e15) (by decide)) (gX10_byteAt e15) rfl (by decide) lkX0_51 ⟨Nat.le_of_ble_eq_true rfl, Nat.le_of_ble_eq_true rfl⟩ ⟨Nat.le_of_ble_eq_true rfl, Nat.le_of_ble_eq_true rfl⟩ [vI (σ r10 (wI v4).toNat)] rfl (Nat.le_of_ble_eq_true rfl) dX0_hasName_49 rfl (fun H locs hM => ?_)
        refine r_icmp_ne (np := 55) (tgt := 59) G rfl rfl dX0_hasName_52 (by decide) rfl (fun h16 => ?_) (fun h16 => ?_)
        · have hm := b_f h16 hm
          refine r_iconst (np := 60) G 0 dX0_hasName_59 rfl ?_
          refine r_istore_n (np := 61) G hl rfl [(3, vI 0), (0, .ref (eA E v0)), (1, vI v1), (2, .ref (eA E v2)), (4, vI v4)] dX0_hasName_60 rfl rfl (by decide) rfl (fun ls hl => ?_)
          obtain ⟨a17, e18, hm⟩ := bnd_t hm
          refine r_iinc (np := 64) G hl 4 rfl e18 [(4, vI a17), (3, vI 0), (0, .ref (eA E v0)), (1, vI v1), (2, .ref (eA E v2))] dX0_hasName_61 rfl (by decide) rfl (fun ls hl => ?_)
          refine r_goto (np := 22) G dX0_hasName_64 (by decide) ?_
          exact ih 0 a17 _ _ _ _ hm hM (lv_sub hl [2, 3, 4, 1, 0] rfl)
        · have hm := b_t h16 hm
          refine r_iconst (np := 56) G 1 dX0_hasName_55 rfl ?_
          refine r_goto (np := 60) G dX0_hasName_56 (by decide) ?_
          refine r_istore_n (np := 61) G hl rfl [(3, vI 1), (0, .ref (eA E v0)), (1, vI v1), (2, .ref (eA E v2)), (4, vI v4)] dX0_hasName_60 rfl rfl (by decide) rfl (fun ls hl => ?_)
          obtain ⟨a19, e20, hm⟩ := bnd_t hm
          refine r_iinc (np := 64) G hl 4 rfl e20 [(4, vI a19), (3, vI 1), (0, .ref (eA E v0)), (1, vI v1), (2, .ref (eA E v2))] dX0_hasName_61 rfl (by decide) rfl (fun ls hl => ?_)
          refine r_goto (np := 22) G dX0_hasName_64 (by decide) ?_
          exact ih 1 a19 _ _ _ _ hm hM (lv_sub hl [2, 3, 4, 1, 0] rfl)
set_option maxRecDepth 100000 in
set_option maxHeartbeats 4000000 in
theorem wX0_hasName_B18 (l : Launch) (E : mE) (out : Int × mSt) {p : Program} {e : Env} {s : State} {m : MethodId} {args : Array Value} {below : List Frame} {meth : Method} {c : Code} (G : CallFix p m c cX0_hasName 5 s args mTs RX0) (hr : meth.sig.returnType = (some .boolean)) (hk : meth.locks = false) (v0 : Nat) (v1 : Int) (v2 : Nat) (g0 : isC v0 0) : ∀ (t0 : Int) (σ : mSt) (H : Heap) (locs : List Loc) (ls : Array Slot), mX0_hasName_B18 v0 v1 v2 t0 σ = some out → mM (mA E 276) E 276 σ s H locs → lv_has ls 5 [(0, .ref (eA E v0)), (1, vI v1), (2, .ref (eA E v2))] → mGo l p e 1 21 s m args below meth c E (some (vI out.1)) out.2 H locs (F0 m 18 ls [vI t0]) := by
  intro t0 σ H locs ls hm hM hl
  unfold mX0_hasName_B18 at hm
  refine r_istore_n (np := 19) G hl rfl [(3, vI t0), (0, .ref (eA E v0)), (1, vI v1), (2, .ref (eA E v2))] dX0_hasName_18 rfl rfl (by decide) rfl (fun ls hl => ?_)
  refine r_iconst (np := 20) G 0 dX0_hasName_19 rfl ?_
  refine r_istore (np := 22) G hl rfl [(4, vI 0), (3, vI t0), (0, .ref (eA E v0)), (1, vI v1), (2, .ref (eA E v2))] dX0_hasName_20 rfl (by decide) rfl (fun ls hl => ?_)
  exact wX0_hasName_L22 l E out G hr hk v0 v1 v2 g0 (fun z3 zσ => mX0_hasName_B67 v0 v1 v2 z3 zσ) (fun z3 zσ zH zl zs zm zM zv => wX0_hasName_B67 l E out G hr hk v0 v1 v2 g0 z3 zσ zH zl zs zm zM zv) mF t0 0 _ _ _ _ hm hM (lv_sub hl [2, 3, 4, 1, 0] rfl)
set_option maxRecDepth 100000 in
set_option maxHeartbeats 4000000 in
theorem qX0_hasName (l : Launch) (E : mE) (σ : mSt) (v0 : Nat) (v1 : Int) (v2 : Nat) (out : Int × mSt) (hm : mX0_hasName v0 v1 v2 σ = some out) : mMet l yX0_hasName cX0_hasName 5 (some .boolean) 1 21 E 276 [.ref (eA E v0), vI v1, .ref (eA E v2)] σ (some (vI out.1)) out.2 := by
  unfold mX0_hasName at hm
  obtain ⟨g0, hm⟩ := g_t hm
  refine m_entry (by decide +kernel) (Nat.le_of_ble_eq_true rfl) (fun p e s m args below meth c G hr hk hM ls hl => ?_)
  have G : CallFix p m c cX0_hasName 5 s args mTs RX0 := G
  have hl : lv_has ls 5 [(0, .ref (eA E v0)), (1, vI v1), (2, .ref (eA E v2))] := hl
  refine r_aload_n (np := 1) G hl 0 rfl dX0_hasName_0 rfl rfl ?_
  obtain ⟨r21, e22, hm⟩ := ref_t hm
  refine r_getR (np := 4) G hM (shp_lt g0 (by decide)) g0 e22 fdX0_4 lkX0_25 dX0_hasName_1 rfl ?_
  refine r_iload_n (np := 5) G hl 1 rfl dX0_hasName_4 rfl rfl ?_
  obtain ⟨g23, hm⟩ := g_t hm
  refine r_iaload (np := 6) G hM g23 rfl dX0_hasName_5 rfl ?_
  refine r_aload_n (np := 7) G hl 2 rfl dX0_hasName_6 rfl rfl ?_
  obtain ⟨b24, s25, e26, hm⟩ := call_t hm
  refine m_callVI (np := 10) G hM hl.1 [] (qX10_length l E σ v2 _ e26) myX10_length (shp_lt (gX10_length e26) (by decide)) (gX10_length e26) rfl (by decide) lkX0_45 ⟨Nat.le_of_ble_eq_true rfl, Nat.le_of_ble_eq_true rfl⟩ ⟨Nat.le_of_ble_eq_true rfl, Nat.le_of_ble_eq_true rfl⟩ [vI (σ r21 (wI v1).toNat)] rfl (Nat.le_of_ble_eq_true rfl) dX0_hasName_7 rfl (fun H locs hM => ?_)
  refine r_icmp_ne (np := 13) (tgt := 17) G rfl rfl dX0_hasName_10 (by decide) rfl (fun h27 => ?_) (fun h27 => ?_)
  · have hm := b_f h27 hm
    refine r_iconst (np := 18) G 0 dX0_hasName_17 rfl ?_
    exact wX0_hasName_B18 l E out G hr hk v0 v1 v2 g0 0 _ _ _ _ hm hM (lv_sub hl [0, 1, 2] rfl)
  · have hm := b_t h27 hm
    refine r_iconst (np := 14) G 1 dX0_hasName_13 rfl ?_
    refine r_goto (np := 18) G dX0_hasName_14 (by decide) ?_
    exact wX0_hasName_B18 l E out G hr hk v0 v1 v2 g0 1 _ _ _ _ hm hM (lv_sub hl [0, 1, 2] rfl)
theorem gX0_hasName {v0 : Nat} {v1 : Int} {v2 : Nat} {σ : mSt} {out : Int × mSt} (hm : mX0_hasName v0 v1 v2 σ = some out) : isC v0 0 := (g_t hm).1
set_option maxRecDepth 100000 in
set_option maxHeartbeats 4000000 in
theorem wX0_find_B27 (l : Launch) (E : mE) (out : Int × mSt) {p : Program} {e : Env} {s : State} {m : MethodId} {args : Array Value} {below : List Frame} {meth : Method} {c : Code} (G : CallFix p m c cX0_find 3 s args mTs RX0) (hr : meth.sig.returnType = (some .int)) (hk : meth.locks = false) (v0 : Nat) (v1 : Nat) (g0 : isC v0 0) : ∀ (σ : mSt) (H : Heap) (locs : List Loc) (ls : Array Slot), mX0_find_B27 v0 v1 σ = some out → mM (mA E 276) E 276 σ s H locs → lv_has ls 3 [] → mGo l p e 2 45 s m args below meth c E (some (vI out.1)) out.2 H locs (F0 m 27 ls []) := by
  intro σ H locs ls hm hM hl
  unfold mX0_find_B27 at hm
  refine r_iconst (np := 28) G (-1) dX0_find_27 rfl ?_
  exact r_iret G hr hk hM hm dX0_find_28
set_option maxRecDepth 100000 in
set_option maxHeartbeats 4000000 in
theorem wX0_find_L2 (l : Launch) (E : mE) (out : Int × mSt) {p : Program} {e : Env} {s : State} {m : MethodId} {args : Array Value} {below : List Frame} {meth : Method} {c : Code} (G : CallFix p m c cX0_find 3 s args mTs RX0) (hr : meth.sig.returnType = (some .int)) (hk : meth.locks = false) (v0 : Nat) (v1 : Nat) (g0 : isC v0 0) (x27 : mSt → Option (Int × mSt)) (hx27 : ∀ (σ : mSt) (H : Heap) (locs : List Loc) (ls : Array Slot), x27 σ = some out → mM (mA E 276) E 276 σ s H locs → lv_has ls 3 [] → mGo l p e 2 45 s m args below meth c E (some (vI out.1)) out.2 H locs (F0 m 27 ls [])) : ∀ (n : Nat) (v2 : Int) (σ : mSt) (H : Heap) (locs : List Loc) (ls : Array Slot), mX0_find_L2 v0 v1 x27 n v2 σ = some out → mM (mA E 276) E 276 σ s H locs → lv_has ls 3 [(0, .ref (eA E v0)), (1, .ref (eA E v1)), (2, vI v2)] → mGo l p e 2 45 s m args below meth c E (some (vI out.1)) out.2 H locs (F0 m 2 ls []) := by
  intro n
  induction n with
  | zero =>
    intro v2 σ H locs ls hm hM hl
    exact absurd hm (by rw [mX0_find_L2.eq_1]; exact fun h => nomatch h)
  | succ n ih =>
    intro v2 σ H locs ls hm hM hl
    rw [mX0_find_L2.eq_2] at hm
    refine r_iload_n (np := 3) G hl 2 rfl dX0_find_2 rfl rfl ?_
    refine r_aload_n (np := 4) G hl 0 rfl dX0_find_3 rfl rfl ?_
    refine r_getI (np := 7) G hM (shp_lt g0 (by decide)) g0 fdX0_0 lkX0_9 dX0_find_4 rfl ?_
    refine r_icmp_ge (np := 10) (tgt := 27) G rfl rfl dX0_find_7 (by decide) rfl (fun h1 => ?_) (fun h1 => ?_)
    · have hm := b_t h1 hm
      exact hx27 _ _ _ _ hm hM (lv_sub hl [] rfl)
    · have hm := b_f h1 hm
      refine r_aload_n (np := 11) G hl 0 rfl dX0_find_10 rfl rfl ?_
      refine r_iload_n (np := 12) G hl 2 rfl dX0_find_11 rfl rfl ?_
      refine r_aload_n (np := 13) G hl 1 rfl dX0_find_12 rfl rfl ?_
      obtain ⟨b2, s3, e4, hm⟩ := call_t hm
      refine m_callVI (np := 16) G hM hl.1 [vI v2, .ref (eA E v1)] (qX0_hasName l E σ v0 v2 v1 _ e4) myX0_hasName (shp_lt (gX0_hasName e4) (by decide)) (gX0_hasName e4) rfl (by decide) lkX0_58 ⟨Nat.le_of_ble_eq_true rfl, Nat.le_of_ble_eq_true rfl⟩ ⟨Nat.le_of_ble_eq_true rfl, Nat.le_of_ble_eq_true rfl⟩ [] rfl (Nat.le_of_ble_eq_true rfl) dX0_find_13 rfl (fun H locs hM => ?_)
      refine r_if_eq (np := 19) (tgt := 21) G rfl dX0_find_16 (by decide) rfl (fun h5 => ?_) (fun h5 => ?_)
      · have hm := b_t h5 hm
        obtain ⟨a6, e7, hm⟩ := bnd_t hm
        refine r_iinc (np := 24) G hl 2 rfl e7 [(2, vI a6), (0, .ref (eA E v0)), (1, .ref (eA E v1))] dX0_find_21 rfl (by decide) rfl (fun ls hl => ?_)
        refine r_goto (np := 2) G dX0_find_24 (by decide) ?_
        exact ih a6 _ _ _ _ hm hM (lv_sub hl [1, 2, 0] rfl)
      · have hm := b_f h5 hm
        refine r_iload_n (np := 20) G hl 2 rfl dX0_find_19 rfl rfl ?_
        exact r_iret G hr hk hM hm dX0_find_20
set_option maxRecDepth 100000 in
set_option maxHeartbeats 4000000 in
theorem qX0_find (l : Launch) (E : mE) (σ : mSt) (v0 : Nat) (v1 : Nat) (out : Int × mSt) (hm : mX0_find v0 v1 σ = some out) : mMet l yX0_find cX0_find 3 (some .int) 2 45 E 276 [.ref (eA E v0), .ref (eA E v1)] σ (some (vI out.1)) out.2 := by
  unfold mX0_find at hm
  obtain ⟨g0, hm⟩ := g_t hm
  refine m_entry (by decide +kernel) (Nat.le_of_ble_eq_true rfl) (fun p e s m args below meth c G hr hk hM ls hl => ?_)
  have G : CallFix p m c cX0_find 3 s args mTs RX0 := G
  have hl : lv_has ls 3 [(0, .ref (eA E v0)), (1, .ref (eA E v1))] := hl
  refine r_iconst (np := 1) G 0 dX0_find_0 rfl ?_
  refine r_istore_n (np := 2) G hl rfl [(2, vI 0), (0, .ref (eA E v0)), (1, .ref (eA E v1))] dX0_find_1 rfl rfl (by decide) rfl (fun ls hl => ?_)
  exact wX0_find_L2 l E out G hr hk v0 v1 g0 (fun zσ => mX0_find_B27 v0 v1 zσ) (fun zσ zH zl zs zm zM zv => wX0_find_B27 l E out G hr hk v0 v1 g0 zσ zH zl zs zm zM zv) mF 0 _ _ _ _ hm hM (lv_sub hl [1, 2, 0] rfl)
theorem gX0_find {v0 : Nat} {v1 : Nat} {σ : mSt} {out : Int × mSt} (hm : mX0_find v0 v1 σ = some out) : isC v0 0 := (g_t hm).1
set_option maxRecDepth 100000 in
set_option maxHeartbeats 4000000 in
theorem qX1_isThere (l : Launch) (E : mE) (σ : mSt) (v0 : Nat) (out : Int × mSt) (hm : mX1_isThere v0 σ = some out) : mMet l yX1_isThere cX1_isThere 1 (some .boolean) 0 0 E 276 [.ref (eA E v0)] σ (some (vI out.1)) out.2 := by
  unfold mX1_isThere at hm
  obtain ⟨g0, hm⟩ := g_t hm
  refine m_entry (by decide +kernel) (Nat.le_of_ble_eq_true rfl) (fun p e s m args below meth c G hr hk hM ls hl => ?_)
  have G : CallFix p m c cX1_isThere 1 s args mTs RX1 := G
  have hl : lv_has ls 1 [(0, .ref (eA E v0))] := hl
  refine r_aload_n (np := 1) G hl 0 rfl dX1_isThere_0 rfl rfl ?_
  refine r_getI (np := 4) G hM (shp_lt g0 (by decide)) g0 fdX1_2 lkX1_19 dX1_isThere_1 rfl ?_
  refine r_iconst (np := 5) G (-1) dX1_isThere_4 rfl ?_
  refine r_icmp_eq (np := 8) (tgt := 12) G rfl (wIk (-1) rfl) dX1_isThere_5 (by decide) rfl (fun h1 => ?_) (fun h1 => ?_)
  · have hm := b_t h1 hm
    refine r_iconst (np := 13) G 0 dX1_isThere_12 rfl ?_
    exact r_zret G hr hk hM (Or.inl rfl) hm dX1_isThere_13
  · have hm := b_f h1 hm
    refine r_iconst (np := 9) G 1 dX1_isThere_8 rfl ?_
    refine r_goto (np := 13) G dX1_isThere_9 (by decide) ?_
    exact r_zret G hr hk hM (Or.inr rfl) hm dX1_isThere_13
theorem gX1_isThere {v0 : Nat} {σ : mSt} {out : Int × mSt} (hm : mX1_isThere v0 σ = some out) : isC v0 1 := (g_t hm).1
set_option maxRecDepth 100000 in
set_option maxHeartbeats 4000000 in
theorem qX1_drop (l : Launch) (E : mE) (σ : mSt) (v0 : Nat) (out : Int × mSt) (hm : mX1_drop v0 σ = some out) : mMet l yX1_drop cX1_drop 1 none 0 0 E 276 [.ref (eA E v0)] σ none out.2 := by
  unfold mX1_drop at hm
  obtain ⟨g0, hm⟩ := g_t hm
  refine m_entry (by decide +kernel) (Nat.le_of_ble_eq_true rfl) (fun p e s m args below meth c G hr hk hM ls hl => ?_)
  have G : CallFix p m c cX1_drop 1 s args mTs RX1 := G
  have hl : lv_has ls 1 [(0, .ref (eA E v0))] := hl
  refine r_aload_n (np := 1) G hl 0 rfl dX1_drop_0 rfl rfl ?_
  refine r_iconst (np := 2) G (-1) dX1_drop_1 rfl ?_
  obtain ⟨s1, e2, hm⟩ := bnd_t hm
  refine r_putI (np := 5) G hM (shp_lt g0 (by decide)) g0 ptX1_2 rfl lkX1_19 s1 e2 dX1_drop_2 rfl (fun H locs hM => ?_)
  exact r_vret G hr hk hM hm dX1_drop_5
theorem gX1_drop {v0 : Nat} {σ : mSt} {out : Int × mSt} (hm : mX1_drop v0 σ = some out) : isC v0 1 := (g_t hm).1
set_option maxRecDepth 100000 in
set_option maxHeartbeats 4000000 in
theorem wX1_take_B139 (l : Launch) (E : mE) (out : Int × mSt) {p : Program} {e : Env} {s : State} {m : MethodId} {args : Array Value} {below : List Frame} {meth : Method} {c : Code} (G : CallFix p m c cX1_take 9 s args mTs RX1) (hr : meth.sig.returnType = (some .boolean)) (hk : meth.locks = false) (v0 : Nat) (v1 : Int) (v2 : Nat) (v3 : Int) (g0 : isC v0 1) : ∀ (v5 : Int) (σ : mSt) (H : Heap) (locs : List Loc) (ls : Array Slot), mX1_take_B139 v0 v1 v2 v3 v5 σ = some out → mM (mA E 276) E 276 σ s H locs → lv_has ls 9 [(0, .ref (eA E v0)), (1, vI v1), (3, vL v3), (5, vL v5)] → mGo l p e 2 51 s m args below meth c E (some (vI out.1)) out.2 H locs (F0 m 139 ls []) := by
  intro v5 σ H locs ls hm hM hl
  unfold mX1_take_B139 at hm
  refine r_aload_n (np := 140) G hl 0 rfl dX1_take_139 rfl rfl ?_
  refine r_lload_n (np := 141) G hl 2 rfl dX1_take_140 rfl rfl ?_
  refine r_lload (np := 143) G hl 3 rfl dX1_take_141 rfl ?_
  obtain ⟨b1, s2, e3, hm⟩ := call_t hm
  refine m_callSL (np := 146) G hM hl.1 [vL v3, vL v5] (qX5_quotient l E σ v3 v5 _ e3) myX5_quotient lkX1_29 ⟨Nat.le_of_ble_eq_true rfl, Nat.le_of_ble_eq_true rfl⟩ ⟨Nat.le_of_ble_eq_true rfl, Nat.le_of_ble_eq_true rfl⟩ [.ref (eA E v0)] rfl (Nat.le_of_ble_eq_true rfl) dX1_take_143 rfl (fun H locs hM => ?_)
  obtain ⟨s4, e5, hm⟩ := bnd_t hm
  refine r_putL (np := 149) G hM (shp_lt g0 (by decide)) g0 ptX1_1 rfl lkX1_15 s4 e5 dX1_take_146 rfl (fun H locs hM => ?_)
  refine r_aload_n (np := 150) G hl 0 rfl dX1_take_149 rfl rfl ?_
  refine r_iload_n (np := 151) G hl 1 rfl dX1_take_150 rfl rfl ?_
  obtain ⟨s6, e7, hm⟩ := bnd_t hm
  refine r_putI (np := 154) G hM (shp_lt g0 (by decide)) g0 ptX1_2 rfl lkX1_19 s6 e7 dX1_take_151 rfl (fun H locs hM => ?_)
  refine r_iconst (np := 155) G 1 dX1_take_154 rfl ?_
  exact r_zret G hr hk hM (Or.inr rfl) hm dX1_take_155
set_option maxRecDepth 100000 in
set_option maxHeartbeats 4000000 in
theorem wX1_take_L111 (l : Launch) (E : mE) (out : Int × mSt) {p : Program} {e : Env} {s : State} {m : MethodId} {args : Array Value} {below : List Frame} {meth : Method} {c : Code} (G : CallFix p m c cX1_take 9 s args mTs RX1) (hr : meth.sig.returnType = (some .boolean)) (hk : meth.locks = false) (v0 : Nat) (v1 : Int) (v2 : Nat) (v3 : Int) (v5 : Int) (g0 : isC v0 1) (x139 : mSt → Option (Int × mSt)) (hx139 : ∀ (σ : mSt) (H : Heap) (locs : List Loc) (ls : Array Slot), x139 σ = some out → mM (mA E 276) E 276 σ s H locs → lv_has ls 9 [(0, .ref (eA E v0)), (1, vI v1), (3, vL v3), (5, vL v5)] → mGo l p e 2 51 s m args below meth c E (some (vI out.1)) out.2 H locs (F0 m 139 ls [])) : ∀ (n : Nat) (v8 : Int) (σ : mSt) (H : Heap) (locs : List Loc) (ls : Array Slot), mX1_take_L111 v0 v1 v2 v3 v5 x139 n v8 σ = some out → mM (mA E 276) E 276 σ s H locs → lv_has ls 9 [(0, .ref (eA E v0)), (1, vI v1), (2, .ref (eA E v2)), (3, vL v3), (5, vL v5), (8, vI v8)] → mGo l p e 2 51 s m args below meth c E (some (vI out.1)) out.2 H locs (F0 m 111 ls []) := by
  intro n
  induction n with
  | zero =>
    intro v8 σ H locs ls hm hM hl
    exact absurd hm (by rw [mX1_take_L111.eq_1]; exact fun h => nomatch h)
  | succ n ih =>
    intro v8 σ H locs ls hm hM hl
    rw [mX1_take_L111.eq_2] at hm
    refine r_iload (np := 113) G hl 5 rfl dX1_take_111 rfl ?_
    refine r_iconst (np := 114) G 4 dX1_take_113 rfl ?_
    refine r_icmp_ge (np := 117) (tgt := 139) G rfl (wIk 4 rfl) dX1_take_114 (by decide) rfl (fun h8 => ?_) (fun h8 => ?_)
    · have hm := b_t h8 hm
      exact hx139 _ _ _ _ hm hM (lv_sub hl [0, 1, 3, 4] rfl)
    · have hm := b_f h8 hm
      refine r_aload_n (np := 118) G hl 0 rfl dX1_take_117 rfl rfl ?_
      obtain ⟨r9, e10, hm⟩ := ref_t hm
      refine r_getR (np := 121) G hM (shp_lt g0 (by decide)) g0 e10 fdX1_0 lkX1_9 dX1_take_118 rfl ?_
      refine r_iload (np := 123) G hl 5 rfl dX1_take_121 rfl ?_
      refine r_aload_n (np := 124) G hl 2 rfl dX1_take_123 rfl rfl ?_
      refine r_iload (np := 126) G hl 5 rfl dX1_take_124 rfl ?_
      obtain ⟨g11, hm⟩ := g_t hm
      refine r_laload (np := 127) G hM g11 rfl dX1_take_126 rfl ?_
      refine r_lload (np := 129) G hl 4 rfl dX1_take_127 rfl ?_
      obtain ⟨b12, s13, e14, hm⟩ := call_t hm
      refine m_callSL (np := 132) G hM hl.1 [vL (σ v2 (wI v8).toNat), vL v5] (qX5_quotient l E σ (σ v2 (wI v8).toNat) v5 _ e14) myX5_quotient lkX1_29 ⟨Nat.le_of_ble_eq_true rfl, Nat.le_of_ble_eq_true rfl⟩ ⟨Nat.le_of_ble_eq_true rfl, Nat.le_of_ble_eq_true rfl⟩ [vI v8, .ref (eA E r9)] rfl (Nat.le_of_ble_eq_true rfl) dX1_take_129 rfl (fun H locs hM => ?_)
      obtain ⟨g15, hm⟩ := g_t hm
      obtain ⟨s16, e17, hm⟩ := bnd_t hm
      refine r_lastore (np := 133) G hM g15 rfl s16 e17 dX1_take_132 rfl (fun H locs hM => ?_)
      obtain ⟨a18, e19, hm⟩ := bnd_t hm
      refine r_iinc (np := 136) G hl 5 rfl e19 [(8, vI a18), (0, .ref (eA E v0)), (1, vI v1), (2, .ref (eA E v2)), (3, vL v3), (5, vL v5)] dX1_take_133 rfl (by decide) rfl (fun ls hl => ?_)
      refine r_goto (np := 111) G dX1_take_136 (by decide) ?_
      exact ih a18 _ _ _ _ hm hM (lv_sub hl [1, 2, 3, 4, 5, 0] rfl)
set_option maxRecDepth 100000 in
set_option maxHeartbeats 4000000 in
theorem wX1_take_B101 (l : Launch) (E : mE) (out : Int × mSt) {p : Program} {e : Env} {s : State} {m : MethodId} {args : Array Value} {below : List Frame} {meth : Method} {c : Code} (G : CallFix p m c cX1_take 9 s args mTs RX1) (hr : meth.sig.returnType = (some .boolean)) (hk : meth.locks = false) (v0 : Nat) (v1 : Int) (v2 : Nat) (v3 : Int) (g0 : isC v0 1) : ∀ (v5 : Int) (v7 : Int) (σ : mSt) (H : Heap) (locs : List Loc) (ls : Array Slot), mX1_take_B101 v0 v1 v2 v3 v5 v7 σ = some out → mM (mA E 276) E 276 σ s H locs → lv_has ls 9 [(0, .ref (eA E v0)), (1, vI v1), (2, .ref (eA E v2)), (3, vL v3), (5, vL v5), (7, vI v7)] → mGo l p e 2 51 s m args below meth c E (some (vI out.1)) out.2 H locs (F0 m 101 ls []) := by
  intro v5 v7 σ H locs ls hm hM hl
  unfold mX1_take_B101 at hm
  refine r_iload (np := 103) G hl 5 rfl dX1_take_101 rfl ?_
  refine r_if_ne (np := 106) (tgt := 108) G rfl dX1_take_103 (by decide) rfl (fun h20 => ?_) (fun h20 => ?_)
  · have hm := b_f h20 hm
    refine r_iconst (np := 109) G 0 dX1_take_108 rfl ?_
    refine r_istore (np := 111) G hl rfl [(8, vI 0), (0, .ref (eA E v0)), (1, vI v1), (2, .ref (eA E v2)), (3, vL v3), (5, vL v5), (7, vI v7)] dX1_take_109 rfl (by decide) rfl (fun ls hl => ?_)
    exact wX1_take_L111 l E out G hr hk v0 v1 v2 v3 v5 g0 (fun zσ => mX1_take_B139 v0 v1 v2 v3 v5 zσ) (fun zσ zH zl zs zm zM zv => wX1_take_B139 l E out G hr hk v0 v1 v2 v3 g0 v5 zσ zH zl zs zm zM zv) mF 0 _ _ _ _ hm hM (lv_sub hl [1, 2, 3, 4, 5, 0] rfl)
  · have hm := b_t h20 hm
    refine r_iconst (np := 107) G 0 dX1_take_106 rfl ?_
    exact r_zret G hr hk hM (Or.inl rfl) hm dX1_take_107
set_option maxRecDepth 100000 in
set_option maxHeartbeats 4000000 in
theorem wX1_take_L58 (l : Launch) (E : mE) (out : Int × mSt) {p : Program} {e : Env} {s : State} {m : MethodId} {args : Array Value} {below : List Frame} {meth : Method} {c : Code} (G : CallFix p m c cX1_take 9 s args mTs RX1) (hr : meth.sig.returnType = (some .boolean)) (hk : meth.locks = false) (v0 : Nat) (v1 : Int) (v2 : Nat) (v3 : Int) (v5 : Int) (g0 : isC v0 1) (x101 : Int → mSt → Option (Int × mSt)) (hx101 : ∀ (v7 : Int) (σ : mSt) (H : Heap) (locs : List Loc) (ls : Array Slot), x101 v7 σ = some out → mM (mA E 276) E 276 σ s H locs → lv_has ls 9 [(0, .ref (eA E v0)), (1, vI v1), (2, .ref (eA E v2)), (3, vL v3), (5, vL v5), (7, vI v7)] → mGo l p e 2 51 s m args below meth c E (some (vI out.1)) out.2 H locs (F0 m 101 ls [])) : ∀ (n : Nat) (v7 : Int) (v8 : Int) (σ : mSt) (H : Heap) (locs : List Loc) (ls : Array Slot), mX1_take_L58 v0 v1 v2 v3 v5 x101 n v7 v8 σ = some out → mM (mA E 276) E 276 σ s H locs → lv_has ls 9 [(0, .ref (eA E v0)), (1, vI v1), (2, .ref (eA E v2)), (3, vL v3), (5, vL v5), (7, vI v7), (8, vI v8)] → mGo l p e 2 51 s m args below meth c E (some (vI out.1)) out.2 H locs (F0 m 58 ls []) := by
  intro n
  induction n with
  | zero =>
    intro v7 v8 σ H locs ls hm hM hl
    exact absurd hm (by rw [mX1_take_L58.eq_1]; exact fun h => nomatch h)
  | succ n ih =>
    intro v7 v8 σ H locs ls hm hM hl
    rw [mX1_take_L58.eq_2] at hm
    refine r_iload (np := 60) G hl 6 rfl dX1_take_58 rfl ?_
    refine r_iconst (np := 61) G 4 dX1_take_60 rfl ?_
    refine r_icmp_ge (np := 64) (tgt := 101) G rfl (wIk 4 rfl) dX1_take_61 (by decide) rfl (fun h21 => ?_) (fun h21 => ?_)
    · have hm := b_t h21 hm
      exact hx101 v7 _ _ _ _ hm hM (lv_sub hl [0, 1, 2, 3, 4, 5] rfl)
    · have hm := b_f h21 hm
      refine r_iload (np := 66) G hl 5 rfl dX1_take_64 rfl ?_
      refine r_if_eq (np := 69) (tgt := 101) G rfl dX1_take_66 (by decide) rfl (fun h22 => ?_) (fun h22 => ?_)
      · have hm := b_t h22 hm
        exact hx101 v7 _ _ _ _ hm hM (lv_sub hl [0, 1, 2, 3, 4, 5] rfl)
      · have hm := b_f h22 hm
        refine r_aload_n (np := 70) G hl 2 rfl dX1_take_69 rfl rfl ?_
        refine r_iload (np := 72) G hl 6 rfl dX1_take_70 rfl ?_
        obtain ⟨g23, hm⟩ := g_t hm
        refine r_laload (np := 73) G hM g23 rfl dX1_take_72 rfl ?_
        refine r_lload (np := 75) G hl 4 rfl dX1_take_73 rfl ?_
        obtain ⟨b24, s25, e26, hm⟩ := call_t hm
        refine m_callSL (np := 78) G hM hl.1 [vL (σ v2 (wI v8).toNat), vL v5] (qX5_quotient l E σ (σ v2 (wI v8).toNat) v5 _ e26) myX5_quotient lkX1_29 ⟨Nat.le_of_ble_eq_true rfl, Nat.le_of_ble_eq_true rfl⟩ ⟨Nat.le_of_ble_eq_true rfl, Nat.le_of_ble_eq_true rfl⟩ [] rfl (Nat.le_of_ble_eq_true rfl) dX1_take_75 rfl (fun H locs hM => ?_)
        obtain ⟨b27, s28, e29, hm⟩ := call_t hm
        refine m_callSL (np := 81) G hM hl.1 [vL b24] (qJ9_abs_067f4 l E s25 b24 _ e29) myJ9_abs_067f4 lkX1_34 ⟨Nat.le_of_ble_eq_true rfl, Nat.le_of_ble_eq_true rfl⟩ ⟨Nat.le_of_ble_eq_true rfl, Nat.le_of_ble_eq_true rfl⟩ [] rfl (Nat.le_of_ble_eq_true rfl) dX1_take_78 rfl (fun H locs hM => ?_)
        refine r_ldc2 (np := 84) G 1000000 dX1_take_81 lkX1_32 rfl rfl ?_
        refine r_lcmp_gt (np := 88) (tgt := 92) G rfl (wLk 1000000 rfl) dX1_take_84 dX1_take_85 (by decide) rfl (fun h30 => ?_) (fun h30 => ?_)
        · have hm := b_t h30 hm
          refine r_iconst (np := 93) G 0 dX1_take_92 rfl ?_
          refine r_istore (np := 95) G hl rfl [(7, vI 0), (0, .ref (eA E v0)), (1, vI v1), (2, .ref (eA E v2)), (3, vL v3), (5, vL v5), (8, vI v8)] dX1_take_93 rfl (by decide) rfl (fun ls hl => ?_)
          obtain ⟨a31, e32, hm⟩ := bnd_t hm
          refine r_iinc (np := 98) G hl 6 rfl e32 [(8, vI a31), (7, vI 0), (0, .ref (eA E v0)), (1, vI v1), (2, .ref (eA E v2)), (3, vL v3), (5, vL v5)] dX1_take_95 rfl (by decide) rfl (fun ls hl => ?_)
          refine r_goto (np := 58) G dX1_take_98 (by decide) ?_
          exact ih 0 a31 _ _ _ _ hm hM (lv_sub hl [2, 3, 4, 5, 6, 1, 0] rfl)
        · have hm := b_f h30 hm
          refine r_iconst (np := 89) G 1 dX1_take_88 rfl ?_
          refine r_goto (np := 93) G dX1_take_89 (by decide) ?_
          refine r_istore (np := 95) G hl rfl [(7, vI 1), (0, .ref (eA E v0)), (1, vI v1), (2, .ref (eA E v2)), (3, vL v3), (5, vL v5), (8, vI v8)] dX1_take_93 rfl (by decide) rfl (fun ls hl => ?_)
          obtain ⟨a33, e34, hm⟩ := bnd_t hm
          refine r_iinc (np := 98) G hl 6 rfl e34 [(8, vI a33), (7, vI 1), (0, .ref (eA E v0)), (1, vI v1), (2, .ref (eA E v2)), (3, vL v3), (5, vL v5)] dX1_take_95 rfl (by decide) rfl (fun ls hl => ?_)
          refine r_goto (np := 58) G dX1_take_98 (by decide) ?_
          exact ih 1 a33 _ _ _ _ hm hM (lv_sub hl [2, 3, 4, 5, 6, 1, 0] rfl)
set_option maxRecDepth 100000 in
set_option maxHeartbeats 4000000 in
theorem wX1_take_B53 (l : Launch) (E : mE) (out : Int × mSt) {p : Program} {e : Env} {s : State} {m : MethodId} {args : Array Value} {below : List Frame} {meth : Method} {c : Code} (G : CallFix p m c cX1_take 9 s args mTs RX1) (hr : meth.sig.returnType = (some .boolean)) (hk : meth.locks = false) (v0 : Nat) (v1 : Int) (v2 : Nat) (v3 : Int) (g0 : isC v0 1) : ∀ (v5 : Int) (t0 : Int) (σ : mSt) (H : Heap) (locs : List Loc) (ls : Array Slot), mX1_take_B53 v0 v1 v2 v3 v5 t0 σ = some out → mM (mA E 276) E 276 σ s H locs → lv_has ls 9 [(0, .ref (eA E v0)), (1, vI v1), (2, .ref (eA E v2)), (3, vL v3), (5, vL v5)] → mGo l p e 2 51 s m args below meth c E (some (vI out.1)) out.2 H locs (F0 m 53 ls [vI t0]) := by
  intro v5 t0 σ H locs ls hm hM hl
  unfold mX1_take_B53 at hm
  refine r_istore (np := 55) G hl rfl [(7, vI t0), (0, .ref (eA E v0)), (1, vI v1), (2, .ref (eA E v2)), (3, vL v3), (5, vL v5)] dX1_take_53 rfl (by decide) rfl (fun ls hl => ?_)
  refine r_iconst (np := 56) G 0 dX1_take_55 rfl ?_
  refine r_istore (np := 58) G hl rfl [(8, vI 0), (7, vI t0), (0, .ref (eA E v0)), (1, vI v1), (2, .ref (eA E v2)), (3, vL v3), (5, vL v5)] dX1_take_56 rfl (by decide) rfl (fun ls hl => ?_)
  exact wX1_take_L58 l E out G hr hk v0 v1 v2 v3 v5 g0 (fun z7 zσ => mX1_take_B101 v0 v1 v2 v3 v5 z7 zσ) (fun z7 zσ zH zl zs zm zM zv => wX1_take_B101 l E out G hr hk v0 v1 v2 v3 g0 v5 z7 zσ zH zl zs zm zM zv) mF t0 0 _ _ _ _ hm hM (lv_sub hl [2, 3, 4, 5, 6, 1, 0] rfl)
set_option maxRecDepth 100000 in
set_option maxHeartbeats 4000000 in
theorem wX1_take_B52 (l : Launch) (E : mE) (out : Int × mSt) {p : Program} {e : Env} {s : State} {m : MethodId} {args : Array Value} {below : List Frame} {meth : Method} {c : Code} (G : CallFix p m c cX1_take 9 s args mTs RX1) (hr : meth.sig.returnType = (some .boolean)) (hk : meth.locks = false) (v0 : Nat) (v1 : Int) (v2 : Nat) (v3 : Int) (g0 : isC v0 1) : ∀ (v5 : Int) (σ : mSt) (H : Heap) (locs : List Loc) (ls : Array Slot), mX1_take_B52 v0 v1 v2 v3 v5 σ = some out → mM (mA E 276) E 276 σ s H locs → lv_has ls 9 [(0, .ref (eA E v0)), (1, vI v1), (2, .ref (eA E v2)), (3, vL v3), (5, vL v5)] → mGo l p e 2 51 s m args below meth c E (some (vI out.1)) out.2 H locs (F0 m 52 ls []) := by
  intro v5 σ H locs ls hm hM hl
  unfold mX1_take_B52 at hm
  refine r_iconst (np := 53) G 0 dX1_take_52 rfl ?_
  exact wX1_take_B53 l E out G hr hk v0 v1 v2 v3 g0 v5 0 _ _ _ _ hm hM (lv_sub hl [0, 1, 2, 3, 4] rfl)
set_option maxRecDepth 100000 in
set_option maxHeartbeats 4000000 in
theorem wX1_take_B29 (l : Launch) (E : mE) (out : Int × mSt) {p : Program} {e : Env} {s : State} {m : MethodId} {args : Array Value} {below : List Frame} {meth : Method} {c : Code} (G : CallFix p m c cX1_take 9 s args mTs RX1) (hr : meth.sig.returnType = (some .boolean)) (hk : meth.locks = false) (v0 : Nat) (v1 : Int) (v2 : Nat) (v3 : Int) (g0 : isC v0 1) : ∀ (v5 : Int) (σ : mSt) (H : Heap) (locs : List Loc) (ls : Array Slot), mX1_take_B29 v0 v1 v2 v3 v5 σ = some out → mM (mA E 276) E 276 σ s H locs → lv_has ls 9 [(0, .ref (eA E v0)), (1, vI v1), (2, .ref (eA E v2)), (3, vL v3), (5, vL v5)] → mGo l p e 2 51 s m args below meth c E (some (vI out.1)) out.2 H locs (F0 m 29 ls []) := by
  intro v5 σ H locs ls hm hM hl
  unfold mX1_take_B29 at hm
  refine r_lload_n (np := 30) G hl 3 rfl dX1_take_29 rfl rfl ?_
  refine r_lconst (np := 31) G 0 dX1_take_30 rfl rfl ?_
  refine r_lcmp_le (np := 35) (tgt := 52) G rfl (wLk 0 rfl) dX1_take_31 dX1_take_32 (by decide) rfl (fun h35 => ?_) (fun h35 => ?_)
  · have hm := b_t h35 hm
    exact wX1_take_B52 l E out G hr hk v0 v1 v2 v3 g0 v5 _ _ _ _ hm hM (lv_sub hl [0, 1, 2, 3, 4] rfl)
  · have hm := b_f h35 hm
    refine r_lload_n (np := 36) G hl 3 rfl dX1_take_35 rfl rfl ?_
    refine r_lload (np := 38) G hl 4 rfl dX1_take_36 rfl ?_
    obtain ⟨b36, s37, e38, hm⟩ := call_t hm
    refine m_callSL (np := 41) G hM hl.1 [vL v3, vL v5] (qX5_quotient l E σ v3 v5 _ e38) myX5_quotient lkX1_29 ⟨Nat.le_of_ble_eq_true rfl, Nat.le_of_ble_eq_true rfl⟩ ⟨Nat.le_of_ble_eq_true rfl, Nat.le_of_ble_eq_true rfl⟩ [] rfl (Nat.le_of_ble_eq_true rfl) dX1_take_38 rfl (fun H locs hM => ?_)
    refine r_ldc2 (np := 44) G 1000000 dX1_take_41 lkX1_32 rfl rfl ?_
    refine r_lcmp_gt (np := 48) (tgt := 52) G rfl (wLk 1000000 rfl) dX1_take_44 dX1_take_45 (by decide) rfl (fun h39 => ?_) (fun h39 => ?_)
    · have hm := b_t h39 hm
      exact wX1_take_B52 l E out G hr hk v0 v1 v2 v3 g0 v5 _ _ _ _ hm hM (lv_sub hl [0, 1, 2, 3, 4] rfl)
    · have hm := b_f h39 hm
      refine r_iconst (np := 49) G 1 dX1_take_48 rfl ?_
      refine r_goto (np := 53) G dX1_take_49 (by decide) ?_
      exact wX1_take_B53 l E out G hr hk v0 v1 v2 v3 g0 v5 1 _ _ _ _ hm hM (lv_sub hl [0, 1, 2, 3, 4] rfl)
set_option maxRecDepth 100000 in
set_option maxHeartbeats 4000000 in
theorem wX1_take_L6 (l : Launch) (E : mE) (out : Int × mSt) {p : Program} {e : Env} {s : State} {m : MethodId} {args : Array Value} {below : List Frame} {meth : Method} {c : Code} (G : CallFix p m c cX1_take 9 s args mTs RX1) (hr : meth.sig.returnType = (some .boolean)) (hk : meth.locks = false) (v0 : Nat) (v1 : Int) (v2 : Nat) (v3 : Int) (g0 : isC v0 1) (x29 : Int → mSt → Option (Int × mSt)) (hx29 : ∀ (v5 : Int) (σ : mSt) (H : Heap) (locs : List Loc) (ls : Array Slot), x29 v5 σ = some out → mM (mA E 276) E 276 σ s H locs → lv_has ls 9 [(0, .ref (eA E v0)), (1, vI v1), (2, .ref (eA E v2)), (3, vL v3), (5, vL v5)] → mGo l p e 2 51 s m args below meth c E (some (vI out.1)) out.2 H locs (F0 m 29 ls [])) : ∀ (n : Nat) (v5 : Int) (v7 : Int) (σ : mSt) (H : Heap) (locs : List Loc) (ls : Array Slot), mX1_take_L6 v0 v1 v2 v3 x29 n v5 v7 σ = some out → mM (mA E 276) E 276 σ s H locs → lv_has ls 9 [(0, .ref (eA E v0)), (1, vI v1), (2, .ref (eA E v2)), (3, vL v3), (5, vL v5), (7, vI v7)] → mGo l p e 2 51 s m args below meth c E (some (vI out.1)) out.2 H locs (F0 m 6 ls []) := by
  intro n
  induction n with
  | zero =>
    intro v5 v7 σ H locs ls hm hM hl
    exact absurd hm (by rw [mX1_take_L6.eq_1]; exact fun h => nomatch h)
  | succ n ih =>
    intro v5 v7 σ H locs ls hm hM hl
    rw [mX1_take_L6.eq_2] at hm
    refine r_iload (np := 8) G hl 5 rfl dX1_take_6 rfl ?_
    refine r_iconst (np := 9) G 4 dX1_take_8 rfl ?_
    refine r_icmp_ge (np := 12) (tgt := 29) G rfl (wIk 4 rfl) dX1_take_9 (by decide) rfl (fun h40 => ?_) (fun h40 => ?_)
    · have hm := b_t h40 hm
      exact hx29 v5 _ _ _ _ hm hM (lv_sub hl [0, 1, 2, 3, 4] rfl)
    · have hm := b_f h40 hm
      refine r_lload (np := 14) G hl 4 rfl dX1_take_12 rfl ?_
      refine r_aload_n (np := 15) G hl 2 rfl dX1_take_14 rfl rfl ?_
      refine r_iload (np := 17) G hl 5 rfl dX1_take_15 rfl ?_
      obtain ⟨g41, hm⟩ := g_t hm
      refine r_laload (np := 18) G hM g41 rfl dX1_take_17 rfl ?_
      obtain ⟨b42, s43, e44, hm⟩ := call_t hm
      refine m_callSL (np := 21) G hM hl.1 [vL v5, vL (σ v2 (wI v7).toNat)] (qX5_greatestDivisor l E σ v5 (σ v2 (wI v7).toNat) _ e44) myX5_greatestDivisor lkX1_23 ⟨Nat.le_of_ble_eq_true rfl, Nat.le_of_ble_eq_true rfl⟩ ⟨Nat.le_of_ble_eq_true rfl, Nat.le_of_ble_eq_true rfl⟩ [] rfl (Nat.le_of_ble_eq_true rfl) dX1_take_18 rfl (fun H locs hM => ?_)
      refine r_lstore (np := 23) G hl rfl [(5, vL b42), (0, .ref (eA E v0)), (1, vI v1), (2, .ref (eA E v2)), (3, vL v3), (7, vI v7)] dX1_take_21 rfl (by decide) rfl (fun ls hl => ?_)
      obtain ⟨a45, e46, hm⟩ := bnd_t hm
      refine r_iinc (np := 26) G hl 5 rfl e46 [(7, vI a45), (5, vL b42), (0, .ref (eA E v0)), (1, vI v1), (2, .ref (eA E v2)), (3, vL v3)] dX1_take_23 rfl (by decide) rfl (fun ls hl => ?_)
      refine r_goto (np := 6) G dX1_take_26 (by decide) ?_
      exact ih b42 a45 _ _ _ _ hm hM (lv_sub hl [2, 3, 4, 5, 1, 0] rfl)
set_option maxRecDepth 100000 in
set_option maxHeartbeats 4000000 in
theorem qX1_take (l : Launch) (E : mE) (σ : mSt) (v0 : Nat) (v1 : Int) (v2 : Nat) (v3 : Int) (out : Int × mSt) (hm : mX1_take v0 v1 v2 v3 σ = some out) : mMet l yX1_take cX1_take 9 (some .boolean) 2 51 E 276 [.ref (eA E v0), vI v1, .ref (eA E v2), vL v3] σ (some (vI out.1)) out.2 := by
  unfold mX1_take at hm
  obtain ⟨g0, hm⟩ := g_t hm
  refine m_entry (by decide +kernel) (Nat.le_of_ble_eq_true rfl) (fun p e s m args below meth c G hr hk hM ls hl => ?_)
  have G : CallFix p m c cX1_take 9 s args mTs RX1 := G
  have hl : lv_has ls 9 [(0, .ref (eA E v0)), (1, vI v1), (2, .ref (eA E v2)), (3, vL v3)] := hl
  refine r_lload_n (np := 1) G hl 3 rfl dX1_take_0 rfl rfl ?_
  refine r_lstore (np := 3) G hl rfl [(5, vL v3), (0, .ref (eA E v0)), (1, vI v1), (2, .ref (eA E v2)), (3, vL v3)] dX1_take_1 rfl (by decide) rfl (fun ls hl => ?_)
  refine r_iconst (np := 4) G 0 dX1_take_3 rfl ?_
  refine r_istore (np := 6) G hl rfl [(7, vI 0), (5, vL v3), (0, .ref (eA E v0)), (1, vI v1), (2, .ref (eA E v2)), (3, vL v3)] dX1_take_4 rfl (by decide) rfl (fun ls hl => ?_)
  exact wX1_take_L6 l E out G hr hk v0 v1 v2 v3 g0 (fun z5 zσ => mX1_take_B29 v0 v1 v2 v3 z5 zσ) (fun z5 zσ zH zl zs zm zM zv => wX1_take_B29 l E out G hr hk v0 v1 v2 v3 g0 z5 zσ zH zl zs zm zM zv) mF v3 0 _ _ _ _ hm hM (lv_sub hl [2, 3, 4, 5, 1, 0] rfl)
theorem gX1_take {v0 : Nat} {v1 : Int} {v2 : Nat} {v3 : Int} {σ : mSt} {out : Int × mSt} (hm : mX1_take v0 v1 v2 v3 σ = some out) : isC v0 1 := (g_t hm).1
set_option maxRecDepth 100000 in
set_option maxHeartbeats 4000000 in
theorem wX1_isWithin_B54 (l : Launch) (E : mE) (out : Int × mSt) {p : Program} {e : Env} {s : State} {m : MethodId} {args : Array Value} {below : List Frame} {meth : Method} {c : Code} (G : CallFix p m c cX1_isWithin 4 s args mTs RX1) (hr : meth.sig.returnType = (some .boolean)) (hk : meth.locks = false) (v0 : Nat) (v1 : Int) (g0 : isC v0 1) : ∀ (v2 : Int) (σ : mSt) (H : Heap) (locs : List Loc) (ls : Array Slot), mX1_isWithin_B54 v0 v1 v2 σ = some out → mM (mA E 276) E 276 σ s H locs → lv_has ls 4 [(2, vI v2)] → mGo l p e 1 21 s m args below meth c E (some (vI out.1)) out.2 H locs (F0 m 54 ls []) := by
  intro v2 σ H locs ls hm hM hl
  unfold mX1_isWithin_B54 at hm
  refine r_iload_n (np := 55) G hl 0 rfl dX1_isWithin_54 rfl rfl ?_
  obtain ⟨g1, hm⟩ := g_t hm
  exact r_zret G hr hk hM g1 hm dX1_isWithin_55
set_option maxRecDepth 100000 in
set_option maxHeartbeats 4000000 in
theorem wX1_isWithin_L18 (l : Launch) (E : mE) (out : Int × mSt) {p : Program} {e : Env} {s : State} {m : MethodId} {args : Array Value} {below : List Frame} {meth : Method} {c : Code} (G : CallFix p m c cX1_isWithin 4 s args mTs RX1) (hr : meth.sig.returnType = (some .boolean)) (hk : meth.locks = false) (v0 : Nat) (v1 : Int) (g0 : isC v0 1) (x54 : Int → mSt → Option (Int × mSt)) (hx54 : ∀ (v2 : Int) (σ : mSt) (H : Heap) (locs : List Loc) (ls : Array Slot), x54 v2 σ = some out → mM (mA E 276) E 276 σ s H locs → lv_has ls 4 [(2, vI v2)] → mGo l p e 1 21 s m args below meth c E (some (vI out.1)) out.2 H locs (F0 m 54 ls [])) : ∀ (n : Nat) (v2 : Int) (v3 : Int) (σ : mSt) (H : Heap) (locs : List Loc) (ls : Array Slot), mX1_isWithin_L18 v0 v1 x54 n v2 v3 σ = some out → mM (mA E 276) E 276 σ s H locs → lv_has ls 4 [(0, .ref (eA E v0)), (1, vI v1), (2, vI v2), (3, vI v3)] → mGo l p e 1 21 s m args below meth c E (some (vI out.1)) out.2 H locs (F0 m 18 ls []) := by
  intro n
  induction n with
  | zero =>
    intro v2 v3 σ H locs ls hm hM hl
    exact absurd hm (by rw [mX1_isWithin_L18.eq_1]; exact fun h => nomatch h)
  | succ n ih =>
    intro v2 v3 σ H locs ls hm hM hl
    rw [mX1_isWithin_L18.eq_2] at hm
    refine r_iload_n (np := 19) G hl 3 rfl dX1_isWithin_18 rfl rfl ?_
    refine r_iconst (np := 20) G 4 dX1_isWithin_19 rfl ?_
    refine r_icmp_ge (np := 23) (tgt := 54) G rfl (wIk 4 rfl) dX1_isWithin_20 (by decide) rfl (fun h2 => ?_) (fun h2 => ?_)
    · have hm := b_t h2 hm
      exact hx54 v2 _ _ _ _ hm hM (lv_sub hl [2] rfl)
    · have hm := b_f h2 hm
      refine r_iload_n (np := 24) G hl 2 rfl dX1_isWithin_23 rfl rfl ?_
      refine r_if_eq (np := 27) (tgt := 54) G rfl dX1_isWithin_24 (by decide) rfl (fun h3 => ?_) (fun h3 => ?_)
      · have hm := b_t h3 hm
        exact hx54 v2 _ _ _ _ hm hM (lv_sub hl [2] rfl)
      · have hm := b_f h3 hm
        refine r_aload_n (np := 28) G hl 0 rfl dX1_isWithin_27 rfl rfl ?_
        obtain ⟨r4, e5, hm⟩ := ref_t hm
        refine r_getR (np := 31) G hM (shp_lt g0 (by decide)) g0 e5 fdX1_0 lkX1_9 dX1_isWithin_28 rfl ?_
        refine r_iload_n (np := 32) G hl 3 rfl dX1_isWithin_31 rfl rfl ?_
        obtain ⟨g6, hm⟩ := g_t hm
        refine r_laload (np := 33) G hM g6 rfl dX1_isWithin_32 rfl ?_
        obtain ⟨b7, s8, e9, hm⟩ := call_t hm
        refine m_callSL (np := 36) G hM hl.1 [vL (σ r4 (wI v3).toNat)] (qJ9_abs_067f4 l E σ (σ r4 (wI v3).toNat) _ e9) myJ9_abs_067f4 lkX1_34 ⟨Nat.le_of_ble_eq_true rfl, Nat.le_of_ble_eq_true rfl⟩ ⟨Nat.le_of_ble_eq_true rfl, Nat.le_of_ble_eq_true rfl⟩ [] rfl (Nat.le_of_ble_eq_true rfl) dX1_isWithin_33 rfl (fun H locs hM => ?_)
        refine r_iload_n (np := 37) G hl 1 rfl dX1_isWithin_36 rfl rfl ?_
        refine r_i2l (np := 38) G rfl dX1_isWithin_37 rfl ?_
        refine r_lcmp_gt (np := 42) (tgt := 46) G rfl rfl dX1_isWithin_38 dX1_isWithin_39 (by decide) rfl (fun h10 => ?_) (fun h10 => ?_)
        · have hm := b_t h10 hm
          refine r_iconst (np := 47) G 0 dX1_isWithin_46 rfl ?_
          refine r_istore_n (np := 48) G hl rfl [(2, vI 0), (0, .ref (eA E v0)), (1, vI v1), (3, vI v3)] dX1_isWithin_47 rfl rfl (by decide) rfl (fun ls hl => ?_)
          obtain ⟨a11, e12, hm⟩ := bnd_t hm
          refine r_iinc (np := 51) G hl 3 rfl e12 [(3, vI a11), (2, vI 0), (0, .ref (eA E v0)), (1, vI v1)] dX1_isWithin_48 rfl (by decide) rfl (fun ls hl => ?_)
          refine r_goto (np := 18) G dX1_isWithin_51 (by decide) ?_
          exact ih 0 a11 _ _ _ _ hm hM (lv_sub hl [2, 3, 1, 0] rfl)
        · have hm := b_f h10 hm
          refine r_iconst (np := 43) G 1 dX1_isWithin_42 rfl ?_
          refine r_goto (np := 47) G dX1_isWithin_43 (by decide) ?_
          refine r_istore_n (np := 48) G hl rfl [(2, vI 1), (0, .ref (eA E v0)), (1, vI v1), (3, vI v3)] dX1_isWithin_47 rfl rfl (by decide) rfl (fun ls hl => ?_)
          obtain ⟨a13, e14, hm⟩ := bnd_t hm
          refine r_iinc (np := 51) G hl 3 rfl e14 [(3, vI a13), (2, vI 1), (0, .ref (eA E v0)), (1, vI v1)] dX1_isWithin_48 rfl (by decide) rfl (fun ls hl => ?_)
          refine r_goto (np := 18) G dX1_isWithin_51 (by decide) ?_
          exact ih 1 a13 _ _ _ _ hm hM (lv_sub hl [2, 3, 1, 0] rfl)
set_option maxRecDepth 100000 in
set_option maxHeartbeats 4000000 in
theorem wX1_isWithin_B15 (l : Launch) (E : mE) (out : Int × mSt) {p : Program} {e : Env} {s : State} {m : MethodId} {args : Array Value} {below : List Frame} {meth : Method} {c : Code} (G : CallFix p m c cX1_isWithin 4 s args mTs RX1) (hr : meth.sig.returnType = (some .boolean)) (hk : meth.locks = false) (v0 : Nat) (v1 : Int) (g0 : isC v0 1) : ∀ (t0 : Int) (σ : mSt) (H : Heap) (locs : List Loc) (ls : Array Slot), mX1_isWithin_B15 v0 v1 t0 σ = some out → mM (mA E 276) E 276 σ s H locs → lv_has ls 4 [(0, .ref (eA E v0)), (1, vI v1)] → mGo l p e 1 21 s m args below meth c E (some (vI out.1)) out.2 H locs (F0 m 15 ls [vI t0]) := by
  intro t0 σ H locs ls hm hM hl
  unfold mX1_isWithin_B15 at hm
  refine r_istore_n (np := 16) G hl rfl [(2, vI t0), (0, .ref (eA E v0)), (1, vI v1)] dX1_isWithin_15 rfl rfl (by decide) rfl (fun ls hl => ?_)
  refine r_iconst (np := 17) G 0 dX1_isWithin_16 rfl ?_
  refine r_istore_n (np := 18) G hl rfl [(3, vI 0), (2, vI t0), (0, .ref (eA E v0)), (1, vI v1)] dX1_isWithin_17 rfl rfl (by decide) rfl (fun ls hl => ?_)
  exact wX1_isWithin_L18 l E out G hr hk v0 v1 g0 (fun z2 zσ => mX1_isWithin_B54 v0 v1 z2 zσ) (fun z2 zσ zH zl zs zm zM zv => wX1_isWithin_B54 l E out G hr hk v0 v1 g0 z2 zσ zH zl zs zm zM zv) mF t0 0 _ _ _ _ hm hM (lv_sub hl [2, 3, 1, 0] rfl)
set_option maxRecDepth 100000 in
set_option maxHeartbeats 4000000 in
theorem qX1_isWithin (l : Launch) (E : mE) (σ : mSt) (v0 : Nat) (v1 : Int) (out : Int × mSt) (hm : mX1_isWithin v0 v1 σ = some out) : mMet l yX1_isWithin cX1_isWithin 4 (some .boolean) 1 21 E 276 [.ref (eA E v0), vI v1] σ (some (vI out.1)) out.2 := by
  unfold mX1_isWithin at hm
  obtain ⟨g0, hm⟩ := g_t hm
  refine m_entry (by decide +kernel) (Nat.le_of_ble_eq_true rfl) (fun p e s m args below meth c G hr hk hM ls hl => ?_)
  have G : CallFix p m c cX1_isWithin 4 s args mTs RX1 := G
  have hl : lv_has ls 4 [(0, .ref (eA E v0)), (1, vI v1)] := hl
  refine r_aload_n (np := 1) G hl 0 rfl dX1_isWithin_0 rfl rfl ?_
  refine r_getL (np := 4) G hM (shp_lt g0 (by decide)) g0 fdX1_1 lkX1_15 dX1_isWithin_1 rfl ?_
  refine r_iload_n (np := 5) G hl 1 rfl dX1_isWithin_4 rfl rfl ?_
  refine r_i2l (np := 6) G rfl dX1_isWithin_5 rfl ?_
  refine r_lcmp_gt (np := 10) (tgt := 14) G rfl rfl dX1_isWithin_6 dX1_isWithin_7 (by decide) rfl (fun h15 => ?_) (fun h15 => ?_)
  · have hm := b_t h15 hm
    refine r_iconst (np := 15) G 0 dX1_isWithin_14 rfl ?_
    exact wX1_isWithin_B15 l E out G hr hk v0 v1 g0 0 _ _ _ _ hm hM (lv_sub hl [0, 1] rfl)
  · have hm := b_f h15 hm
    refine r_iconst (np := 11) G 1 dX1_isWithin_10 rfl ?_
    refine r_goto (np := 15) G dX1_isWithin_11 (by decide) ?_
    exact wX1_isWithin_B15 l E out G hr hk v0 v1 g0 1 _ _ _ _ hm hM (lv_sub hl [0, 1] rfl)
theorem gX1_isWithin {v0 : Nat} {v1 : Int} {σ : mSt} {out : Int × mSt} (hm : mX1_isWithin v0 v1 σ = some out) : isC v0 1 := (g_t hm).1
set_option maxRecDepth 100000 in
set_option maxHeartbeats 4000000 in
theorem qX1_multiply (l : Launch) (E : mE) (σ : mSt) (v0 : Int) (v2 : Int) (v4 : Nat) (v5 : Nat) (v6 : Nat) (out : Int × mSt) (hm : mX1_multiply v0 v2 v4 v5 v6 σ = some out) : mMet l yX1_multiply cX1_multiply 7 none 0 0 E 276 [vL v0, vL v2, .ref (eA E v4), .ref (eA E v5), .ref (eA E v6)] σ none out.2 := by
  unfold mX1_multiply at hm
  refine m_entry (by decide +kernel) (Nat.le_of_ble_eq_true rfl) (fun p e s m args below meth c G hr hk hM ls hl => ?_)
  have G : CallFix p m c cX1_multiply 7 s args mTs RX1 := G
  have hl : lv_has ls 7 [(0, vL v0), (2, vL v2), (4, .ref (eA E v4)), (5, .ref (eA E v5)), (6, .ref (eA E v6))] := hl
  refine r_aload (np := 2) G hl 4 rfl dX1_multiply_0 rfl ?_
  refine r_iconst (np := 3) G 0 dX1_multiply_2 rfl ?_
  refine r_aload (np := 5) G hl 2 rfl dX1_multiply_3 rfl ?_
  refine r_iconst (np := 6) G 0 dX1_multiply_5 rfl ?_
  obtain ⟨g1, hm⟩ := g_t hm
  refine r_laload (np := 7) G hM g1 rfl dX1_multiply_6 rfl ?_
  refine r_aload (np := 9) G hl 3 rfl dX1_multiply_7 rfl ?_
  refine r_iconst (np := 10) G 0 dX1_multiply_9 rfl ?_
  obtain ⟨g2, hm⟩ := g_t hm
  refine r_laload (np := 11) G hM g2 rfl dX1_multiply_10 rfl ?_
  refine r_lmul (np := 12) G dX1_multiply_11 rfl ?_
  refine r_lload_n (np := 13) G hl 0 rfl dX1_multiply_12 rfl rfl ?_
  refine r_aload (np := 15) G hl 2 rfl dX1_multiply_13 rfl ?_
  refine r_iconst (np := 16) G 1 dX1_multiply_15 rfl ?_
  obtain ⟨g3, hm⟩ := g_t hm
  refine r_laload (np := 17) G hM g3 rfl dX1_multiply_16 rfl ?_
  refine r_lmul (np := 18) G dX1_multiply_17 rfl ?_
  refine r_aload (np := 20) G hl 3 rfl dX1_multiply_18 rfl ?_
  refine r_iconst (np := 21) G 1 dX1_multiply_20 rfl ?_
  obtain ⟨g4, hm⟩ := g_t hm
  refine r_laload (np := 22) G hM g4 rfl dX1_multiply_21 rfl ?_
  refine r_lmul (np := 23) G dX1_multiply_22 rfl ?_
  refine r_ladd (np := 24) G dX1_multiply_23 rfl ?_
  refine r_lload_n (np := 25) G hl 1 rfl dX1_multiply_24 rfl rfl ?_
  refine r_aload (np := 27) G hl 2 rfl dX1_multiply_25 rfl ?_
  refine r_iconst (np := 28) G 2 dX1_multiply_27 rfl ?_
  obtain ⟨g5, hm⟩ := g_t hm
  refine r_laload (np := 29) G hM g5 rfl dX1_multiply_28 rfl ?_
  refine r_lmul (np := 30) G dX1_multiply_29 rfl ?_
  refine r_aload (np := 32) G hl 3 rfl dX1_multiply_30 rfl ?_
  refine r_iconst (np := 33) G 2 dX1_multiply_32 rfl ?_
  obtain ⟨g6, hm⟩ := g_t hm
  refine r_laload (np := 34) G hM g6 rfl dX1_multiply_33 rfl ?_
  refine r_lmul (np := 35) G dX1_multiply_34 rfl ?_
  refine r_ladd (np := 36) G dX1_multiply_35 rfl ?_
  refine r_lload_n (np := 37) G hl 0 rfl dX1_multiply_36 rfl rfl ?_
  refine r_lload_n (np := 38) G hl 1 rfl dX1_multiply_37 rfl rfl ?_
  refine r_lmul (np := 39) G dX1_multiply_38 rfl ?_
  refine r_aload (np := 41) G hl 2 rfl dX1_multiply_39 rfl ?_
  refine r_iconst (np := 42) G 3 dX1_multiply_41 rfl ?_
  obtain ⟨g7, hm⟩ := g_t hm
  refine r_laload (np := 43) G hM g7 rfl dX1_multiply_42 rfl ?_
  refine r_lmul (np := 44) G dX1_multiply_43 rfl ?_
  refine r_aload (np := 46) G hl 3 rfl dX1_multiply_44 rfl ?_
  refine r_iconst (np := 47) G 3 dX1_multiply_46 rfl ?_
  obtain ⟨g8, hm⟩ := g_t hm
  refine r_laload (np := 48) G hM g8 rfl dX1_multiply_47 rfl ?_
  refine r_lmul (np := 49) G dX1_multiply_48 rfl ?_
  refine r_lsub (np := 50) G dX1_multiply_49 rfl ?_
  obtain ⟨g9, hm⟩ := g_t hm
  obtain ⟨s10, e11, hm⟩ := bnd_t hm
  refine r_lastore (np := 51) G hM g9 rfl s10 e11 dX1_multiply_50 rfl (fun H locs hM => ?_)
  refine r_aload (np := 53) G hl 4 rfl dX1_multiply_51 rfl ?_
  refine r_iconst (np := 54) G 1 dX1_multiply_53 rfl ?_
  refine r_aload (np := 56) G hl 2 rfl dX1_multiply_54 rfl ?_
  refine r_iconst (np := 57) G 0 dX1_multiply_56 rfl ?_
  refine r_laload (np := 58) G hM g1 rfl dX1_multiply_57 rfl ?_
  refine r_aload (np := 60) G hl 3 rfl dX1_multiply_58 rfl ?_
  refine r_iconst (np := 61) G 1 dX1_multiply_60 rfl ?_
  refine r_laload (np := 62) G hM g4 rfl dX1_multiply_61 rfl ?_
  refine r_lmul (np := 63) G dX1_multiply_62 rfl ?_
  refine r_aload (np := 65) G hl 2 rfl dX1_multiply_63 rfl ?_
  refine r_iconst (np := 66) G 1 dX1_multiply_65 rfl ?_
  refine r_laload (np := 67) G hM g3 rfl dX1_multiply_66 rfl ?_
  refine r_aload (np := 69) G hl 3 rfl dX1_multiply_67 rfl ?_
  refine r_iconst (np := 70) G 0 dX1_multiply_69 rfl ?_
  refine r_laload (np := 71) G hM g2 rfl dX1_multiply_70 rfl ?_
  refine r_lmul (np := 72) G dX1_multiply_71 rfl ?_
  refine r_ladd (np := 73) G dX1_multiply_72 rfl ?_
  refine r_lload_n (np := 74) G hl 1 rfl dX1_multiply_73 rfl rfl ?_
  refine r_aload (np := 76) G hl 2 rfl dX1_multiply_74 rfl ?_
  refine r_iconst (np := 77) G 3 dX1_multiply_76 rfl ?_
  refine r_laload (np := 78) G hM g7 rfl dX1_multiply_77 rfl ?_
  refine r_aload (np := 80) G hl 3 rfl dX1_multiply_78 rfl ?_
  refine r_iconst (np := 81) G 2 dX1_multiply_80 rfl ?_
  refine r_laload (np := 82) G hM g6 rfl dX1_multiply_81 rfl ?_
  refine r_lmul (np := 83) G dX1_multiply_82 rfl ?_
  refine r_aload (np := 85) G hl 2 rfl dX1_multiply_83 rfl ?_
  refine r_iconst (np := 86) G 2 dX1_multiply_85 rfl ?_
  refine r_laload (np := 87) G hM g5 rfl dX1_multiply_86 rfl ?_
  refine r_aload (np := 89) G hl 3 rfl dX1_multiply_87 rfl ?_
  refine r_iconst (np := 90) G 3 dX1_multiply_89 rfl ?_
  refine r_laload (np := 91) G hM g8 rfl dX1_multiply_90 rfl ?_
  refine r_lmul (np := 92) G dX1_multiply_91 rfl ?_
  refine r_lsub (np := 93) G dX1_multiply_92 rfl ?_
  refine r_lmul (np := 94) G dX1_multiply_93 rfl ?_
  refine r_ladd (np := 95) G dX1_multiply_94 rfl ?_
  obtain ⟨g12, hm⟩ := g_t hm
  obtain ⟨s13, e14, hm⟩ := bnd_t hm
  refine r_lastore (np := 96) G hM g12 rfl s13 e14 dX1_multiply_95 rfl (fun H locs hM => ?_)
  refine r_aload (np := 98) G hl 4 rfl dX1_multiply_96 rfl ?_
  refine r_iconst (np := 99) G 2 dX1_multiply_98 rfl ?_
  refine r_aload (np := 101) G hl 2 rfl dX1_multiply_99 rfl ?_
  refine r_iconst (np := 102) G 0 dX1_multiply_101 rfl ?_
  refine r_laload (np := 103) G hM g1 rfl dX1_multiply_102 rfl ?_
  refine r_aload (np := 105) G hl 3 rfl dX1_multiply_103 rfl ?_
  refine r_iconst (np := 106) G 2 dX1_multiply_105 rfl ?_
  refine r_laload (np := 107) G hM g6 rfl dX1_multiply_106 rfl ?_
  refine r_lmul (np := 108) G dX1_multiply_107 rfl ?_
  refine r_aload (np := 110) G hl 2 rfl dX1_multiply_108 rfl ?_
  refine r_iconst (np := 111) G 2 dX1_multiply_110 rfl ?_
  refine r_laload (np := 112) G hM g5 rfl dX1_multiply_111 rfl ?_
  refine r_aload (np := 114) G hl 3 rfl dX1_multiply_112 rfl ?_
  refine r_iconst (np := 115) G 0 dX1_multiply_114 rfl ?_
  refine r_laload (np := 116) G hM g2 rfl dX1_multiply_115 rfl ?_
  refine r_lmul (np := 117) G dX1_multiply_116 rfl ?_
  refine r_ladd (np := 118) G dX1_multiply_117 rfl ?_
  refine r_lload_n (np := 119) G hl 0 rfl dX1_multiply_118 rfl rfl ?_
  refine r_aload (np := 121) G hl 2 rfl dX1_multiply_119 rfl ?_
  refine r_iconst (np := 122) G 1 dX1_multiply_121 rfl ?_
  refine r_laload (np := 123) G hM g3 rfl dX1_multiply_122 rfl ?_
  refine r_aload (np := 125) G hl 3 rfl dX1_multiply_123 rfl ?_
  refine r_iconst (np := 126) G 3 dX1_multiply_125 rfl ?_
  refine r_laload (np := 127) G hM g8 rfl dX1_multiply_126 rfl ?_
  refine r_lmul (np := 128) G dX1_multiply_127 rfl ?_
  refine r_aload (np := 130) G hl 2 rfl dX1_multiply_128 rfl ?_
  refine r_iconst (np := 131) G 3 dX1_multiply_130 rfl ?_
  refine r_laload (np := 132) G hM g7 rfl dX1_multiply_131 rfl ?_
  refine r_aload (np := 134) G hl 3 rfl dX1_multiply_132 rfl ?_
  refine r_iconst (np := 135) G 1 dX1_multiply_134 rfl ?_
  refine r_laload (np := 136) G hM g4 rfl dX1_multiply_135 rfl ?_
  refine r_lmul (np := 137) G dX1_multiply_136 rfl ?_
  refine r_lsub (np := 138) G dX1_multiply_137 rfl ?_
  refine r_lmul (np := 139) G dX1_multiply_138 rfl ?_
  refine r_ladd (np := 140) G dX1_multiply_139 rfl ?_
  obtain ⟨g15, hm⟩ := g_t hm
  obtain ⟨s16, e17, hm⟩ := bnd_t hm
  refine r_lastore (np := 141) G hM g15 rfl s16 e17 dX1_multiply_140 rfl (fun H locs hM => ?_)
  refine r_aload (np := 143) G hl 4 rfl dX1_multiply_141 rfl ?_
  refine r_iconst (np := 144) G 3 dX1_multiply_143 rfl ?_
  refine r_aload (np := 146) G hl 2 rfl dX1_multiply_144 rfl ?_
  refine r_iconst (np := 147) G 0 dX1_multiply_146 rfl ?_
  refine r_laload (np := 148) G hM g1 rfl dX1_multiply_147 rfl ?_
  refine r_aload (np := 150) G hl 3 rfl dX1_multiply_148 rfl ?_
  refine r_iconst (np := 151) G 3 dX1_multiply_150 rfl ?_
  refine r_laload (np := 152) G hM g8 rfl dX1_multiply_151 rfl ?_
  refine r_lmul (np := 153) G dX1_multiply_152 rfl ?_
  refine r_aload (np := 155) G hl 2 rfl dX1_multiply_153 rfl ?_
  refine r_iconst (np := 156) G 3 dX1_multiply_155 rfl ?_
  refine r_laload (np := 157) G hM g7 rfl dX1_multiply_156 rfl ?_
  refine r_aload (np := 159) G hl 3 rfl dX1_multiply_157 rfl ?_
  refine r_iconst (np := 160) G 0 dX1_multiply_159 rfl ?_
  refine r_laload (np := 161) G hM g2 rfl dX1_multiply_160 rfl ?_
  refine r_lmul (np := 162) G dX1_multiply_161 rfl ?_
  refine r_ladd (np := 163) G dX1_multiply_162 rfl ?_
  refine r_aload (np := 165) G hl 2 rfl dX1_multiply_163 rfl ?_
  refine r_iconst (np := 166) G 1 dX1_multiply_165 rfl ?_
  refine r_laload (np := 167) G hM g3 rfl dX1_multiply_166 rfl ?_
  refine r_aload (np := 169) G hl 3 rfl dX1_multiply_167 rfl ?_
  refine r_iconst (np := 170) G 2 dX1_multiply_169 rfl ?_
  refine r_laload (np := 171) G hM g6 rfl dX1_multiply_170 rfl ?_
  refine r_lmul (np := 172) G dX1_multiply_171 rfl ?_
  refine r_ladd (np := 173) G dX1_multiply_172 rfl ?_
  refine r_aload (np := 175) G hl 2 rfl dX1_multiply_173 rfl ?_
  refine r_iconst (np := 176) G 2 dX1_multiply_175 rfl ?_
  refine r_laload (np := 177) G hM g5 rfl dX1_multiply_176 rfl ?_
  refine r_aload (np := 179) G hl 3 rfl dX1_multiply_177 rfl ?_
  refine r_iconst (np := 180) G 1 dX1_multiply_179 rfl ?_
  refine r_laload (np := 181) G hM g4 rfl dX1_multiply_180 rfl ?_
  refine r_lmul (np := 182) G dX1_multiply_181 rfl ?_
  refine r_lsub (np := 183) G dX1_multiply_182 rfl ?_
  obtain ⟨g18, hm⟩ := g_t hm
  obtain ⟨s19, e20, hm⟩ := bnd_t hm
  refine r_lastore (np := 184) G hM g18 rfl s19 e20 dX1_multiply_183 rfl (fun H locs hM => ?_)
  exact r_vret G hr hk hM hm dX1_multiply_184
set_option maxRecDepth 100000 in
set_option maxHeartbeats 4000000 in
theorem wX1_reflect_B34 (l : Launch) (E : mE) (out : Int × mSt) {p : Program} {e : Env} {s : State} {m : MethodId} {args : Array Value} {below : List Frame} {meth : Method} {c : Code} (G : CallFix p m c cX1_reflect 5 s args mTs RX1) (hr : meth.sig.returnType = none) (hk : meth.locks = false) (v0 : Nat) (v1 : Int) (v3 : Nat) : ∀ (σ : mSt) (H : Heap) (locs : List Loc) (ls : Array Slot), mX1_reflect_B34 v0 v1 v3 σ = some out → mM (mA E 276) E 276 σ s H locs → lv_has ls 5 [] → mGo l p e 0 0 s m args below meth c E none out.2 H locs (F0 m 34 ls []) := by
  intro σ H locs ls hm hM hl
  unfold mX1_reflect_B34 at hm
  exact r_vret G hr hk hM hm dX1_reflect_34
set_option maxRecDepth 100000 in
set_option maxHeartbeats 4000000 in
theorem wX1_reflect_L11 (l : Launch) (E : mE) (out : Int × mSt) {p : Program} {e : Env} {s : State} {m : MethodId} {args : Array Value} {below : List Frame} {meth : Method} {c : Code} (G : CallFix p m c cX1_reflect 5 s args mTs RX1) (hr : meth.sig.returnType = none) (hk : meth.locks = false) (v0 : Nat) (v1 : Int) (v3 : Nat) (x34 : mSt → Option (Int × mSt)) (hx34 : ∀ (σ : mSt) (H : Heap) (locs : List Loc) (ls : Array Slot), x34 σ = some out → mM (mA E 276) E 276 σ s H locs → lv_has ls 5 [] → mGo l p e 0 0 s m args below meth c E none out.2 H locs (F0 m 34 ls [])) : ∀ (n : Nat) (v4 : Int) (σ : mSt) (H : Heap) (locs : List Loc) (ls : Array Slot), mX1_reflect_L11 v0 v1 v3 x34 n v4 σ = some out → mM (mA E 276) E 276 σ s H locs → lv_has ls 5 [(0, .ref (eA E v0)), (1, vL v1), (3, .ref (eA E v3)), (4, vI v4)] → mGo l p e 0 0 s m args below meth c E none out.2 H locs (F0 m 11 ls []) := by
  intro n
  induction n with
  | zero =>
    intro v4 σ H locs ls hm hM hl
    exact absurd hm (by rw [mX1_reflect_L11.eq_1]; exact fun h => nomatch h)
  | succ n ih =>
    intro v4 σ H locs ls hm hM hl
    rw [mX1_reflect_L11.eq_2] at hm
    refine r_iload (np := 13) G hl 3 rfl dX1_reflect_11 rfl ?_
    refine r_iconst (np := 14) G 4 dX1_reflect_13 rfl ?_
    refine r_icmp_ge (np := 17) (tgt := 34) G rfl (wIk 4 rfl) dX1_reflect_14 (by decide) rfl (fun h1 => ?_) (fun h1 => ?_)
    · have hm := b_t h1 hm
      exact hx34 _ _ _ _ hm hM (lv_sub hl [] rfl)
    · have hm := b_f h1 hm
      refine r_aload_n (np := 18) G hl 2 rfl dX1_reflect_17 rfl rfl ?_
      refine r_iload (np := 20) G hl 3 rfl dX1_reflect_18 rfl ?_
      refine r_aload_n (np := 21) G hl 0 rfl dX1_reflect_20 rfl rfl ?_
      refine r_iload (np := 23) G hl 3 rfl dX1_reflect_21 rfl ?_
      obtain ⟨g2, hm⟩ := g_t hm
      refine r_laload (np := 24) G hM g2 rfl dX1_reflect_23 rfl ?_
      refine r_lneg (np := 25) G dX1_reflect_24 rfl ?_
      refine r_lload_n (np := 26) G hl 1 rfl dX1_reflect_25 rfl rfl ?_
      refine r_lmul (np := 27) G dX1_reflect_26 rfl ?_
      obtain ⟨g3, hm⟩ := g_t hm
      obtain ⟨s4, e5, hm⟩ := bnd_t hm
      refine r_lastore (np := 28) G hM g3 rfl s4 e5 dX1_reflect_27 rfl (fun H locs hM => ?_)
      obtain ⟨a6, e7, hm⟩ := bnd_t hm
      refine r_iinc (np := 31) G hl 3 rfl e7 [(4, vI a6), (0, .ref (eA E v0)), (1, vL v1), (3, .ref (eA E v3))] dX1_reflect_28 rfl (by decide) rfl (fun ls hl => ?_)
      refine r_goto (np := 11) G dX1_reflect_31 (by decide) ?_
      exact ih a6 _ _ _ _ hm hM (lv_sub hl [1, 2, 3, 0] rfl)
set_option maxRecDepth 100000 in
set_option maxHeartbeats 4000000 in
theorem qX1_reflect (l : Launch) (E : mE) (σ : mSt) (v0 : Nat) (v1 : Int) (v3 : Nat) (out : Int × mSt) (hm : mX1_reflect v0 v1 v3 σ = some out) : mMet l yX1_reflect cX1_reflect 5 none 0 0 E 276 [.ref (eA E v0), vL v1, .ref (eA E v3)] σ none out.2 := by
  unfold mX1_reflect at hm
  refine m_entry (by decide +kernel) (Nat.le_of_ble_eq_true rfl) (fun p e s m args below meth c G hr hk hM ls hl => ?_)
  have G : CallFix p m c cX1_reflect 5 s args mTs RX1 := G
  have hl : lv_has ls 5 [(0, .ref (eA E v0)), (1, vL v1), (3, .ref (eA E v3))] := hl
  refine r_aload_n (np := 1) G hl 2 rfl dX1_reflect_0 rfl rfl ?_
  refine r_iconst (np := 2) G 0 dX1_reflect_1 rfl ?_
  refine r_aload_n (np := 3) G hl 0 rfl dX1_reflect_2 rfl rfl ?_
  refine r_iconst (np := 4) G 0 dX1_reflect_3 rfl ?_
  obtain ⟨g8, hm⟩ := g_t hm
  refine r_laload (np := 5) G hM g8 rfl dX1_reflect_4 rfl ?_
  refine r_lload_n (np := 6) G hl 1 rfl dX1_reflect_5 rfl rfl ?_
  refine r_lmul (np := 7) G dX1_reflect_6 rfl ?_
  obtain ⟨g9, hm⟩ := g_t hm
  obtain ⟨s10, e11, hm⟩ := bnd_t hm
  refine r_lastore (np := 8) G hM g9 rfl s10 e11 dX1_reflect_7 rfl (fun H locs hM => ?_)
  refine r_iconst (np := 9) G 1 dX1_reflect_8 rfl ?_
  refine r_istore (np := 11) G hl rfl [(4, vI 1), (0, .ref (eA E v0)), (1, vL v1), (3, .ref (eA E v3))] dX1_reflect_9 rfl (by decide) rfl (fun ls hl => ?_)
  exact wX1_reflect_L11 l E out G hr hk v0 v1 v3 (fun zσ => mX1_reflect_B34 v0 v1 v3 zσ) (fun zσ zH zl zs zm zM zv => wX1_reflect_B34 l E out G hr hk v0 v1 v3 zσ zH zl zs zm zM zv) mF 1 _ _ _ _ hm hM (lv_sub hl [1, 2, 3, 0] rfl)
set_option maxRecDepth 100000 in
set_option maxHeartbeats 4000000 in
theorem qX1_form (l : Launch) (E : mE) (σ : mSt) (v0 : Int) (v2 : Int) (v4 : Nat) (out : Int × mSt) (hm : mX1_form v0 v2 v4 σ = some out) : mMet l yX1_form cX1_form 5 (some .long) 0 0 E 276 [vL v0, vL v2, .ref (eA E v4)] σ (some (vL out.1)) out.2 := by
  unfold mX1_form at hm
  refine m_entry (by decide +kernel) (Nat.le_of_ble_eq_true rfl) (fun p e s m args below meth c G hr hk hM ls hl => ?_)
  have G : CallFix p m c cX1_form 5 s args mTs RX1 := G
  have hl : lv_has ls 5 [(0, vL v0), (2, vL v2), (4, .ref (eA E v4))] := hl
  refine r_aload (np := 2) G hl 2 rfl dX1_form_0 rfl ?_
  refine r_iconst (np := 3) G 0 dX1_form_2 rfl ?_
  obtain ⟨g1, hm⟩ := g_t hm
  refine r_laload (np := 4) G hM g1 rfl dX1_form_3 rfl ?_
  refine r_aload (np := 6) G hl 2 rfl dX1_form_4 rfl ?_
  refine r_iconst (np := 7) G 0 dX1_form_6 rfl ?_
  refine r_laload (np := 8) G hM g1 rfl dX1_form_7 rfl ?_
  refine r_lmul (np := 9) G dX1_form_8 rfl ?_
  refine r_lload_n (np := 10) G hl 0 rfl dX1_form_9 rfl rfl ?_
  refine r_aload (np := 12) G hl 2 rfl dX1_form_10 rfl ?_
  refine r_iconst (np := 13) G 1 dX1_form_12 rfl ?_
  obtain ⟨g2, hm⟩ := g_t hm
  refine r_laload (np := 14) G hM g2 rfl dX1_form_13 rfl ?_
  refine r_lmul (np := 15) G dX1_form_14 rfl ?_
  refine r_aload (np := 17) G hl 2 rfl dX1_form_15 rfl ?_
  refine r_iconst (np := 18) G 1 dX1_form_17 rfl ?_
  refine r_laload (np := 19) G hM g2 rfl dX1_form_18 rfl ?_
  refine r_lmul (np := 20) G dX1_form_19 rfl ?_
  refine r_lsub (np := 21) G dX1_form_20 rfl ?_
  refine r_lload_n (np := 22) G hl 1 rfl dX1_form_21 rfl rfl ?_
  refine r_aload (np := 24) G hl 2 rfl dX1_form_22 rfl ?_
  refine r_iconst (np := 25) G 2 dX1_form_24 rfl ?_
  obtain ⟨g3, hm⟩ := g_t hm
  refine r_laload (np := 26) G hM g3 rfl dX1_form_25 rfl ?_
  refine r_lmul (np := 27) G dX1_form_26 rfl ?_
  refine r_aload (np := 29) G hl 2 rfl dX1_form_27 rfl ?_
  refine r_iconst (np := 30) G 2 dX1_form_29 rfl ?_
  refine r_laload (np := 31) G hM g3 rfl dX1_form_30 rfl ?_
  refine r_lmul (np := 32) G dX1_form_31 rfl ?_
  refine r_lsub (np := 33) G dX1_form_32 rfl ?_
  refine r_lload_n (np := 34) G hl 0 rfl dX1_form_33 rfl rfl ?_
  refine r_lload_n (np := 35) G hl 1 rfl dX1_form_34 rfl rfl ?_
  refine r_lmul (np := 36) G dX1_form_35 rfl ?_
  refine r_aload (np := 38) G hl 2 rfl dX1_form_36 rfl ?_
  refine r_iconst (np := 39) G 3 dX1_form_38 rfl ?_
  obtain ⟨g4, hm⟩ := g_t hm
  refine r_laload (np := 40) G hM g4 rfl dX1_form_39 rfl ?_
  refine r_lmul (np := 41) G dX1_form_40 rfl ?_
  refine r_aload (np := 43) G hl 2 rfl dX1_form_41 rfl ?_
  refine r_iconst (np := 44) G 3 dX1_form_43 rfl ?_
  refine r_laload (np := 45) G hM g4 rfl dX1_form_44 rfl ?_
  refine r_lmul (np := 46) G dX1_form_45 rfl ?_
  refine r_ladd (np := 47) G dX1_form_46 rfl ?_
  exact r_lret G hr hk hM hm dX1_form_47
set_option maxRecDepth 100000 in
set_option maxHeartbeats 4000000 in
theorem qX1_pairing (l : Launch) (E : mE) (σ : mSt) (v0 : Int) (v2 : Int) (v4 : Nat) (v5 : Nat) (out : Int × mSt) (hm : mX1_pairing v0 v2 v4 v5 σ = some out) : mMet l yX1_pairing cX1_pairing 6 (some .long) 0 0 E 276 [vL v0, vL v2, .ref (eA E v4), .ref (eA E v5)] σ (some (vL out.1)) out.2 := by
  unfold mX1_pairing at hm
  refine m_entry (by decide +kernel) (Nat.le_of_ble_eq_true rfl) (fun p e s m args below meth c G hr hk hM ls hl => ?_)
  have G : CallFix p m c cX1_pairing 6 s args mTs RX1 := G
  have hl : lv_has ls 6 [(0, vL v0), (2, vL v2), (4, .ref (eA E v4)), (5, .ref (eA E v5))] := hl
  refine r_ldc2 (np := 3) G 2 dX1_pairing_0 lkX1_40 rfl rfl ?_
  refine r_aload (np := 5) G hl 2 rfl dX1_pairing_3 rfl ?_
  refine r_iconst (np := 6) G 0 dX1_pairing_5 rfl ?_
  obtain ⟨g1, hm⟩ := g_t hm
  refine r_laload (np := 7) G hM g1 rfl dX1_pairing_6 rfl ?_
  refine r_aload (np := 9) G hl 3 rfl dX1_pairing_7 rfl ?_
  refine r_iconst (np := 10) G 0 dX1_pairing_9 rfl ?_
  obtain ⟨g2, hm⟩ := g_t hm
  refine r_laload (np := 11) G hM g2 rfl dX1_pairing_10 rfl ?_
  refine r_lmul (np := 12) G dX1_pairing_11 rfl ?_
  refine r_lload_n (np := 13) G hl 0 rfl dX1_pairing_12 rfl rfl ?_
  refine r_aload (np := 15) G hl 2 rfl dX1_pairing_13 rfl ?_
  refine r_iconst (np := 16) G 1 dX1_pairing_15 rfl ?_
  obtain ⟨g3, hm⟩ := g_t hm
  refine r_laload (np := 17) G hM g3 rfl dX1_pairing_16 rfl ?_
  refine r_lmul (np := 18) G dX1_pairing_17 rfl ?_
  refine r_aload (np := 20) G hl 3 rfl dX1_pairing_18 rfl ?_
  refine r_iconst (np := 21) G 1 dX1_pairing_20 rfl ?_
  obtain ⟨g4, hm⟩ := g_t hm
  refine r_laload (np := 22) G hM g4 rfl dX1_pairing_21 rfl ?_
  refine r_lmul (np := 23) G dX1_pairing_22 rfl ?_
  refine r_lsub (np := 24) G dX1_pairing_23 rfl ?_
  refine r_lload_n (np := 25) G hl 1 rfl dX1_pairing_24 rfl rfl ?_
  refine r_aload (np := 27) G hl 2 rfl dX1_pairing_25 rfl ?_
  refine r_iconst (np := 28) G 2 dX1_pairing_27 rfl ?_
  obtain ⟨g5, hm⟩ := g_t hm
  refine r_laload (np := 29) G hM g5 rfl dX1_pairing_28 rfl ?_
  refine r_lmul (np := 30) G dX1_pairing_29 rfl ?_
  refine r_aload (np := 32) G hl 3 rfl dX1_pairing_30 rfl ?_
  refine r_iconst (np := 33) G 2 dX1_pairing_32 rfl ?_
  obtain ⟨g6, hm⟩ := g_t hm
  refine r_laload (np := 34) G hM g6 rfl dX1_pairing_33 rfl ?_
  refine r_lmul (np := 35) G dX1_pairing_34 rfl ?_
  refine r_lsub (np := 36) G dX1_pairing_35 rfl ?_
  refine r_lload_n (np := 37) G hl 0 rfl dX1_pairing_36 rfl rfl ?_
  refine r_lload_n (np := 38) G hl 1 rfl dX1_pairing_37 rfl rfl ?_
  refine r_lmul (np := 39) G dX1_pairing_38 rfl ?_
  refine r_aload (np := 41) G hl 2 rfl dX1_pairing_39 rfl ?_
  refine r_iconst (np := 42) G 3 dX1_pairing_41 rfl ?_
  obtain ⟨g7, hm⟩ := g_t hm
  refine r_laload (np := 43) G hM g7 rfl dX1_pairing_42 rfl ?_
  refine r_lmul (np := 44) G dX1_pairing_43 rfl ?_
  refine r_aload (np := 46) G hl 3 rfl dX1_pairing_44 rfl ?_
  refine r_iconst (np := 47) G 3 dX1_pairing_46 rfl ?_
  obtain ⟨g8, hm⟩ := g_t hm
  refine r_laload (np := 48) G hM g8 rfl dX1_pairing_47 rfl ?_
  refine r_lmul (np := 49) G dX1_pairing_48 rfl ?_
  refine r_ladd (np := 50) G dX1_pairing_49 rfl ?_
  refine r_lmul (np := 51) G dX1_pairing_50 rfl ?_
  exact r_lret G hr hk hM hm dX1_pairing_51
set_option maxRecDepth 100000 in
set_option maxHeartbeats 4000000 in
theorem qX3_modulus (l : Launch) (E : mE) (σ : mSt) (v0 : Nat) (out : Int × mSt) (hm : mX3_modulus v0 σ = some out) : mMet l yX3_modulus cX3_modulus 1 (some .long) 0 0 E 276 [.ref (eA E v0)] σ (some (vL out.1)) out.2 := by
  unfold mX3_modulus at hm
  obtain ⟨g0, hm⟩ := g_t hm
  refine m_entry (by decide +kernel) (Nat.le_of_ble_eq_true rfl) (fun p e s m args below meth c G hr hk hM ls hl => ?_)
  have G : CallFix p m c cX3_modulus 1 s args mTs RX3 := G
  have hl : lv_has ls 1 [(0, .ref (eA E v0))] := hl
  refine r_aload_n (np := 1) G hl 0 rfl dX3_modulus_0 rfl rfl ?_
  refine r_getL (np := 4) G hM (shp_lt g0 (by decide)) g0 fdX3_2 lkX3_18 dX3_modulus_1 rfl ?_
  exact r_lret G hr hk hM hm dX3_modulus_4
theorem gX3_modulus {v0 : Nat} {σ : mSt} {out : Int × mSt} (hm : mX3_modulus v0 σ = some out) : isC v0 3 := (g_t hm).1
set_option maxRecDepth 100000 in
set_option maxHeartbeats 4000000 in
theorem qX6_below (l : Launch) (E : mE) (σ : mSt) (v0 : Nat) (out : Int × mSt) (hm : mX6_below v0 σ = some out) : mMet l yX6_below cX6_below 1 (some .long) 1 20 E 276 [.ref (eA E v0)] σ (some (vL out.1)) out.2 := by
  unfold mX6_below at hm
  obtain ⟨g0, hm⟩ := g_t hm
  refine m_entry (by decide +kernel) (Nat.le_of_ble_eq_true rfl) (fun p e s m args below meth c G hr hk hM ls hl => ?_)
  have G : CallFix p m c cX6_below 1 s args mTs RX6 := G
  have hl : lv_has ls 1 [(0, .ref (eA E v0))] := hl
  refine r_aload_n (np := 1) G hl 0 rfl dX6_below_0 rfl rfl ?_
  obtain ⟨r1, e2, hm⟩ := ref_t hm
  refine r_getR (np := 4) G hM (shp_lt g0 (by decide)) g0 e2 fdX6_2 lkX6_19 dX6_below_1 rfl ?_
  obtain ⟨b3, s4, e5, hm⟩ := call_t hm
  refine m_callVL (np := 7) G hM hl.1 [] (qX3_modulus l E σ r1 _ e5) myX3_modulus (shp_lt (gX3_modulus e5) (by decide)) (gX3_modulus e5) rfl (by decide) lkX6_31 ⟨Nat.le_of_ble_eq_true rfl, Nat.le_of_ble_eq_true rfl⟩ ⟨Nat.le_of_ble_eq_true rfl, Nat.le_of_ble_eq_true rfl⟩ [] rfl (Nat.le_of_ble_eq_true rfl) dX6_below_4 rfl (fun H locs hM => ?_)
  exact r_lret G hr hk hM hm dX6_below_7
theorem gX6_below {v0 : Nat} {σ : mSt} {out : Int × mSt} (hm : mX6_below v0 σ = some out) : isC v0 5 := (g_t hm).1
set_option maxRecDepth 100000 in
set_option maxHeartbeats 4000000 in
theorem qX3_numbersOf (l : Launch) (E : mE) (σ : mSt) (v0 : Nat) (v1 : Int) (out : Int × mSt) (hm : mX3_numbersOf v0 v1 σ = some out) : mMet l yX3_numbersOf cX3_numbersOf 2 (some (.array .long)) 0 0 E 276 [.ref (eA E v0), vI v1] σ (some (.ref (eA E out.1.toNat))) out.2 := by
  unfold mX3_numbersOf at hm
  obtain ⟨g0, hm⟩ := g_t hm
  refine m_entry (by decide +kernel) (Nat.le_of_ble_eq_true rfl) (fun p e s m args below meth c G hr hk hM ls hl => ?_)
  have G : CallFix p m c cX3_numbersOf 2 s args mTs RX3 := G
  have hl : lv_has ls 2 [(0, .ref (eA E v0)), (1, vI v1)] := hl
  refine r_aload_n (np := 1) G hl 0 rfl dX3_numbersOf_0 rfl rfl ?_
  obtain ⟨r1, e2, hm⟩ := ref_t hm
  refine r_getR (np := 4) G hM (shp_lt g0 (by decide)) g0 e2 fdX3_0 lkX3_9 dX3_numbersOf_1 rfl ?_
  refine r_iload_n (np := 5) G hl 1 rfl dX3_numbersOf_4 rfl rfl ?_
  obtain ⟨g3, hm⟩ := g_t hm
  obtain ⟨r4, e5, hm⟩ := ref_t hm
  refine r_aaload (np := 6) G hM (t := 7) g3 rfl ⟨by decide, by decide⟩ rfl rfl e5 dX3_numbersOf_5 rfl ?_
  exact r_aret G hr (Or.inr ⟨_, rfl⟩) hk hM hm dX3_numbersOf_6
theorem gX3_numbersOf {v0 : Nat} {v1 : Int} {σ : mSt} {out : Int × mSt} (hm : mX3_numbersOf v0 v1 σ = some out) : isC v0 3 := (g_t hm).1
set_option maxRecDepth 100000 in
set_option maxHeartbeats 4000000 in
theorem qX6_numbersOf (l : Launch) (E : mE) (σ : mSt) (v0 : Nat) (v1 : Int) (out : Int × mSt) (hm : mX6_numbersOf v0 v1 σ = some out) : mMet l yX6_numbersOf cX6_numbersOf 2 (some (.array .long)) 1 21 E 276 [.ref (eA E v0), vI v1] σ (some (.ref (eA E out.1.toNat))) out.2 := by
  unfold mX6_numbersOf at hm
  obtain ⟨g0, hm⟩ := g_t hm
  refine m_entry (by decide +kernel) (Nat.le_of_ble_eq_true rfl) (fun p e s m args below meth c G hr hk hM ls hl => ?_)
  have G : CallFix p m c cX6_numbersOf 2 s args mTs RX6 := G
  have hl : lv_has ls 2 [(0, .ref (eA E v0)), (1, vI v1)] := hl
  refine r_aload_n (np := 1) G hl 0 rfl dX6_numbersOf_0 rfl rfl ?_
  obtain ⟨r1, e2, hm⟩ := ref_t hm
  refine r_getR (np := 4) G hM (shp_lt g0 (by decide)) g0 e2 fdX6_2 lkX6_19 dX6_numbersOf_1 rfl ?_
  refine r_iload_n (np := 5) G hl 1 rfl dX6_numbersOf_4 rfl rfl ?_
  obtain ⟨b3, s4, e5, hm⟩ := call_t hm
  refine m_callVR (np := 8) G hM hl.1 [vI v1] (qX3_numbersOf l E σ r1 v1 _ e5) myX3_numbersOf (shp_lt (gX3_numbersOf e5) (by decide)) (gX3_numbersOf e5) rfl (by decide) lkX6_35 ⟨Nat.le_of_ble_eq_true rfl, Nat.le_of_ble_eq_true rfl⟩ ⟨Nat.le_of_ble_eq_true rfl, Nat.le_of_ble_eq_true rfl⟩ [] rfl (Nat.le_of_ble_eq_true rfl) dX6_numbersOf_5 rfl (fun H locs hM => ?_)
  exact r_aret G hr (Or.inr ⟨_, rfl⟩) hk hM hm dX6_numbersOf_8
theorem gX6_numbersOf {v0 : Nat} {v1 : Int} {σ : mSt} {out : Int × mSt} (hm : mX6_numbersOf v0 v1 σ = some out) : isC v0 5 := (g_t hm).1
set_option maxRecDepth 100000 in
set_option maxHeartbeats 4000000 in
theorem wX2_goesOn_B105 (l : Launch) (E : mE) (out : Int × mSt) {p : Program} {e : Env} {s : State} {m : MethodId} {args : Array Value} {below : List Frame} {meth : Method} {c : Code} (G : CallFix p m c cX2_goesOn 6 s args mTs RX2) (hr : meth.sig.returnType = (some .boolean)) (hk : meth.locks = false) (v0 : Nat) (v1 : Int) (v2 : Int) (g0 : isC v0 2) : ∀ (t0 : Int) (σ : mSt) (H : Heap) (locs : List Loc) (ls : Array Slot), mX2_goesOn_B105 v0 v1 v2 t0 σ = some out → mM (mA E 276) E 276 σ s H locs → lv_has ls 6 [(0, .ref (eA E v0)), (1, vI v1)] → mGo l p e 2 42 s m args below meth c E (some (vI out.1)) out.2 H locs (F0 m 105 ls [vL t0]) := by
  intro t0 σ H locs ls hm hM hl
  unfold mX2_goesOn_B105 at hm
  refine r_lstore (np := 107) G hl rfl [(4, vL t0), (0, .ref (eA E v0)), (1, vI v1)] dX2_goesOn_105 rfl (by decide) rfl (fun ls hl => ?_)
  refine r_aload_n (np := 108) G hl 1 rfl dX2_goesOn_107 rfl rfl ?_
  refine r_getL (np := 111) G hM (shp_lt g0 (by decide)) g0 fdX2_2 lkX2_20 dX2_goesOn_108 rfl ?_
  refine r_ldc2 (np := 114) G 2 dX2_goesOn_111 lkX2_84 rfl rfl ?_
  refine r_lload (np := 116) G hl 0 rfl dX2_goesOn_114 rfl ?_
  refine r_lmul (np := 117) G dX2_goesOn_116 rfl ?_
  refine r_aload_n (np := 118) G hl 1 rfl dX2_goesOn_117 rfl rfl ?_
  obtain ⟨r1, e2, hm⟩ := ref_t hm
  refine r_getR (np := 121) G hM (shp_lt g0 (by decide)) g0 e2 fdX2_5 lkX2_36 dX2_goesOn_118 rfl ?_
  refine r_iload_n (np := 122) G hl 2 rfl dX2_goesOn_121 rfl rfl ?_
  refine r_iconst (np := 123) G 1 dX2_goesOn_122 rfl ?_
  refine r_iadd (np := 124) G dX2_goesOn_123 rfl ?_
  obtain ⟨g3, hm⟩ := g_t hm
  obtain ⟨r4, e5, hm⟩ := ref_t hm
  refine r_aaload (np := 125) G hM (t := 7) g3 rfl ⟨by decide, by decide⟩ rfl rfl e5 dX2_goesOn_124 rfl ?_
  refine r_iload_n (np := 126) G hl 2 rfl dX2_goesOn_125 rfl rfl ?_
  obtain ⟨g6, hm⟩ := g_t hm
  refine r_laload (np := 127) G hM g6 rfl dX2_goesOn_126 rfl ?_
  refine r_lmul (np := 128) G dX2_goesOn_127 rfl ?_
  obtain ⟨b7, s8, e9, hm⟩ := call_t hm
  refine m_callSI (np := 131) G hM hl.1 [vL (σ v0 2), vL ((2 * t0) * (σ r4 (wI v1).toNat))] (qX5_divides l E σ (σ v0 2) ((2 * t0) * (σ r4 (wI v1).toNat)) _ e9) myX5_divides lkX2_86 ⟨Nat.le_of_ble_eq_true rfl, Nat.le_of_ble_eq_true rfl⟩ ⟨Nat.le_of_ble_eq_true rfl, Nat.le_of_ble_eq_true rfl⟩ [] rfl (Nat.le_of_ble_eq_true rfl) dX2_goesOn_128 rfl (fun H locs hM => ?_)
  obtain ⟨g10, hm⟩ := g_t hm
  exact r_zret G hr hk hM g10 hm dX2_goesOn_131
set_option maxRecDepth 100000 in
set_option maxHeartbeats 4000000 in
theorem wX2_goesOn_B52 (l : Launch) (E : mE) (out : Int × mSt) {p : Program} {e : Env} {s : State} {m : MethodId} {args : Array Value} {below : List Frame} {meth : Method} {c : Code} (G : CallFix p m c cX2_goesOn 6 s args mTs RX2) (hr : meth.sig.returnType = (some .boolean)) (hk : meth.locks = false) (v0 : Nat) (v1 : Int) (v2 : Int) (g0 : isC v0 2) : ∀ (σ : mSt) (H : Heap) (locs : List Loc) (ls : Array Slot), mX2_goesOn_B52 v0 v1 v2 σ = some out → mM (mA E 276) E 276 σ s H locs → lv_has ls 6 [(0, .ref (eA E v0)), (1, vI v1)] → mGo l p e 2 42 s m args below meth c E (some (vI out.1)) out.2 H locs (F0 m 52 ls []) := by
  intro σ H locs ls hm hM hl
  unfold mX2_goesOn_B52 at hm
  refine r_iload_n (np := 53) G hl 1 rfl dX2_goesOn_52 rfl rfl ?_
  refine r_if_ne (np := 56) (tgt := 60) G rfl dX2_goesOn_53 (by decide) rfl (fun h11 => ?_) (fun h11 => ?_)
  · have hm := b_f h11 hm
    refine r_iload_n (np := 61) G hl 1 rfl dX2_goesOn_60 rfl rfl ?_
    refine r_iconst (np := 62) G 1 dX2_goesOn_61 rfl ?_
    refine r_icmp_ne (np := 65) (tgt := 75) G rfl (wIk 1 rfl) dX2_goesOn_62 (by decide) rfl (fun h12 => ?_) (fun h12 => ?_)
    · have hm := b_f h12 hm
      refine r_iload_n (np := 76) G hl 1 rfl dX2_goesOn_75 rfl rfl ?_
      refine r_iconst (np := 77) G 2 dX2_goesOn_76 rfl ?_
      refine r_icmp_ne (np := 80) (tgt := 90) G rfl (wIk 2 rfl) dX2_goesOn_77 (by decide) rfl (fun h13 => ?_) (fun h13 => ?_)
      · have hm := b_f h13 hm
        refine r_aload_n (np := 91) G hl 0 rfl dX2_goesOn_90 rfl rfl ?_
        obtain ⟨r14, e15, hm⟩ := ref_t hm
        refine r_getR (np := 94) G hM (shp_lt g0 (by decide)) g0 e15 fdX2_0 lkX2_10 dX2_goesOn_91 rfl ?_
        obtain ⟨g16, hm⟩ := g_t hm
        refine r_getLN (np := 97) G hM (shp_lt g16 (by decide)) g16 fdX6_0 lkX2_78 dX2_goesOn_94 rfl ?_
        refine r_aload_n (np := 98) G hl 0 rfl dX2_goesOn_97 rfl rfl ?_
        obtain ⟨r17, e18, hm⟩ := ref_t hm
        refine r_getR (np := 101) G hM (shp_lt g0 (by decide)) g0 e18 fdX2_0 lkX2_10 dX2_goesOn_98 rfl ?_
        obtain ⟨g19, hm⟩ := g_t hm
        refine r_getLN (np := 104) G hM (shp_lt g19 (by decide)) g19 fdX6_1 lkX2_81 dX2_goesOn_101 rfl ?_
        refine r_lmul (np := 105) G dX2_goesOn_104 rfl ?_
        exact wX2_goesOn_B105 l E out G hr hk v0 v1 v2 g0 ((σ r14 0) * (σ r17 1)) _ _ _ _ hm hM (lv_sub hl [0, 1] rfl)
      · have hm := b_t h13 hm
        refine r_aload_n (np := 81) G hl 0 rfl dX2_goesOn_80 rfl rfl ?_
        obtain ⟨r20, e21, hm⟩ := ref_t hm
        refine r_getR (np := 84) G hM (shp_lt g0 (by decide)) g0 e21 fdX2_0 lkX2_10 dX2_goesOn_81 rfl ?_
        obtain ⟨g22, hm⟩ := g_t hm
        refine r_getLN (np := 87) G hM (shp_lt g22 (by decide)) g22 fdX6_1 lkX2_81 dX2_goesOn_84 rfl ?_
        refine r_goto (np := 105) G dX2_goesOn_87 (by decide) ?_
        exact wX2_goesOn_B105 l E out G hr hk v0 v1 v2 g0 (σ r20 1) _ _ _ _ hm hM (lv_sub hl [0, 1] rfl)
    · have hm := b_t h12 hm
      refine r_aload_n (np := 66) G hl 0 rfl dX2_goesOn_65 rfl rfl ?_
      obtain ⟨r23, e24, hm⟩ := ref_t hm
      refine r_getR (np := 69) G hM (shp_lt g0 (by decide)) g0 e24 fdX2_0 lkX2_10 dX2_goesOn_66 rfl ?_
      obtain ⟨g25, hm⟩ := g_t hm
      refine r_getLN (np := 72) G hM (shp_lt g25 (by decide)) g25 fdX6_0 lkX2_78 dX2_goesOn_69 rfl ?_
      refine r_goto (np := 105) G dX2_goesOn_72 (by decide) ?_
      exact wX2_goesOn_B105 l E out G hr hk v0 v1 v2 g0 (σ r23 0) _ _ _ _ hm hM (lv_sub hl [0, 1] rfl)
  · have hm := b_t h11 hm
    refine r_lconst (np := 57) G 1 dX2_goesOn_56 rfl rfl ?_
    refine r_goto (np := 105) G dX2_goesOn_57 (by decide) ?_
    exact wX2_goesOn_B105 l E out G hr hk v0 v1 v2 g0 1 _ _ _ _ hm hM (lv_sub hl [0, 1] rfl)
set_option maxRecDepth 100000 in
set_option maxHeartbeats 4000000 in
theorem wX2_goesOn_L12 (l : Launch) (E : mE) (out : Int × mSt) {p : Program} {e : Env} {s : State} {m : MethodId} {args : Array Value} {below : List Frame} {meth : Method} {c : Code} (G : CallFix p m c cX2_goesOn 6 s args mTs RX2) (hr : meth.sig.returnType = (some .boolean)) (hk : meth.locks = false) (v0 : Nat) (v1 : Int) (v2 : Int) (v3 : Nat) (g0 : isC v0 2) (x52 : mSt → Option (Int × mSt)) (hx52 : ∀ (σ : mSt) (H : Heap) (locs : List Loc) (ls : Array Slot), x52 σ = some out → mM (mA E 276) E 276 σ s H locs → lv_has ls 6 [(0, .ref (eA E v0)), (1, vI v1)] → mGo l p e 2 42 s m args below meth c E (some (vI out.1)) out.2 H locs (F0 m 52 ls [])) : ∀ (n : Nat) (v4 : Int) (σ : mSt) (H : Heap) (locs : List Loc) (ls : Array Slot), mX2_goesOn_L12 v0 v1 v2 v3 x52 n v4 σ = some out → mM (mA E 276) E 276 σ s H locs → lv_has ls 6 [(0, .ref (eA E v0)), (1, vI v1), (2, vI v2), (3, .ref (eA E v3)), (4, vI v4)] → mGo l p e 2 42 s m args below meth c E (some (vI out.1)) out.2 H locs (F0 m 12 ls []) := by
  intro n
  induction n with
  | zero =>
    intro v4 σ H locs ls hm hM hl
    exact absurd hm (by rw [mX2_goesOn_L12.eq_1]; exact fun h => nomatch h)
  | succ n ih =>
    intro v4 σ H locs ls hm hM hl
    rw [mX2_goesOn_L12.eq_2] at hm
    refine r_iload (np := 14) G hl 4 rfl dX2_goesOn_12 rfl ?_
    refine r_iconst (np := 15) G 4 dX2_goesOn_14 rfl ?_
    refine r_icmp_ge (np := 18) (tgt := 52) G rfl (wIk 4 rfl) dX2_goesOn_15 (by decide) rfl (fun h26 => ?_) (fun h26 => ?_)
    · have hm := b_t h26 hm
      exact hx52 _ _ _ _ hm hM (lv_sub hl [0, 1] rfl)
    · have hm := b_f h26 hm
      refine r_aload_n (np := 19) G hl 0 rfl dX2_goesOn_18 rfl rfl ?_
      obtain ⟨r27, e28, hm⟩ := ref_t hm
      refine r_getR (np := 22) G hM (shp_lt g0 (by decide)) g0 e28 fdX2_5 lkX2_36 dX2_goesOn_19 rfl ?_
      refine r_iload_n (np := 23) G hl 1 rfl dX2_goesOn_22 rfl rfl ?_
      refine r_iconst (np := 24) G 1 dX2_goesOn_23 rfl ?_
      refine r_iadd (np := 25) G dX2_goesOn_24 rfl ?_
      obtain ⟨g29, hm⟩ := g_t hm
      obtain ⟨r30, e31, hm⟩ := ref_t hm
      refine r_aaload (np := 26) G hM (t := 7) g29 rfl ⟨by decide, by decide⟩ rfl rfl e31 dX2_goesOn_25 rfl ?_
      refine r_iload (np := 28) G hl 4 rfl dX2_goesOn_26 rfl ?_
      refine r_aload_n (np := 29) G hl 0 rfl dX2_goesOn_28 rfl rfl ?_
      obtain ⟨r32, e33, hm⟩ := ref_t hm
      refine r_getR (np := 32) G hM (shp_lt g0 (by decide)) g0 e33 fdX2_5 lkX2_36 dX2_goesOn_29 rfl ?_
      refine r_iload_n (np := 33) G hl 1 rfl dX2_goesOn_32 rfl rfl ?_
      obtain ⟨g34, hm⟩ := g_t hm
      obtain ⟨r35, e36, hm⟩ := ref_t hm
      refine r_aaload (np := 34) G hM (t := 7) g34 rfl ⟨by decide, by decide⟩ rfl rfl e36 dX2_goesOn_33 rfl ?_
      refine r_iload (np := 36) G hl 4 rfl dX2_goesOn_34 rfl ?_
      obtain ⟨g37, hm⟩ := g_t hm
      refine r_laload (np := 37) G hM g37 rfl dX2_goesOn_36 rfl ?_
      refine r_iload_n (np := 38) G hl 2 rfl dX2_goesOn_37 rfl rfl ?_
      refine r_i2l (np := 39) G rfl dX2_goesOn_38 rfl ?_
      refine r_aload_n (np := 40) G hl 3 rfl dX2_goesOn_39 rfl rfl ?_
      refine r_iload (np := 42) G hl 4 rfl dX2_goesOn_40 rfl ?_
      obtain ⟨g38, hm⟩ := g_t hm
      refine r_laload (np := 43) G hM g38 rfl dX2_goesOn_42 rfl ?_
      refine r_lmul (np := 44) G dX2_goesOn_43 rfl ?_
      refine r_ladd (np := 45) G dX2_goesOn_44 rfl ?_
      obtain ⟨g39, hm⟩ := g_t hm
      obtain ⟨s40, e41, hm⟩ := bnd_t hm
      refine r_lastore (np := 46) G hM g39 rfl s40 e41 dX2_goesOn_45 rfl (fun H locs hM => ?_)
      obtain ⟨a42, e43, hm⟩ := bnd_t hm
      refine r_iinc (np := 49) G hl 4 rfl e43 [(4, vI a42), (0, .ref (eA E v0)), (1, vI v1), (2, vI v2), (3, .ref (eA E v3))] dX2_goesOn_46 rfl (by decide) rfl (fun ls hl => ?_)
      refine r_goto (np := 12) G dX2_goesOn_49 (by decide) ?_
      exact ih a42 _ _ _ _ hm hM (lv_sub hl [1, 2, 3, 4, 0] rfl)
set_option maxRecDepth 100000 in
set_option maxHeartbeats 4000000 in
theorem qX2_goesOn (l : Launch) (E : mE) (σ : mSt) (v0 : Nat) (v1 : Int) (v2 : Int) (out : Int × mSt) (hm : mX2_goesOn v0 v1 v2 σ = some out) : mMet l yX2_goesOn cX2_goesOn 6 (some .boolean) 2 42 E 276 [.ref (eA E v0), vI v1, vI v2] σ (some (vI out.1)) out.2 := by
  unfold mX2_goesOn at hm
  obtain ⟨g0, hm⟩ := g_t hm
  refine m_entry (by decide +kernel) (Nat.le_of_ble_eq_true rfl) (fun p e s m args below meth c G hr hk hM ls hl => ?_)
  have G : CallFix p m c cX2_goesOn 6 s args mTs RX2 := G
  have hl : lv_has ls 6 [(0, .ref (eA E v0)), (1, vI v1), (2, vI v2)] := hl
  refine r_aload_n (np := 1) G hl 0 rfl dX2_goesOn_0 rfl rfl ?_
  obtain ⟨r44, e45, hm⟩ := ref_t hm
  refine r_getR (np := 4) G hM (shp_lt g0 (by decide)) g0 e45 fdX2_0 lkX2_10 dX2_goesOn_1 rfl ?_
  refine r_iload_n (np := 5) G hl 1 rfl dX2_goesOn_4 rfl rfl ?_
  obtain ⟨b46, s47, e48, hm⟩ := call_t hm
  refine m_callVR (np := 8) G hM hl.1 [vI v1] (qX6_numbersOf l E σ r44 v1 _ e48) myX6_numbersOf (shp_lt (gX6_numbersOf e48) (by decide)) (gX6_numbersOf e48) rfl (by decide) lkX2_74 ⟨Nat.le_of_ble_eq_true rfl, Nat.le_of_ble_eq_true rfl⟩ ⟨Nat.le_of_ble_eq_true rfl, Nat.le_of_ble_eq_true rfl⟩ [] rfl (Nat.le_of_ble_eq_true rfl) dX2_goesOn_5 rfl (fun H locs hM => ?_)
  refine r_astore_n (np := 9) G hl rfl [(3, .ref (eA E b46.toNat)), (0, .ref (eA E v0)), (1, vI v1), (2, vI v2)] dX2_goesOn_8 rfl rfl (by decide) rfl (fun ls hl => ?_)
  refine r_iconst (np := 10) G 0 dX2_goesOn_9 rfl ?_
  refine r_istore (np := 12) G hl rfl [(4, vI 0), (3, .ref (eA E b46.toNat)), (0, .ref (eA E v0)), (1, vI v1), (2, vI v2)] dX2_goesOn_10 rfl (by decide) rfl (fun ls hl => ?_)
  exact wX2_goesOn_L12 l E out G hr hk v0 v1 v2 b46.toNat g0 (fun zσ => mX2_goesOn_B52 v0 v1 v2 zσ) (fun zσ zH zl zs zm zM zv => wX2_goesOn_B52 l E out G hr hk v0 v1 v2 g0 zσ zH zl zs zm zM zv) mF 0 _ _ _ _ hm hM (lv_sub hl [2, 3, 4, 1, 0] rfl)
theorem gX2_goesOn {v0 : Nat} {v1 : Int} {v2 : Int} {σ : mSt} {out : Int × mSt} (hm : mX2_goesOn v0 v1 v2 σ = some out) : isC v0 2 := (g_t hm).1
set_option maxRecDepth 100000 in
set_option maxHeartbeats 4000000 in
theorem wX3_copy_B62 (l : Launch) (E : mE) (out : Int × mSt) {p : Program} {e : Env} {s : State} {m : MethodId} {args : Array Value} {below : List Frame} {meth : Method} {c : Code} (G : CallFix p m c cX3_copy 6 s args mTs RX3) (hr : meth.sig.returnType = none) (hk : meth.locks = false) (v0 : Nat) (v1 : Nat) (v2 : Int) (g0 : isC v0 3) : ∀ (σ : mSt) (H : Heap) (locs : List Loc) (ls : Array Slot), mX3_copy_B62 v0 v1 v2 σ = some out → mM (mA E 276) E 276 σ s H locs → lv_has ls 6 [] → mGo l p e 0 0 s m args below meth c E none out.2 H locs (F0 m 62 ls []) := by
  intro σ H locs ls hm hM hl
  unfold mX3_copy_B62 at hm
  exact r_vret G hr hk hM hm dX3_copy_62
set_option maxRecDepth 100000 in
set_option maxHeartbeats 4000000 in
theorem wX3_copy_B56 (l : Launch) (E : mE) (out : Int × mSt) {p : Program} {e : Env} {s : State} {m : MethodId} {args : Array Value} {below : List Frame} {meth : Method} {c : Code} (G : CallFix p m c cX3_copy 6 s args mTs RX3) (hr : meth.sig.returnType = none) (hk : meth.locks = false) (v0 : Nat) (v1 : Nat) (v2 : Int) (g0 : isC v0 3) (c13 : Int → mSt → Option (Int × mSt)) (x62 : mSt → Option (Int × mSt)) (hc13 : ∀ (v4 : Int) (σ : mSt) (H : Heap) (locs : List Loc) (ls : Array Slot), c13 v4 σ = some out → mM (mA E 276) E 276 σ s H locs → lv_has ls 6 [(0, .ref (eA E v0)), (1, .ref (eA E v1)), (2, vL v2), (4, vI v4)] → mGo l p e 0 0 s m args below meth c E none out.2 H locs (F0 m 13 ls [])) (hx62 : ∀ (σ : mSt) (H : Heap) (locs : List Loc) (ls : Array Slot), x62 σ = some out → mM (mA E 276) E 276 σ s H locs → lv_has ls 6 [] → mGo l p e 0 0 s m args below meth c E none out.2 H locs (F0 m 62 ls [])) : ∀ (v4 : Int) (σ : mSt) (H : Heap) (locs : List Loc) (ls : Array Slot), mX3_copy_B56 v0 v1 v2 c13 x62 v4 σ = some out → mM (mA E 276) E 276 σ s H locs → lv_has ls 6 [(0, .ref (eA E v0)), (1, .ref (eA E v1)), (2, vL v2), (4, vI v4)] → mGo l p e 0 0 s m args below meth c E none out.2 H locs (F0 m 56 ls []) := by
  intro v4 σ H locs ls hm hM hl
  unfold mX3_copy_B56 at hm
  obtain ⟨a1, e2, hm⟩ := bnd_t hm
  refine r_iinc (np := 59) G hl 3 rfl e2 [(4, vI a1), (0, .ref (eA E v0)), (1, .ref (eA E v1)), (2, vL v2)] dX3_copy_56 rfl (by decide) rfl (fun ls hl => ?_)
  refine r_goto (np := 13) G dX3_copy_59 (by decide) ?_
  exact hc13 a1 _ _ _ _ hm hM (lv_sub hl [1, 2, 3, 0] rfl)
set_option maxRecDepth 100000 in
set_option maxHeartbeats 4000000 in
theorem wX3_copy_L22 (l : Launch) (E : mE) (out : Int × mSt) {p : Program} {e : Env} {s : State} {m : MethodId} {args : Array Value} {below : List Frame} {meth : Method} {c : Code} (G : CallFix p m c cX3_copy 6 s args mTs RX3) (hr : meth.sig.returnType = none) (hk : meth.locks = false) (v0 : Nat) (v1 : Nat) (v2 : Int) (v4 : Int) (g0 : isC v0 3) (x56 : mSt → Option (Int × mSt)) (hx56 : ∀ (σ : mSt) (H : Heap) (locs : List Loc) (ls : Array Slot), x56 σ = some out → mM (mA E 276) E 276 σ s H locs → lv_has ls 6 [(0, .ref (eA E v0)), (1, .ref (eA E v1)), (2, vL v2), (4, vI v4)] → mGo l p e 0 0 s m args below meth c E none out.2 H locs (F0 m 56 ls [])) : ∀ (n : Nat) (v5 : Int) (σ : mSt) (H : Heap) (locs : List Loc) (ls : Array Slot), mX3_copy_L22 v0 v1 v2 v4 x56 n v5 σ = some out → mM (mA E 276) E 276 σ s H locs → lv_has ls 6 [(0, .ref (eA E v0)), (1, .ref (eA E v1)), (2, vL v2), (4, vI v4), (5, vI v5)] → mGo l p e 0 0 s m args below meth c E none out.2 H locs (F0 m 22 ls []) := by
  intro n
  induction n with
  | zero =>
    intro v5 σ H locs ls hm hM hl
    exact absurd hm (by rw [mX3_copy_L22.eq_1]; exact fun h => nomatch h)
  | succ n ih =>
    intro v5 σ H locs ls hm hM hl
    rw [mX3_copy_L22.eq_2] at hm
    refine r_iload (np := 24) G hl 4 rfl dX3_copy_22 rfl ?_
    refine r_iconst (np := 25) G 4 dX3_copy_24 rfl ?_
    refine r_icmp_ge (np := 28) (tgt := 56) G rfl (wIk 4 rfl) dX3_copy_25 (by decide) rfl (fun h3 => ?_) (fun h3 => ?_)
    · have hm := b_t h3 hm
      exact hx56 _ _ _ _ hm hM (lv_sub hl [0, 1, 2, 3] rfl)
    · have hm := b_f h3 hm
      refine r_aload_n (np := 29) G hl 0 rfl dX3_copy_28 rfl rfl ?_
      obtain ⟨r4, e5, hm⟩ := ref_t hm
      refine r_getR (np := 32) G hM (shp_lt g0 (by decide)) g0 e5 fdX3_0 lkX3_9 dX3_copy_29 rfl ?_
      refine r_iload (np := 34) G hl 3 rfl dX3_copy_32 rfl ?_
      obtain ⟨g6, hm⟩ := g_t hm
      obtain ⟨r7, e8, hm⟩ := ref_t hm
      refine r_aaload (np := 35) G hM (t := 7) g6 rfl ⟨by decide, by decide⟩ rfl rfl e8 dX3_copy_34 rfl ?_
      refine r_iload (np := 37) G hl 4 rfl dX3_copy_35 rfl ?_
      refine r_aload_n (np := 38) G hl 1 rfl dX3_copy_37 rfl rfl ?_
      obtain ⟨g9, hm⟩ := g_t hm
      obtain ⟨r10, e11, hm⟩ := ref_t hm
      refine r_getR (np := 41) G hM (shp_lt g9 (by decide)) g9 e11 fdX3_0 lkX3_9 dX3_copy_38 rfl ?_
      refine r_iload (np := 43) G hl 3 rfl dX3_copy_41 rfl ?_
      obtain ⟨g12, hm⟩ := g_t hm
      obtain ⟨r13, e14, hm⟩ := ref_t hm
      refine r_aaload (np := 44) G hM (t := 7) g12 rfl ⟨by decide, by decide⟩ rfl rfl e14 dX3_copy_43 rfl ?_
      refine r_iload (np := 46) G hl 4 rfl dX3_copy_44 rfl ?_
      obtain ⟨g15, hm⟩ := g_t hm
      refine r_laload (np := 47) G hM g15 rfl dX3_copy_46 rfl ?_
      refine r_lload_n (np := 48) G hl 2 rfl dX3_copy_47 rfl rfl ?_
      refine r_lmul (np := 49) G dX3_copy_48 rfl ?_
      obtain ⟨g16, hm⟩ := g_t hm
      obtain ⟨s17, e18, hm⟩ := bnd_t hm
      refine r_lastore (np := 50) G hM g16 rfl s17 e18 dX3_copy_49 rfl (fun H locs hM => ?_)
      obtain ⟨a19, e20, hm⟩ := bnd_t hm
      refine r_iinc (np := 53) G hl 4 rfl e20 [(5, vI a19), (0, .ref (eA E v0)), (1, .ref (eA E v1)), (2, vL v2), (4, vI v4)] dX3_copy_50 rfl (by decide) rfl (fun ls hl => ?_)
      refine r_goto (np := 22) G dX3_copy_53 (by decide) ?_
      exact ih a19 _ _ _ _ hm hM (lv_sub hl [1, 2, 3, 4, 0] rfl)
set_option maxRecDepth 100000 in
set_option maxHeartbeats 4000000 in
theorem wX3_copy_L13 (l : Launch) (E : mE) (out : Int × mSt) {p : Program} {e : Env} {s : State} {m : MethodId} {args : Array Value} {below : List Frame} {meth : Method} {c : Code} (G : CallFix p m c cX3_copy 6 s args mTs RX3) (hr : meth.sig.returnType = none) (hk : meth.locks = false) (v0 : Nat) (v1 : Nat) (v2 : Int) (g0 : isC v0 3) (x62 : mSt → Option (Int × mSt)) (hx62 : ∀ (σ : mSt) (H : Heap) (locs : List Loc) (ls : Array Slot), x62 σ = some out → mM (mA E 276) E 276 σ s H locs → lv_has ls 6 [] → mGo l p e 0 0 s m args below meth c E none out.2 H locs (F0 m 62 ls [])) : ∀ (n : Nat) (v4 : Int) (σ : mSt) (H : Heap) (locs : List Loc) (ls : Array Slot), mX3_copy_L13 v0 v1 v2 x62 n v4 σ = some out → mM (mA E 276) E 276 σ s H locs → lv_has ls 6 [(0, .ref (eA E v0)), (1, .ref (eA E v1)), (2, vL v2), (4, vI v4)] → mGo l p e 0 0 s m args below meth c E none out.2 H locs (F0 m 13 ls []) := by
  intro n
  induction n with
  | zero =>
    intro v4 σ H locs ls hm hM hl
    exact absurd hm (by rw [mX3_copy_L13.eq_1]; exact fun h => nomatch h)
  | succ n ih =>
    intro v4 σ H locs ls hm hM hl
    rw [mX3_copy_L13.eq_2] at hm
    refine r_iload (np := 15) G hl 3 rfl dX3_copy_13 rfl ?_
    refine r_iconst (np := 16) G 4 dX3_copy_15 rfl ?_
    refine r_icmp_ge (np := 19) (tgt := 62) G rfl (wIk 4 rfl) dX3_copy_16 (by decide) rfl (fun h21 => ?_) (fun h21 => ?_)
    · have hm := b_t h21 hm
      exact hx62 _ _ _ _ hm hM (lv_sub hl [] rfl)
    · have hm := b_f h21 hm
      refine r_iconst (np := 20) G 0 dX3_copy_19 rfl ?_
      refine r_istore (np := 22) G hl rfl [(5, vI 0), (0, .ref (eA E v0)), (1, .ref (eA E v1)), (2, vL v2), (4, vI v4)] dX3_copy_20 rfl (by decide) rfl (fun ls hl => ?_)
      exact wX3_copy_L22 l E out G hr hk v0 v1 v2 v4 g0 (fun zσ => mX3_copy_B56 v0 v1 v2 (mX3_copy_L13 v0 v1 v2 x62 n) x62 v4 zσ) (fun zσ zH zl zs zm zM zv => wX3_copy_B56 l E out G hr hk v0 v1 v2 g0 (mX3_copy_L13 v0 v1 v2 x62 n) x62 ih hx62 v4 zσ zH zl zs zm zM zv) mF 0 _ _ _ _ hm hM (lv_sub hl [1, 2, 3, 4, 0] rfl)
set_option maxRecDepth 100000 in
set_option maxHeartbeats 4000000 in
theorem qX3_copy (l : Launch) (E : mE) (σ : mSt) (v0 : Nat) (v1 : Nat) (v2 : Int) (out : Int × mSt) (hm : mX3_copy v0 v1 v2 σ = some out) : mMet l yX3_copy cX3_copy 6 none 0 0 E 276 [.ref (eA E v0), .ref (eA E v1), vL v2] σ none out.2 := by
  unfold mX3_copy at hm
  obtain ⟨g0, hm⟩ := g_t hm
  refine m_entry (by decide +kernel) (Nat.le_of_ble_eq_true rfl) (fun p e s m args below meth c G hr hk hM ls hl => ?_)
  have G : CallFix p m c cX3_copy 6 s args mTs RX3 := G
  have hl : lv_has ls 6 [(0, .ref (eA E v0)), (1, .ref (eA E v1)), (2, vL v2)] := hl
  refine r_aload_n (np := 1) G hl 0 rfl dX3_copy_0 rfl rfl ?_
  refine r_aload_n (np := 2) G hl 1 rfl dX3_copy_1 rfl rfl ?_
  obtain ⟨g22, hm⟩ := g_t hm
  refine r_getL (np := 5) G hM (shp_lt g22 (by decide)) g22 fdX3_2 lkX3_18 dX3_copy_2 rfl ?_
  refine r_lload_n (np := 6) G hl 2 rfl dX3_copy_5 rfl rfl ?_
  refine r_lmul (np := 7) G dX3_copy_6 rfl ?_
  obtain ⟨s23, e24, hm⟩ := bnd_t hm
  refine r_putL (np := 10) G hM (shp_lt g0 (by decide)) g0 ptX3_2 rfl lkX3_18 s23 e24 dX3_copy_7 rfl (fun H locs hM => ?_)
  refine r_iconst (np := 11) G 0 dX3_copy_10 rfl ?_
  refine r_istore (np := 13) G hl rfl [(4, vI 0), (0, .ref (eA E v0)), (1, .ref (eA E v1)), (2, vL v2)] dX3_copy_11 rfl (by decide) rfl (fun ls hl => ?_)
  exact wX3_copy_L13 l E out G hr hk v0 v1 v2 g0 (fun zσ => mX3_copy_B62 v0 v1 v2 zσ) (fun zσ zH zl zs zm zM zv => wX3_copy_B62 l E out G hr hk v0 v1 v2 g0 zσ zH zl zs zm zM zv) mF 0 _ _ _ _ hm hM (lv_sub hl [1, 2, 3, 0] rfl)
theorem gX3_copy {v0 : Nat} {v1 : Nat} {v2 : Int} {σ : mSt} {out : Int × mSt} (hm : mX3_copy v0 v1 v2 σ = some out) : isC v0 3 := (g_t hm).1
set_option maxRecDepth 100000 in
set_option maxHeartbeats 4000000 in
theorem wX3_add_B159 (l : Launch) (E : mE) (out : Int × mSt) {p : Program} {e : Env} {s : State} {m : MethodId} {args : Array Value} {below : List Frame} {meth : Method} {c : Code} (G : CallFix p m c cX3_add 10 s args mTs RX3) (hr : meth.sig.returnType = none) (hk : meth.locks = false) (v0 : Nat) (v1 : Nat) (g0 : isC v0 3) : ∀ (σ : mSt) (H : Heap) (locs : List Loc) (ls : Array Slot), mX3_add_B159 v0 v1 σ = some out → mM (mA E 276) E 276 σ s H locs → lv_has ls 10 [] → mGo l p e 2 48 s m args below meth c E none out.2 H locs (F0 m 159 ls []) := by
  intro σ H locs ls hm hM hl
  unfold mX3_add_B159 at hm
  exact r_vret G hr hk hM hm dX3_add_159
set_option maxRecDepth 100000 in
set_option maxHeartbeats 4000000 in
theorem wX3_add_B153 (l : Launch) (E : mE) (out : Int × mSt) {p : Program} {e : Env} {s : State} {m : MethodId} {args : Array Value} {below : List Frame} {meth : Method} {c : Code} (G : CallFix p m c cX3_add 10 s args mTs RX3) (hr : meth.sig.returnType = none) (hk : meth.locks = false) (v0 : Nat) (v1 : Nat) (g0 : isC v0 3) (c31 : Int → mSt → Option (Int × mSt)) (x159 : mSt → Option (Int × mSt)) (hc31 : ∀ (v2 : Int) (σ : mSt) (H : Heap) (locs : List Loc) (ls : Array Slot), c31 v2 σ = some out → mM (mA E 276) E 276 σ s H locs → lv_has ls 10 [(0, .ref (eA E v0)), (2, vI v2)] → mGo l p e 2 48 s m args below meth c E none out.2 H locs (F0 m 31 ls [])) (hx159 : ∀ (σ : mSt) (H : Heap) (locs : List Loc) (ls : Array Slot), x159 σ = some out → mM (mA E 276) E 276 σ s H locs → lv_has ls 10 [] → mGo l p e 2 48 s m args below meth c E none out.2 H locs (F0 m 159 ls [])) : ∀ (v2 : Int) (σ : mSt) (H : Heap) (locs : List Loc) (ls : Array Slot), mX3_add_B153 v0 v1 c31 x159 v2 σ = some out → mM (mA E 276) E 276 σ s H locs → lv_has ls 10 [(0, .ref (eA E v0)), (2, vI v2)] → mGo l p e 2 48 s m args below meth c E none out.2 H locs (F0 m 153 ls []) := by
  intro v2 σ H locs ls hm hM hl
  unfold mX3_add_B153 at hm
  obtain ⟨a1, e2, hm⟩ := bnd_t hm
  refine r_iinc (np := 156) G hl 1 rfl e2 [(2, vI a1), (0, .ref (eA E v0))] dX3_add_153 rfl (by decide) rfl (fun ls hl => ?_)
  refine r_goto (np := 31) G dX3_add_156 (by decide) ?_
  exact hc31 a1 _ _ _ _ hm hM (lv_sub hl [1, 0] rfl)
set_option maxRecDepth 100000 in
set_option maxHeartbeats 4000000 in
theorem wX3_add_B147 (l : Launch) (E : mE) (out : Int × mSt) {p : Program} {e : Env} {s : State} {m : MethodId} {args : Array Value} {below : List Frame} {meth : Method} {c : Code} (G : CallFix p m c cX3_add 10 s args mTs RX3) (hr : meth.sig.returnType = none) (hk : meth.locks = false) (v0 : Nat) (v1 : Nat) (v2 : Int) (v3 : Nat) (g0 : isC v0 3) (c46 : Int → mSt → Option (Int × mSt)) (x153 : mSt → Option (Int × mSt)) (hc46 : ∀ (v4 : Int) (σ : mSt) (H : Heap) (locs : List Loc) (ls : Array Slot), c46 v4 σ = some out → mM (mA E 276) E 276 σ s H locs → lv_has ls 10 [(0, .ref (eA E v0)), (2, vI v2), (3, .ref (eA E v3)), (4, vI v4)] → mGo l p e 2 48 s m args below meth c E none out.2 H locs (F0 m 46 ls [])) (hx153 : ∀ (σ : mSt) (H : Heap) (locs : List Loc) (ls : Array Slot), x153 σ = some out → mM (mA E 276) E 276 σ s H locs → lv_has ls 10 [(0, .ref (eA E v0)), (2, vI v2)] → mGo l p e 2 48 s m args below meth c E none out.2 H locs (F0 m 153 ls [])) : ∀ (v4 : Int) (σ : mSt) (H : Heap) (locs : List Loc) (ls : Array Slot), mX3_add_B147 v0 v1 v2 v3 c46 x153 v4 σ = some out → mM (mA E 276) E 276 σ s H locs → lv_has ls 10 [(0, .ref (eA E v0)), (2, vI v2), (3, .ref (eA E v3)), (4, vI v4)] → mGo l p e 2 48 s m args below meth c E none out.2 H locs (F0 m 147 ls []) := by
  intro v4 σ H locs ls hm hM hl
  unfold mX3_add_B147 at hm
  obtain ⟨a3, e4, hm⟩ := bnd_t hm
  refine r_iinc (np := 150) G hl 3 rfl e4 [(4, vI a3), (0, .ref (eA E v0)), (2, vI v2), (3, .ref (eA E v3))] dX3_add_147 rfl (by decide) rfl (fun ls hl => ?_)
  refine r_goto (np := 46) G dX3_add_150 (by decide) ?_
  exact hc46 a3 _ _ _ _ hm hM (lv_sub hl [1, 2, 3, 0] rfl)
set_option maxRecDepth 100000 in
set_option maxHeartbeats 4000000 in
theorem wX3_add_L80 (l : Launch) (E : mE) (out : Int × mSt) {p : Program} {e : Env} {s : State} {m : MethodId} {args : Array Value} {below : List Frame} {meth : Method} {c : Code} (G : CallFix p m c cX3_add 10 s args mTs RX3) (hr : meth.sig.returnType = none) (hk : meth.locks = false) (v0 : Nat) (v1 : Nat) (v2 : Int) (v3 : Nat) (v4 : Int) (v5 : Int) (g0 : isC v0 3) (x147 : mSt → Option (Int × mSt)) (hx147 : ∀ (σ : mSt) (H : Heap) (locs : List Loc) (ls : Array Slot), x147 σ = some out → mM (mA E 276) E 276 σ s H locs → lv_has ls 10 [(0, .ref (eA E v0)), (2, vI v2), (3, .ref (eA E v3)), (4, vI v4)] → mGo l p e 2 48 s m args below meth c E none out.2 H locs (F0 m 147 ls [])) : ∀ (n : Nat) (v7 : Int) (σ : mSt) (H : Heap) (locs : List Loc) (ls : Array Slot), mX3_add_L80 v0 v1 v2 v3 v4 v5 x147 n v7 σ = some out → mM (mA E 276) E 276 σ s H locs → lv_has ls 10 [(0, .ref (eA E v0)), (2, vI v2), (3, .ref (eA E v3)), (4, vI v4), (5, vL v5), (7, vI v7)] → mGo l p e 2 48 s m args below meth c E none out.2 H locs (F0 m 80 ls []) := by
  intro n
  induction n with
  | zero =>
    intro v7 σ H locs ls hm hM hl
    exact absurd hm (by rw [mX3_add_L80.eq_1]; exact fun h => nomatch h)
  | succ n ih =>
    intro v7 σ H locs ls hm hM hl
    rw [mX3_add_L80.eq_2] at hm
    refine r_iload (np := 82) G hl 5 rfl dX3_add_80 rfl ?_
    refine r_iconst (np := 83) G 4 dX3_add_82 rfl ?_
    refine r_icmp_ge (np := 86) (tgt := 147) G rfl (wIk 4 rfl) dX3_add_83 (by decide) rfl (fun h5 => ?_) (fun h5 => ?_)
    · have hm := b_t h5 hm
      exact hx147 _ _ _ _ hm hM (lv_sub hl [0, 1, 2, 3] rfl)
    · have hm := b_f h5 hm
      refine r_aload_n (np := 87) G hl 2 rfl dX3_add_86 rfl rfl ?_
      refine r_iload (np := 89) G hl 5 rfl dX3_add_87 rfl ?_
      obtain ⟨g6, hm⟩ := g_t hm
      refine r_laload (np := 90) G hM g6 rfl dX3_add_89 rfl ?_
      refine r_lload (np := 92) G hl 4 rfl dX3_add_90 rfl ?_
      refine r_aload_n (np := 93) G hl 0 rfl dX3_add_92 rfl rfl ?_
      obtain ⟨r7, e8, hm⟩ := ref_t hm
      refine r_getR (np := 96) G hM (shp_lt g0 (by decide)) g0 e8 fdX3_1 lkX3_14 dX3_add_93 rfl ?_
      refine r_iload (np := 98) G hl 5 rfl dX3_add_96 rfl ?_
      obtain ⟨g9, hm⟩ := g_t hm
      refine r_laload (np := 99) G hM g9 rfl dX3_add_98 rfl ?_
      refine r_lmul (np := 100) G dX3_add_99 rfl ?_
      refine r_lsub (np := 101) G dX3_add_100 rfl ?_
      obtain ⟨a10, e11, hm⟩ := bnd_t hm
      refine r_lstore (np := 103) G hl e11 [(8, vL a10), (0, .ref (eA E v0)), (2, vI v2), (3, .ref (eA E v3)), (4, vI v4), (5, vL v5), (7, vI v7)] dX3_add_101 rfl (by decide) rfl (fun ls hl => ?_)
      refine r_aload_n (np := 104) G hl 3 rfl dX3_add_103 rfl rfl ?_
      refine r_iload (np := 106) G hl 6 rfl dX3_add_104 rfl ?_
      refine r_aload_n (np := 107) G hl 1 rfl dX3_add_106 rfl rfl ?_
      obtain ⟨r12, e13, hm⟩ := ref_t hm
      refine r_getR (np := 110) G hM (shp_lt g0 (by decide)) g0 e13 fdX3_1 lkX3_14 dX3_add_107 rfl ?_
      refine r_iload (np := 112) G hl 6 rfl dX3_add_110 rfl ?_
      obtain ⟨g14, hm⟩ := g_t hm
      refine r_laload (np := 113) G hM g14 rfl dX3_add_112 rfl ?_
      obtain ⟨s15, e16, hm⟩ := bnd_t hm
      refine r_lastore (np := 114) G hM g6 rfl s15 e16 dX3_add_113 rfl (fun H locs hM => ?_)
      refine r_aload_n (np := 115) G hl 1 rfl dX3_add_114 rfl rfl ?_
      obtain ⟨r17, e18, hm⟩ := ref_t hm
      refine r_getR (np := 118) G hM (shp_lt g0 (by decide)) g0 e18 fdX3_1 lkX3_14 dX3_add_115 rfl ?_
      refine r_iload (np := 120) G hl 6 rfl dX3_add_118 rfl ?_
      refine r_iload (np := 122) G hl 6 rfl dX3_add_120 rfl ?_
      refine r_iload_n (np := 123) G hl 2 rfl dX3_add_122 rfl rfl ?_
      refine r_icmp_ne (np := 126) (tgt := 131) G rfl rfl dX3_add_123 (by decide) rfl (fun h19 => ?_) (fun h19 => ?_)
      · have hm := b_f h19 hm
        refine r_lload (np := 133) G hl 0 rfl dX3_add_131 rfl ?_
        refine r_aload_n (np := 134) G hl 1 rfl dX3_add_133 rfl rfl ?_
        refine r_getL (np := 137) G hM (shp_lt g0 (by decide)) g0 fdX3_2 lkX3_18 dX3_add_134 rfl ?_
        obtain ⟨b20, s21, e22, hm⟩ := call_t hm
        refine m_callSL (np := 140) G hM hl.1 [vL a10, vL (s15 v0 2)] (qX5_rest l E s15 a10 (s15 v0 2) _ e22) myX5_rest lkX3_22 ⟨Nat.le_of_ble_eq_true rfl, Nat.le_of_ble_eq_true rfl⟩ ⟨Nat.le_of_ble_eq_true rfl, Nat.le_of_ble_eq_true rfl⟩ [vI v7, .ref (eA E r17)] rfl (Nat.le_of_ble_eq_true rfl) dX3_add_137 rfl (fun H locs hM => ?_)
        obtain ⟨g23, hm⟩ := g_t hm
        obtain ⟨s24, e25, hm⟩ := bnd_t hm
        refine r_lastore (np := 141) G hM g23 rfl s24 e25 dX3_add_140 rfl (fun H locs hM => ?_)
        obtain ⟨a26, e27, hm⟩ := bnd_t hm
        refine r_iinc (np := 144) G hl 6 rfl e27 [(7, vI a26), (8, vL a10), (0, .ref (eA E v0)), (2, vI v2), (3, .ref (eA E v3)), (4, vI v4), (5, vL v5)] dX3_add_141 rfl (by decide) rfl (fun ls hl => ?_)
        refine r_goto (np := 80) G dX3_add_144 (by decide) ?_
        exact ih a26 _ _ _ _ hm hM (lv_sub hl [2, 3, 4, 5, 6, 0] rfl)
      · have hm := b_t h19 hm
        refine r_lload (np := 128) G hl 0 rfl dX3_add_126 rfl ?_
        refine r_goto (np := 140) G dX3_add_128 (by decide) ?_
        obtain ⟨g28, hm⟩ := g_t hm
        obtain ⟨s29, e30, hm⟩ := bnd_t hm
        refine r_lastore (np := 141) G hM g28 rfl s29 e30 dX3_add_140 rfl (fun H locs hM => ?_)
        obtain ⟨a31, e32, hm⟩ := bnd_t hm
        refine r_iinc (np := 144) G hl 6 rfl e32 [(7, vI a31), (8, vL a10), (0, .ref (eA E v0)), (2, vI v2), (3, .ref (eA E v3)), (4, vI v4), (5, vL v5)] dX3_add_141 rfl (by decide) rfl (fun ls hl => ?_)
        refine r_goto (np := 80) G dX3_add_144 (by decide) ?_
        exact ih a31 _ _ _ _ hm hM (lv_sub hl [2, 3, 4, 5, 6, 0] rfl)
set_option maxRecDepth 100000 in
set_option maxHeartbeats 4000000 in
theorem wX3_add_L46 (l : Launch) (E : mE) (out : Int × mSt) {p : Program} {e : Env} {s : State} {m : MethodId} {args : Array Value} {below : List Frame} {meth : Method} {c : Code} (G : CallFix p m c cX3_add 10 s args mTs RX3) (hr : meth.sig.returnType = none) (hk : meth.locks = false) (v0 : Nat) (v1 : Nat) (v2 : Int) (v3 : Nat) (g0 : isC v0 3) (x153 : mSt → Option (Int × mSt)) (hx153 : ∀ (σ : mSt) (H : Heap) (locs : List Loc) (ls : Array Slot), x153 σ = some out → mM (mA E 276) E 276 σ s H locs → lv_has ls 10 [(0, .ref (eA E v0)), (2, vI v2)] → mGo l p e 2 48 s m args below meth c E none out.2 H locs (F0 m 153 ls [])) : ∀ (n : Nat) (v4 : Int) (σ : mSt) (H : Heap) (locs : List Loc) (ls : Array Slot), mX3_add_L46 v0 v1 v2 v3 x153 n v4 σ = some out → mM (mA E 276) E 276 σ s H locs → lv_has ls 10 [(0, .ref (eA E v0)), (2, vI v2), (3, .ref (eA E v3)), (4, vI v4)] → mGo l p e 2 48 s m args below meth c E none out.2 H locs (F0 m 46 ls []) := by
  intro n
  induction n with
  | zero =>
    intro v4 σ H locs ls hm hM hl
    exact absurd hm (by rw [mX3_add_L46.eq_1]; exact fun h => nomatch h)
  | succ n ih =>
    intro v4 σ H locs ls hm hM hl
    rw [mX3_add_L46.eq_2] at hm
    refine r_iload (np := 48) G hl 3 rfl dX3_add_46 rfl ?_
    refine r_sipush (np := 51) G 200 dX3_add_48 (by decide) rfl ?_
    refine r_icmp_ge (np := 54) (tgt := 153) G rfl (wIk 200 rfl) dX3_add_51 (by decide) rfl (fun h33 => ?_) (fun h33 => ?_)
    · have hm := b_t h33 hm
      exact hx153 _ _ _ _ hm hM (lv_sub hl [0, 1] rfl)
    · have hm := b_f h33 hm
      refine r_aload_n (np := 55) G hl 0 rfl dX3_add_54 rfl rfl ?_
      obtain ⟨r34, e35, hm⟩ := ref_t hm
      refine r_getR (np := 58) G hM (shp_lt g0 (by decide)) g0 e35 fdX3_1 lkX3_14 dX3_add_55 rfl ?_
      refine r_iload_n (np := 59) G hl 1 rfl dX3_add_58 rfl rfl ?_
      obtain ⟨g36, hm⟩ := g_t hm
      refine r_laload (np := 60) G hM g36 rfl dX3_add_59 rfl ?_
      refine r_lconst (np := 61) G 0 dX3_add_60 rfl rfl ?_
      refine r_lcmp_eq (np := 65) (tgt := 153) G rfl (wLk 0 rfl) dX3_add_61 dX3_add_62 (by decide) rfl (fun h37 => ?_) (fun h37 => ?_)
      · have hm := b_t h37 hm
        exact hx153 _ _ _ _ hm hM (lv_sub hl [0, 1] rfl)
      · have hm := b_f h37 hm
        refine r_aload_n (np := 66) G hl 2 rfl dX3_add_65 rfl rfl ?_
        refine r_iload_n (np := 67) G hl 1 rfl dX3_add_66 rfl rfl ?_
        obtain ⟨g38, hm⟩ := g_t hm
        refine r_laload (np := 68) G hM g38 rfl dX3_add_67 rfl ?_
        refine r_aload_n (np := 69) G hl 0 rfl dX3_add_68 rfl rfl ?_
        obtain ⟨r39, e40, hm⟩ := ref_t hm
        refine r_getR (np := 72) G hM (shp_lt g0 (by decide)) g0 e40 fdX3_1 lkX3_14 dX3_add_69 rfl ?_
        refine r_iload_n (np := 73) G hl 1 rfl dX3_add_72 rfl rfl ?_
        obtain ⟨g41, hm⟩ := g_t hm
        refine r_laload (np := 74) G hM g41 rfl dX3_add_73 rfl ?_
        obtain ⟨g42, hm⟩ := g_t hm
        refine r_ldiv (np := 75) G g42 dX3_add_74 rfl ?_
        obtain ⟨a43, e44, hm⟩ := bnd_t hm
        refine r_lstore (np := 77) G hl e44 [(5, vL a43), (0, .ref (eA E v0)), (2, vI v2), (3, .ref (eA E v3)), (4, vI v4)] dX3_add_75 rfl (by decide) rfl (fun ls hl => ?_)
        refine r_iload_n (np := 78) G hl 2 rfl dX3_add_77 rfl rfl ?_
        refine r_istore (np := 80) G hl rfl [(7, vI v2), (5, vL a43), (0, .ref (eA E v0)), (2, vI v2), (3, .ref (eA E v3)), (4, vI v4)] dX3_add_78 rfl (by decide) rfl (fun ls hl => ?_)
        exact wX3_add_L80 l E out G hr hk v0 v1 v2 v3 v4 a43 g0 (fun zσ => mX3_add_B147 v0 v1 v2 v3 (mX3_add_L46 v0 v1 v2 v3 x153 n) x153 v4 zσ) (fun zσ zH zl zs zm zM zv => wX3_add_B147 l E out G hr hk v0 v1 v2 v3 g0 (mX3_add_L46 v0 v1 v2 v3 x153 n) x153 ih hx153 v4 zσ zH zl zs zm zM zv) mF v2 _ _ _ _ hm hM (lv_sub hl [2, 3, 4, 5, 1, 0] rfl)
set_option maxRecDepth 100000 in
set_option maxHeartbeats 4000000 in
theorem wX3_add_L31 (l : Launch) (E : mE) (out : Int × mSt) {p : Program} {e : Env} {s : State} {m : MethodId} {args : Array Value} {below : List Frame} {meth : Method} {c : Code} (G : CallFix p m c cX3_add 10 s args mTs RX3) (hr : meth.sig.returnType = none) (hk : meth.locks = false) (v0 : Nat) (v1 : Nat) (g0 : isC v0 3) (x159 : mSt → Option (Int × mSt)) (hx159 : ∀ (σ : mSt) (H : Heap) (locs : List Loc) (ls : Array Slot), x159 σ = some out → mM (mA E 276) E 276 σ s H locs → lv_has ls 10 [] → mGo l p e 2 48 s m args below meth c E none out.2 H locs (F0 m 159 ls [])) : ∀ (n : Nat) (v2 : Int) (σ : mSt) (H : Heap) (locs : List Loc) (ls : Array Slot), mX3_add_L31 v0 v1 x159 n v2 σ = some out → mM (mA E 276) E 276 σ s H locs → lv_has ls 10 [(0, .ref (eA E v0)), (2, vI v2)] → mGo l p e 2 48 s m args below meth c E none out.2 H locs (F0 m 31 ls []) := by
  intro n
  induction n with
  | zero =>
    intro v2 σ H locs ls hm hM hl
    exact absurd hm (by rw [mX3_add_L31.eq_1]; exact fun h => nomatch h)
  | succ n ih =>
    intro v2 σ H locs ls hm hM hl
    rw [mX3_add_L31.eq_2] at hm
    refine r_iload_n (np := 32) G hl 1 rfl dX3_add_31 rfl rfl ?_
    refine r_iconst (np := 33) G 4 dX3_add_32 rfl ?_
    refine r_icmp_ge (np := 36) (tgt := 159) G rfl (wIk 4 rfl) dX3_add_33 (by decide) rfl (fun h45 => ?_) (fun h45 => ?_)
    · have hm := b_t h45 hm
      exact hx159 _ _ _ _ hm hM (lv_sub hl [] rfl)
    · have hm := b_f h45 hm
      refine r_aload_n (np := 37) G hl 0 rfl dX3_add_36 rfl rfl ?_
      obtain ⟨r46, e47, hm⟩ := ref_t hm
      refine r_getR (np := 40) G hM (shp_lt g0 (by decide)) g0 e47 fdX3_0 lkX3_9 dX3_add_37 rfl ?_
      refine r_iload_n (np := 41) G hl 1 rfl dX3_add_40 rfl rfl ?_
      obtain ⟨g48, hm⟩ := g_t hm
      obtain ⟨r49, e50, hm⟩ := ref_t hm
      refine r_aaload (np := 42) G hM (t := 7) g48 rfl ⟨by decide, by decide⟩ rfl rfl e50 dX3_add_41 rfl ?_
      refine r_astore_n (np := 43) G hl rfl [(3, .ref (eA E r49)), (0, .ref (eA E v0)), (2, vI v2)] dX3_add_42 rfl rfl (by decide) rfl (fun ls hl => ?_)
      refine r_iconst (np := 44) G 0 dX3_add_43 rfl ?_
      refine r_istore (np := 46) G hl rfl [(4, vI 0), (3, .ref (eA E r49)), (0, .ref (eA E v0)), (2, vI v2)] dX3_add_44 rfl (by decide) rfl (fun ls hl => ?_)
      exact wX3_add_L46 l E out G hr hk v0 v1 v2 r49 g0 (fun zσ => mX3_add_B153 v0 v1 (mX3_add_L31 v0 v1 x159 n) x159 v2 zσ) (fun zσ zH zl zs zm zM zv => wX3_add_B153 l E out G hr hk v0 v1 g0 (mX3_add_L31 v0 v1 x159 n) x159 ih hx159 v2 zσ zH zl zs zm zM zv) mF 0 _ _ _ _ hm hM (lv_sub hl [2, 3, 1, 0] rfl)
set_option maxRecDepth 100000 in
set_option maxHeartbeats 4000000 in
theorem wX3_add_B29 (l : Launch) (E : mE) (out : Int × mSt) {p : Program} {e : Env} {s : State} {m : MethodId} {args : Array Value} {below : List Frame} {meth : Method} {c : Code} (G : CallFix p m c cX3_add 10 s args mTs RX3) (hr : meth.sig.returnType = none) (hk : meth.locks = false) (v0 : Nat) (v1 : Nat) (g0 : isC v0 3) : ∀ (σ : mSt) (H : Heap) (locs : List Loc) (ls : Array Slot), mX3_add_B29 v0 v1 σ = some out → mM (mA E 276) E 276 σ s H locs → lv_has ls 10 [(0, .ref (eA E v0))] → mGo l p e 2 48 s m args below meth c E none out.2 H locs (F0 m 29 ls []) := by
  intro σ H locs ls hm hM hl
  unfold mX3_add_B29 at hm
  refine r_iconst (np := 30) G 0 dX3_add_29 rfl ?_
  refine r_istore_n (np := 31) G hl rfl [(2, vI 0), (0, .ref (eA E v0))] dX3_add_30 rfl rfl (by decide) rfl (fun ls hl => ?_)
  exact wX3_add_L31 l E out G hr hk v0 v1 g0 (fun zσ => mX3_add_B159 v0 v1 zσ) (fun zσ zH zl zs zm zM zv => wX3_add_B159 l E out G hr hk v0 v1 g0 zσ zH zl zs zm zM zv) mF 0 _ _ _ _ hm hM (lv_sub hl [1, 0] rfl)
set_option maxRecDepth 100000 in
set_option maxHeartbeats 4000000 in
theorem wX3_add_L2 (l : Launch) (E : mE) (out : Int × mSt) {p : Program} {e : Env} {s : State} {m : MethodId} {args : Array Value} {below : List Frame} {meth : Method} {c : Code} (G : CallFix p m c cX3_add 10 s args mTs RX3) (hr : meth.sig.returnType = none) (hk : meth.locks = false) (v0 : Nat) (v1 : Nat) (g0 : isC v0 3) (x29 : mSt → Option (Int × mSt)) (hx29 : ∀ (σ : mSt) (H : Heap) (locs : List Loc) (ls : Array Slot), x29 σ = some out → mM (mA E 276) E 276 σ s H locs → lv_has ls 10 [(0, .ref (eA E v0))] → mGo l p e 2 48 s m args below meth c E none out.2 H locs (F0 m 29 ls [])) : ∀ (n : Nat) (v2 : Int) (σ : mSt) (H : Heap) (locs : List Loc) (ls : Array Slot), mX3_add_L2 v0 v1 x29 n v2 σ = some out → mM (mA E 276) E 276 σ s H locs → lv_has ls 10 [(0, .ref (eA E v0)), (1, .ref (eA E v1)), (2, vI v2)] → mGo l p e 2 48 s m args below meth c E none out.2 H locs (F0 m 2 ls []) := by
  intro n
  induction n with
  | zero =>
    intro v2 σ H locs ls hm hM hl
    exact absurd hm (by rw [mX3_add_L2.eq_1]; exact fun h => nomatch h)
  | succ n ih =>
    intro v2 σ H locs ls hm hM hl
    rw [mX3_add_L2.eq_2] at hm
    refine r_iload_n (np := 3) G hl 2 rfl dX3_add_2 rfl rfl ?_
    refine r_iconst (np := 4) G 4 dX3_add_3 rfl ?_
    refine r_icmp_ge (np := 7) (tgt := 29) G rfl (wIk 4 rfl) dX3_add_4 (by decide) rfl (fun h51 => ?_) (fun h51 => ?_)
    · have hm := b_t h51 hm
      exact hx29 _ _ _ _ hm hM (lv_sub hl [0] rfl)
    · have hm := b_f h51 hm
      refine r_aload_n (np := 8) G hl 0 rfl dX3_add_7 rfl rfl ?_
      obtain ⟨r52, e53, hm⟩ := ref_t hm
      refine r_getR (np := 11) G hM (shp_lt g0 (by decide)) g0 e53 fdX3_1 lkX3_14 dX3_add_8 rfl ?_
      refine r_iload_n (np := 12) G hl 2 rfl dX3_add_11 rfl rfl ?_
      refine r_aload_n (np := 13) G hl 1 rfl dX3_add_12 rfl rfl ?_
      refine r_iload_n (np := 14) G hl 2 rfl dX3_add_13 rfl rfl ?_
      obtain ⟨g54, hm⟩ := g_t hm
      refine r_laload (np := 15) G hM g54 rfl dX3_add_14 rfl ?_
      refine r_aload_n (np := 16) G hl 0 rfl dX3_add_15 rfl rfl ?_
      refine r_getL (np := 19) G hM (shp_lt g0 (by decide)) g0 fdX3_2 lkX3_18 dX3_add_16 rfl ?_
      obtain ⟨b55, s56, e57, hm⟩ := call_t hm
      refine m_callSL (np := 22) G hM hl.1 [vL (σ v1 (wI v2).toNat), vL (σ v0 2)] (qX5_rest l E σ (σ v1 (wI v2).toNat) (σ v0 2) _ e57) myX5_rest lkX3_22 ⟨Nat.le_of_ble_eq_true rfl, Nat.le_of_ble_eq_true rfl⟩ ⟨Nat.le_of_ble_eq_true rfl, Nat.le_of_ble_eq_true rfl⟩ [vI v2, .ref (eA E r52)] rfl (Nat.le_of_ble_eq_true rfl) dX3_add_19 rfl (fun H locs hM => ?_)
      obtain ⟨g58, hm⟩ := g_t hm
      obtain ⟨s59, e60, hm⟩ := bnd_t hm
      refine r_lastore (np := 23) G hM g58 rfl s59 e60 dX3_add_22 rfl (fun H locs hM => ?_)
      obtain ⟨a61, e62, hm⟩ := bnd_t hm
      refine r_iinc (np := 26) G hl 2 rfl e62 [(2, vI a61), (0, .ref (eA E v0)), (1, .ref (eA E v1))] dX3_add_23 rfl (by decide) rfl (fun ls hl => ?_)
      refine r_goto (np := 2) G dX3_add_26 (by decide) ?_
      exact ih a61 _ _ _ _ hm hM (lv_sub hl [1, 2, 0] rfl)
set_option maxRecDepth 100000 in
set_option maxHeartbeats 4000000 in
theorem qX3_add (l : Launch) (E : mE) (σ : mSt) (v0 : Nat) (v1 : Nat) (out : Int × mSt) (hm : mX3_add v0 v1 σ = some out) : mMet l yX3_add cX3_add 10 none 2 48 E 276 [.ref (eA E v0), .ref (eA E v1)] σ none out.2 := by
  unfold mX3_add at hm
  obtain ⟨g0, hm⟩ := g_t hm
  refine m_entry (by decide +kernel) (Nat.le_of_ble_eq_true rfl) (fun p e s m args below meth c G hr hk hM ls hl => ?_)
  have G : CallFix p m c cX3_add 10 s args mTs RX3 := G
  have hl : lv_has ls 10 [(0, .ref (eA E v0)), (1, .ref (eA E v1))] := hl
  refine r_iconst (np := 1) G 0 dX3_add_0 rfl ?_
  refine r_istore_n (np := 2) G hl rfl [(2, vI 0), (0, .ref (eA E v0)), (1, .ref (eA E v1))] dX3_add_1 rfl rfl (by decide) rfl (fun ls hl => ?_)
  exact wX3_add_L2 l E out G hr hk v0 v1 g0 (fun zσ => mX3_add_B29 v0 v1 zσ) (fun zσ zH zl zs zm zM zv => wX3_add_B29 l E out G hr hk v0 v1 g0 zσ zH zl zs zm zM zv) mF 0 _ _ _ _ hm hM (lv_sub hl [1, 2, 0] rfl)
theorem gX3_add {v0 : Nat} {v1 : Nat} {σ : mSt} {out : Int × mSt} (hm : mX3_add v0 v1 σ = some out) : isC v0 3 := (g_t hm).1
set_option maxRecDepth 100000 in
set_option maxHeartbeats 4000000 in
theorem wX3_settle_B85 (l : Launch) (E : mE) (out : Int × mSt) {p : Program} {e : Env} {s : State} {m : MethodId} {args : Array Value} {below : List Frame} {meth : Method} {c : Code} (G : CallFix p m c cX3_settle 6 s args mTs RX3) (hr : meth.sig.returnType = none) (hk : meth.locks = false) (v0 : Nat) (g0 : isC v0 3) : ∀ (σ : mSt) (H : Heap) (locs : List Loc) (ls : Array Slot), mX3_settle_B85 v0 σ = some out → mM (mA E 276) E 276 σ s H locs → lv_has ls 6 [] → mGo l p e 2 48 s m args below meth c E none out.2 H locs (F0 m 85 ls []) := by
  intro σ H locs ls hm hM hl
  unfold mX3_settle_B85 at hm
  exact r_vret G hr hk hM hm dX3_settle_85
set_option maxRecDepth 100000 in
set_option maxHeartbeats 4000000 in
theorem wX3_settle_B79 (l : Launch) (E : mE) (out : Int × mSt) {p : Program} {e : Env} {s : State} {m : MethodId} {args : Array Value} {below : List Frame} {meth : Method} {c : Code} (G : CallFix p m c cX3_settle 6 s args mTs RX3) (hr : meth.sig.returnType = none) (hk : meth.locks = false) (v0 : Nat) (g0 : isC v0 3) (c2 : Int → mSt → Option (Int × mSt)) (x85 : mSt → Option (Int × mSt)) (hc2 : ∀ (v1 : Int) (σ : mSt) (H : Heap) (locs : List Loc) (ls : Array Slot), c2 v1 σ = some out → mM (mA E 276) E 276 σ s H locs → lv_has ls 6 [(0, .ref (eA E v0)), (1, vI v1)] → mGo l p e 2 48 s m args below meth c E none out.2 H locs (F0 m 2 ls [])) (hx85 : ∀ (σ : mSt) (H : Heap) (locs : List Loc) (ls : Array Slot), x85 σ = some out → mM (mA E 276) E 276 σ s H locs → lv_has ls 6 [] → mGo l p e 2 48 s m args below meth c E none out.2 H locs (F0 m 85 ls [])) : ∀ (v1 : Int) (σ : mSt) (H : Heap) (locs : List Loc) (ls : Array Slot), mX3_settle_B79 v0 c2 x85 v1 σ = some out → mM (mA E 276) E 276 σ s H locs → lv_has ls 6 [(0, .ref (eA E v0)), (1, vI v1)] → mGo l p e 2 48 s m args below meth c E none out.2 H locs (F0 m 79 ls []) := by
  intro v1 σ H locs ls hm hM hl
  unfold mX3_settle_B79 at hm
  obtain ⟨a1, e2, hm⟩ := bnd_t hm
  refine r_iinc (np := 82) G hl 1 rfl e2 [(1, vI a1), (0, .ref (eA E v0))] dX3_settle_79 rfl (by decide) rfl (fun ls hl => ?_)
  refine r_goto (np := 2) G dX3_settle_82 (by decide) ?_
  exact hc2 a1 _ _ _ _ hm hM (lv_sub hl [1, 0] rfl)
set_option maxRecDepth 100000 in
set_option maxHeartbeats 4000000 in
theorem wX3_settle_B73 (l : Launch) (E : mE) (out : Int × mSt) {p : Program} {e : Env} {s : State} {m : MethodId} {args : Array Value} {below : List Frame} {meth : Method} {c : Code} (G : CallFix p m c cX3_settle 6 s args mTs RX3) (hr : meth.sig.returnType = none) (hk : meth.locks = false) (v0 : Nat) (v1 : Int) (g0 : isC v0 3) (c10 : Int → mSt → Option (Int × mSt)) (x79 : mSt → Option (Int × mSt)) (hc10 : ∀ (v2 : Int) (σ : mSt) (H : Heap) (locs : List Loc) (ls : Array Slot), c10 v2 σ = some out → mM (mA E 276) E 276 σ s H locs → lv_has ls 6 [(0, .ref (eA E v0)), (1, vI v1), (2, vI v2)] → mGo l p e 2 48 s m args below meth c E none out.2 H locs (F0 m 10 ls [])) (hx79 : ∀ (σ : mSt) (H : Heap) (locs : List Loc) (ls : Array Slot), x79 σ = some out → mM (mA E 276) E 276 σ s H locs → lv_has ls 6 [(0, .ref (eA E v0)), (1, vI v1)] → mGo l p e 2 48 s m args below meth c E none out.2 H locs (F0 m 79 ls [])) : ∀ (v2 : Int) (σ : mSt) (H : Heap) (locs : List Loc) (ls : Array Slot), mX3_settle_B73 v0 v1 c10 x79 v2 σ = some out → mM (mA E 276) E 276 σ s H locs → lv_has ls 6 [(0, .ref (eA E v0)), (1, vI v1), (2, vI v2)] → mGo l p e 2 48 s m args below meth c E none out.2 H locs (F0 m 73 ls []) := by
  intro v2 σ H locs ls hm hM hl
  unfold mX3_settle_B73 at hm
  obtain ⟨a3, e4, hm⟩ := bnd_t hm
  refine r_iinc (np := 76) G hl 2 rfl e4 [(2, vI a3), (0, .ref (eA E v0)), (1, vI v1)] dX3_settle_73 rfl (by decide) rfl (fun ls hl => ?_)
  refine r_goto (np := 10) G dX3_settle_76 (by decide) ?_
  exact hc10 a3 _ _ _ _ hm hM (lv_sub hl [1, 2, 0] rfl)
set_option maxRecDepth 100000 in
set_option maxHeartbeats 4000000 in
theorem wX3_settle_L38 (l : Launch) (E : mE) (out : Int × mSt) {p : Program} {e : Env} {s : State} {m : MethodId} {args : Array Value} {below : List Frame} {meth : Method} {c : Code} (G : CallFix p m c cX3_settle 6 s args mTs RX3) (hr : meth.sig.returnType = none) (hk : meth.locks = false) (v0 : Nat) (v1 : Int) (v2 : Int) (v3 : Int) (g0 : isC v0 3) (x73 : mSt → Option (Int × mSt)) (hx73 : ∀ (σ : mSt) (H : Heap) (locs : List Loc) (ls : Array Slot), x73 σ = some out → mM (mA E 276) E 276 σ s H locs → lv_has ls 6 [(0, .ref (eA E v0)), (1, vI v1), (2, vI v2)] → mGo l p e 2 48 s m args below meth c E none out.2 H locs (F0 m 73 ls [])) : ∀ (n : Nat) (v5 : Int) (σ : mSt) (H : Heap) (locs : List Loc) (ls : Array Slot), mX3_settle_L38 v0 v1 v2 v3 x73 n v5 σ = some out → mM (mA E 276) E 276 σ s H locs → lv_has ls 6 [(0, .ref (eA E v0)), (1, vI v1), (2, vI v2), (3, vL v3), (5, vI v5)] → mGo l p e 2 48 s m args below meth c E none out.2 H locs (F0 m 38 ls []) := by
  intro n
  induction n with
  | zero =>
    intro v5 σ H locs ls hm hM hl
    exact absurd hm (by rw [mX3_settle_L38.eq_1]; exact fun h => nomatch h)
  | succ n ih =>
    intro v5 σ H locs ls hm hM hl
    rw [mX3_settle_L38.eq_2] at hm
    refine r_iload (np := 40) G hl 4 rfl dX3_settle_38 rfl ?_
    refine r_iconst (np := 41) G 4 dX3_settle_40 rfl ?_
    refine r_icmp_ge (np := 44) (tgt := 73) G rfl (wIk 4 rfl) dX3_settle_41 (by decide) rfl (fun h5 => ?_) (fun h5 => ?_)
    · have hm := b_t h5 hm
      exact hx73 _ _ _ _ hm hM (lv_sub hl [0, 1, 2] rfl)
    · have hm := b_f h5 hm
      refine r_aload_n (np := 45) G hl 0 rfl dX3_settle_44 rfl rfl ?_
      obtain ⟨r6, e7, hm⟩ := ref_t hm
      refine r_getR (np := 48) G hM (shp_lt g0 (by decide)) g0 e7 fdX3_0 lkX3_9 dX3_settle_45 rfl ?_
      refine r_iload_n (np := 49) G hl 1 rfl dX3_settle_48 rfl rfl ?_
      obtain ⟨g8, hm⟩ := g_t hm
      obtain ⟨r9, e10, hm⟩ := ref_t hm
      refine r_aaload (np := 50) G hM (t := 7) g8 rfl ⟨by decide, by decide⟩ rfl rfl e10 dX3_settle_49 rfl ?_
      refine r_iload (np := 52) G hl 4 rfl dX3_settle_50 rfl ?_
      refine r_dup2 (np := 53) G dX3_settle_52 rfl rfl rfl ?_
      obtain ⟨g11, hm⟩ := g_t hm
      refine r_laload (np := 54) G hM g11 rfl dX3_settle_53 rfl ?_
      refine r_lload_n (np := 55) G hl 3 rfl dX3_settle_54 rfl rfl ?_
      refine r_aload_n (np := 56) G hl 0 rfl dX3_settle_55 rfl rfl ?_
      obtain ⟨r12, e13, hm⟩ := ref_t hm
      refine r_getR (np := 59) G hM (shp_lt g0 (by decide)) g0 e13 fdX3_0 lkX3_9 dX3_settle_56 rfl ?_
      refine r_iload_n (np := 60) G hl 2 rfl dX3_settle_59 rfl rfl ?_
      obtain ⟨g14, hm⟩ := g_t hm
      obtain ⟨r15, e16, hm⟩ := ref_t hm
      refine r_aaload (np := 61) G hM (t := 7) g14 rfl ⟨by decide, by decide⟩ rfl rfl e16 dX3_settle_60 rfl ?_
      refine r_iload (np := 63) G hl 4 rfl dX3_settle_61 rfl ?_
      obtain ⟨g17, hm⟩ := g_t hm
      refine r_laload (np := 64) G hM g17 rfl dX3_settle_63 rfl ?_
      refine r_lmul (np := 65) G dX3_settle_64 rfl ?_
      refine r_lsub (np := 66) G dX3_settle_65 rfl ?_
      obtain ⟨s18, e19, hm⟩ := bnd_t hm
      refine r_lastore (np := 67) G hM g11 rfl s18 e19 dX3_settle_66 rfl (fun H locs hM => ?_)
      obtain ⟨a20, e21, hm⟩ := bnd_t hm
      refine r_iinc (np := 70) G hl 4 rfl e21 [(5, vI a20), (0, .ref (eA E v0)), (1, vI v1), (2, vI v2), (3, vL v3)] dX3_settle_67 rfl (by decide) rfl (fun ls hl => ?_)
      refine r_goto (np := 38) G dX3_settle_70 (by decide) ?_
      exact ih a20 _ _ _ _ hm hM (lv_sub hl [1, 2, 3, 4, 0] rfl)
set_option maxRecDepth 100000 in
set_option maxHeartbeats 4000000 in
theorem wX3_settle_L10 (l : Launch) (E : mE) (out : Int × mSt) {p : Program} {e : Env} {s : State} {m : MethodId} {args : Array Value} {below : List Frame} {meth : Method} {c : Code} (G : CallFix p m c cX3_settle 6 s args mTs RX3) (hr : meth.sig.returnType = none) (hk : meth.locks = false) (v0 : Nat) (v1 : Int) (g0 : isC v0 3) (x79 : mSt → Option (Int × mSt)) (hx79 : ∀ (σ : mSt) (H : Heap) (locs : List Loc) (ls : Array Slot), x79 σ = some out → mM (mA E 276) E 276 σ s H locs → lv_has ls 6 [(0, .ref (eA E v0)), (1, vI v1)] → mGo l p e 2 48 s m args below meth c E none out.2 H locs (F0 m 79 ls [])) : ∀ (n : Nat) (v2 : Int) (σ : mSt) (H : Heap) (locs : List Loc) (ls : Array Slot), mX3_settle_L10 v0 v1 x79 n v2 σ = some out → mM (mA E 276) E 276 σ s H locs → lv_has ls 6 [(0, .ref (eA E v0)), (1, vI v1), (2, vI v2)] → mGo l p e 2 48 s m args below meth c E none out.2 H locs (F0 m 10 ls []) := by
  intro n
  induction n with
  | zero =>
    intro v2 σ H locs ls hm hM hl
    exact absurd hm (by rw [mX3_settle_L10.eq_1]; exact fun h => nomatch h)
  | succ n ih =>
    intro v2 σ H locs ls hm hM hl
    rw [mX3_settle_L10.eq_2] at hm
    refine r_iload_n (np := 11) G hl 2 rfl dX3_settle_10 rfl rfl ?_
    refine r_iconst (np := 12) G 4 dX3_settle_11 rfl ?_
    refine r_icmp_ge (np := 15) (tgt := 79) G rfl (wIk 4 rfl) dX3_settle_12 (by decide) rfl (fun h22 => ?_) (fun h22 => ?_)
    · have hm := b_t h22 hm
      exact hx79 _ _ _ _ hm hM (lv_sub hl [0, 1] rfl)
    · have hm := b_f h22 hm
      refine r_aload_n (np := 16) G hl 0 rfl dX3_settle_15 rfl rfl ?_
      obtain ⟨r23, e24, hm⟩ := ref_t hm
      refine r_getR (np := 19) G hM (shp_lt g0 (by decide)) g0 e24 fdX3_0 lkX3_9 dX3_settle_16 rfl ?_
      refine r_iload_n (np := 20) G hl 1 rfl dX3_settle_19 rfl rfl ?_
      obtain ⟨g25, hm⟩ := g_t hm
      obtain ⟨r26, e27, hm⟩ := ref_t hm
      refine r_aaload (np := 21) G hM (t := 7) g25 rfl ⟨by decide, by decide⟩ rfl rfl e27 dX3_settle_20 rfl ?_
      refine r_iload_n (np := 22) G hl 2 rfl dX3_settle_21 rfl rfl ?_
      obtain ⟨g28, hm⟩ := g_t hm
      refine r_laload (np := 23) G hM g28 rfl dX3_settle_22 rfl ?_
      refine r_aload_n (np := 24) G hl 0 rfl dX3_settle_23 rfl rfl ?_
      obtain ⟨r29, e30, hm⟩ := ref_t hm
      refine r_getR (np := 27) G hM (shp_lt g0 (by decide)) g0 e30 fdX3_0 lkX3_9 dX3_settle_24 rfl ?_
      refine r_iload_n (np := 28) G hl 2 rfl dX3_settle_27 rfl rfl ?_
      obtain ⟨g31, hm⟩ := g_t hm
      obtain ⟨r32, e33, hm⟩ := ref_t hm
      refine r_aaload (np := 29) G hM (t := 7) g31 rfl ⟨by decide, by decide⟩ rfl rfl e33 dX3_settle_28 rfl ?_
      refine r_iload_n (np := 30) G hl 2 rfl dX3_settle_29 rfl rfl ?_
      obtain ⟨g34, hm⟩ := g_t hm
      refine r_laload (np := 31) G hM g34 rfl dX3_settle_30 rfl ?_
      obtain ⟨b35, s36, e37, hm⟩ := call_t hm
      refine m_callSL (np := 34) G hM hl.1 [vL (σ r26 (wI v2).toNat), vL (σ r32 (wI v2).toNat)] (qX5_quotient l E σ (σ r26 (wI v2).toNat) (σ r32 (wI v2).toNat) _ e37) myX5_quotient lkX3_28 ⟨Nat.le_of_ble_eq_true rfl, Nat.le_of_ble_eq_true rfl⟩ ⟨Nat.le_of_ble_eq_true rfl, Nat.le_of_ble_eq_true rfl⟩ [] rfl (Nat.le_of_ble_eq_true rfl) dX3_settle_31 rfl (fun H locs hM => ?_)
      refine r_lstore_n (np := 35) G hl rfl [(3, vL b35), (0, .ref (eA E v0)), (1, vI v1), (2, vI v2)] dX3_settle_34 rfl rfl (by decide) rfl (fun ls hl => ?_)
      refine r_iload_n (np := 36) G hl 3 rfl dX3_settle_35 rfl rfl ?_
      refine r_istore (np := 38) G hl rfl [(5, vI v2), (3, vL b35), (0, .ref (eA E v0)), (1, vI v1), (2, vI v2)] dX3_settle_36 rfl (by decide) rfl (fun ls hl => ?_)
      exact wX3_settle_L38 l E out G hr hk v0 v1 v2 b35 g0 (fun zσ => mX3_settle_B73 v0 v1 (mX3_settle_L10 v0 v1 x79 n) x79 v2 zσ) (fun zσ zH zl zs zm zM zv => wX3_settle_B73 l E out G hr hk v0 v1 g0 (mX3_settle_L10 v0 v1 x79 n) x79 ih hx79 v2 zσ zH zl zs zm zM zv) mF v2 _ _ _ _ hm hM (lv_sub hl [2, 3, 4, 1, 0] rfl)
set_option maxRecDepth 100000 in
set_option maxHeartbeats 4000000 in
theorem wX3_settle_L2 (l : Launch) (E : mE) (out : Int × mSt) {p : Program} {e : Env} {s : State} {m : MethodId} {args : Array Value} {below : List Frame} {meth : Method} {c : Code} (G : CallFix p m c cX3_settle 6 s args mTs RX3) (hr : meth.sig.returnType = none) (hk : meth.locks = false) (v0 : Nat) (g0 : isC v0 3) (x85 : mSt → Option (Int × mSt)) (hx85 : ∀ (σ : mSt) (H : Heap) (locs : List Loc) (ls : Array Slot), x85 σ = some out → mM (mA E 276) E 276 σ s H locs → lv_has ls 6 [] → mGo l p e 2 48 s m args below meth c E none out.2 H locs (F0 m 85 ls [])) : ∀ (n : Nat) (v1 : Int) (σ : mSt) (H : Heap) (locs : List Loc) (ls : Array Slot), mX3_settle_L2 v0 x85 n v1 σ = some out → mM (mA E 276) E 276 σ s H locs → lv_has ls 6 [(0, .ref (eA E v0)), (1, vI v1)] → mGo l p e 2 48 s m args below meth c E none out.2 H locs (F0 m 2 ls []) := by
  intro n
  induction n with
  | zero =>
    intro v1 σ H locs ls hm hM hl
    exact absurd hm (by rw [mX3_settle_L2.eq_1]; exact fun h => nomatch h)
  | succ n ih =>
    intro v1 σ H locs ls hm hM hl
    rw [mX3_settle_L2.eq_2] at hm
    refine r_iload_n (np := 3) G hl 1 rfl dX3_settle_2 rfl rfl ?_
    refine r_if_lt (np := 6) (tgt := 85) G rfl dX3_settle_3 (by decide) rfl (fun h38 => ?_) (fun h38 => ?_)
    · have hm := b_t h38 hm
      exact hx85 _ _ _ _ hm hM (lv_sub hl [] rfl)
    · have hm := b_f h38 hm
      refine r_iload_n (np := 7) G hl 1 rfl dX3_settle_6 rfl rfl ?_
      refine r_iconst (np := 8) G 1 dX3_settle_7 rfl ?_
      refine r_iadd (np := 9) G dX3_settle_8 rfl ?_
      obtain ⟨a39, e40, hm⟩ := bnd_t hm
      refine r_istore_n (np := 10) G hl e40 [(2, vI a39), (0, .ref (eA E v0)), (1, vI v1)] dX3_settle_9 rfl rfl (by decide) rfl (fun ls hl => ?_)
      exact wX3_settle_L10 l E out G hr hk v0 v1 g0 (fun zσ => mX3_settle_B79 v0 (mX3_settle_L2 v0 x85 n) x85 v1 zσ) (fun zσ zH zl zs zm zM zv => wX3_settle_B79 l E out G hr hk v0 g0 (mX3_settle_L2 v0 x85 n) x85 ih hx85 v1 zσ zH zl zs zm zM zv) mF a39 _ _ _ _ hm hM (lv_sub hl [1, 2, 0] rfl)
set_option maxRecDepth 100000 in
set_option maxHeartbeats 4000000 in
theorem qX3_settle (l : Launch) (E : mE) (σ : mSt) (v0 : Nat) (out : Int × mSt) (hm : mX3_settle v0 σ = some out) : mMet l yX3_settle cX3_settle 6 none 2 48 E 276 [.ref (eA E v0)] σ none out.2 := by
  unfold mX3_settle at hm
  obtain ⟨g0, hm⟩ := g_t hm
  refine m_entry (by decide +kernel) (Nat.le_of_ble_eq_true rfl) (fun p e s m args below meth c G hr hk hM ls hl => ?_)
  have G : CallFix p m c cX3_settle 6 s args mTs RX3 := G
  have hl : lv_has ls 6 [(0, .ref (eA E v0))] := hl
  refine r_iconst (np := 1) G 2 dX3_settle_0 rfl ?_
  refine r_istore_n (np := 2) G hl rfl [(1, vI 2), (0, .ref (eA E v0))] dX3_settle_1 rfl rfl (by decide) rfl (fun ls hl => ?_)
  exact wX3_settle_L2 l E out G hr hk v0 g0 (fun zσ => mX3_settle_B85 v0 zσ) (fun zσ zH zl zs zm zM zv => wX3_settle_B85 l E out G hr hk v0 g0 zσ zH zl zs zm zM zv) mF 2 _ _ _ _ hm hM (lv_sub hl [1, 0] rfl)
theorem gX3_settle {v0 : Nat} {σ : mSt} {out : Int × mSt} (hm : mX3_settle v0 σ = some out) : isC v0 3 := (g_t hm).1
set_option maxRecDepth 100000 in
set_option maxHeartbeats 4000000 in
theorem wX3_lower_B97 (l : Launch) (E : mE) (out : Int × mSt) {p : Program} {e : Env} {s : State} {m : MethodId} {args : Array Value} {below : List Frame} {meth : Method} {c : Code} (G : CallFix p m c cX3_lower 5 s args mTs RX3) (hr : meth.sig.returnType = none) (hk : meth.locks = false) (v0 : Nat) (g0 : isC v0 3) : ∀ (v1 : Int) (σ : mSt) (H : Heap) (locs : List Loc) (ls : Array Slot), mX3_lower_B97 v0 v1 σ = some out → mM (mA E 276) E 276 σ s H locs → lv_has ls 5 [(0, .ref (eA E v0)), (1, vL v1)] → mGo l p e 2 51 s m args below meth c E none out.2 H locs (F0 m 97 ls []) := by
  intro v1 σ H locs ls hm hM hl
  unfold mX3_lower_B97 at hm
  refine r_aload_n (np := 98) G hl 0 rfl dX3_lower_97 rfl rfl ?_
  refine r_aload_n (np := 99) G hl 0 rfl dX3_lower_98 rfl rfl ?_
  refine r_getL (np := 102) G hM (shp_lt g0 (by decide)) g0 fdX3_2 lkX3_18 dX3_lower_99 rfl ?_
  refine r_lload_n (np := 103) G hl 1 rfl dX3_lower_102 rfl rfl ?_
  obtain ⟨b1, s2, e3, hm⟩ := call_t hm
  refine m_callSL (np := 106) G hM hl.1 [vL (σ v0 2), vL v1] (qX5_quotient l E σ (σ v0 2) v1 _ e3) myX5_quotient lkX3_28 ⟨Nat.le_of_ble_eq_true rfl, Nat.le_of_ble_eq_true rfl⟩ ⟨Nat.le_of_ble_eq_true rfl, Nat.le_of_ble_eq_true rfl⟩ [.ref (eA E v0)] rfl (Nat.le_of_ble_eq_true rfl) dX3_lower_103 rfl (fun H locs hM => ?_)
  obtain ⟨s4, e5, hm⟩ := bnd_t hm
  refine r_putL (np := 109) G hM (shp_lt g0 (by decide)) g0 ptX3_2 rfl lkX3_18 s4 e5 dX3_lower_106 rfl (fun H locs hM => ?_)
  exact r_vret G hr hk hM hm dX3_lower_109
set_option maxRecDepth 100000 in
set_option maxHeartbeats 4000000 in
theorem wX3_lower_B91 (l : Launch) (E : mE) (out : Int × mSt) {p : Program} {e : Env} {s : State} {m : MethodId} {args : Array Value} {below : List Frame} {meth : Method} {c : Code} (G : CallFix p m c cX3_lower 5 s args mTs RX3) (hr : meth.sig.returnType = none) (hk : meth.locks = false) (v0 : Nat) (v1 : Int) (g0 : isC v0 3) (c49 : Int → mSt → Option (Int × mSt)) (x97 : mSt → Option (Int × mSt)) (hc49 : ∀ (v3 : Int) (σ : mSt) (H : Heap) (locs : List Loc) (ls : Array Slot), c49 v3 σ = some out → mM (mA E 276) E 276 σ s H locs → lv_has ls 5 [(0, .ref (eA E v0)), (1, vL v1), (3, vI v3)] → mGo l p e 2 51 s m args below meth c E none out.2 H locs (F0 m 49 ls [])) (hx97 : ∀ (σ : mSt) (H : Heap) (locs : List Loc) (ls : Array Slot), x97 σ = some out → mM (mA E 276) E 276 σ s H locs → lv_has ls 5 [(0, .ref (eA E v0)), (1, vL v1)] → mGo l p e 2 51 s m args below meth c E none out.2 H locs (F0 m 97 ls [])) : ∀ (v3 : Int) (σ : mSt) (H : Heap) (locs : List Loc) (ls : Array Slot), mX3_lower_B91 v0 v1 c49 x97 v3 σ = some out → mM (mA E 276) E 276 σ s H locs → lv_has ls 5 [(0, .ref (eA E v0)), (1, vL v1), (3, vI v3)] → mGo l p e 2 51 s m args below meth c E none out.2 H locs (F0 m 91 ls []) := by
  intro v3 σ H locs ls hm hM hl
  unfold mX3_lower_B91 at hm
  obtain ⟨a6, e7, hm⟩ := bnd_t hm
  refine r_iinc (np := 94) G hl 2 rfl e7 [(3, vI a6), (0, .ref (eA E v0)), (1, vL v1)] dX3_lower_91 rfl (by decide) rfl (fun ls hl => ?_)
  refine r_goto (np := 49) G dX3_lower_94 (by decide) ?_
  exact hc49 a6 _ _ _ _ hm hM (lv_sub hl [1, 2, 0] rfl)
set_option maxRecDepth 100000 in
set_option maxHeartbeats 4000000 in
theorem wX3_lower_L57 (l : Launch) (E : mE) (out : Int × mSt) {p : Program} {e : Env} {s : State} {m : MethodId} {args : Array Value} {below : List Frame} {meth : Method} {c : Code} (G : CallFix p m c cX3_lower 5 s args mTs RX3) (hr : meth.sig.returnType = none) (hk : meth.locks = false) (v0 : Nat) (v1 : Int) (v3 : Int) (g0 : isC v0 3) (x91 : mSt → Option (Int × mSt)) (hx91 : ∀ (σ : mSt) (H : Heap) (locs : List Loc) (ls : Array Slot), x91 σ = some out → mM (mA E 276) E 276 σ s H locs → lv_has ls 5 [(0, .ref (eA E v0)), (1, vL v1), (3, vI v3)] → mGo l p e 2 51 s m args below meth c E none out.2 H locs (F0 m 91 ls [])) : ∀ (n : Nat) (v4 : Int) (σ : mSt) (H : Heap) (locs : List Loc) (ls : Array Slot), mX3_lower_L57 v0 v1 v3 x91 n v4 σ = some out → mM (mA E 276) E 276 σ s H locs → lv_has ls 5 [(0, .ref (eA E v0)), (1, vL v1), (3, vI v3), (4, vI v4)] → mGo l p e 2 51 s m args below meth c E none out.2 H locs (F0 m 57 ls []) := by
  intro n
  induction n with
  | zero =>
    intro v4 σ H locs ls hm hM hl
    exact absurd hm (by rw [mX3_lower_L57.eq_1]; exact fun h => nomatch h)
  | succ n ih =>
    intro v4 σ H locs ls hm hM hl
    rw [mX3_lower_L57.eq_2] at hm
    refine r_iload (np := 59) G hl 3 rfl dX3_lower_57 rfl ?_
    refine r_iconst (np := 60) G 4 dX3_lower_59 rfl ?_
    refine r_icmp_ge (np := 63) (tgt := 91) G rfl (wIk 4 rfl) dX3_lower_60 (by decide) rfl (fun h8 => ?_) (fun h8 => ?_)
    · have hm := b_t h8 hm
      exact hx91 _ _ _ _ hm hM (lv_sub hl [0, 1, 2] rfl)
    · have hm := b_f h8 hm
      refine r_aload_n (np := 64) G hl 0 rfl dX3_lower_63 rfl rfl ?_
      obtain ⟨r9, e10, hm⟩ := ref_t hm
      refine r_getR (np := 67) G hM (shp_lt g0 (by decide)) g0 e10 fdX3_0 lkX3_9 dX3_lower_64 rfl ?_
      refine r_iload_n (np := 68) G hl 2 rfl dX3_lower_67 rfl rfl ?_
      obtain ⟨g11, hm⟩ := g_t hm
      obtain ⟨r12, e13, hm⟩ := ref_t hm
      refine r_aaload (np := 69) G hM (t := 7) g11 rfl ⟨by decide, by decide⟩ rfl rfl e13 dX3_lower_68 rfl ?_
      refine r_iload (np := 71) G hl 3 rfl dX3_lower_69 rfl ?_
      refine r_aload_n (np := 72) G hl 0 rfl dX3_lower_71 rfl rfl ?_
      obtain ⟨r14, e15, hm⟩ := ref_t hm
      refine r_getR (np := 75) G hM (shp_lt g0 (by decide)) g0 e15 fdX3_0 lkX3_9 dX3_lower_72 rfl ?_
      refine r_iload_n (np := 76) G hl 2 rfl dX3_lower_75 rfl rfl ?_
      obtain ⟨g16, hm⟩ := g_t hm
      obtain ⟨r17, e18, hm⟩ := ref_t hm
      refine r_aaload (np := 77) G hM (t := 7) g16 rfl ⟨by decide, by decide⟩ rfl rfl e18 dX3_lower_76 rfl ?_
      refine r_iload (np := 79) G hl 3 rfl dX3_lower_77 rfl ?_
      obtain ⟨g19, hm⟩ := g_t hm
      refine r_laload (np := 80) G hM g19 rfl dX3_lower_79 rfl ?_
      refine r_lload_n (np := 81) G hl 1 rfl dX3_lower_80 rfl rfl ?_
      obtain ⟨b20, s21, e22, hm⟩ := call_t hm
      refine m_callSL (np := 84) G hM hl.1 [vL (σ r17 (wI v4).toNat), vL v1] (qX5_quotient l E σ (σ r17 (wI v4).toNat) v1 _ e22) myX5_quotient lkX3_28 ⟨Nat.le_of_ble_eq_true rfl, Nat.le_of_ble_eq_true rfl⟩ ⟨Nat.le_of_ble_eq_true rfl, Nat.le_of_ble_eq_true rfl⟩ [vI v4, .ref (eA E r12)] rfl (Nat.le_of_ble_eq_true rfl) dX3_lower_81 rfl (fun H locs hM => ?_)
      obtain ⟨g23, hm⟩ := g_t hm
      obtain ⟨s24, e25, hm⟩ := bnd_t hm
      refine r_lastore (np := 85) G hM g23 rfl s24 e25 dX3_lower_84 rfl (fun H locs hM => ?_)
      obtain ⟨a26, e27, hm⟩ := bnd_t hm
      refine r_iinc (np := 88) G hl 3 rfl e27 [(4, vI a26), (0, .ref (eA E v0)), (1, vL v1), (3, vI v3)] dX3_lower_85 rfl (by decide) rfl (fun ls hl => ?_)
      refine r_goto (np := 57) G dX3_lower_88 (by decide) ?_
      exact ih a26 _ _ _ _ hm hM (lv_sub hl [1, 2, 3, 0] rfl)
set_option maxRecDepth 100000 in
set_option maxHeartbeats 4000000 in
theorem wX3_lower_L49 (l : Launch) (E : mE) (out : Int × mSt) {p : Program} {e : Env} {s : State} {m : MethodId} {args : Array Value} {below : List Frame} {meth : Method} {c : Code} (G : CallFix p m c cX3_lower 5 s args mTs RX3) (hr : meth.sig.returnType = none) (hk : meth.locks = false) (v0 : Nat) (v1 : Int) (g0 : isC v0 3) (x97 : mSt → Option (Int × mSt)) (hx97 : ∀ (σ : mSt) (H : Heap) (locs : List Loc) (ls : Array Slot), x97 σ = some out → mM (mA E 276) E 276 σ s H locs → lv_has ls 5 [(0, .ref (eA E v0)), (1, vL v1)] → mGo l p e 2 51 s m args below meth c E none out.2 H locs (F0 m 97 ls [])) : ∀ (n : Nat) (v3 : Int) (σ : mSt) (H : Heap) (locs : List Loc) (ls : Array Slot), mX3_lower_L49 v0 v1 x97 n v3 σ = some out → mM (mA E 276) E 276 σ s H locs → lv_has ls 5 [(0, .ref (eA E v0)), (1, vL v1), (3, vI v3)] → mGo l p e 2 51 s m args below meth c E none out.2 H locs (F0 m 49 ls []) := by
  intro n
  induction n with
  | zero =>
    intro v3 σ H locs ls hm hM hl
    exact absurd hm (by rw [mX3_lower_L49.eq_1]; exact fun h => nomatch h)
  | succ n ih =>
    intro v3 σ H locs ls hm hM hl
    rw [mX3_lower_L49.eq_2] at hm
    refine r_iload_n (np := 50) G hl 2 rfl dX3_lower_49 rfl rfl ?_
    refine r_iconst (np := 51) G 4 dX3_lower_50 rfl ?_
    refine r_icmp_ge (np := 54) (tgt := 97) G rfl (wIk 4 rfl) dX3_lower_51 (by decide) rfl (fun h28 => ?_) (fun h28 => ?_)
    · have hm := b_t h28 hm
      exact hx97 _ _ _ _ hm hM (lv_sub hl [0, 1] rfl)
    · have hm := b_f h28 hm
      refine r_iload_n (np := 55) G hl 2 rfl dX3_lower_54 rfl rfl ?_
      refine r_istore (np := 57) G hl rfl [(4, vI v3), (0, .ref (eA E v0)), (1, vL v1), (3, vI v3)] dX3_lower_55 rfl (by decide) rfl (fun ls hl => ?_)
      exact wX3_lower_L57 l E out G hr hk v0 v1 v3 g0 (fun zσ => mX3_lower_B91 v0 v1 (mX3_lower_L49 v0 v1 x97 n) x97 v3 zσ) (fun zσ zH zl zs zm zM zv => wX3_lower_B91 l E out G hr hk v0 v1 g0 (mX3_lower_L49 v0 v1 x97 n) x97 ih hx97 v3 zσ zH zl zs zm zM zv) mF v3 _ _ _ _ hm hM (lv_sub hl [1, 2, 3, 0] rfl)
set_option maxRecDepth 100000 in
set_option maxHeartbeats 4000000 in
theorem wX3_lower_B47 (l : Launch) (E : mE) (out : Int × mSt) {p : Program} {e : Env} {s : State} {m : MethodId} {args : Array Value} {below : List Frame} {meth : Method} {c : Code} (G : CallFix p m c cX3_lower 5 s args mTs RX3) (hr : meth.sig.returnType = none) (hk : meth.locks = false) (v0 : Nat) (g0 : isC v0 3) : ∀ (v1 : Int) (σ : mSt) (H : Heap) (locs : List Loc) (ls : Array Slot), mX3_lower_B47 v0 v1 σ = some out → mM (mA E 276) E 276 σ s H locs → lv_has ls 5 [(0, .ref (eA E v0)), (1, vL v1)] → mGo l p e 2 51 s m args below meth c E none out.2 H locs (F0 m 47 ls []) := by
  intro v1 σ H locs ls hm hM hl
  unfold mX3_lower_B47 at hm
  refine r_iconst (np := 48) G 0 dX3_lower_47 rfl ?_
  refine r_istore_n (np := 49) G hl rfl [(3, vI 0), (0, .ref (eA E v0)), (1, vL v1)] dX3_lower_48 rfl rfl (by decide) rfl (fun ls hl => ?_)
  exact wX3_lower_L49 l E out G hr hk v0 v1 g0 (fun zσ => mX3_lower_B97 v0 v1 zσ) (fun zσ zH zl zs zm zM zv => wX3_lower_B97 l E out G hr hk v0 g0 v1 zσ zH zl zs zm zM zv) mF 0 _ _ _ _ hm hM (lv_sub hl [1, 2, 0] rfl)
set_option maxRecDepth 100000 in
set_option maxHeartbeats 4000000 in
theorem wX3_lower_B41 (l : Launch) (E : mE) (out : Int × mSt) {p : Program} {e : Env} {s : State} {m : MethodId} {args : Array Value} {below : List Frame} {meth : Method} {c : Code} (G : CallFix p m c cX3_lower 5 s args mTs RX3) (hr : meth.sig.returnType = none) (hk : meth.locks = false) (v0 : Nat) (g0 : isC v0 3) (c7 : Int → Int → mSt → Option (Int × mSt)) (x47 : Int → mSt → Option (Int × mSt)) (hc7 : ∀ (v1 : Int) (v3 : Int) (σ : mSt) (H : Heap) (locs : List Loc) (ls : Array Slot), c7 v1 v3 σ = some out → mM (mA E 276) E 276 σ s H locs → lv_has ls 5 [(0, .ref (eA E v0)), (1, vL v1), (3, vI v3)] → mGo l p e 2 51 s m args below meth c E none out.2 H locs (F0 m 7 ls [])) (hx47 : ∀ (v1 : Int) (σ : mSt) (H : Heap) (locs : List Loc) (ls : Array Slot), x47 v1 σ = some out → mM (mA E 276) E 276 σ s H locs → lv_has ls 5 [(0, .ref (eA E v0)), (1, vL v1)] → mGo l p e 2 51 s m args below meth c E none out.2 H locs (F0 m 47 ls [])) : ∀ (v1 : Int) (v3 : Int) (σ : mSt) (H : Heap) (locs : List Loc) (ls : Array Slot), mX3_lower_B41 v0 c7 x47 v1 v3 σ = some out → mM (mA E 276) E 276 σ s H locs → lv_has ls 5 [(0, .ref (eA E v0)), (1, vL v1), (3, vI v3)] → mGo l p e 2 51 s m args below meth c E none out.2 H locs (F0 m 41 ls []) := by
  intro v1 v3 σ H locs ls hm hM hl
  unfold mX3_lower_B41 at hm
  obtain ⟨a29, e30, hm⟩ := bnd_t hm
  refine r_iinc (np := 44) G hl 2 rfl e30 [(3, vI a29), (0, .ref (eA E v0)), (1, vL v1)] dX3_lower_41 rfl (by decide) rfl (fun ls hl => ?_)
  refine r_goto (np := 7) G dX3_lower_44 (by decide) ?_
  exact hc7 v1 a29 _ _ _ _ hm hM (lv_sub hl [1, 2, 0] rfl)
set_option maxRecDepth 100000 in
set_option maxHeartbeats 4000000 in
theorem wX3_lower_L15 (l : Launch) (E : mE) (out : Int × mSt) {p : Program} {e : Env} {s : State} {m : MethodId} {args : Array Value} {below : List Frame} {meth : Method} {c : Code} (G : CallFix p m c cX3_lower 5 s args mTs RX3) (hr : meth.sig.returnType = none) (hk : meth.locks = false) (v0 : Nat) (v3 : Int) (g0 : isC v0 3) (x41 : Int → mSt → Option (Int × mSt)) (hx41 : ∀ (v1 : Int) (σ : mSt) (H : Heap) (locs : List Loc) (ls : Array Slot), x41 v1 σ = some out → mM (mA E 276) E 276 σ s H locs → lv_has ls 5 [(0, .ref (eA E v0)), (1, vL v1), (3, vI v3)] → mGo l p e 2 51 s m args below meth c E none out.2 H locs (F0 m 41 ls [])) : ∀ (n : Nat) (v1 : Int) (v4 : Int) (σ : mSt) (H : Heap) (locs : List Loc) (ls : Array Slot), mX3_lower_L15 v0 v3 x41 n v1 v4 σ = some out → mM (mA E 276) E 276 σ s H locs → lv_has ls 5 [(0, .ref (eA E v0)), (1, vL v1), (3, vI v3), (4, vI v4)] → mGo l p e 2 51 s m args below meth c E none out.2 H locs (F0 m 15 ls []) := by
  intro n
  induction n with
  | zero =>
    intro v1 v4 σ H locs ls hm hM hl
    exact absurd hm (by rw [mX3_lower_L15.eq_1]; exact fun h => nomatch h)
  | succ n ih =>
    intro v1 v4 σ H locs ls hm hM hl
    rw [mX3_lower_L15.eq_2] at hm
    refine r_iload (np := 17) G hl 3 rfl dX3_lower_15 rfl ?_
    refine r_iconst (np := 18) G 4 dX3_lower_17 rfl ?_
    refine r_icmp_ge (np := 21) (tgt := 41) G rfl (wIk 4 rfl) dX3_lower_18 (by decide) rfl (fun h31 => ?_) (fun h31 => ?_)
    · have hm := b_t h31 hm
      exact hx41 v1 _ _ _ _ hm hM (lv_sub hl [0, 1, 2] rfl)
    · have hm := b_f h31 hm
      refine r_lload_n (np := 22) G hl 1 rfl dX3_lower_21 rfl rfl ?_
      refine r_aload_n (np := 23) G hl 0 rfl dX3_lower_22 rfl rfl ?_
      obtain ⟨r32, e33, hm⟩ := ref_t hm
      refine r_getR (np := 26) G hM (shp_lt g0 (by decide)) g0 e33 fdX3_0 lkX3_9 dX3_lower_23 rfl ?_
      refine r_iload_n (np := 27) G hl 2 rfl dX3_lower_26 rfl rfl ?_
      obtain ⟨g34, hm⟩ := g_t hm
      obtain ⟨r35, e36, hm⟩ := ref_t hm
      refine r_aaload (np := 28) G hM (t := 7) g34 rfl ⟨by decide, by decide⟩ rfl rfl e36 dX3_lower_27 rfl ?_
      refine r_iload (np := 30) G hl 3 rfl dX3_lower_28 rfl ?_
      obtain ⟨g37, hm⟩ := g_t hm
      refine r_laload (np := 31) G hM g37 rfl dX3_lower_30 rfl ?_
      obtain ⟨b38, s39, e40, hm⟩ := call_t hm
      refine m_callSL (np := 34) G hM hl.1 [vL v1, vL (σ r35 (wI v4).toNat)] (qX5_greatestDivisor l E σ v1 (σ r35 (wI v4).toNat) _ e40) myX5_greatestDivisor lkX3_31 ⟨Nat.le_of_ble_eq_true rfl, Nat.le_of_ble_eq_true rfl⟩ ⟨Nat.le_of_ble_eq_true rfl, Nat.le_of_ble_eq_true rfl⟩ [] rfl (Nat.le_of_ble_eq_true rfl) dX3_lower_31 rfl (fun H locs hM => ?_)
      refine r_lstore_n (np := 35) G hl rfl [(1, vL b38), (0, .ref (eA E v0)), (3, vI v3), (4, vI v4)] dX3_lower_34 rfl rfl (by decide) rfl (fun ls hl => ?_)
      obtain ⟨a41, e42, hm⟩ := bnd_t hm
      refine r_iinc (np := 38) G hl 3 rfl e42 [(4, vI a41), (1, vL b38), (0, .ref (eA E v0)), (3, vI v3)] dX3_lower_35 rfl (by decide) rfl (fun ls hl => ?_)
      refine r_goto (np := 15) G dX3_lower_38 (by decide) ?_
      exact ih b38 a41 _ _ _ _ hm hM (lv_sub hl [2, 1, 3, 0] rfl)
set_option maxRecDepth 100000 in
set_option maxHeartbeats 4000000 in
theorem wX3_lower_L7 (l : Launch) (E : mE) (out : Int × mSt) {p : Program} {e : Env} {s : State} {m : MethodId} {args : Array Value} {below : List Frame} {meth : Method} {c : Code} (G : CallFix p m c cX3_lower 5 s args mTs RX3) (hr : meth.sig.returnType = none) (hk : meth.locks = false) (v0 : Nat) (g0 : isC v0 3) (x47 : Int → mSt → Option (Int × mSt)) (hx47 : ∀ (v1 : Int) (σ : mSt) (H : Heap) (locs : List Loc) (ls : Array Slot), x47 v1 σ = some out → mM (mA E 276) E 276 σ s H locs → lv_has ls 5 [(0, .ref (eA E v0)), (1, vL v1)] → mGo l p e 2 51 s m args below meth c E none out.2 H locs (F0 m 47 ls [])) : ∀ (n : Nat) (v1 : Int) (v3 : Int) (σ : mSt) (H : Heap) (locs : List Loc) (ls : Array Slot), mX3_lower_L7 v0 x47 n v1 v3 σ = some out → mM (mA E 276) E 276 σ s H locs → lv_has ls 5 [(0, .ref (eA E v0)), (1, vL v1), (3, vI v3)] → mGo l p e 2 51 s m args below meth c E none out.2 H locs (F0 m 7 ls []) := by
  intro n
  induction n with
  | zero =>
    intro v1 v3 σ H locs ls hm hM hl
    exact absurd hm (by rw [mX3_lower_L7.eq_1]; exact fun h => nomatch h)
  | succ n ih =>
    intro v1 v3 σ H locs ls hm hM hl
    rw [mX3_lower_L7.eq_2] at hm
    refine r_iload_n (np := 8) G hl 2 rfl dX3_lower_7 rfl rfl ?_
    refine r_iconst (np := 9) G 4 dX3_lower_8 rfl ?_
    refine r_icmp_ge (np := 12) (tgt := 47) G rfl (wIk 4 rfl) dX3_lower_9 (by decide) rfl (fun h43 => ?_) (fun h43 => ?_)
    · have hm := b_t h43 hm
      exact hx47 v1 _ _ _ _ hm hM (lv_sub hl [0, 1] rfl)
    · have hm := b_f h43 hm
      refine r_iload_n (np := 13) G hl 2 rfl dX3_lower_12 rfl rfl ?_
      refine r_istore (np := 15) G hl rfl [(4, vI v3), (0, .ref (eA E v0)), (1, vL v1), (3, vI v3)] dX3_lower_13 rfl (by decide) rfl (fun ls hl => ?_)
      exact wX3_lower_L15 l E out G hr hk v0 v3 g0 (fun z1 zσ => mX3_lower_B41 v0 (mX3_lower_L7 v0 x47 n) x47 z1 v3 zσ) (fun z1 zσ zH zl zs zm zM zv => wX3_lower_B41 l E out G hr hk v0 g0 (mX3_lower_L7 v0 x47 n) x47 ih hx47 z1 v3 zσ zH zl zs zm zM zv) mF v1 v3 _ _ _ _ hm hM (lv_sub hl [1, 2, 3, 0] rfl)
set_option maxRecDepth 100000 in
set_option maxHeartbeats 4000000 in
theorem qX3_lower (l : Launch) (E : mE) (σ : mSt) (v0 : Nat) (out : Int × mSt) (hm : mX3_lower v0 σ = some out) : mMet l yX3_lower cX3_lower 5 none 2 51 E 276 [.ref (eA E v0)] σ none out.2 := by
  unfold mX3_lower at hm
  obtain ⟨g0, hm⟩ := g_t hm
  refine m_entry (by decide +kernel) (Nat.le_of_ble_eq_true rfl) (fun p e s m args below meth c G hr hk hM ls hl => ?_)
  have G : CallFix p m c cX3_lower 5 s args mTs RX3 := G
  have hl : lv_has ls 5 [(0, .ref (eA E v0))] := hl
  refine r_aload_n (np := 1) G hl 0 rfl dX3_lower_0 rfl rfl ?_
  refine r_getL (np := 4) G hM (shp_lt g0 (by decide)) g0 fdX3_2 lkX3_18 dX3_lower_1 rfl ?_
  obtain ⟨a44, e45, hm⟩ := bnd_t hm
  refine r_lstore_n (np := 5) G hl e45 [(1, vL a44), (0, .ref (eA E v0))] dX3_lower_4 rfl rfl (by decide) rfl (fun ls hl => ?_)
  refine r_iconst (np := 6) G 0 dX3_lower_5 rfl ?_
  refine r_istore_n (np := 7) G hl rfl [(3, vI 0), (1, vL a44), (0, .ref (eA E v0))] dX3_lower_6 rfl rfl (by decide) rfl (fun ls hl => ?_)
  exact wX3_lower_L7 l E out G hr hk v0 g0 (fun z1 zσ => mX3_lower_B47 v0 z1 zσ) (fun z1 zσ zH zl zs zm zM zv => wX3_lower_B47 l E out G hr hk v0 g0 z1 zσ zH zl zs zm zM zv) mF a44 0 _ _ _ _ hm hM (lv_sub hl [2, 1, 0] rfl)
theorem gX3_lower {v0 : Nat} {σ : mSt} {out : Int × mSt} (hm : mX3_lower v0 σ = some out) : isC v0 3 := (g_t hm).1
