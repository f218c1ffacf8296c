theorem lkX0_9 : Cond.fieldLink RX0 9 (TX0 0).1 (TX0 0).2.1 (TX0 0).2.2.1 ∈ mTs := mTs_in 101 (by decide +kernel) (by decide +kernel)
theorem inX0 : ∀ w ∈ u_ws RX0 TX0 8, w ∈ mTs := mTs_ins _ [109, 111, 113, 115, 117, 119, 121, 123] (by decide +kernel) (by decide +kernel)
theorem fdX0_0 : mFld 0 0 0 8 RX0 TX0 := ⟨rfl, inX0, by decide, rfl, by decide⟩
theorem lkX0_15 : Cond.fieldLink RX0 15 (TX0 1).1 (TX0 1).2.1 (TX0 1).2.2.1 ∈ mTs := mTs_in 102 (by decide +kernel) (by decide +kernel)
theorem fdX0_1 : mFld 0 1 2 8 RX0 TX0 := ⟨rfl, inX0, by decide, rfl, by decide⟩
theorem lkX0_19 : Cond.fieldLink RX0 19 (TX0 2).1 (TX0 2).2.1 (TX0 2).2.2.1 ∈ mTs := mTs_in 103 (by decide +kernel) (by decide +kernel)
theorem fdX0_2 : mFld 0 2 2 8 RX0 TX0 := ⟨rfl, inX0, by decide, rfl, by decide⟩
theorem lkX0_22 : Cond.fieldLink RX0 22 (TX0 3).1 (TX0 3).2.1 (TX0 3).2.2.1 ∈ mTs := mTs_in 104 (by decide +kernel) (by decide +kernel)
theorem fdX0_3 : mFld 0 3 2 8 RX0 TX0 := ⟨rfl, inX0, by decide, rfl, by decide⟩
theorem lkX0_35 : Cond.fieldLink RX0 35 (TX0 6).1 (TX0 6).2.1 (TX0 6).2.2.1 ∈ mTs := mTs_in 107 (by decide +kernel) (by decide +kernel)
theorem fdX0_6 : mFld 0 6 2 8 RX0 TX0 := ⟨rfl, inX0, by decide, rfl, by decide⟩
theorem lkX0_38 : Cond.fieldLink RX0 38 (TX0 7).1 (TX0 7).2.1 (TX0 7).2.2.1 ∈ mTs := mTs_in 108 (by decide +kernel) (by decide +kernel)
theorem fdX0_7 : mFld 0 7 2 8 RX0 TX0 := ⟨rfl, inX0, by decide, rfl, by decide⟩
theorem ptX0_0 : mPut 0 0 0 8 RX0 TX0 tyX0 .int := ⟨fdX0_0, tyX0_ok, nmX0, (by decide +kernel), rfl⟩
theorem lkX10_22 : Cond.fieldLink RX10 22 (TX10 3).1 (TX10 3).2.1 (TX10 3).2.2.1 ∈ mTs := mTs_in 77 (by decide +kernel) (by decide +kernel)
theorem inX10 : ∀ w ∈ u_ws RX10 TX10 5, w ∈ mTs := mTs_ins _ [79, 81, 83, 85, 87] (by decide +kernel) (by decide +kernel)
theorem fdX10_3 : mFld 9 3 0 5 RX10 TX10 := ⟨rfl, inX10, by decide, rfl, by decide⟩
theorem lkX10_19 : Cond.fieldLink RX10 19 (TX10 2).1 (TX10 2).2.1 (TX10 2).2.2.1 ∈ mTs := mTs_in 76 (by decide +kernel) (by decide +kernel)
theorem fdX10_2 : mFld 9 2 0 5 RX10 TX10 := ⟨rfl, inX10, by decide, rfl, by decide⟩
theorem lkX10_9 : Cond.fieldLink RX10 9 (TX10 0).1 (TX10 0).2.1 (TX10 0).2.2.1 ∈ mTs := mTs_in 74 (by decide +kernel) (by decide +kernel)
theorem fdX10_0 : mFld 9 0 2 5 RX10 TX10 := ⟨rfl, inX10, by decide, rfl, by decide⟩
theorem lkX0_25 : Cond.fieldLink RX0 25 (TX0 4).1 (TX0 4).2.1 (TX0 4).2.2.1 ∈ mTs := mTs_in 105 (by decide +kernel) (by decide +kernel)
theorem fdX0_4 : mFld 0 4 2 8 RX0 TX0 := ⟨rfl, inX0, by decide, rfl, by decide⟩
theorem lkX0_30 : Cond.fieldLink RX0 30 (TX0 5).1 (TX0 5).2.1 (TX0 5).2.2.1 ∈ mTs := mTs_in 106 (by decide +kernel) (by decide +kernel)
theorem fdX0_5 : mFld 0 5 2 8 RX0 TX0 := ⟨rfl, inX0, by decide, rfl, by decide⟩
theorem lkX0_51 : Cond.methodLink RX0 51 yX10_byteAt ∈ mTs := mTs_in 603 (by decide +kernel) (by decide +kernel)
theorem myX10_byteAt : mYV yX10_byteAt cX10_byteAt 2 (some .byte) 1 := ⟨⟨mTs_in 569 (by decide +kernel) (by decide +kernel), mTs_in 32 (by decide +kernel) (by decide +kernel), ⟨by decide, by decide⟩, by decide +kernel⟩, mTs_in 567 (by decide +kernel) (by decide +kernel), mTs_in 568 (by decide +kernel) (by decide +kernel)⟩
theorem lkX0_41 : Cond.methodLink RX0 41 yX0_isFull ∈ mTs := mTs_in 608 (by decide +kernel) (by decide +kernel)
theorem myX0_isFull : mYV yX0_isFull cX0_isFull 1 (some .boolean) 0 := ⟨⟨mTs_in 583 (by decide +kernel) (by decide +kernel), mTs_in 33 (by decide +kernel) (by decide +kernel), ⟨by decide, by decide⟩, by decide +kernel⟩, mTs_in 581 (by decide +kernel) (by decide +kernel), mTs_in 582 (by decide +kernel) (by decide +kernel)⟩
theorem lkX0_45 : Cond.methodLink RX0 45 yX10_length ∈ mTs := mTs_in 602 (by decide +kernel) (by decide +kernel)
theorem myX10_length : mYV yX10_length cX10_length 1 (some .int) 0 := ⟨⟨mTs_in 564 (by decide +kernel) (by decide +kernel), mTs_in 32 (by decide +kernel) (by decide +kernel), ⟨by decide, by decide⟩, by decide +kernel⟩, mTs_in 562 (by decide +kernel) (by decide +kernel), mTs_in 563 (by decide +kernel) (by decide +kernel)⟩
theorem lkX0_55 : Cond.methodLink RX0 55 yX0_hasAllTerms ∈ mTs := mTs_in 671 (by decide +kernel) (by decide +kernel)
theorem myX0_hasAllTerms : mYV yX0_hasAllTerms cX0_hasAllTerms 1 (some .boolean) 0 := ⟨⟨mTs_in 666 (by decide +kernel) (by decide +kernel), mTs_in 33 (by decide +kernel) (by decide +kernel), ⟨by decide, by decide⟩, by decide +kernel⟩, mTs_in 664 (by decide +kernel) (by decide +kernel), mTs_in 665 (by decide +kernel) (by decide +kernel)⟩
theorem lkX0_58 : Cond.methodLink RX0 58 yX0_hasName ∈ mTs := mTs_in 598 (by decide +kernel) (by decide +kernel)
theorem myX0_hasName : mYV yX0_hasName cX0_hasName 5 (some .boolean) 2 := ⟨⟨mTs_in 601 (by decide +kernel) (by decide +kernel), mTs_in 33 (by decide +kernel) (by decide +kernel), ⟨by decide, by decide⟩, by decide +kernel⟩, mTs_in 600 (by decide +kernel) (by decide +kernel), mTs_in 12 (by decide +kernel) (by decide +kernel)⟩
theorem lkX1_19 : Cond.fieldLink RX1 19 (TX1 2).1 (TX1 2).2.1 (TX1 2).2.2.1 ∈ mTs := mTs_in 284 (by decide +kernel) (by decide +kernel)
theorem inX1 : ∀ w ∈ u_ws RX1 TX1 3, w ∈ mTs := mTs_ins _ [285, 287, 289] (by decide +kernel) (by decide +kernel)
theorem fdX1_2 : mFld 1 2 0 3 RX1 TX1 := ⟨rfl, inX1, by decide, rfl, by decide⟩
theorem ptX1_2 : mPut 1 2 0 3 RX1 TX1 tyX1 .int := ⟨fdX1_2, tyX1_ok, nmX1, (by decide +kernel), rfl⟩
theorem lkX3_9 : Cond.fieldLink RX3 9 (TX3 0).1 (TX3 0).2.1 (TX3 0).2.2.1 ∈ mTs := mTs_in 186 (by decide +kernel) (by decide +kernel)
theorem inX3 : ∀ w ∈ u_ws RX3 TX3 3, w ∈ mTs := mTs_ins _ [189, 191, 193] (by decide +kernel) (by decide +kernel)
theorem fdX3_0 : mFld 3 0 2 3 RX3 TX3 := ⟨rfl, inX3, by decide, rfl, by decide⟩
theorem lkX3_18 : Cond.fieldLink RX3 18 (TX3 2).1 (TX3 2).2.1 (TX3 2).2.2.1 ∈ mTs := mTs_in 188 (by decide +kernel) (by decide +kernel)
theorem fdX3_2 : mFld 3 2 1 3 RX3 TX3 := ⟨rfl, inX3, by decide, rfl, by decide⟩
theorem ptX3_2 : mPut 3 2 1 3 RX3 TX3 tyX3 .long := ⟨fdX3_2, tyX3_ok, nmX3, (by decide +kernel), rfl⟩
theorem lkX3_28 : Cond.methodLink RX3 28 yX5_quotient ∈ mTs := mTs_in 439 (by decide +kernel) (by decide +kernel)
theorem myX5_quotient : mYS yX5_quotient cX5_quotient 4 (some .long) 2 := ⟨⟨mTs_in 368 (by decide +kernel) (by decide +kernel), mTs_in 53 (by decide +kernel) (by decide +kernel), ⟨by decide, by decide⟩, by decide +kernel⟩, mTs_in 367 (by decide +kernel) (by decide +kernel)⟩
theorem lkX6_7 : Cond.fieldLink RX6 7 (TX6 0).1 (TX6 0).2.1 (TX6 0).2.2.1 ∈ mTs := mTs_in 197 (by decide +kernel) (by decide +kernel)
theorem inX6 : ∀ w ∈ u_ws RX6 TX6 4, w ∈ mTs := mTs_ins _ [201, 203, 205, 207] (by decide +kernel) (by decide +kernel)
theorem fdX6_0 : mFld 5 0 1 4 RX6 TX6 := ⟨rfl, inX6, by decide, rfl, by decide⟩
theorem ptX6_0 : mPut 5 0 1 4 RX6 TX6 tyX6 .long := ⟨fdX6_0, tyX6_ok, nmX6, (by decide +kernel), rfl⟩
theorem lkX6_13 : Cond.fieldLink RX6 13 (TX6 1).1 (TX6 1).2.1 (TX6 1).2.2.1 ∈ mTs := mTs_in 198 (by decide +kernel) (by decide +kernel)
theorem fdX6_1 : mFld 5 1 1 4 RX6 TX6 := ⟨rfl, inX6, by decide, rfl, by decide⟩
theorem ptX6_1 : mPut 5 1 1 4 RX6 TX6 tyX6 .long := ⟨fdX6_1, tyX6_ok, nmX6, (by decide +kernel), rfl⟩
theorem lkX6_19 : Cond.fieldLink RX6 19 (TX6 2).1 (TX6 2).2.1 (TX6 2).2.2.1 ∈ mTs := mTs_in 199 (by decide +kernel) (by decide +kernel)
theorem fdX6_2 : mFld 5 2 2 4 RX6 TX6 := ⟨rfl, inX6, by decide, rfl, by decide⟩
theorem lkX6_27 : Cond.methodLink RX6 27 yX3_begin ∈ mTs := mTs_in 758 (by decide +kernel) (by decide +kernel)
theorem myX3_begin : mYV yX3_begin cX3_begin 5 none 1 := ⟨⟨mTs_in 761 (by decide +kernel) (by decide +kernel), mTs_in 37 (by decide +kernel) (by decide +kernel), ⟨by decide, by decide⟩, by decide +kernel⟩, mTs_in 759 (by decide +kernel) (by decide +kernel), mTs_in 760 (by decide +kernel) (by decide +kernel)⟩
theorem lkX6_43 : Cond.constantLong RX6 43 (4) ∈ mTs := mTs_in 433 (by decide +kernel) (by decide +kernel)
theorem lkX6_45 : Cond.methodLink RX6 45 yJ9_abs_067f4 ∈ mTs := mTs_in 434 (by decide +kernel) (by decide +kernel)
theorem lkX6_51 : Cond.methodLink RX6 51 yX3_lotsByWhole ∈ mTs := mTs_in 435 (by decide +kernel) (by decide +kernel)
theorem myX3_lotsByWhole : mYV yX3_lotsByWhole cX3_lotsByWhole 6 (some .long) 1 := ⟨⟨mTs_in 438 (by decide +kernel) (by decide +kernel), mTs_in 37 (by decide +kernel) (by decide +kernel), ⟨by decide, by decide⟩, by decide +kernel⟩, mTs_in 436 (by decide +kernel) (by decide +kernel), mTs_in 437 (by decide +kernel) (by decide +kernel)⟩
theorem lkX6_54 : Cond.methodLink RX6 54 yX5_divides ∈ mTs := mTs_in 440 (by decide +kernel) (by decide +kernel)
theorem myX5_divides : mYS yX5_divides cX5_divides 4 (some .boolean) 2 := ⟨⟨mTs_in 442 (by decide +kernel) (by decide +kernel), mTs_in 53 (by decide +kernel) (by decide +kernel), ⟨by decide, by decide⟩, by decide +kernel⟩, mTs_in 441 (by decide +kernel) (by decide +kernel)⟩
theorem lkX6_60 : Cond.methodLink RX6 60 yX5_quotient ∈ mTs := mTs_in 443 (by decide +kernel) (by decide +kernel)
theorem lkX6_39 : Cond.methodLink RX6 39 yX6_discriminantOf ∈ mTs := mTs_in 429 (by decide +kernel) (by decide +kernel)
theorem myX6_discriminantOf : mYV yX6_discriminantOf cX6_discriminantOf 6 (some .long) 1 := ⟨⟨mTs_in 432 (by decide +kernel) (by decide +kernel), mTs_in 36 (by decide +kernel) (by decide +kernel), ⟨by decide, by decide⟩, by decide +kernel⟩, mTs_in 430 (by decide +kernel) (by decide +kernel), mTs_in 431 (by decide +kernel) (by decide +kernel)⟩
theorem lkX7_18 : Cond.fieldLink RX7 18 (TX7 2).1 (TX7 2).2.1 (TX7 2).2.2.1 ∈ mTs := mTs_in 151 (by decide +kernel) (by decide +kernel)
theorem inX7 : ∀ w ∈ u_ws RX7 TX7 4, w ∈ mTs := mTs_ins _ [153, 155, 157, 159] (by decide +kernel) (by decide +kernel)
theorem fdX7_2 : mFld 6 2 2 4 RX7 TX7 := ⟨rfl, inX7, by decide, rfl, by decide⟩
theorem lkX7_9 : Cond.fieldLink RX7 9 (TX7 0).1 (TX7 0).2.1 (TX7 0).2.2.1 ∈ mTs := mTs_in 149 (by decide +kernel) (by decide +kernel)
theorem fdX7_0 : mFld 6 0 0 4 RX7 TX7 := ⟨rfl, inX7, by decide, rfl, by decide⟩
theorem ptX7_0 : mPut 6 0 0 4 RX7 TX7 tyX7 .int := ⟨fdX7_0, tyX7_ok, nmX7, (by decide +kernel), rfl⟩
theorem lkX7_32 : Cond.methodLink RX7 32 yX7_note ∈ mTs := mTs_in 685 (by decide +kernel) (by decide +kernel)
theorem myX7_note : mYV yX7_note cX7_note 4 none 1 := ⟨⟨mTs_in 688 (by decide +kernel) (by decide +kernel), mTs_in 34 (by decide +kernel) (by decide +kernel), ⟨by decide, by decide⟩, by decide +kernel⟩, mTs_in 687 (by decide +kernel) (by decide +kernel), mTs_in 20 (by decide +kernel) (by decide +kernel)⟩
theorem lkX7_56 : Cond.methodLink RX7 56 yJ9_abs_0f7a4 ∈ mTs := mTs_in 699 (by decide +kernel) (by decide +kernel)
theorem myJ9_abs_0f7a4 : mYS yJ9_abs_0f7a4 cJ9_abs_0f7a4 1 (some .int) 1 := ⟨⟨mTs_in 701 (by decide +kernel) (by decide +kernel), mTs_in 46 (by decide +kernel) (by decide +kernel), ⟨by decide, by decide⟩, by decide +kernel⟩, mTs_in 700 (by decide +kernel) (by decide +kernel)⟩
theorem lkX7_53 : Cond.methodLink RX7 53 yX0_second ∈ mTs := mTs_in 702 (by decide +kernel) (by decide +kernel)
theorem myX0_second : mYV yX0_second cX0_second 2 (some .int) 1 := ⟨⟨mTs_in 407 (by decide +kernel) (by decide +kernel), mTs_in 33 (by decide +kernel) (by decide +kernel), ⟨by decide, by decide⟩, by decide +kernel⟩, mTs_in 405 (by decide +kernel) (by decide +kernel), mTs_in 406 (by decide +kernel) (by decide +kernel)⟩
theorem lkX7_50 : Cond.methodLink RX7 50 yX7_noteDivisors ∈ mTs := mTs_in 695 (by decide +kernel) (by decide +kernel)
theorem myX7_noteDivisors : mYV yX7_noteDivisors cX7_noteDivisors 5 none 1 := ⟨⟨mTs_in 698 (by decide +kernel) (by decide +kernel), mTs_in 34 (by decide +kernel) (by decide +kernel), ⟨by decide, by decide⟩, by decide +kernel⟩, mTs_in 697 (by decide +kernel) (by decide +kernel), mTs_in 22 (by decide +kernel) (by decide +kernel)⟩
theorem lkX7_43 : Cond.methodLink RX7 43 yX0_kind ∈ mTs := mTs_in 693 (by decide +kernel) (by decide +kernel)
theorem myX0_kind : mYV yX0_kind cX0_kind 2 (some .int) 1 := ⟨⟨mTs_in 395 (by decide +kernel) (by decide +kernel), mTs_in 33 (by decide +kernel) (by decide +kernel), ⟨by decide, by decide⟩, by decide +kernel⟩, mTs_in 393 (by decide +kernel) (by decide +kernel), mTs_in 394 (by decide +kernel) (by decide +kernel)⟩
theorem lkX7_47 : Cond.methodLink RX7 47 yX0_first ∈ mTs := mTs_in 694 (by decide +kernel) (by decide +kernel)
theorem myX0_first : mYV yX0_first cX0_first 2 (some .int) 1 := ⟨⟨mTs_in 403 (by decide +kernel) (by decide +kernel), mTs_in 33 (by decide +kernel) (by decide +kernel), ⟨by decide, by decide⟩, by decide +kernel⟩, mTs_in 401 (by decide +kernel) (by decide +kernel), mTs_in 402 (by decide +kernel) (by decide +kernel)⟩
theorem lkX7_86 : Cond.methodLink RX7 86 yX5_isSquareModulo ∈ mTs := mTs_in 716 (by decide +kernel) (by decide +kernel)
theorem myX5_isSquareModulo : mYS yX5_isSquareModulo cX5_isSquareModulo 7 (some .boolean) 2 := ⟨⟨mTs_in 718 (by decide +kernel) (by decide +kernel), mTs_in 53 (by decide +kernel) (by decide +kernel), ⟨by decide, by decide⟩, by decide +kernel⟩, mTs_in 717 (by decide +kernel) (by decide +kernel)⟩
theorem lkX7_82 : Cond.constantLong RX7 82 (2) ∈ mTs := mTs_in 714 (by decide +kernel) (by decide +kernel)
theorem lkX7_84 : Cond.constantLong RX7 84 (8) ∈ mTs := mTs_in 715 (by decide +kernel) (by decide +kernel)
theorem lkX7_78 : Cond.methodLink RX7 78 yX5_quotient ∈ mTs := mTs_in 366 (by decide +kernel) (by decide +kernel)
theorem lkX7_72 : Cond.methodLink RX7 72 yX5_howOften ∈ mTs := mTs_in 711 (by decide +kernel) (by decide +kernel)
theorem myX5_howOften : mYS yX5_howOften cX5_howOften 6 (some .int) 2 := ⟨⟨mTs_in 713 (by decide +kernel) (by decide +kernel), mTs_in 53 (by decide +kernel) (by decide +kernel), ⟨by decide, by decide⟩, by decide +kernel⟩, mTs_in 712 (by decide +kernel) (by decide +kernel)⟩
theorem lkX7_93 : Cond.methodLink RX7 93 yX7_powerThatIs ∈ mTs := mTs_in 733 (by decide +kernel) (by decide +kernel)
theorem myX7_powerThatIs : mYV yX7_powerThatIs cX7_powerThatIs 7 (some .int) 3 := ⟨⟨mTs_in 736 (by decide +kernel) (by decide +kernel), mTs_in 34 (by decide +kernel) (by decide +kernel), ⟨by decide, by decide⟩, by decide +kernel⟩, mTs_in 735 (by decide +kernel) (by decide +kernel), mTs_in 27 (by decide +kernel) (by decide +kernel)⟩
theorem lkX7_24 : Cond.fieldLink RX7 24 (TX7 3).1 (TX7 3).2.1 (TX7 3).2.2.1 ∈ mTs := mTs_in 152 (by decide +kernel) (by decide +kernel)
theorem fdX7_3 : mFld 6 3 2 4 RX7 TX7 := ⟨rfl, inX7, by decide, rfl, by decide⟩
theorem lkX7_97 : Cond.constantLong RX7 97 (6) ∈ mTs := mTs_in 359 (by decide +kernel) (by decide +kernel)
theorem lkX7_99 : Cond.methodLink RX7 99 yX5_rest ∈ mTs := mTs_in 737 (by decide +kernel) (by decide +kernel)
theorem lkX7_90 : Cond.methodLink RX7 90 yX7_leastGenerator ∈ mTs := mTs_in 729 (by decide +kernel) (by decide +kernel)
theorem myX7_leastGenerator : mYV yX7_leastGenerator cX7_leastGenerator 3 (some .int) 1 := ⟨⟨mTs_in 732 (by decide +kernel) (by decide +kernel), mTs_in 34 (by decide +kernel) (by decide +kernel), ⟨by decide, by decide⟩, by decide +kernel⟩, mTs_in 731 (by decide +kernel) (by decide +kernel), mTs_in 26 (by decide +kernel) (by decide +kernel)⟩
theorem lkX7_102 : Cond.methodLink RX7 102 yX0_sign ∈ mTs := mTs_in 742 (by decide +kernel) (by decide +kernel)
theorem myX0_sign : mYV yX0_sign cX0_sign 3 (some .int) 2 := ⟨⟨mTs_in 745 (by decide +kernel) (by decide +kernel), mTs_in 33 (by decide +kernel) (by decide +kernel), ⟨by decide, by decide⟩, by decide +kernel⟩, mTs_in 743 (by decide +kernel) (by decide +kernel), mTs_in 744 (by decide +kernel) (by decide +kernel)⟩
theorem lkX7_106 : Cond.methodLink RX7 106 yX0_term ∈ mTs := mTs_in 746 (by decide +kernel) (by decide +kernel)
theorem myX0_term : mYV yX0_term cX0_term 3 (some .int) 2 := ⟨⟨mTs_in 749 (by decide +kernel) (by decide +kernel), mTs_in 33 (by decide +kernel) (by decide +kernel), ⟨by decide, by decide⟩, by decide +kernel⟩, mTs_in 747 (by decide +kernel) (by decide +kernel), mTs_in 748 (by decide +kernel) (by decide +kernel)⟩
theorem lkX7_61 : Cond.methodLink RX7 61 yX7_isRamified ∈ mTs := mTs_in 707 (by decide +kernel) (by decide +kernel)
theorem myX7_isRamified : mYV yX7_isRamified cX7_isRamified 12 (some .boolean) 3 := ⟨⟨mTs_in 710 (by decide +kernel) (by decide +kernel), mTs_in 34 (by decide +kernel) (by decide +kernel), ⟨by decide, by decide⟩, by decide +kernel⟩, mTs_in 709 (by decide +kernel) (by decide +kernel), mTs_in 24 (by decide +kernel) (by decide +kernel)⟩
theorem lkX7_65 : Cond.methodLink RX7 65 yX7_reckonCyclic ∈ mTs := mTs_in 725 (by decide +kernel) (by decide +kernel)
theorem myX7_reckonCyclic : mYV yX7_reckonCyclic cX7_reckonCyclic 10 none 3 := ⟨⟨mTs_in 728 (by decide +kernel) (by decide +kernel), mTs_in 34 (by decide +kernel) (by decide +kernel), ⟨by decide, by decide⟩, by decide +kernel⟩, mTs_in 727 (by decide +kernel) (by decide +kernel), mTs_in 25 (by decide +kernel) (by decide +kernel)⟩
theorem lkX7_69 : Cond.methodLink RX7 69 yX7_reckonSum ∈ mTs := mTs_in 738 (by decide +kernel) (by decide +kernel)
theorem myX7_reckonSum : mYV yX7_reckonSum cX7_reckonSum 7 none 2 := ⟨⟨mTs_in 741 (by decide +kernel) (by decide +kernel), mTs_in 34 (by decide +kernel) (by decide +kernel), ⟨by decide, by decide⟩, by decide +kernel⟩, mTs_in 740 (by decide +kernel) (by decide +kernel), mTs_in 28 (by decide +kernel) (by decide +kernel)⟩
theorem lkX7_15 : Cond.fieldLink RX7 15 (TX7 1).1 (TX7 1).2.1 (TX7 1).2.2.1 ∈ mTs := mTs_in 150 (by decide +kernel) (by decide +kernel)
theorem fdX7_1 : mFld 6 1 0 4 RX7 TX7 := ⟨rfl, inX7, by decide, rfl, by decide⟩
theorem lkX7_40 : Cond.methodLink RX7 40 yX7_reckonOne ∈ mTs := mTs_in 703 (by decide +kernel) (by decide +kernel)
theorem myX7_reckonOne : mYV yX7_reckonOne cX7_reckonOne 6 none 2 := ⟨⟨mTs_in 706 (by decide +kernel) (by decide +kernel), mTs_in 34 (by decide +kernel) (by decide +kernel), ⟨by decide, by decide⟩, by decide +kernel⟩, mTs_in 705 (by decide +kernel) (by decide +kernel), mTs_in 23 (by decide +kernel) (by decide +kernel)⟩
theorem lkX7_36 : Cond.methodLink RX7 36 yX7_noteAll ∈ mTs := mTs_in 689 (by decide +kernel) (by decide +kernel)
theorem myX7_noteAll : mYV yX7_noteAll cX7_noteAll 3 none 2 := ⟨⟨mTs_in 692 (by decide +kernel) (by decide +kernel), mTs_in 34 (by decide +kernel) (by decide +kernel), ⟨by decide, by decide⟩, by decide +kernel⟩, mTs_in 691 (by decide +kernel) (by decide +kernel), mTs_in 21 (by decide +kernel) (by decide +kernel)⟩
theorem lkX7_27 : Cond.methodLink RX7 27 yX0_size ∈ mTs := mTs_in 684 (by decide +kernel) (by decide +kernel)
theorem myX0_size : mYV yX0_size cX0_size 1 (some .int) 0 := ⟨⟨mTs_in 341 (by decide +kernel) (by decide +kernel), mTs_in 33 (by decide +kernel) (by decide +kernel), ⟨by decide, by decide⟩, by decide +kernel⟩, mTs_in 339 (by decide +kernel) (by decide +kernel), mTs_in 340 (by decide +kernel) (by decide +kernel)⟩
theorem ptX7_1 : mPut 6 1 0 4 RX7 TX7 tyX7 .int := ⟨fdX7_1, tyX7_ok, nmX7, (by decide +kernel), rfl⟩
theorem lkX7_109 : Cond.methodLink RX7 109 yX5_greatestDivisor ∈ mTs := mTs_in 360 (by decide +kernel) (by decide +kernel)
theorem myX5_greatestDivisor : mYS yX5_greatestDivisor cX5_greatestDivisor 11 (some .long) 2 := ⟨⟨mTs_in 362 (by decide +kernel) (by decide +kernel), mTs_in 53 (by decide +kernel) (by decide +kernel), ⟨by decide, by decide⟩, by decide +kernel⟩, mTs_in 361 (by decide +kernel) (by decide +kernel)⟩
theorem dX0_size_0 : decode cX0_size 0 = .ok (.aload_n 0, 1) := by decide +kernel
theorem dX0_size_1 : decode cX0_size 1 = .ok (.getfield 9, 3) := by decide +kernel
theorem dX0_size_4 : decode cX0_size 4 = .ok (.ireturn, 1) := by decide +kernel
theorem dX0_kind_0 : decode cX0_kind 0 = .ok (.aload_n 0, 1) := by decide +kernel
theorem dX0_kind_1 : decode cX0_kind 1 = .ok (.getfield 15, 3) := by decide +kernel
theorem dX0_kind_4 : decode cX0_kind 4 = .ok (.iload_n 1, 1) := by decide +kernel
theorem dX0_kind_5 : decode cX0_kind 5 = .ok (.iaload, 1) := by decide +kernel
theorem dX0_kind_6 : decode cX0_kind 6 = .ok (.ireturn, 1) := by decide +kernel
theorem dX0_first_0 : decode cX0_first 0 = .ok (.aload_n 0, 1) := by decide +kernel
theorem dX0_first_1 : decode cX0_first 1 = .ok (.getfield 19, 3) := by decide +kernel
theorem dX0_first_4 : decode cX0_first 4 = .ok (.iload_n 1, 1) := by decide +kernel
theorem dX0_first_5 : decode cX0_first 5 = .ok (.iaload, 1) := by decide +kernel
theorem dX0_first_6 : decode cX0_first 6 = .ok (.ireturn, 1) := by decide +kernel
theorem dX0_second_0 : decode cX0_second 0 = .ok (.aload_n 0, 1) := by decide +kernel
theorem dX0_second_1 : decode cX0_second 1 = .ok (.getfield 22, 3) := by decide +kernel
theorem dX0_second_4 : decode cX0_second 4 = .ok (.iload_n 1, 1) := by decide +kernel
theorem dX0_second_5 : decode cX0_second 5 = .ok (.iaload, 1) := by decide +kernel
theorem dX0_second_6 : decode cX0_second 6 = .ok (.ireturn, 1) := by decide +kernel
theorem dX0_term_0 : decode cX0_term 0 = .ok (.aload_n 0, 1) := by decide +kernel
theorem dX0_term_1 : decode cX0_term 1 = .ok (.getfield 35, 3) := by decide +kernel
theorem dX0_term_4 : decode cX0_term 4 = .ok (.iload_n 1, 1) := by decide +kernel
theorem dX0_term_5 : decode cX0_term 5 = .ok (.aaload, 1) := by decide +kernel
theorem dX0_term_6 : decode cX0_term 6 = .ok (.iload_n 2, 1) := by decide +kernel
theorem dX0_term_7 : decode cX0_term 7 = .ok (.iaload, 1) := by decide +kernel
theorem dX0_term_8 : decode cX0_term 8 = .ok (.ireturn, 1) := by decide +kernel
theorem dX0_sign_0 : decode cX0_sign 0 = .ok (.aload_n 0, 1) := by decide +kernel
theorem dX0_sign_1 : decode cX0_sign 1 = .ok (.getfield 38, 3) := by decide +kernel
theorem dX0_sign_4 : decode cX0_sign 4 = .ok (.iload_n 1, 1) := by decide +kernel
theorem dX0_sign_5 : decode cX0_sign 5 = .ok (.aaload, 1) := by decide +kernel
theorem dX0_sign_6 : decode cX0_sign 6 = .ok (.iload_n 2, 1) := by decide +kernel
theorem dX0_sign_7 : decode cX0_sign 7 = .ok (.iaload, 1) := by decide +kernel
theorem dX0_sign_8 : decode cX0_sign 8 = .ok (.ireturn, 1) := by decide +kernel
theorem dX0_clear_0 : decode cX0_clear 0 = .ok (.aload_n 0, 1) := by decide +kernel
theorem dX0_clear_1 : decode cX0_clear 1 = .ok (.iconst 0, 1) := by decide +kernel
theorem dX0_clear_2 : decode cX0_clear 2 = .ok (.putfield 9, 3) := by decide +kernel
theorem dX0_clear_5 : decode cX0_clear 5 = .ok (.return_, 1) := by decide +kernel
theorem dX0_isFull_0 : decode cX0_isFull 0 = .ok (.aload_n 0, 1) := by decide +kernel
theorem dX0_isFull_1 : decode cX0_isFull 1 = .ok (.getfield 9, 3) := by decide +kernel
theorem dX0_isFull_4 : decode cX0_isFull 4 = .ok (.bipush 8, 2) := by decide +kernel
theorem dX0_isFull_6 : decode cX0_isFull 6 = .ok (.if_icmp .lt 7, 3) := by decide +kernel
theorem dX0_isFull_9 : decode cX0_isFull 9 = .ok (.iconst 1, 1) := by decide +kernel
theorem dX0_isFull_10 : decode cX0_isFull 10 = .ok (.goto 4, 3) := by decide +kernel
theorem dX0_isFull_13 : decode cX0_isFull 13 = .ok (.iconst 0, 1) := by decide +kernel
theorem dX0_isFull_14 : decode cX0_isFull 14 = .ok (.ireturn, 1) := by decide +kernel
theorem dX10_length_0 : decode cX10_length 0 = .ok (.aload_n 0, 1) := by decide +kernel
theorem dX10_length_1 : decode cX10_length 1 = .ok (.getfield 22, 3) := by decide +kernel
theorem dX10_length_4 : decode cX10_length 4 = .ok (.aload_n 0, 1) := by decide +kernel
theorem dX10_length_5 : decode cX10_length 5 = .ok (.getfield 19, 3) := by decide +kernel
theorem dX10_length_8 : decode cX10_length 8 = .ok (.isub, 1) := by decide +kernel
theorem dX10_length_9 : decode cX10_length 9 = .ok (.ireturn, 1) := by decide +kernel
theorem dX10_byteAt_0 : decode cX10_byteAt 0 = .ok (.iload_n 1, 1) := by decide +kernel
theorem dX10_byteAt_1 : decode cX10_byteAt 1 = .ok (.ifCond .lt 30, 3) := by decide +kernel
theorem dX10_byteAt_4 : decode cX10_byteAt 4 = .ok (.aload_n 0, 1) := by decide +kernel
theorem dX10_byteAt_5 : decode cX10_byteAt 5 = .ok (.getfield 19, 3) := by decide +kernel
theorem dX10_byteAt_8 : decode cX10_byteAt 8 = .ok (.iload_n 1, 1) := by decide +kernel
theorem dX10_byteAt_9 : decode cX10_byteAt 9 = .ok (.iadd, 1) := by decide +kernel
theorem dX10_byteAt_10 : decode cX10_byteAt 10 = .ok (.aload_n 0, 1) := by decide +kernel
theorem dX10_byteAt_11 : decode cX10_byteAt 11 = .ok (.getfield 22, 3) := by decide +kernel
theorem dX10_byteAt_14 : decode cX10_byteAt 14 = .ok (.if_icmp .ge 17, 3) := by decide +kernel
theorem dX10_byteAt_17 : decode cX10_byteAt 17 = .ok (.aload_n 0, 1) := by decide +kernel
theorem dX10_byteAt_18 : decode cX10_byteAt 18 = .ok (.getfield 9, 3) := by decide +kernel
theorem dX10_byteAt_21 : decode cX10_byteAt 21 = .ok (.aload_n 0, 1) := by decide +kernel
theorem dX10_byteAt_22 : decode cX10_byteAt 22 = .ok (.getfield 19, 3) := by decide +kernel
theorem dX10_byteAt_25 : decode cX10_byteAt 25 = .ok (.iload_n 1, 1) := by decide +kernel
theorem dX10_byteAt_26 : decode cX10_byteAt 26 = .ok (.iadd, 1) := by decide +kernel
theorem dX10_byteAt_27 : decode cX10_byteAt 27 = .ok (.baload, 1) := by decide +kernel
theorem dX10_byteAt_28 : decode cX10_byteAt 28 = .ok (.goto 4, 3) := by decide +kernel
theorem dX10_byteAt_31 : decode cX10_byteAt 31 = .ok (.iconst 0, 1) := by decide +kernel
theorem dX10_byteAt_32 : decode cX10_byteAt 32 = .ok (.ireturn, 1) := by decide +kernel
theorem dX0_begin_0 : decode cX0_begin 0 = .ok (.aload_n 0, 1) := by decide +kernel
theorem dX0_begin_1 : decode cX0_begin 1 = .ok (.invokevirtual 41, 3) := by decide +kernel
theorem dX0_begin_4 : decode cX0_begin 4 = .ok (.ifCond .ne 12, 3) := by decide +kernel
theorem dX0_begin_7 : decode cX0_begin 7 = .ok (.aload_n 2, 1) := by decide +kernel
theorem dX0_begin_8 : decode cX0_begin 8 = .ok (.invokevirtual 45, 3) := by decide +kernel
theorem dX0_begin_11 : decode cX0_begin 11 = .ok (.bipush 10, 2) := by decide +kernel
theorem dX0_begin_13 : decode cX0_begin 13 = .ok (.if_icmp .le 4, 3) := by decide +kernel
theorem dX0_begin_16 : decode cX0_begin 16 = .ok (.return_, 1) := by decide +kernel
theorem dX0_begin_17 : decode cX0_begin 17 = .ok (.aload_n 0, 1) := by decide +kernel
theorem dX0_begin_18 : decode cX0_begin 18 = .ok (.getfield 15, 3) := by decide +kernel
theorem dX0_begin_21 : decode cX0_begin 21 = .ok (.aload_n 0, 1) := by decide +kernel
theorem dX0_begin_22 : decode cX0_begin 22 = .ok (.getfield 9, 3) := by decide +kernel
theorem dX0_begin_25 : decode cX0_begin 25 = .ok (.iload_n 1, 1) := by decide +kernel
theorem dX0_begin_26 : decode cX0_begin 26 = .ok (.iastore, 1) := by decide +kernel
theorem dX0_begin_27 : decode cX0_begin 27 = .ok (.aload_n 0, 1) := by decide +kernel
theorem dX0_begin_28 : decode cX0_begin 28 = .ok (.getfield 19, 3) := by decide +kernel
theorem dX0_begin_31 : decode cX0_begin 31 = .ok (.aload_n 0, 1) := by decide +kernel
theorem dX0_begin_32 : decode cX0_begin 32 = .ok (.getfield 9, 3) := by decide +kernel
theorem dX0_begin_35 : decode cX0_begin 35 = .ok (.iconst 0, 1) := by decide +kernel
theorem dX0_begin_36 : decode cX0_begin 36 = .ok (.iastore, 1) := by decide +kernel
theorem dX0_begin_37 : decode cX0_begin 37 = .ok (.aload_n 0, 1) := by decide +kernel
theorem dX0_begin_38 : decode cX0_begin 38 = .ok (.getfield 22, 3) := by decide +kernel
theorem dX0_begin_41 : decode cX0_begin 41 = .ok (.aload_n 0, 1) := by decide +kernel
theorem dX0_begin_42 : decode cX0_begin 42 = .ok (.getfield 9, 3) := by decide +kernel
theorem dX0_begin_45 : decode cX0_begin 45 = .ok (.iconst 0, 1) := by decide +kernel
theorem dX0_begin_46 : decode cX0_begin 46 = .ok (.iastore, 1) := by decide +kernel
theorem dX0_begin_47 : decode cX0_begin 47 = .ok (.aload_n 0, 1) := by decide +kernel
theorem dX0_begin_48 : decode cX0_begin 48 = .ok (.getfield 25, 3) := by decide +kernel
theorem dX0_begin_51 : decode cX0_begin 51 = .ok (.aload_n 0, 1) := by decide +kernel
theorem dX0_begin_52 : decode cX0_begin 52 = .ok (.getfield 9, 3) := by decide +kernel
theorem dX0_begin_55 : decode cX0_begin 55 = .ok (.aload_n 2, 1) := by decide +kernel
theorem dX0_begin_56 : decode cX0_begin 56 = .ok (.invokevirtual 45, 3) := by decide +kernel
theorem dX0_begin_59 : decode cX0_begin 59 = .ok (.iastore, 1) := by decide +kernel
theorem dX0_begin_60 : decode cX0_begin 60 = .ok (.iconst 0, 1) := by decide +kernel
theorem dX0_begin_61 : decode cX0_begin 61 = .ok (.istore_n 3, 1) := by decide +kernel
theorem dX0_begin_62 : decode cX0_begin 62 = .ok (.iload_n 3, 1) := by decide +kernel
theorem dX0_begin_63 : decode cX0_begin 63 = .ok (.aload_n 0, 1) := by decide +kernel
theorem dX0_begin_64 : decode cX0_begin 64 = .ok (.getfield 25, 3) := by decide +kernel
theorem dX0_begin_67 : decode cX0_begin 67 = .ok (.aload_n 0, 1) := by decide +kernel
theorem dX0_begin_68 : decode cX0_begin 68 = .ok (.getfield 9, 3) := by decide +kernel
theorem dX0_begin_71 : decode cX0_begin 71 = .ok (.iaload, 1) := by decide +kernel
theorem dX0_begin_72 : decode cX0_begin 72 = .ok (.if_icmp .ge 25, 3) := by decide +kernel
theorem dX0_begin_75 : decode cX0_begin 75 = .ok (.aload_n 0, 1) := by decide +kernel
theorem dX0_begin_76 : decode cX0_begin 76 = .ok (.getfield 30, 3) := by decide +kernel
theorem dX0_begin_79 : decode cX0_begin 79 = .ok (.aload_n 0, 1) := by decide +kernel
theorem dX0_begin_80 : decode cX0_begin 80 = .ok (.getfield 9, 3) := by decide +kernel
theorem dX0_begin_83 : decode cX0_begin 83 = .ok (.aaload, 1) := by decide +kernel
theorem dX0_begin_84 : decode cX0_begin 84 = .ok (.iload_n 3, 1) := by decide +kernel
theorem dX0_begin_85 : decode cX0_begin 85 = .ok (.aload_n 2, 1) := by decide +kernel
theorem dX0_begin_86 : decode cX0_begin 86 = .ok (.iload_n 3, 1) := by decide +kernel
theorem dX0_begin_87 : decode cX0_begin 87 = .ok (.invokevirtual 51, 3) := by decide +kernel
theorem dX0_begin_90 : decode cX0_begin 90 = .ok (.bastore, 1) := by decide +kernel
theorem dX0_begin_91 : decode cX0_begin 91 = .ok (.iinc 3 1, 3) := by decide +kernel
theorem dX0_begin_94 : decode cX0_begin 94 = .ok (.goto (-32), 3) := by decide +kernel
theorem dX0_begin_97 : decode cX0_begin 97 = .ok (.return_, 1) := by decide +kernel
theorem dX0_setFirst_0 : decode cX0_setFirst 0 = .ok (.aload_n 0, 1) := by decide +kernel
theorem dX0_setFirst_1 : decode cX0_setFirst 1 = .ok (.invokevirtual 41, 3) := by decide +kernel
theorem dX0_setFirst_4 : decode cX0_setFirst 4 = .ok (.ifCond .ne 14, 3) := by decide +kernel
theorem dX0_setFirst_7 : decode cX0_setFirst 7 = .ok (.aload_n 0, 1) := by decide +kernel
theorem dX0_setFirst_8 : decode cX0_setFirst 8 = .ok (.getfield 19, 3) := by decide +kernel
theorem dX0_setFirst_11 : decode cX0_setFirst 11 = .ok (.aload_n 0, 1) := by decide +kernel
theorem dX0_setFirst_12 : decode cX0_setFirst 12 = .ok (.getfield 9, 3) := by decide +kernel
theorem dX0_setFirst_15 : decode cX0_setFirst 15 = .ok (.lload_n 1, 1) := by decide +kernel
theorem dX0_setFirst_16 : decode cX0_setFirst 16 = .ok (.l2i, 1) := by decide +kernel
theorem dX0_setFirst_17 : decode cX0_setFirst 17 = .ok (.iastore, 1) := by decide +kernel
theorem dX0_setFirst_18 : decode cX0_setFirst 18 = .ok (.return_, 1) := by decide +kernel
theorem dX0_setSecond_0 : decode cX0_setSecond 0 = .ok (.aload_n 0, 1) := by decide +kernel
theorem dX0_setSecond_1 : decode cX0_setSecond 1 = .ok (.invokevirtual 41, 3) := by decide +kernel
theorem dX0_setSecond_4 : decode cX0_setSecond 4 = .ok (.ifCond .ne 14, 3) := by decide +kernel
theorem dX0_setSecond_7 : decode cX0_setSecond 7 = .ok (.aload_n 0, 1) := by decide +kernel
theorem dX0_setSecond_8 : decode cX0_setSecond 8 = .ok (.getfield 22, 3) := by decide +kernel
theorem dX0_setSecond_11 : decode cX0_setSecond 11 = .ok (.aload_n 0, 1) := by decide +kernel
theorem dX0_setSecond_12 : decode cX0_setSecond 12 = .ok (.getfield 9, 3) := by decide +kernel
theorem dX0_setSecond_15 : decode cX0_setSecond 15 = .ok (.lload_n 1, 1) := by decide +kernel
theorem dX0_setSecond_16 : decode cX0_setSecond 16 = .ok (.l2i, 1) := by decide +kernel
theorem dX0_setSecond_17 : decode cX0_setSecond 17 = .ok (.iastore, 1) := by decide +kernel
theorem dX0_setSecond_18 : decode cX0_setSecond 18 = .ok (.return_, 1) := by decide +kernel
theorem dX0_hasAllTerms_0 : decode cX0_hasAllTerms 0 = .ok (.aload_n 0, 1) := by decide +kernel
theorem dX0_hasAllTerms_1 : decode cX0_hasAllTerms 1 = .ok (.invokevirtual 41, 3) := by decide +kernel
theorem dX0_hasAllTerms_4 : decode cX0_hasAllTerms 4 = .ok (.ifCond .ne 16, 3) := by decide +kernel
theorem dX0_hasAllTerms_7 : decode cX0_hasAllTerms 7 = .ok (.aload_n 0, 1) := by decide +kernel
theorem dX0_hasAllTerms_8 : decode cX0_hasAllTerms 8 = .ok (.getfield 19, 3) := by decide +kernel
theorem dX0_hasAllTerms_11 : decode cX0_hasAllTerms 11 = .ok (.aload_n 0, 1) := by decide +kernel
theorem dX0_hasAllTerms_12 : decode cX0_hasAllTerms 12 = .ok (.getfield 9, 3) := by decide +kernel
theorem dX0_hasAllTerms_15 : decode cX0_hasAllTerms 15 = .ok (.iaload, 1) := by decide +kernel
theorem dX0_hasAllTerms_16 : decode cX0_hasAllTerms 16 = .ok (.iconst 4, 1) := by decide +kernel
theorem dX0_hasAllTerms_17 : decode cX0_hasAllTerms 17 = .ok (.if_icmp .lt 7, 3) := by decide +kernel
theorem dX0_hasAllTerms_20 : decode cX0_hasAllTerms 20 = .ok (.iconst 1, 1) := by decide +kernel
theorem dX0_hasAllTerms_21 : decode cX0_hasAllTerms 21 = .ok (.goto 4, 3) := by decide +kernel
theorem dX0_hasAllTerms_24 : decode cX0_hasAllTerms 24 = .ok (.iconst 0, 1) := by decide +kernel
theorem dX0_hasAllTerms_25 : decode cX0_hasAllTerms 25 = .ok (.ireturn, 1) := by decide +kernel
theorem dX0_addTerm_0 : decode cX0_addTerm 0 = .ok (.aload_n 0, 1) := by decide +kernel
theorem dX0_addTerm_1 : decode cX0_addTerm 1 = .ok (.invokevirtual 55, 3) := by decide +kernel
theorem dX0_addTerm_4 : decode cX0_addTerm 4 = .ok (.ifCond .ne 56, 3) := by decide +kernel
theorem dX0_addTerm_7 : decode cX0_addTerm 7 = .ok (.aload_n 0, 1) := by decide +kernel
theorem dX0_addTerm_8 : decode cX0_addTerm 8 = .ok (.getfield 35, 3) := by decide +kernel
theorem dX0_addTerm_11 : decode cX0_addTerm 11 = .ok (.aload_n 0, 1) := by decide +kernel
theorem dX0_addTerm_12 : decode cX0_addTerm 12 = .ok (.getfield 9, 3) := by decide +kernel
theorem dX0_addTerm_15 : decode cX0_addTerm 15 = .ok (.aaload, 1) := by decide +kernel
theorem dX0_addTerm_16 : decode cX0_addTerm 16 = .ok (.aload_n 0, 1) := by decide +kernel
theorem dX0_addTerm_17 : decode cX0_addTerm 17 = .ok (.getfield 19, 3) := by decide +kernel
theorem dX0_addTerm_20 : decode cX0_addTerm 20 = .ok (.aload_n 0, 1) := by decide +kernel
theorem dX0_addTerm_21 : decode cX0_addTerm 21 = .ok (.getfield 9, 3) := by decide +kernel
theorem dX0_addTerm_24 : decode cX0_addTerm 24 = .ok (.iaload, 1) := by decide +kernel
theorem dX0_addTerm_25 : decode cX0_addTerm 25 = .ok (.iload_n 2, 1) := by decide +kernel
theorem dX0_addTerm_26 : decode cX0_addTerm 26 = .ok (.iastore, 1) := by decide +kernel
theorem dX0_addTerm_27 : decode cX0_addTerm 27 = .ok (.aload_n 0, 1) := by decide +kernel
theorem dX0_addTerm_28 : decode cX0_addTerm 28 = .ok (.getfield 38, 3) := by decide +kernel
theorem dX0_addTerm_31 : decode cX0_addTerm 31 = .ok (.aload_n 0, 1) := by decide +kernel
theorem dX0_addTerm_32 : decode cX0_addTerm 32 = .ok (.getfield 9, 3) := by decide +kernel
theorem dX0_addTerm_35 : decode cX0_addTerm 35 = .ok (.aaload, 1) := by decide +kernel
theorem dX0_addTerm_36 : decode cX0_addTerm 36 = .ok (.aload_n 0, 1) := by decide +kernel
theorem dX0_addTerm_37 : decode cX0_addTerm 37 = .ok (.getfield 19, 3) := by decide +kernel
theorem dX0_addTerm_40 : decode cX0_addTerm 40 = .ok (.aload_n 0, 1) := by decide +kernel
theorem dX0_addTerm_41 : decode cX0_addTerm 41 = .ok (.getfield 9, 3) := by decide +kernel
theorem dX0_addTerm_44 : decode cX0_addTerm 44 = .ok (.iaload, 1) := by decide +kernel
theorem dX0_addTerm_45 : decode cX0_addTerm 45 = .ok (.iload_n 1, 1) := by decide +kernel
theorem dX0_addTerm_46 : decode cX0_addTerm 46 = .ok (.iastore, 1) := by decide +kernel
theorem dX0_addTerm_47 : decode cX0_addTerm 47 = .ok (.aload_n 0, 1) := by decide +kernel
theorem dX0_addTerm_48 : decode cX0_addTerm 48 = .ok (.getfield 19, 3) := by decide +kernel
theorem dX0_addTerm_51 : decode cX0_addTerm 51 = .ok (.aload_n 0, 1) := by decide +kernel
theorem dX0_addTerm_52 : decode cX0_addTerm 52 = .ok (.getfield 9, 3) := by decide +kernel
theorem dX0_addTerm_55 : decode cX0_addTerm 55 = .ok (.dup2, 1) := by decide +kernel
theorem dX0_addTerm_56 : decode cX0_addTerm 56 = .ok (.iaload, 1) := by decide +kernel
theorem dX0_addTerm_57 : decode cX0_addTerm 57 = .ok (.iconst 1, 1) := by decide +kernel
theorem dX0_addTerm_58 : decode cX0_addTerm 58 = .ok (.iadd, 1) := by decide +kernel
theorem dX0_addTerm_59 : decode cX0_addTerm 59 = .ok (.iastore, 1) := by decide +kernel
theorem dX0_addTerm_60 : decode cX0_addTerm 60 = .ok (.return_, 1) := by decide +kernel
theorem dX0_finish_0 : decode cX0_finish 0 = .ok (.aload_n 0, 1) := by decide +kernel
theorem dX0_finish_1 : decode cX0_finish 1 = .ok (.invokevirtual 41, 3) := by decide +kernel
theorem dX0_finish_4 : decode cX0_finish 4 = .ok (.ifCond .ne 13, 3) := by decide +kernel
theorem dX0_finish_7 : decode cX0_finish 7 = .ok (.aload_n 0, 1) := by decide +kernel
theorem dX0_finish_8 : decode cX0_finish 8 = .ok (.dup, 1) := by decide +kernel
theorem dX0_finish_9 : decode cX0_finish 9 = .ok (.getfield 9, 3) := by decide +kernel
theorem dX0_finish_12 : decode cX0_finish 12 = .ok (.iconst 1, 1) := by decide +kernel
theorem dX0_finish_13 : decode cX0_finish 13 = .ok (.iadd, 1) := by decide +kernel
theorem dX0_finish_14 : decode cX0_finish 14 = .ok (.putfield 9, 3) := by decide +kernel
theorem dX0_finish_17 : decode cX0_finish 17 = .ok (.return_, 1) := by decide +kernel
theorem dX0_hasName_0 : decode cX0_hasName 0 = .ok (.aload_n 0, 1) := by decide +kernel
theorem dX0_hasName_1 : decode cX0_hasName 1 = .ok (.getfield 25, 3) := by decide +kernel
theorem dX0_hasName_4 : decode cX0_hasName 4 = .ok (.iload_n 1, 1) := by decide +kernel
theorem dX0_hasName_5 : decode cX0_hasName 5 = .ok (.iaload, 1) := by decide +kernel
theorem dX0_hasName_6 : decode cX0_hasName 6 = .ok (.aload_n 2, 1) := by decide +kernel
theorem dX0_hasName_7 : decode cX0_hasName 7 = .ok (.invokevirtual 45, 3) := by decide +kernel
theorem dX0_hasName_10 : decode cX0_hasName 10 = .ok (.if_icmp .ne 7, 3) := by decide +kernel
theorem dX0_hasName_13 : decode cX0_hasName 13 = .ok (.iconst 1, 1) := by decide +kernel
theorem dX0_hasName_14 : decode cX0_hasName 14 = .ok (.goto 4, 3) := by decide +kernel
theorem dX0_hasName_17 : decode cX0_hasName 17 = .ok (.iconst 0, 1) := by decide +kernel
theorem dX0_hasName_18 : decode cX0_hasName 18 = .ok (.istore_n 3, 1) := by decide +kernel
theorem dX0_hasName_19 : decode cX0_hasName 19 = .ok (.iconst 0, 1) := by decide +kernel
theorem dX0_hasName_20 : decode cX0_hasName 20 = .ok (.istore 4, 2) := by decide +kernel
theorem dX0_hasName_22 : decode cX0_hasName 22 = .ok (.iload 4, 2) := by decide +kernel
theorem dX0_hasName_24 : decode cX0_hasName 24 = .ok (.aload_n 0, 1) := by decide +kernel
theorem dX0_hasName_25 : decode cX0_hasName 25 = .ok (.getfield 25, 3) := by decide +kernel
theorem dX0_hasName_28 : decode cX0_hasName 28 = .ok (.iload_n 1, 1) := by decide +kernel
theorem dX0_hasName_29 : decode cX0_hasName 29 = .ok (.iaload, 1) := by decide +kernel
theorem dX0_hasName_30 : decode cX0_hasName 30 = .ok (.if_icmp .ge 37, 3) := by decide +kernel
theorem dX0_hasName_33 : decode cX0_hasName 33 = .ok (.iload_n 3, 1) := by decide +kernel
theorem dX0_hasName_34 : decode cX0_hasName 34 = .ok (.ifCond .eq 33, 3) := by decide +kernel
theorem dX0_hasName_37 : decode cX0_hasName 37 = .ok (.aload_n 0, 1) := by decide +kernel
theorem dX0_hasName_38 : decode cX0_hasName 38 = .ok (.getfield 30, 3) := by decide +kernel
theorem dX0_hasName_41 : decode cX0_hasName 41 = .ok (.iload_n 1, 1) := by decide +kernel
theorem dX0_hasName_42 : decode cX0_hasName 42 = .ok (.aaload, 1) := by decide +kernel
theorem dX0_hasName_43 : decode cX0_hasName 43 = .ok (.iload 4, 2) := by decide +kernel
theorem dX0_hasName_45 : decode cX0_hasName 45 = .ok (.baload, 1) := by decide +kernel
theorem dX0_hasName_46 : decode cX0_hasName 46 = .ok (.aload_n 2, 1) := by decide +kernel
theorem dX0_hasName_47 : decode cX0_hasName 47 = .ok (.iload 4, 2) := by decide +kernel
theorem dX0_hasName_49 : decode cX0_hasName 49 = .ok (.invokevirtual 51, 3) := by decide +kernel
theorem dX0_hasName_52 : decode cX0_hasName 52 = .ok (.if_icmp .ne 7, 3) := by decide +kernel
theorem dX0_hasName_55 : decode cX0_hasName 55 = .ok (.iconst 1, 1) := by decide +kernel
theorem dX0_hasName_56 : decode cX0_hasName 56 = .ok (.goto 4, 3) := by decide +kernel
theorem dX0_hasName_59 : decode cX0_hasName 59 = .ok (.iconst 0, 1) := by decide +kernel
theorem dX0_hasName_60 : decode cX0_hasName 60 = .ok (.istore_n 3, 1) := by decide +kernel
theorem dX0_hasName_61 : decode cX0_hasName 61 = .ok (.iinc 4 1, 3) := by decide +kernel
theorem dX0_hasName_64 : decode cX0_hasName 64 = .ok (.goto (-42), 3) := by decide +kernel
theorem dX0_hasName_67 : decode cX0_hasName 67 = .ok (.iload_n 3, 1) := by decide +kernel
theorem dX0_hasName_68 : decode cX0_hasName 68 = .ok (.ireturn, 1) := by decide +kernel
theorem dX0_find_0 : decode cX0_find 0 = .ok (.iconst 0, 1) := by decide +kernel
theorem dX0_find_1 : decode cX0_find 1 = .ok (.istore_n 2, 1) := by decide +kernel
theorem dX0_find_2 : decode cX0_find 2 = .ok (.iload_n 2, 1) := by decide +kernel
theorem dX0_find_3 : decode cX0_find 3 = .ok (.aload_n 0, 1) := by decide +kernel
theorem dX0_find_4 : decode cX0_find 4 = .ok (.getfield 9, 3) := by decide +kernel
theorem dX0_find_7 : decode cX0_find 7 = .ok (.if_icmp .ge 20, 3) := by decide +kernel
theorem dX0_find_10 : decode cX0_find 10 = .ok (.aload_n 0, 1) := by decide +kernel
theorem dX0_find_11 : decode cX0_find 11 = .ok (.iload_n 2, 1) := by decide +kernel
theorem dX0_find_12 : decode cX0_find 12 = .ok (.aload_n 1, 1) := by decide +kernel
theorem dX0_find_13 : decode cX0_find 13 = .ok (.invokevirtual 58, 3) := by decide +kernel
theorem dX0_find_16 : decode cX0_find 16 = .ok (.ifCond .eq 5, 3) := by decide +kernel
theorem dX0_find_19 : decode cX0_find 19 = .ok (.iload_n 2, 1) := by decide +kernel
theorem dX0_find_20 : decode cX0_find 20 = .ok (.ireturn, 1) := by decide +kernel
theorem dX0_find_21 : decode cX0_find 21 = .ok (.iinc 2 1, 3) := by decide +kernel
theorem dX0_find_24 : decode cX0_find 24 = .ok (.goto (-22), 3) := by decide +kernel
theorem dX0_find_27 : decode cX0_find 27 = .ok (.iconst (-1), 1) := by decide +kernel
theorem dX0_find_28 : decode cX0_find 28 = .ok (.ireturn, 1) := by decide +kernel
theorem dX1_drop_0 : decode cX1_drop 0 = .ok (.aload_n 0, 1) := by decide +kernel
theorem dX1_drop_1 : decode cX1_drop 1 = .ok (.iconst (-1), 1) := by decide +kernel
theorem dX1_drop_2 : decode cX1_drop 2 = .ok (.putfield 19, 3) := by decide +kernel
theorem dX1_drop_5 : decode cX1_drop 5 = .ok (.return_, 1) := by decide +kernel
theorem dX3_begin_0 : decode cX3_begin 0 = .ok (.aload_n 0, 1) := by decide +kernel
theorem dX3_begin_1 : decode cX3_begin 1 = .ok (.lload_n 1, 1) := by decide +kernel
theorem dX3_begin_2 : decode cX3_begin 2 = .ok (.putfield 18, 3) := by decide +kernel
theorem dX3_begin_5 : decode cX3_begin 5 = .ok (.iconst 0, 1) := by decide +kernel
theorem dX3_begin_6 : decode cX3_begin 6 = .ok (.istore_n 3, 1) := by decide +kernel
theorem dX3_begin_7 : decode cX3_begin 7 = .ok (.iload_n 3, 1) := by decide +kernel
theorem dX3_begin_8 : decode cX3_begin 8 = .ok (.iconst 4, 1) := by decide +kernel
theorem dX3_begin_9 : decode cX3_begin 9 = .ok (.if_icmp .ge 44, 3) := by decide +kernel
theorem dX3_begin_12 : decode cX3_begin 12 = .ok (.iconst 0, 1) := by decide +kernel
theorem dX3_begin_13 : decode cX3_begin 13 = .ok (.istore 4, 2) := by decide +kernel
theorem dX3_begin_15 : decode cX3_begin 15 = .ok (.iload 4, 2) := by decide +kernel
theorem dX3_begin_17 : decode cX3_begin 17 = .ok (.iconst 4, 1) := by decide +kernel
theorem dX3_begin_18 : decode cX3_begin 18 = .ok (.if_icmp .ge 29, 3) := by decide +kernel
theorem dX3_begin_21 : decode cX3_begin 21 = .ok (.aload_n 0, 1) := by decide +kernel
theorem dX3_begin_22 : decode cX3_begin 22 = .ok (.getfield 9, 3) := by decide +kernel
theorem dX3_begin_25 : decode cX3_begin 25 = .ok (.iload_n 3, 1) := by decide +kernel
theorem dX3_begin_26 : decode cX3_begin 26 = .ok (.aaload, 1) := by decide +kernel
theorem dX3_begin_27 : decode cX3_begin 27 = .ok (.iload 4, 2) := by decide +kernel
theorem dX3_begin_29 : decode cX3_begin 29 = .ok (.iload_n 3, 1) := by decide +kernel
theorem dX3_begin_30 : decode cX3_begin 30 = .ok (.iload 4, 2) := by decide +kernel
theorem dX3_begin_32 : decode cX3_begin 32 = .ok (.if_icmp .ne 7, 3) := by decide +kernel
theorem dX3_begin_35 : decode cX3_begin 35 = .ok (.lload_n 1, 1) := by decide +kernel
theorem dX3_begin_36 : decode cX3_begin 36 = .ok (.goto 4, 3) := by decide +kernel
theorem dX3_begin_39 : decode cX3_begin 39 = .ok (.lconst 0, 1) := by decide +kernel
theorem dX3_begin_40 : decode cX3_begin 40 = .ok (.lastore, 1) := by decide +kernel
theorem dX3_begin_41 : decode cX3_begin 41 = .ok (.iinc 4 1, 3) := by decide +kernel
theorem dX3_begin_44 : decode cX3_begin 44 = .ok (.goto (-29), 3) := by decide +kernel
theorem dX3_begin_47 : decode cX3_begin 47 = .ok (.iinc 3 1, 3) := by decide +kernel
theorem dX3_begin_50 : decode cX3_begin 50 = .ok (.goto (-43), 3) := by decide +kernel
theorem dX3_begin_53 : decode cX3_begin 53 = .ok (.return_, 1) := by decide +kernel
theorem dX3_lotsByWhole_0 : decode cX3_lotsByWhole 0 = .ok (.lconst 1, 1) := by decide +kernel
theorem dX3_lotsByWhole_1 : decode cX3_lotsByWhole 1 = .ok (.lstore_n 3, 1) := by decide +kernel
theorem dX3_lotsByWhole_2 : decode cX3_lotsByWhole 2 = .ok (.iconst 0, 1) := by decide +kernel
theorem dX3_lotsByWhole_3 : decode cX3_lotsByWhole 3 = .ok (.istore 5, 2) := by decide +kernel
theorem dX3_lotsByWhole_5 : decode cX3_lotsByWhole 5 = .ok (.iload 5, 2) := by decide +kernel
theorem dX3_lotsByWhole_7 : decode cX3_lotsByWhole 7 = .ok (.iconst 4, 1) := by decide +kernel
theorem dX3_lotsByWhole_8 : decode cX3_lotsByWhole 8 = .ok (.if_icmp .ge 37, 3) := by decide +kernel
theorem dX3_lotsByWhole_11 : decode cX3_lotsByWhole 11 = .ok (.lload_n 3, 1) := by decide +kernel
theorem dX3_lotsByWhole_12 : decode cX3_lotsByWhole 12 = .ok (.aload_n 0, 1) := by decide +kernel
theorem dX3_lotsByWhole_13 : decode cX3_lotsByWhole 13 = .ok (.getfield 18, 3) := by decide +kernel
theorem dX3_lotsByWhole_16 : decode cX3_lotsByWhole 16 = .ok (.aload_n 0, 1) := by decide +kernel
theorem dX3_lotsByWhole_17 : decode cX3_lotsByWhole 17 = .ok (.getfield 9, 3) := by decide +kernel
theorem dX3_lotsByWhole_20 : decode cX3_lotsByWhole 20 = .ok (.iload 5, 2) := by decide +kernel
theorem dX3_lotsByWhole_22 : decode cX3_lotsByWhole 22 = .ok (.aaload, 1) := by decide +kernel
theorem dX3_lotsByWhole_23 : decode cX3_lotsByWhole 23 = .ok (.iload 5, 2) := by decide +kernel
theorem dX3_lotsByWhole_25 : decode cX3_lotsByWhole 25 = .ok (.laload, 1) := by decide +kernel
theorem dX3_lotsByWhole_26 : decode cX3_lotsByWhole 26 = .ok (.invokestatic 28, 3) := by decide +kernel
theorem dX3_lotsByWhole_29 : decode cX3_lotsByWhole 29 = .ok (.lmul, 1) := by decide +kernel
theorem dX3_lotsByWhole_30 : decode cX3_lotsByWhole 30 = .ok (.lstore_n 3, 1) := by decide +kernel
theorem dX3_lotsByWhole_31 : decode cX3_lotsByWhole 31 = .ok (.lload_n 3, 1) := by decide +kernel
theorem dX3_lotsByWhole_32 : decode cX3_lotsByWhole 32 = .ok (.lload_n 1, 1) := by decide +kernel
theorem dX3_lotsByWhole_33 : decode cX3_lotsByWhole 33 = .ok (.lcmp, 1) := by decide +kernel
theorem dX3_lotsByWhole_34 : decode cX3_lotsByWhole 34 = .ok (.ifCond .le 5, 3) := by decide +kernel
theorem dX3_lotsByWhole_37 : decode cX3_lotsByWhole 37 = .ok (.lconst 0, 1) := by decide +kernel
theorem dX3_lotsByWhole_38 : decode cX3_lotsByWhole 38 = .ok (.lreturn, 1) := by decide +kernel
theorem dX3_lotsByWhole_39 : decode cX3_lotsByWhole 39 = .ok (.iinc 5 1, 3) := by decide +kernel
theorem dX3_lotsByWhole_42 : decode cX3_lotsByWhole 42 = .ok (.goto (-37), 3) := by decide +kernel
theorem dX3_lotsByWhole_45 : decode cX3_lotsByWhole 45 = .ok (.lload_n 3, 1) := by decide +kernel
theorem dX3_lotsByWhole_46 : decode cX3_lotsByWhole 46 = .ok (.lreturn, 1) := by decide +kernel
theorem dX6_begin_0 : decode cX6_begin 0 = .ok (.aload_n 0, 1) := by decide +kernel
theorem dX6_begin_1 : decode cX6_begin 1 = .ok (.lload_n 1, 1) := by decide +kernel
theorem dX6_begin_2 : decode cX6_begin 2 = .ok (.putfield 7, 3) := by decide +kernel
theorem dX6_begin_5 : decode cX6_begin 5 = .ok (.aload_n 0, 1) := by decide +kernel
theorem dX6_begin_6 : decode cX6_begin 6 = .ok (.lload_n 3, 1) := by decide +kernel
theorem dX6_begin_7 : decode cX6_begin 7 = .ok (.putfield 13, 3) := by decide +kernel
theorem dX6_begin_10 : decode cX6_begin 10 = .ok (.aload_n 0, 1) := by decide +kernel
theorem dX6_begin_11 : decode cX6_begin 11 = .ok (.getfield 19, 3) := by decide +kernel
theorem dX6_begin_14 : decode cX6_begin 14 = .ok (.lconst 1, 1) := by decide +kernel
theorem dX6_begin_15 : decode cX6_begin 15 = .ok (.invokevirtual 27, 3) := by decide +kernel
theorem dX6_begin_18 : decode cX6_begin 18 = .ok (.return_, 1) := by decide +kernel
theorem dX6_discriminantOf_0 : decode cX6_discriminantOf 0 = .ok (.ldc2_w 43, 3) := by decide +kernel
theorem dX6_discriminantOf_3 : decode cX6_discriminantOf 3 = .ok (.aload_n 0, 1) := by decide +kernel
theorem dX6_discriminantOf_4 : decode cX6_discriminantOf 4 = .ok (.getfield 7, 3) := by decide +kernel
theorem dX6_discriminantOf_7 : decode cX6_discriminantOf 7 = .ok (.lmul, 1) := by decide +kernel
theorem dX6_discriminantOf_8 : decode cX6_discriminantOf 8 = .ok (.aload_n 0, 1) := by decide +kernel
theorem dX6_discriminantOf_9 : decode cX6_discriminantOf 9 = .ok (.getfield 13, 3) := by decide +kernel
theorem dX6_discriminantOf_12 : decode cX6_discriminantOf 12 = .ok (.lmul, 1) := by decide +kernel
theorem dX6_discriminantOf_13 : decode cX6_discriminantOf 13 = .ok (.invokestatic 45, 3) := by decide +kernel
theorem dX6_discriminantOf_16 : decode cX6_discriminantOf 16 = .ok (.lstore_n 2, 1) := by decide +kernel
theorem dX6_discriminantOf_17 : decode cX6_discriminantOf 17 = .ok (.aload_n 1, 1) := by decide +kernel
theorem dX6_discriminantOf_18 : decode cX6_discriminantOf 18 = .ok (.lload_n 2, 1) := by decide +kernel
theorem dX6_discriminantOf_19 : decode cX6_discriminantOf 19 = .ok (.invokevirtual 51, 3) := by decide +kernel
theorem dX6_discriminantOf_22 : decode cX6_discriminantOf 22 = .ok (.lstore 4, 2) := by decide +kernel
theorem dX6_discriminantOf_24 : decode cX6_discriminantOf 24 = .ok (.lload 4, 2) := by decide +kernel
theorem dX6_discriminantOf_26 : decode cX6_discriminantOf 26 = .ok (.lload_n 2, 1) := by decide +kernel
theorem dX6_discriminantOf_27 : decode cX6_discriminantOf 27 = .ok (.invokestatic 54, 3) := by decide +kernel
theorem dX6_discriminantOf_30 : decode cX6_discriminantOf 30 = .ok (.ifCond .eq 12, 3) := by decide +kernel
theorem dX6_discriminantOf_33 : decode cX6_discriminantOf 33 = .ok (.lload_n 2, 1) := by decide +kernel
theorem dX6_discriminantOf_34 : decode cX6_discriminantOf 34 = .ok (.lload 4, 2) := by decide +kernel
theorem dX6_discriminantOf_36 : decode cX6_discriminantOf 36 = .ok (.invokestatic 60, 3) := by decide +kernel
theorem dX6_discriminantOf_39 : decode cX6_discriminantOf 39 = .ok (.goto 4, 3) := by decide +kernel
theorem dX6_discriminantOf_42 : decode cX6_discriminantOf 42 = .ok (.lconst 0, 1) := by decide +kernel
theorem dX6_discriminantOf_43 : decode cX6_discriminantOf 43 = .ok (.lreturn, 1) := by decide +kernel
theorem dX6_discriminant_0 : decode cX6_discriminant 0 = .ok (.aload_n 0, 1) := by decide +kernel
theorem dX6_discriminant_1 : decode cX6_discriminant 1 = .ok (.aload_n 0, 1) := by decide +kernel
theorem dX6_discriminant_2 : decode cX6_discriminant 2 = .ok (.getfield 19, 3) := by decide +kernel
theorem dX6_discriminant_5 : decode cX6_discriminant 5 = .ok (.invokevirtual 39, 3) := by decide +kernel
theorem dX6_discriminant_8 : decode cX6_discriminant 8 = .ok (.lreturn, 1) := by decide +kernel
theorem dX7_note_0 : decode cX7_note 0 = .ok (.iconst 0, 1) := by decide +kernel
theorem dX7_note_1 : decode cX7_note 1 = .ok (.istore_n 2, 1) := by decide +kernel
theorem dX7_note_2 : decode cX7_note 2 = .ok (.iload_n 2, 1) := by decide +kernel
theorem dX7_note_3 : decode cX7_note 3 = .ok (.aload_n 0, 1) := by decide +kernel
theorem dX7_note_4 : decode cX7_note 4 = .ok (.getfield 9, 3) := by decide +kernel
theorem dX7_note_7 : decode cX7_note 7 = .ok (.if_icmp .ge 19, 3) := by decide +kernel
theorem dX7_note_10 : decode cX7_note 10 = .ok (.aload_n 0, 1) := by decide +kernel
theorem dX7_note_11 : decode cX7_note 11 = .ok (.getfield 18, 3) := by decide +kernel
theorem dX7_note_14 : decode cX7_note 14 = .ok (.iload_n 2, 1) := by decide +kernel
theorem dX7_note_15 : decode cX7_note 15 = .ok (.iaload, 1) := by decide +kernel
theorem dX7_note_16 : decode cX7_note 16 = .ok (.iload_n 1, 1) := by decide +kernel
theorem dX7_note_17 : decode cX7_note 17 = .ok (.if_icmp .ge 9, 3) := by decide +kernel
theorem dX7_note_20 : decode cX7_note 20 = .ok (.iinc 2 1, 3) := by decide +kernel
theorem dX7_note_23 : decode cX7_note 23 = .ok (.goto (-21), 3) := by decide +kernel
theorem dX7_note_26 : decode cX7_note 26 = .ok (.aload_n 0, 1) := by decide +kernel
theorem dX7_note_27 : decode cX7_note 27 = .ok (.getfield 9, 3) := by decide +kernel
theorem dX7_note_30 : decode cX7_note 30 = .ok (.bipush 64, 2) := by decide +kernel
theorem dX7_note_32 : decode cX7_note 32 = .ok (.if_icmp .ge 21, 3) := by decide +kernel
theorem dX7_note_35 : decode cX7_note 35 = .ok (.iload_n 2, 1) := by decide +kernel
theorem dX7_note_36 : decode cX7_note 36 = .ok (.aload_n 0, 1) := by decide +kernel
theorem dX7_note_37 : decode cX7_note 37 = .ok (.getfield 9, 3) := by decide +kernel
theorem dX7_note_40 : decode cX7_note 40 = .ok (.if_icmp .ge 14, 3) := by decide +kernel
theorem dX7_note_43 : decode cX7_note 43 = .ok (.aload_n 0, 1) := by decide +kernel
theorem dX7_note_44 : decode cX7_note 44 = .ok (.getfield 18, 3) := by decide +kernel
theorem dX7_note_47 : decode cX7_note 47 = .ok (.iload_n 2, 1) := by decide +kernel
theorem dX7_note_48 : decode cX7_note 48 = .ok (.iaload, 1) := by decide +kernel
theorem dX7_note_49 : decode cX7_note 49 = .ok (.iload_n 1, 1) := by decide +kernel
theorem dX7_note_50 : decode cX7_note 50 = .ok (.if_icmp .ne 4, 3) := by decide +kernel
theorem dX7_note_53 : decode cX7_note 53 = .ok (.return_, 1) := by decide +kernel
theorem dX7_note_54 : decode cX7_note 54 = .ok (.aload_n 0, 1) := by decide +kernel
theorem dX7_note_55 : decode cX7_note 55 = .ok (.getfield 9, 3) := by decide +kernel
theorem dX7_note_58 : decode cX7_note 58 = .ok (.istore_n 3, 1) := by decide +kernel
theorem dX7_note_59 : decode cX7_note 59 = .ok (.iload_n 3, 1) := by decide +kernel
theorem dX7_note_60 : decode cX7_note 60 = .ok (.iload_n 2, 1) := by decide +kernel
theorem dX7_note_61 : decode cX7_note 61 = .ok (.if_icmp .le 23, 3) := by decide +kernel
theorem dX7_note_64 : decode cX7_note 64 = .ok (.aload_n 0, 1) := by decide +kernel
theorem dX7_note_65 : decode cX7_note 65 = .ok (.getfield 18, 3) := by decide +kernel
theorem dX7_note_68 : decode cX7_note 68 = .ok (.iload_n 3, 1) := by decide +kernel
theorem dX7_note_69 : decode cX7_note 69 = .ok (.aload_n 0, 1) := by decide +kernel
theorem dX7_note_70 : decode cX7_note 70 = .ok (.getfield 18, 3) := by decide +kernel
theorem dX7_note_73 : decode cX7_note 73 = .ok (.iload_n 3, 1) := by decide +kernel
theorem dX7_note_74 : decode cX7_note 74 = .ok (.iconst 1, 1) := by decide +kernel
theorem dX7_note_75 : decode cX7_note 75 = .ok (.isub, 1) := by decide +kernel
theorem dX7_note_76 : decode cX7_note 76 = .ok (.iaload, 1) := by decide +kernel
theorem dX7_note_77 : decode cX7_note 77 = .ok (.iastore, 1) := by decide +kernel
theorem dX7_note_78 : decode cX7_note 78 = .ok (.iinc 3 (-1), 3) := by decide +kernel
theorem dX7_note_81 : decode cX7_note 81 = .ok (.goto (-22), 3) := by decide +kernel
theorem dX7_note_84 : decode cX7_note 84 = .ok (.aload_n 0, 1) := by decide +kernel
theorem dX7_note_85 : decode cX7_note 85 = .ok (.getfield 18, 3) := by decide +kernel
theorem dX7_note_88 : decode cX7_note 88 = .ok (.iload_n 2, 1) := by decide +kernel
theorem dX7_note_89 : decode cX7_note 89 = .ok (.iload_n 1, 1) := by decide +kernel
theorem dX7_note_90 : decode cX7_note 90 = .ok (.iastore, 1) := by decide +kernel
theorem dX7_note_91 : decode cX7_note 91 = .ok (.aload_n 0, 1) := by decide +kernel
theorem dX7_note_92 : decode cX7_note 92 = .ok (.dup, 1) := by decide +kernel
theorem dX7_note_93 : decode cX7_note 93 = .ok (.getfield 9, 3) := by decide +kernel
theorem dX7_note_96 : decode cX7_note 96 = .ok (.iconst 1, 1) := by decide +kernel
theorem dX7_note_97 : decode cX7_note 97 = .ok (.iadd, 1) := by decide +kernel
theorem dX7_note_98 : decode cX7_note 98 = .ok (.putfield 9, 3) := by decide +kernel
theorem dX7_note_101 : decode cX7_note 101 = .ok (.return_, 1) := by decide +kernel
theorem dX7_noteDivisors_0 : decode cX7_noteDivisors 0 = .ok (.iload_n 1, 1) := by decide +kernel
theorem dX7_noteDivisors_1 : decode cX7_noteDivisors 1 = .ok (.invokestatic 56, 3) := by decide +kernel
theorem dX7_noteDivisors_4 : decode cX7_noteDivisors 4 = .ok (.istore_n 2, 1) := by decide +kernel
theorem dX7_noteDivisors_5 : decode cX7_noteDivisors 5 = .ok (.iconst 2, 1) := by decide +kernel
theorem dX7_noteDivisors_6 : decode cX7_noteDivisors 6 = .ok (.istore_n 3, 1) := by decide +kernel
theorem dX7_noteDivisors_7 : decode cX7_noteDivisors 7 = .ok (.iload_n 3, 1) := by decide +kernel
theorem dX7_noteDivisors_8 : decode cX7_noteDivisors 8 = .ok (.sipush 999, 3) := by decide +kernel
theorem dX7_noteDivisors_11 : decode cX7_noteDivisors 11 = .ok (.if_icmp .gt 51, 3) := by decide +kernel
theorem dX7_noteDivisors_14 : decode cX7_noteDivisors 14 = .ok (.iload_n 2, 1) := by decide +kernel
theorem dX7_noteDivisors_15 : decode cX7_noteDivisors 15 = .ok (.iconst 1, 1) := by decide +kernel
theorem dX7_noteDivisors_16 : decode cX7_noteDivisors 16 = .ok (.if_icmp .le 46, 3) := by decide +kernel
theorem dX7_noteDivisors_19 : decode cX7_noteDivisors 19 = .ok (.iload_n 2, 1) := by decide +kernel
theorem dX7_noteDivisors_20 : decode cX7_noteDivisors 20 = .ok (.iload_n 3, 1) := by decide +kernel
theorem dX7_noteDivisors_21 : decode cX7_noteDivisors 21 = .ok (.irem, 1) := by decide +kernel
theorem dX7_noteDivisors_22 : decode cX7_noteDivisors 22 = .ok (.ifCond .ne 8, 3) := by decide +kernel
theorem dX7_noteDivisors_25 : decode cX7_noteDivisors 25 = .ok (.aload_n 0, 1) := by decide +kernel
theorem dX7_noteDivisors_26 : decode cX7_noteDivisors 26 = .ok (.iload_n 3, 1) := by decide +kernel
theorem dX7_noteDivisors_27 : decode cX7_noteDivisors 27 = .ok (.invokevirtual 32, 3) := by decide +kernel
theorem dX7_noteDivisors_30 : decode cX7_noteDivisors 30 = .ok (.iconst 0, 1) := by decide +kernel
theorem dX7_noteDivisors_31 : decode cX7_noteDivisors 31 = .ok (.istore 4, 2) := by decide +kernel
theorem dX7_noteDivisors_33 : decode cX7_noteDivisors 33 = .ok (.iload 4, 2) := by decide +kernel
theorem dX7_noteDivisors_35 : decode cX7_noteDivisors 35 = .ok (.bipush 32, 2) := by decide +kernel
theorem dX7_noteDivisors_37 : decode cX7_noteDivisors 37 = .ok (.if_icmp .ge 19, 3) := by decide +kernel
theorem dX7_noteDivisors_40 : decode cX7_noteDivisors 40 = .ok (.iload_n 2, 1) := by decide +kernel
theorem dX7_noteDivisors_41 : decode cX7_noteDivisors 41 = .ok (.iload_n 3, 1) := by decide +kernel
theorem dX7_noteDivisors_42 : decode cX7_noteDivisors 42 = .ok (.irem, 1) := by decide +kernel
theorem dX7_noteDivisors_43 : decode cX7_noteDivisors 43 = .ok (.ifCond .ne 13, 3) := by decide +kernel
theorem dX7_noteDivisors_46 : decode cX7_noteDivisors 46 = .ok (.iload_n 2, 1) := by decide +kernel
theorem dX7_noteDivisors_47 : decode cX7_noteDivisors 47 = .ok (.iload_n 3, 1) := by decide +kernel
theorem dX7_noteDivisors_48 : decode cX7_noteDivisors 48 = .ok (.idiv, 1) := by decide +kernel
theorem dX7_noteDivisors_49 : decode cX7_noteDivisors 49 = .ok (.istore_n 2, 1) := by decide +kernel
theorem dX7_noteDivisors_50 : decode cX7_noteDivisors 50 = .ok (.iinc 4 1, 3) := by decide +kernel
theorem dX7_noteDivisors_53 : decode cX7_noteDivisors 53 = .ok (.goto (-20), 3) := by decide +kernel
theorem dX7_noteDivisors_56 : decode cX7_noteDivisors 56 = .ok (.iinc 3 1, 3) := by decide +kernel
theorem dX7_noteDivisors_59 : decode cX7_noteDivisors 59 = .ok (.goto (-52), 3) := by decide +kernel
theorem dX7_noteDivisors_62 : decode cX7_noteDivisors 62 = .ok (.return_, 1) := by decide +kernel
theorem dX7_noteAll_0 : decode cX7_noteAll 0 = .ok (.aload_n 1, 1) := by decide +kernel
theorem dX7_noteAll_1 : decode cX7_noteAll 1 = .ok (.iload_n 2, 1) := by decide +kernel
theorem dX7_noteAll_2 : decode cX7_noteAll 2 = .ok (.invokevirtual 43, 3) := by decide +kernel
theorem dX7_noteAll_5 : decode cX7_noteAll 5 = .ok (.iconst 2, 1) := by decide +kernel
theorem dX7_noteAll_6 : decode cX7_noteAll 6 = .ok (.if_icmp .ne 4, 3) := by decide +kernel
theorem dX7_noteAll_9 : decode cX7_noteAll 9 = .ok (.return_, 1) := by decide +kernel
theorem dX7_noteAll_10 : decode cX7_noteAll 10 = .ok (.aload_n 1, 1) := by decide +kernel
theorem dX7_noteAll_11 : decode cX7_noteAll 11 = .ok (.iload_n 2, 1) := by decide +kernel
theorem dX7_noteAll_12 : decode cX7_noteAll 12 = .ok (.invokevirtual 43, 3) := by decide +kernel
theorem dX7_noteAll_15 : decode cX7_noteAll 15 = .ok (.iconst 1, 1) := by decide +kernel
theorem dX7_noteAll_16 : decode cX7_noteAll 16 = .ok (.if_icmp .ne 15, 3) := by decide +kernel
theorem dX7_noteAll_19 : decode cX7_noteAll 19 = .ok (.aload_n 0, 1) := by decide +kernel
theorem dX7_noteAll_20 : decode cX7_noteAll 20 = .ok (.aload_n 1, 1) := by decide +kernel
theorem dX7_noteAll_21 : decode cX7_noteAll 21 = .ok (.iload_n 2, 1) := by decide +kernel
theorem dX7_noteAll_22 : decode cX7_noteAll 22 = .ok (.invokevirtual 47, 3) := by decide +kernel
theorem dX7_noteAll_25 : decode cX7_noteAll 25 = .ok (.invokevirtual 32, 3) := by decide +kernel
theorem dX7_noteAll_28 : decode cX7_noteAll 28 = .ok (.goto 12, 3) := by decide +kernel
theorem dX7_noteAll_31 : decode cX7_noteAll 31 = .ok (.aload_n 0, 1) := by decide +kernel
theorem dX7_noteAll_32 : decode cX7_noteAll 32 = .ok (.aload_n 1, 1) := by decide +kernel
theorem dX7_noteAll_33 : decode cX7_noteAll 33 = .ok (.iload_n 2, 1) := by decide +kernel
theorem dX7_noteAll_34 : decode cX7_noteAll 34 = .ok (.invokevirtual 47, 3) := by decide +kernel
theorem dX7_noteAll_37 : decode cX7_noteAll 37 = .ok (.invokevirtual 50, 3) := by decide +kernel
theorem dX7_noteAll_40 : decode cX7_noteAll 40 = .ok (.aload_n 0, 1) := by decide +kernel
theorem dX7_noteAll_41 : decode cX7_noteAll 41 = .ok (.aload_n 1, 1) := by decide +kernel
theorem dX7_noteAll_42 : decode cX7_noteAll 42 = .ok (.iload_n 2, 1) := by decide +kernel
theorem dX7_noteAll_43 : decode cX7_noteAll 43 = .ok (.invokevirtual 53, 3) := by decide +kernel
theorem dX7_noteAll_46 : decode cX7_noteAll 46 = .ok (.invokevirtual 50, 3) := by decide +kernel
theorem dX7_noteAll_49 : decode cX7_noteAll 49 = .ok (.return_, 1) := by decide +kernel
theorem dX7_isRamified_0 : decode cX7_isRamified 0 = .ok (.iload_n 3, 1) := by decide +kernel
theorem dX7_isRamified_1 : decode cX7_isRamified 1 = .ok (.ifCond .ne 17, 3) := by decide +kernel
theorem dX7_isRamified_4 : decode cX7_isRamified 4 = .ok (.iload_n 1, 1) := by decide +kernel
theorem dX7_isRamified_5 : decode cX7_isRamified 5 = .ok (.ifCond .ge 11, 3) := by decide +kernel
theorem dX7_isRamified_8 : decode cX7_isRamified 8 = .ok (.iload_n 2, 1) := by decide +kernel
theorem dX7_isRamified_9 : decode cX7_isRamified 9 = .ok (.ifCond .ge 7, 3) := by decide +kernel
theorem dX7_isRamified_12 : decode cX7_isRamified 12 = .ok (.iconst 1, 1) := by decide +kernel
theorem dX7_isRamified_13 : decode cX7_isRamified 13 = .ok (.goto 4, 3) := by decide +kernel
theorem dX7_isRamified_16 : decode cX7_isRamified 16 = .ok (.iconst 0, 1) := by decide +kernel
theorem dX7_isRamified_17 : decode cX7_isRamified 17 = .ok (.ireturn, 1) := by decide +kernel
theorem dX7_isRamified_18 : decode cX7_isRamified 18 = .ok (.iload_n 3, 1) := by decide +kernel
theorem dX7_isRamified_19 : decode cX7_isRamified 19 = .ok (.iload_n 1, 1) := by decide +kernel
theorem dX7_isRamified_20 : decode cX7_isRamified 20 = .ok (.i2l, 1) := by decide +kernel
theorem dX7_isRamified_21 : decode cX7_isRamified 21 = .ok (.invokestatic 72, 3) := by decide +kernel
theorem dX7_isRamified_24 : decode cX7_isRamified 24 = .ok (.istore 4, 2) := by decide +kernel
theorem dX7_isRamified_26 : decode cX7_isRamified 26 = .ok (.iload_n 3, 1) := by decide +kernel
theorem dX7_isRamified_27 : decode cX7_isRamified 27 = .ok (.iload_n 2, 1) := by decide +kernel
theorem dX7_isRamified_28 : decode cX7_isRamified 28 = .ok (.i2l, 1) := by decide +kernel
theorem dX7_isRamified_29 : decode cX7_isRamified 29 = .ok (.invokestatic 72, 3) := by decide +kernel
theorem dX7_isRamified_32 : decode cX7_isRamified 32 = .ok (.istore 5, 2) := by decide +kernel
theorem dX7_isRamified_34 : decode cX7_isRamified 34 = .ok (.iload 4, 2) := by decide +kernel
theorem dX7_isRamified_36 : decode cX7_isRamified 36 = .ok (.iconst 1, 1) := by decide +kernel
theorem dX7_isRamified_37 : decode cX7_isRamified 37 = .ok (.if_icmp .ne 13, 3) := by decide +kernel
theorem dX7_isRamified_40 : decode cX7_isRamified 40 = .ok (.iload_n 1, 1) := by decide +kernel
theorem dX7_isRamified_41 : decode cX7_isRamified 41 = .ok (.i2l, 1) := by decide +kernel
theorem dX7_isRamified_42 : decode cX7_isRamified 42 = .ok (.iload_n 3, 1) := by decide +kernel
theorem dX7_isRamified_43 : decode cX7_isRamified 43 = .ok (.i2l, 1) := by decide +kernel
theorem dX7_isRamified_44 : decode cX7_isRamified 44 = .ok (.invokestatic 78, 3) := by decide +kernel
theorem dX7_isRamified_47 : decode cX7_isRamified 47 = .ok (.goto 5, 3) := by decide +kernel
theorem dX7_isRamified_50 : decode cX7_isRamified 50 = .ok (.iload_n 1, 1) := by decide +kernel
theorem dX7_isRamified_51 : decode cX7_isRamified 51 = .ok (.i2l, 1) := by decide +kernel
theorem dX7_isRamified_52 : decode cX7_isRamified 52 = .ok (.lstore 6, 2) := by decide +kernel
theorem dX7_isRamified_54 : decode cX7_isRamified 54 = .ok (.iload 5, 2) := by decide +kernel
theorem dX7_isRamified_56 : decode cX7_isRamified 56 = .ok (.iconst 1, 1) := by decide +kernel
theorem dX7_isRamified_57 : decode cX7_isRamified 57 = .ok (.if_icmp .ne 13, 3) := by decide +kernel
theorem dX7_isRamified_60 : decode cX7_isRamified 60 = .ok (.iload_n 2, 1) := by decide +kernel
theorem dX7_isRamified_61 : decode cX7_isRamified 61 = .ok (.i2l, 1) := by decide +kernel
theorem dX7_isRamified_62 : decode cX7_isRamified 62 = .ok (.iload_n 3, 1) := by decide +kernel
theorem dX7_isRamified_63 : decode cX7_isRamified 63 = .ok (.i2l, 1) := by decide +kernel
theorem dX7_isRamified_64 : decode cX7_isRamified 64 = .ok (.invokestatic 78, 3) := by decide +kernel
theorem dX7_isRamified_67 : decode cX7_isRamified 67 = .ok (.goto 5, 3) := by decide +kernel
theorem dX7_isRamified_70 : decode cX7_isRamified 70 = .ok (.iload_n 2, 1) := by decide +kernel
theorem dX7_isRamified_71 : decode cX7_isRamified 71 = .ok (.i2l, 1) := by decide +kernel
theorem dX7_isRamified_72 : decode cX7_isRamified 72 = .ok (.lstore 8, 2) := by decide +kernel
theorem dX7_isRamified_74 : decode cX7_isRamified 74 = .ok (.iload_n 3, 1) := by decide +kernel
theorem dX7_isRamified_75 : decode cX7_isRamified 75 = .ok (.iconst 2, 1) := by decide +kernel
theorem dX7_isRamified_76 : decode cX7_isRamified 76 = .ok (.if_icmp .ne 71, 3) := by decide +kernel
theorem dX7_isRamified_79 : decode cX7_isRamified 79 = .ok (.lload 6, 2) := by decide +kernel
theorem dX7_isRamified_81 : decode cX7_isRamified 81 = .ok (.lconst 1, 1) := by decide +kernel
theorem dX7_isRamified_82 : decode cX7_isRamified 82 = .ok (.lsub, 1) := by decide +kernel
theorem dX7_isRamified_83 : decode cX7_isRamified 83 = .ok (.ldc2_w 82, 3) := by decide +kernel
theorem dX7_isRamified_86 : decode cX7_isRamified 86 = .ok (.ldiv, 1) := by decide +kernel
theorem dX7_isRamified_87 : decode cX7_isRamified 87 = .ok (.lload 8, 2) := by decide +kernel
theorem dX7_isRamified_89 : decode cX7_isRamified 89 = .ok (.lconst 1, 1) := by decide +kernel
theorem dX7_isRamified_90 : decode cX7_isRamified 90 = .ok (.lsub, 1) := by decide +kernel
theorem dX7_isRamified_91 : decode cX7_isRamified 91 = .ok (.ldc2_w 82, 3) := by decide +kernel
theorem dX7_isRamified_94 : decode cX7_isRamified 94 = .ok (.ldiv, 1) := by decide +kernel
theorem dX7_isRamified_95 : decode cX7_isRamified 95 = .ok (.lmul, 1) := by decide +kernel
theorem dX7_isRamified_96 : decode cX7_isRamified 96 = .ok (.iload 4, 2) := by decide +kernel
theorem dX7_isRamified_98 : decode cX7_isRamified 98 = .ok (.i2l, 1) := by decide +kernel
theorem dX7_isRamified_99 : decode cX7_isRamified 99 = .ok (.lload 8, 2) := by decide +kernel
theorem dX7_isRamified_101 : decode cX7_isRamified 101 = .ok (.lload 8, 2) := by decide +kernel
theorem dX7_isRamified_103 : decode cX7_isRamified 103 = .ok (.lmul, 1) := by decide +kernel
theorem dX7_isRamified_104 : decode cX7_isRamified 104 = .ok (.lconst 1, 1) := by decide +kernel
theorem dX7_isRamified_105 : decode cX7_isRamified 105 = .ok (.lsub, 1) := by decide +kernel
theorem dX7_isRamified_106 : decode cX7_isRamified 106 = .ok (.ldc2_w 84, 3) := by decide +kernel
theorem dX7_isRamified_109 : decode cX7_isRamified 109 = .ok (.ldiv, 1) := by decide +kernel
theorem dX7_isRamified_110 : decode cX7_isRamified 110 = .ok (.lmul, 1) := by decide +kernel
theorem dX7_isRamified_111 : decode cX7_isRamified 111 = .ok (.ladd, 1) := by decide +kernel
theorem dX7_isRamified_112 : decode cX7_isRamified 112 = .ok (.iload 5, 2) := by decide +kernel
theorem dX7_isRamified_114 : decode cX7_isRamified 114 = .ok (.i2l, 1) := by decide +kernel
theorem dX7_isRamified_115 : decode cX7_isRamified 115 = .ok (.lload 6, 2) := by decide +kernel
theorem dX7_isRamified_117 : decode cX7_isRamified 117 = .ok (.lload 6, 2) := by decide +kernel
theorem dX7_isRamified_119 : decode cX7_isRamified 119 = .ok (.lmul, 1) := by decide +kernel
theorem dX7_isRamified_120 : decode cX7_isRamified 120 = .ok (.lconst 1, 1) := by decide +kernel
theorem dX7_isRamified_121 : decode cX7_isRamified 121 = .ok (.lsub, 1) := by decide +kernel
theorem dX7_isRamified_122 : decode cX7_isRamified 122 = .ok (.ldc2_w 84, 3) := by decide +kernel
theorem dX7_isRamified_125 : decode cX7_isRamified 125 = .ok (.ldiv, 1) := by decide +kernel
theorem dX7_isRamified_126 : decode cX7_isRamified 126 = .ok (.lmul, 1) := by decide +kernel
theorem dX7_isRamified_127 : decode cX7_isRamified 127 = .ok (.ladd, 1) := by decide +kernel
theorem dX7_isRamified_128 : decode cX7_isRamified 128 = .ok (.lstore 10, 2) := by decide +kernel
theorem dX7_isRamified_130 : decode cX7_isRamified 130 = .ok (.lload 10, 2) := by decide +kernel
theorem dX7_isRamified_132 : decode cX7_isRamified 132 = .ok (.ldc2_w 82, 3) := by decide +kernel
theorem dX7_isRamified_135 : decode cX7_isRamified 135 = .ok (.lrem, 1) := by decide +kernel
theorem dX7_isRamified_136 : decode cX7_isRamified 136 = .ok (.lconst 0, 1) := by decide +kernel
theorem dX7_isRamified_137 : decode cX7_isRamified 137 = .ok (.lcmp, 1) := by decide +kernel
theorem dX7_isRamified_138 : decode cX7_isRamified 138 = .ok (.ifCond .eq 7, 3) := by decide +kernel
theorem dX7_isRamified_141 : decode cX7_isRamified 141 = .ok (.iconst 1, 1) := by decide +kernel
theorem dX7_isRamified_142 : decode cX7_isRamified 142 = .ok (.goto 4, 3) := by decide +kernel
theorem dX7_isRamified_145 : decode cX7_isRamified 145 = .ok (.iconst 0, 1) := by decide +kernel
theorem dX7_isRamified_146 : decode cX7_isRamified 146 = .ok (.ireturn, 1) := by decide +kernel
theorem dX7_isRamified_147 : decode cX7_isRamified 147 = .ok (.iload 4, 2) := by decide +kernel
theorem dX7_isRamified_149 : decode cX7_isRamified 149 = .ok (.iconst 1, 1) := by decide +kernel
theorem dX7_isRamified_150 : decode cX7_isRamified 150 = .ok (.if_icmp .ne 24, 3) := by decide +kernel
theorem dX7_isRamified_153 : decode cX7_isRamified 153 = .ok (.iload 5, 2) := by decide +kernel
theorem dX7_isRamified_155 : decode cX7_isRamified 155 = .ok (.iconst 1, 1) := by decide +kernel
theorem dX7_isRamified_156 : decode cX7_isRamified 156 = .ok (.if_icmp .ne 18, 3) := by decide +kernel
theorem dX7_isRamified_159 : decode cX7_isRamified 159 = .ok (.iload_n 3, 1) := by decide +kernel
theorem dX7_isRamified_160 : decode cX7_isRamified 160 = .ok (.iconst 1, 1) := by decide +kernel
theorem dX7_isRamified_161 : decode cX7_isRamified 161 = .ok (.isub, 1) := by decide +kernel
theorem dX7_isRamified_162 : decode cX7_isRamified 162 = .ok (.iconst 2, 1) := by decide +kernel
theorem dX7_isRamified_163 : decode cX7_isRamified 163 = .ok (.idiv, 1) := by decide +kernel
theorem dX7_isRamified_164 : decode cX7_isRamified 164 = .ok (.iconst 2, 1) := by decide +kernel
theorem dX7_isRamified_165 : decode cX7_isRamified 165 = .ok (.irem, 1) := by decide +kernel
theorem dX7_isRamified_166 : decode cX7_isRamified 166 = .ok (.iconst 1, 1) := by decide +kernel
theorem dX7_isRamified_167 : decode cX7_isRamified 167 = .ok (.if_icmp .ne 7, 3) := by decide +kernel
theorem dX7_isRamified_170 : decode cX7_isRamified 170 = .ok (.iconst 1, 1) := by decide +kernel
theorem dX7_isRamified_171 : decode cX7_isRamified 171 = .ok (.goto 4, 3) := by decide +kernel
theorem dX7_isRamified_174 : decode cX7_isRamified 174 = .ok (.iconst 0, 1) := by decide +kernel
theorem dX7_isRamified_175 : decode cX7_isRamified 175 = .ok (.istore 10, 2) := by decide +kernel
theorem dX7_isRamified_177 : decode cX7_isRamified 177 = .ok (.iload 5, 2) := by decide +kernel
theorem dX7_isRamified_179 : decode cX7_isRamified 179 = .ok (.iconst 1, 1) := by decide +kernel
theorem dX7_isRamified_180 : decode cX7_isRamified 180 = .ok (.if_icmp .ne 24, 3) := by decide +kernel
theorem dX7_isRamified_183 : decode cX7_isRamified 183 = .ok (.lload 6, 2) := by decide +kernel
theorem dX7_isRamified_185 : decode cX7_isRamified 185 = .ok (.iload_n 3, 1) := by decide +kernel
theorem dX7_isRamified_186 : decode cX7_isRamified 186 = .ok (.invokestatic 86, 3) := by decide +kernel
theorem dX7_isRamified_189 : decode cX7_isRamified 189 = .ok (.ifCond .ne 15, 3) := by decide +kernel
theorem dX7_isRamified_192 : decode cX7_isRamified 192 = .ok (.iload 10, 2) := by decide +kernel
theorem dX7_isRamified_194 : decode cX7_isRamified 194 = .ok (.ifCond .ne 7, 3) := by decide +kernel
theorem dX7_isRamified_197 : decode cX7_isRamified 197 = .ok (.iconst 1, 1) := by decide +kernel
theorem dX7_isRamified_198 : decode cX7_isRamified 198 = .ok (.goto 4, 3) := by decide +kernel
theorem dX7_isRamified_201 : decode cX7_isRamified 201 = .ok (.iconst 0, 1) := by decide +kernel
theorem dX7_isRamified_202 : decode cX7_isRamified 202 = .ok (.istore 10, 2) := by decide +kernel
theorem dX7_isRamified_204 : decode cX7_isRamified 204 = .ok (.iload 4, 2) := by decide +kernel
theorem dX7_isRamified_206 : decode cX7_isRamified 206 = .ok (.iconst 1, 1) := by decide +kernel
theorem dX7_isRamified_207 : decode cX7_isRamified 207 = .ok (.if_icmp .ne 24, 3) := by decide +kernel
theorem dX7_isRamified_210 : decode cX7_isRamified 210 = .ok (.lload 8, 2) := by decide +kernel
theorem dX7_isRamified_212 : decode cX7_isRamified 212 = .ok (.iload_n 3, 1) := by decide +kernel
theorem dX7_isRamified_213 : decode cX7_isRamified 213 = .ok (.invokestatic 86, 3) := by decide +kernel
theorem dX7_isRamified_216 : decode cX7_isRamified 216 = .ok (.ifCond .ne 15, 3) := by decide +kernel
theorem dX7_isRamified_219 : decode cX7_isRamified 219 = .ok (.iload 10, 2) := by decide +kernel
theorem dX7_isRamified_221 : decode cX7_isRamified 221 = .ok (.ifCond .ne 7, 3) := by decide +kernel
theorem dX7_isRamified_224 : decode cX7_isRamified 224 = .ok (.iconst 1, 1) := by decide +kernel
theorem dX7_isRamified_225 : decode cX7_isRamified 225 = .ok (.goto 4, 3) := by decide +kernel
theorem dX7_isRamified_228 : decode cX7_isRamified 228 = .ok (.iconst 0, 1) := by decide +kernel
theorem dX7_isRamified_229 : decode cX7_isRamified 229 = .ok (.istore 10, 2) := by decide +kernel
theorem dX7_isRamified_231 : decode cX7_isRamified 231 = .ok (.iload 10, 2) := by decide +kernel
theorem dX7_isRamified_233 : decode cX7_isRamified 233 = .ok (.ireturn, 1) := by decide +kernel
theorem dX7_powerThatIs_0 : decode cX7_powerThatIs 0 = .ok (.lconst 1, 1) := by decide +kernel
theorem dX7_powerThatIs_1 : decode cX7_powerThatIs 1 = .ok (.lstore 4, 2) := by decide +kernel
theorem dX7_powerThatIs_3 : decode cX7_powerThatIs 3 = .ok (.iconst 1, 1) := by decide +kernel
theorem dX7_powerThatIs_4 : decode cX7_powerThatIs 4 = .ok (.istore 6, 2) := by decide +kernel
theorem dX7_powerThatIs_6 : decode cX7_powerThatIs 6 = .ok (.iload 6, 2) := by decide +kernel
theorem dX7_powerThatIs_8 : decode cX7_powerThatIs 8 = .ok (.iload_n 3, 1) := by decide +kernel
theorem dX7_powerThatIs_9 : decode cX7_powerThatIs 9 = .ok (.if_icmp .ge 32, 3) := by decide +kernel
theorem dX7_powerThatIs_12 : decode cX7_powerThatIs 12 = .ok (.lload 4, 2) := by decide +kernel
theorem dX7_powerThatIs_14 : decode cX7_powerThatIs 14 = .ok (.iload_n 2, 1) := by decide +kernel
theorem dX7_powerThatIs_15 : decode cX7_powerThatIs 15 = .ok (.i2l, 1) := by decide +kernel
theorem dX7_powerThatIs_16 : decode cX7_powerThatIs 16 = .ok (.lmul, 1) := by decide +kernel
theorem dX7_powerThatIs_17 : decode cX7_powerThatIs 17 = .ok (.iload_n 3, 1) := by decide +kernel
theorem dX7_powerThatIs_18 : decode cX7_powerThatIs 18 = .ok (.i2l, 1) := by decide +kernel
theorem dX7_powerThatIs_19 : decode cX7_powerThatIs 19 = .ok (.lrem, 1) := by decide +kernel
theorem dX7_powerThatIs_20 : decode cX7_powerThatIs 20 = .ok (.lstore 4, 2) := by decide +kernel
theorem dX7_powerThatIs_22 : decode cX7_powerThatIs 22 = .ok (.lload 4, 2) := by decide +kernel
theorem dX7_powerThatIs_24 : decode cX7_powerThatIs 24 = .ok (.iload_n 1, 1) := by decide +kernel
theorem dX7_powerThatIs_25 : decode cX7_powerThatIs 25 = .ok (.iload_n 3, 1) := by decide +kernel
theorem dX7_powerThatIs_26 : decode cX7_powerThatIs 26 = .ok (.irem, 1) := by decide +kernel
theorem dX7_powerThatIs_27 : decode cX7_powerThatIs 27 = .ok (.i2l, 1) := by decide +kernel
theorem dX7_powerThatIs_28 : decode cX7_powerThatIs 28 = .ok (.lcmp, 1) := by decide +kernel
theorem dX7_powerThatIs_29 : decode cX7_powerThatIs 29 = .ok (.ifCond .ne 6, 3) := by decide +kernel
theorem dX7_powerThatIs_32 : decode cX7_powerThatIs 32 = .ok (.iload 6, 2) := by decide +kernel
theorem dX7_powerThatIs_34 : decode cX7_powerThatIs 34 = .ok (.ireturn, 1) := by decide +kernel
theorem dX7_powerThatIs_35 : decode cX7_powerThatIs 35 = .ok (.iinc 6 1, 3) := by decide +kernel
theorem dX7_powerThatIs_38 : decode cX7_powerThatIs 38 = .ok (.goto (-32), 3) := by decide +kernel
theorem dX7_powerThatIs_41 : decode cX7_powerThatIs 41 = .ok (.iconst 0, 1) := by decide +kernel
theorem dX7_powerThatIs_42 : decode cX7_powerThatIs 42 = .ok (.ireturn, 1) := by decide +kernel
theorem dX7_leastGenerator_0 : decode cX7_leastGenerator 0 = .ok (.iconst 2, 1) := by decide +kernel
theorem dX7_leastGenerator_1 : decode cX7_leastGenerator 1 = .ok (.istore_n 2, 1) := by decide +kernel
theorem dX7_leastGenerator_2 : decode cX7_leastGenerator 2 = .ok (.iload_n 2, 1) := by decide +kernel
theorem dX7_leastGenerator_3 : decode cX7_leastGenerator 3 = .ok (.iload_n 1, 1) := by decide +kernel
theorem dX7_leastGenerator_4 : decode cX7_leastGenerator 4 = .ok (.if_icmp .ge 24, 3) := by decide +kernel
theorem dX7_leastGenerator_7 : decode cX7_leastGenerator 7 = .ok (.aload_n 0, 1) := by decide +kernel
theorem dX7_leastGenerator_8 : decode cX7_leastGenerator 8 = .ok (.iconst 1, 1) := by decide +kernel
theorem dX7_leastGenerator_9 : decode cX7_leastGenerator 9 = .ok (.iload_n 2, 1) := by decide +kernel
theorem dX7_leastGenerator_10 : decode cX7_leastGenerator 10 = .ok (.iload_n 1, 1) := by decide +kernel
theorem dX7_leastGenerator_11 : decode cX7_leastGenerator 11 = .ok (.invokevirtual 93, 3) := by decide +kernel
theorem dX7_leastGenerator_14 : decode cX7_leastGenerator 14 = .ok (.iload_n 1, 1) := by decide +kernel
theorem dX7_leastGenerator_15 : decode cX7_leastGenerator 15 = .ok (.iconst 1, 1) := by decide +kernel
theorem dX7_leastGenerator_16 : decode cX7_leastGenerator 16 = .ok (.isub, 1) := by decide +kernel
theorem dX7_leastGenerator_17 : decode cX7_leastGenerator 17 = .ok (.if_icmp .ne 5, 3) := by decide +kernel
theorem dX7_leastGenerator_20 : decode cX7_leastGenerator 20 = .ok (.iload_n 2, 1) := by decide +kernel
theorem dX7_leastGenerator_21 : decode cX7_leastGenerator 21 = .ok (.ireturn, 1) := by decide +kernel
theorem dX7_leastGenerator_22 : decode cX7_leastGenerator 22 = .ok (.iinc 2 1, 3) := by decide +kernel
theorem dX7_leastGenerator_25 : decode cX7_leastGenerator 25 = .ok (.goto (-23), 3) := by decide +kernel
theorem dX7_leastGenerator_28 : decode cX7_leastGenerator 28 = .ok (.iconst 1, 1) := by decide +kernel
theorem dX7_leastGenerator_29 : decode cX7_leastGenerator 29 = .ok (.ireturn, 1) := by decide +kernel
theorem dX7_reckonCyclic_0 : decode cX7_reckonCyclic 0 = .ok (.aload_n 0, 1) := by decide +kernel
theorem dX7_reckonCyclic_1 : decode cX7_reckonCyclic 1 = .ok (.iload_n 2, 1) := by decide +kernel
theorem dX7_reckonCyclic_2 : decode cX7_reckonCyclic 2 = .ok (.invokevirtual 90, 3) := by decide +kernel
theorem dX7_reckonCyclic_5 : decode cX7_reckonCyclic 5 = .ok (.istore 4, 2) := by decide +kernel
theorem dX7_reckonCyclic_7 : decode cX7_reckonCyclic 7 = .ok (.iconst 0, 1) := by decide +kernel
theorem dX7_reckonCyclic_8 : decode cX7_reckonCyclic 8 = .ok (.istore 5, 2) := by decide +kernel
theorem dX7_reckonCyclic_10 : decode cX7_reckonCyclic 10 = .ok (.iconst (-1), 1) := by decide +kernel
theorem dX7_reckonCyclic_11 : decode cX7_reckonCyclic 11 = .ok (.istore 6, 2) := by decide +kernel
theorem dX7_reckonCyclic_13 : decode cX7_reckonCyclic 13 = .ok (.iconst 0, 1) := by decide +kernel
theorem dX7_reckonCyclic_14 : decode cX7_reckonCyclic 14 = .ok (.istore 7, 2) := by decide +kernel
theorem dX7_reckonCyclic_16 : decode cX7_reckonCyclic 16 = .ok (.iload 7, 2) := by decide +kernel
theorem dX7_reckonCyclic_18 : decode cX7_reckonCyclic 18 = .ok (.aload_n 0, 1) := by decide +kernel
theorem dX7_reckonCyclic_19 : decode cX7_reckonCyclic 19 = .ok (.getfield 9, 3) := by decide +kernel
theorem dX7_reckonCyclic_22 : decode cX7_reckonCyclic 22 = .ok (.if_icmp .ge 95, 3) := by decide +kernel
theorem dX7_reckonCyclic_25 : decode cX7_reckonCyclic 25 = .ok (.aload_n 0, 1) := by decide +kernel
theorem dX7_reckonCyclic_26 : decode cX7_reckonCyclic 26 = .ok (.getfield 18, 3) := by decide +kernel
theorem dX7_reckonCyclic_29 : decode cX7_reckonCyclic 29 = .ok (.iload 7, 2) := by decide +kernel
theorem dX7_reckonCyclic_31 : decode cX7_reckonCyclic 31 = .ok (.iaload, 1) := by decide +kernel
theorem dX7_reckonCyclic_32 : decode cX7_reckonCyclic 32 = .ok (.istore 8, 2) := by decide +kernel
theorem dX7_reckonCyclic_34 : decode cX7_reckonCyclic 34 = .ok (.aload_n 0, 1) := by decide +kernel
theorem dX7_reckonCyclic_35 : decode cX7_reckonCyclic 35 = .ok (.getfield 24, 3) := by decide +kernel
theorem dX7_reckonCyclic_38 : decode cX7_reckonCyclic 38 = .ok (.iload_n 1, 1) := by decide +kernel
theorem dX7_reckonCyclic_39 : decode cX7_reckonCyclic 39 = .ok (.aaload, 1) := by decide +kernel
theorem dX7_reckonCyclic_40 : decode cX7_reckonCyclic 40 = .ok (.iload 7, 2) := by decide +kernel
theorem dX7_reckonCyclic_42 : decode cX7_reckonCyclic 42 = .ok (.iconst 0, 1) := by decide +kernel
theorem dX7_reckonCyclic_43 : decode cX7_reckonCyclic 43 = .ok (.iastore, 1) := by decide +kernel
theorem dX7_reckonCyclic_44 : decode cX7_reckonCyclic 44 = .ok (.iload 8, 2) := by decide +kernel
theorem dX7_reckonCyclic_46 : decode cX7_reckonCyclic 46 = .ok (.iload_n 2, 1) := by decide +kernel
theorem dX7_reckonCyclic_47 : decode cX7_reckonCyclic 47 = .ok (.if_icmp .ne 10, 3) := by decide +kernel
theorem dX7_reckonCyclic_50 : decode cX7_reckonCyclic 50 = .ok (.iload 7, 2) := by decide +kernel
theorem dX7_reckonCyclic_52 : decode cX7_reckonCyclic 52 = .ok (.istore 6, 2) := by decide +kernel
theorem dX7_reckonCyclic_54 : decode cX7_reckonCyclic 54 = .ok (.goto 43, 3) := by decide +kernel
theorem dX7_reckonCyclic_57 : decode cX7_reckonCyclic 57 = .ok (.iload 8, 2) := by decide +kernel
theorem dX7_reckonCyclic_59 : decode cX7_reckonCyclic 59 = .ok (.iconst 1, 1) := by decide +kernel
theorem dX7_reckonCyclic_60 : decode cX7_reckonCyclic 60 = .ok (.if_icmp .le 37, 3) := by decide +kernel
theorem dX7_reckonCyclic_63 : decode cX7_reckonCyclic 63 = .ok (.iload 8, 2) := by decide +kernel
theorem dX7_reckonCyclic_65 : decode cX7_reckonCyclic 65 = .ok (.iload_n 3, 1) := by decide +kernel
theorem dX7_reckonCyclic_66 : decode cX7_reckonCyclic 66 = .ok (.i2l, 1) := by decide +kernel
theorem dX7_reckonCyclic_67 : decode cX7_reckonCyclic 67 = .ok (.invokestatic 72, 3) := by decide +kernel
theorem dX7_reckonCyclic_70 : decode cX7_reckonCyclic 70 = .ok (.aload_n 0, 1) := by decide +kernel
theorem dX7_reckonCyclic_71 : decode cX7_reckonCyclic 71 = .ok (.iload 8, 2) := by decide +kernel
theorem dX7_reckonCyclic_73 : decode cX7_reckonCyclic 73 = .ok (.iload 4, 2) := by decide +kernel
theorem dX7_reckonCyclic_75 : decode cX7_reckonCyclic 75 = .ok (.iload_n 2, 1) := by decide +kernel
theorem dX7_reckonCyclic_76 : decode cX7_reckonCyclic 76 = .ok (.invokevirtual 93, 3) := by decide +kernel
theorem dX7_reckonCyclic_79 : decode cX7_reckonCyclic 79 = .ok (.imul, 1) := by decide +kernel
theorem dX7_reckonCyclic_80 : decode cX7_reckonCyclic 80 = .ok (.istore 9, 2) := by decide +kernel
theorem dX7_reckonCyclic_82 : decode cX7_reckonCyclic 82 = .ok (.aload_n 0, 1) := by decide +kernel
theorem dX7_reckonCyclic_83 : decode cX7_reckonCyclic 83 = .ok (.getfield 24, 3) := by decide +kernel
theorem dX7_reckonCyclic_86 : decode cX7_reckonCyclic 86 = .ok (.iload_n 1, 1) := by decide +kernel
theorem dX7_reckonCyclic_87 : decode cX7_reckonCyclic 87 = .ok (.aaload, 1) := by decide +kernel
theorem dX7_reckonCyclic_88 : decode cX7_reckonCyclic 88 = .ok (.iload 7, 2) := by decide +kernel
theorem dX7_reckonCyclic_90 : decode cX7_reckonCyclic 90 = .ok (.iconst 2, 1) := by decide +kernel
theorem dX7_reckonCyclic_91 : decode cX7_reckonCyclic 91 = .ok (.iload 9, 2) := by decide +kernel
theorem dX7_reckonCyclic_93 : decode cX7_reckonCyclic 93 = .ok (.iconst 3, 1) := by decide +kernel
theorem dX7_reckonCyclic_94 : decode cX7_reckonCyclic 94 = .ok (.irem, 1) := by decide +kernel
theorem dX7_reckonCyclic_95 : decode cX7_reckonCyclic 95 = .ok (.imul, 1) := by decide +kernel
theorem dX7_reckonCyclic_96 : decode cX7_reckonCyclic 96 = .ok (.iastore, 1) := by decide +kernel
theorem dX7_reckonCyclic_97 : decode cX7_reckonCyclic 97 = .ok (.iload 5, 2) := by decide +kernel
theorem dX7_reckonCyclic_99 : decode cX7_reckonCyclic 99 = .ok (.aload_n 0, 1) := by decide +kernel
theorem dX7_reckonCyclic_100 : decode cX7_reckonCyclic 100 = .ok (.getfield 24, 3) := by decide +kernel
theorem dX7_reckonCyclic_103 : decode cX7_reckonCyclic 103 = .ok (.iload_n 1, 1) := by decide +kernel
theorem dX7_reckonCyclic_104 : decode cX7_reckonCyclic 104 = .ok (.aaload, 1) := by decide +kernel
theorem dX7_reckonCyclic_105 : decode cX7_reckonCyclic 105 = .ok (.iload 7, 2) := by decide +kernel
theorem dX7_reckonCyclic_107 : decode cX7_reckonCyclic 107 = .ok (.iaload, 1) := by decide +kernel
theorem dX7_reckonCyclic_108 : decode cX7_reckonCyclic 108 = .ok (.iadd, 1) := by decide +kernel
theorem dX7_reckonCyclic_109 : decode cX7_reckonCyclic 109 = .ok (.istore 5, 2) := by decide +kernel
theorem dX7_reckonCyclic_111 : decode cX7_reckonCyclic 111 = .ok (.iinc 7 1, 3) := by decide +kernel
theorem dX7_reckonCyclic_114 : decode cX7_reckonCyclic 114 = .ok (.goto (-98), 3) := by decide +kernel
theorem dX7_reckonCyclic_117 : decode cX7_reckonCyclic 117 = .ok (.iload 6, 2) := by decide +kernel
theorem dX7_reckonCyclic_119 : decode cX7_reckonCyclic 119 = .ok (.iconst (-1), 1) := by decide +kernel
theorem dX7_reckonCyclic_120 : decode cX7_reckonCyclic 120 = .ok (.if_icmp .eq 23, 3) := by decide +kernel
theorem dX7_reckonCyclic_123 : decode cX7_reckonCyclic 123 = .ok (.aload_n 0, 1) := by decide +kernel
theorem dX7_reckonCyclic_124 : decode cX7_reckonCyclic 124 = .ok (.getfield 24, 3) := by decide +kernel
theorem dX7_reckonCyclic_127 : decode cX7_reckonCyclic 127 = .ok (.iload_n 1, 1) := by decide +kernel
theorem dX7_reckonCyclic_128 : decode cX7_reckonCyclic 128 = .ok (.aaload, 1) := by decide +kernel
theorem dX7_reckonCyclic_129 : decode cX7_reckonCyclic 129 = .ok (.iload 6, 2) := by decide +kernel
theorem dX7_reckonCyclic_131 : decode cX7_reckonCyclic 131 = .ok (.iload 5, 2) := by decide +kernel
theorem dX7_reckonCyclic_133 : decode cX7_reckonCyclic 133 = .ok (.ineg, 1) := by decide +kernel
theorem dX7_reckonCyclic_134 : decode cX7_reckonCyclic 134 = .ok (.i2l, 1) := by decide +kernel
theorem dX7_reckonCyclic_135 : decode cX7_reckonCyclic 135 = .ok (.ldc2_w 97, 3) := by decide +kernel
theorem dX7_reckonCyclic_138 : decode cX7_reckonCyclic 138 = .ok (.invokestatic 99, 3) := by decide +kernel
theorem dX7_reckonCyclic_141 : decode cX7_reckonCyclic 141 = .ok (.l2i, 1) := by decide +kernel
theorem dX7_reckonCyclic_142 : decode cX7_reckonCyclic 142 = .ok (.iastore, 1) := by decide +kernel
theorem dX7_reckonCyclic_143 : decode cX7_reckonCyclic 143 = .ok (.return_, 1) := by decide +kernel
theorem dX7_reckonSum_0 : decode cX7_reckonSum 0 = .ok (.iconst 0, 1) := by decide +kernel
theorem dX7_reckonSum_1 : decode cX7_reckonSum 1 = .ok (.istore_n 3, 1) := by decide +kernel
theorem dX7_reckonSum_2 : decode cX7_reckonSum 2 = .ok (.iload_n 3, 1) := by decide +kernel
theorem dX7_reckonSum_3 : decode cX7_reckonSum 3 = .ok (.aload_n 0, 1) := by decide +kernel
theorem dX7_reckonSum_4 : decode cX7_reckonSum 4 = .ok (.getfield 9, 3) := by decide +kernel
theorem dX7_reckonSum_7 : decode cX7_reckonSum 7 = .ok (.if_icmp .ge 82, 3) := by decide +kernel
theorem dX7_reckonSum_10 : decode cX7_reckonSum 10 = .ok (.lconst 0, 1) := by decide +kernel
theorem dX7_reckonSum_11 : decode cX7_reckonSum 11 = .ok (.lstore 4, 2) := by decide +kernel
theorem dX7_reckonSum_13 : decode cX7_reckonSum 13 = .ok (.iconst 0, 1) := by decide +kernel
theorem dX7_reckonSum_14 : decode cX7_reckonSum 14 = .ok (.istore 6, 2) := by decide +kernel
theorem dX7_reckonSum_16 : decode cX7_reckonSum 16 = .ok (.iload 6, 2) := by decide +kernel
theorem dX7_reckonSum_18 : decode cX7_reckonSum 18 = .ok (.aload_n 1, 1) := by decide +kernel
theorem dX7_reckonSum_19 : decode cX7_reckonSum 19 = .ok (.iload_n 2, 1) := by decide +kernel
theorem dX7_reckonSum_20 : decode cX7_reckonSum 20 = .ok (.invokevirtual 47, 3) := by decide +kernel
theorem dX7_reckonSum_23 : decode cX7_reckonSum 23 = .ok (.if_icmp .ge 43, 3) := by decide +kernel
theorem dX7_reckonSum_26 : decode cX7_reckonSum 26 = .ok (.iload 6, 2) := by decide +kernel
theorem dX7_reckonSum_28 : decode cX7_reckonSum 28 = .ok (.iconst 4, 1) := by decide +kernel
theorem dX7_reckonSum_29 : decode cX7_reckonSum 29 = .ok (.if_icmp .ge 37, 3) := by decide +kernel
theorem dX7_reckonSum_32 : decode cX7_reckonSum 32 = .ok (.lload 4, 2) := by decide +kernel
theorem dX7_reckonSum_34 : decode cX7_reckonSum 34 = .ok (.aload_n 1, 1) := by decide +kernel
theorem dX7_reckonSum_35 : decode cX7_reckonSum 35 = .ok (.iload_n 2, 1) := by decide +kernel
theorem dX7_reckonSum_36 : decode cX7_reckonSum 36 = .ok (.iload 6, 2) := by decide +kernel
theorem dX7_reckonSum_38 : decode cX7_reckonSum 38 = .ok (.invokevirtual 102, 3) := by decide +kernel
theorem dX7_reckonSum_41 : decode cX7_reckonSum 41 = .ok (.aload_n 0, 1) := by decide +kernel
theorem dX7_reckonSum_42 : decode cX7_reckonSum 42 = .ok (.getfield 24, 3) := by decide +kernel
theorem dX7_reckonSum_45 : decode cX7_reckonSum 45 = .ok (.aload_n 1, 1) := by decide +kernel
theorem dX7_reckonSum_46 : decode cX7_reckonSum 46 = .ok (.iload_n 2, 1) := by decide +kernel
theorem dX7_reckonSum_47 : decode cX7_reckonSum 47 = .ok (.iload 6, 2) := by decide +kernel
theorem dX7_reckonSum_49 : decode cX7_reckonSum 49 = .ok (.invokevirtual 106, 3) := by decide +kernel
theorem dX7_reckonSum_52 : decode cX7_reckonSum 52 = .ok (.aaload, 1) := by decide +kernel
theorem dX7_reckonSum_53 : decode cX7_reckonSum 53 = .ok (.iload_n 3, 1) := by decide +kernel
theorem dX7_reckonSum_54 : decode cX7_reckonSum 54 = .ok (.iaload, 1) := by decide +kernel
theorem dX7_reckonSum_55 : decode cX7_reckonSum 55 = .ok (.imul, 1) := by decide +kernel
theorem dX7_reckonSum_56 : decode cX7_reckonSum 56 = .ok (.i2l, 1) := by decide +kernel
theorem dX7_reckonSum_57 : decode cX7_reckonSum 57 = .ok (.ladd, 1) := by decide +kernel
theorem dX7_reckonSum_58 : decode cX7_reckonSum 58 = .ok (.lstore 4, 2) := by decide +kernel
theorem dX7_reckonSum_60 : decode cX7_reckonSum 60 = .ok (.iinc 6 1, 3) := by decide +kernel
theorem dX7_reckonSum_63 : decode cX7_reckonSum 63 = .ok (.goto (-47), 3) := by decide +kernel
theorem dX7_reckonSum_66 : decode cX7_reckonSum 66 = .ok (.aload_n 0, 1) := by decide +kernel
theorem dX7_reckonSum_67 : decode cX7_reckonSum 67 = .ok (.getfield 24, 3) := by decide +kernel
theorem dX7_reckonSum_70 : decode cX7_reckonSum 70 = .ok (.iload_n 2, 1) := by decide +kernel
theorem dX7_reckonSum_71 : decode cX7_reckonSum 71 = .ok (.aaload, 1) := by decide +kernel
theorem dX7_reckonSum_72 : decode cX7_reckonSum 72 = .ok (.iload_n 3, 1) := by decide +kernel
theorem dX7_reckonSum_73 : decode cX7_reckonSum 73 = .ok (.lload 4, 2) := by decide +kernel
theorem dX7_reckonSum_75 : decode cX7_reckonSum 75 = .ok (.ldc2_w 97, 3) := by decide +kernel
theorem dX7_reckonSum_78 : decode cX7_reckonSum 78 = .ok (.invokestatic 99, 3) := by decide +kernel
theorem dX7_reckonSum_81 : decode cX7_reckonSum 81 = .ok (.l2i, 1) := by decide +kernel
theorem dX7_reckonSum_82 : decode cX7_reckonSum 82 = .ok (.iastore, 1) := by decide +kernel
theorem dX7_reckonSum_83 : decode cX7_reckonSum 83 = .ok (.iinc 3 1, 3) := by decide +kernel
theorem dX7_reckonSum_86 : decode cX7_reckonSum 86 = .ok (.goto (-84), 3) := by decide +kernel
theorem dX7_reckonSum_89 : decode cX7_reckonSum 89 = .ok (.return_, 1) := by decide +kernel
theorem dX7_reckonOne_0 : decode cX7_reckonOne 0 = .ok (.aload_n 1, 1) := by decide +kernel
theorem dX7_reckonOne_1 : decode cX7_reckonOne 1 = .ok (.iload_n 2, 1) := by decide +kernel
theorem dX7_reckonOne_2 : decode cX7_reckonOne 2 = .ok (.invokevirtual 47, 3) := by decide +kernel
theorem dX7_reckonOne_5 : decode cX7_reckonOne 5 = .ok (.istore_n 3, 1) := by decide +kernel
theorem dX7_reckonOne_6 : decode cX7_reckonOne 6 = .ok (.aload_n 1, 1) := by decide +kernel
theorem dX7_reckonOne_7 : decode cX7_reckonOne 7 = .ok (.iload_n 2, 1) := by decide +kernel
theorem dX7_reckonOne_8 : decode cX7_reckonOne 8 = .ok (.invokevirtual 53, 3) := by decide +kernel
theorem dX7_reckonOne_11 : decode cX7_reckonOne 11 = .ok (.istore 4, 2) := by decide +kernel
theorem dX7_reckonOne_13 : decode cX7_reckonOne 13 = .ok (.aload_n 1, 1) := by decide +kernel
theorem dX7_reckonOne_14 : decode cX7_reckonOne 14 = .ok (.iload_n 2, 1) := by decide +kernel
theorem dX7_reckonOne_15 : decode cX7_reckonOne 15 = .ok (.invokevirtual 43, 3) := by decide +kernel
theorem dX7_reckonOne_18 : decode cX7_reckonOne 18 = .ok (.lookupswitch 89 #[(0, 26), (1, 78)], 26) := by decide +kernel
theorem dX7_reckonOne_44 : decode cX7_reckonOne 44 = .ok (.iconst 0, 1) := by decide +kernel
theorem dX7_reckonOne_45 : decode cX7_reckonOne 45 = .ok (.istore 5, 2) := by decide +kernel
theorem dX7_reckonOne_47 : decode cX7_reckonOne 47 = .ok (.iload 5, 2) := by decide +kernel
theorem dX7_reckonOne_49 : decode cX7_reckonOne 49 = .ok (.aload_n 0, 1) := by decide +kernel
theorem dX7_reckonOne_50 : decode cX7_reckonOne 50 = .ok (.getfield 9, 3) := by decide +kernel
theorem dX7_reckonOne_53 : decode cX7_reckonOne 53 = .ok (.if_icmp .ge 40, 3) := by decide +kernel
theorem dX7_reckonOne_56 : decode cX7_reckonOne 56 = .ok (.aload_n 0, 1) := by decide +kernel
theorem dX7_reckonOne_57 : decode cX7_reckonOne 57 = .ok (.getfield 24, 3) := by decide +kernel
theorem dX7_reckonOne_60 : decode cX7_reckonOne 60 = .ok (.iload_n 2, 1) := by decide +kernel
theorem dX7_reckonOne_61 : decode cX7_reckonOne 61 = .ok (.aaload, 1) := by decide +kernel
theorem dX7_reckonOne_62 : decode cX7_reckonOne 62 = .ok (.iload 5, 2) := by decide +kernel
theorem dX7_reckonOne_64 : decode cX7_reckonOne 64 = .ok (.aload_n 0, 1) := by decide +kernel
theorem dX7_reckonOne_65 : decode cX7_reckonOne 65 = .ok (.iload_n 3, 1) := by decide +kernel
theorem dX7_reckonOne_66 : decode cX7_reckonOne 66 = .ok (.iload 4, 2) := by decide +kernel
theorem dX7_reckonOne_68 : decode cX7_reckonOne 68 = .ok (.aload_n 0, 1) := by decide +kernel
theorem dX7_reckonOne_69 : decode cX7_reckonOne 69 = .ok (.getfield 18, 3) := by decide +kernel
theorem dX7_reckonOne_72 : decode cX7_reckonOne 72 = .ok (.iload 5, 2) := by decide +kernel
theorem dX7_reckonOne_74 : decode cX7_reckonOne 74 = .ok (.iaload, 1) := by decide +kernel
theorem dX7_reckonOne_75 : decode cX7_reckonOne 75 = .ok (.invokevirtual 61, 3) := by decide +kernel
theorem dX7_reckonOne_78 : decode cX7_reckonOne 78 = .ok (.ifCond .eq 7, 3) := by decide +kernel
theorem dX7_reckonOne_81 : decode cX7_reckonOne 81 = .ok (.iconst 3, 1) := by decide +kernel
theorem dX7_reckonOne_82 : decode cX7_reckonOne 82 = .ok (.goto 4, 3) := by decide +kernel
theorem dX7_reckonOne_85 : decode cX7_reckonOne 85 = .ok (.iconst 0, 1) := by decide +kernel
theorem dX7_reckonOne_86 : decode cX7_reckonOne 86 = .ok (.iastore, 1) := by decide +kernel
theorem dX7_reckonOne_87 : decode cX7_reckonOne 87 = .ok (.iinc 5 1, 3) := by decide +kernel
theorem dX7_reckonOne_90 : decode cX7_reckonOne 90 = .ok (.goto (-43), 3) := by decide +kernel
theorem dX7_reckonOne_93 : decode cX7_reckonOne 93 = .ok (.goto 20, 3) := by decide +kernel
theorem dX7_reckonOne_96 : decode cX7_reckonOne 96 = .ok (.aload_n 0, 1) := by decide +kernel
theorem dX7_reckonOne_97 : decode cX7_reckonOne 97 = .ok (.iload_n 2, 1) := by decide +kernel
theorem dX7_reckonOne_98 : decode cX7_reckonOne 98 = .ok (.iload_n 3, 1) := by decide +kernel
theorem dX7_reckonOne_99 : decode cX7_reckonOne 99 = .ok (.iload 4, 2) := by decide +kernel
theorem dX7_reckonOne_101 : decode cX7_reckonOne 101 = .ok (.invokevirtual 65, 3) := by decide +kernel
theorem dX7_reckonOne_104 : decode cX7_reckonOne 104 = .ok (.goto 9, 3) := by decide +kernel
theorem dX7_reckonOne_107 : decode cX7_reckonOne 107 = .ok (.aload_n 0, 1) := by decide +kernel
theorem dX7_reckonOne_108 : decode cX7_reckonOne 108 = .ok (.aload_n 1, 1) := by decide +kernel
theorem dX7_reckonOne_109 : decode cX7_reckonOne 109 = .ok (.iload_n 2, 1) := by decide +kernel
theorem dX7_reckonOne_110 : decode cX7_reckonOne 110 = .ok (.invokevirtual 69, 3) := by decide +kernel
theorem dX7_reckonOne_113 : decode cX7_reckonOne 113 = .ok (.return_, 1) := by decide +kernel
theorem dX7_reckon_0 : decode cX7_reckon 0 = .ok (.aload_n 0, 1) := by decide +kernel
theorem dX7_reckon_1 : decode cX7_reckon 1 = .ok (.iconst 0, 1) := by decide +kernel
theorem dX7_reckon_2 : decode cX7_reckon 2 = .ok (.putfield 9, 3) := by decide +kernel
theorem dX7_reckon_5 : decode cX7_reckon 5 = .ok (.aload_n 0, 1) := by decide +kernel
theorem dX7_reckon_6 : decode cX7_reckon 6 = .ok (.aload_n 1, 1) := by decide +kernel
theorem dX7_reckon_7 : decode cX7_reckon 7 = .ok (.invokevirtual 27, 3) := by decide +kernel
theorem dX7_reckon_10 : decode cX7_reckon 10 = .ok (.putfield 15, 3) := by decide +kernel
theorem dX7_reckon_13 : decode cX7_reckon 13 = .ok (.aload_n 0, 1) := by decide +kernel
theorem dX7_reckon_14 : decode cX7_reckon 14 = .ok (.iconst 0, 1) := by decide +kernel
theorem dX7_reckon_15 : decode cX7_reckon 15 = .ok (.invokevirtual 32, 3) := by decide +kernel
theorem dX7_reckon_18 : decode cX7_reckon 18 = .ok (.aload_n 0, 1) := by decide +kernel
theorem dX7_reckon_19 : decode cX7_reckon 19 = .ok (.iconst 2, 1) := by decide +kernel
theorem dX7_reckon_20 : decode cX7_reckon 20 = .ok (.invokevirtual 32, 3) := by decide +kernel
theorem dX7_reckon_23 : decode cX7_reckon 23 = .ok (.iconst 0, 1) := by decide +kernel
theorem dX7_reckon_24 : decode cX7_reckon 24 = .ok (.istore_n 2, 1) := by decide +kernel
theorem dX7_reckon_25 : decode cX7_reckon 25 = .ok (.iload_n 2, 1) := by decide +kernel
theorem dX7_reckon_26 : decode cX7_reckon 26 = .ok (.aload_n 0, 1) := by decide +kernel
theorem dX7_reckon_27 : decode cX7_reckon 27 = .ok (.getfield 15, 3) := by decide +kernel
theorem dX7_reckon_30 : decode cX7_reckon 30 = .ok (.if_icmp .ge 15, 3) := by decide +kernel
theorem dX7_reckon_33 : decode cX7_reckon 33 = .ok (.aload_n 0, 1) := by decide +kernel
theorem dX7_reckon_34 : decode cX7_reckon 34 = .ok (.aload_n 1, 1) := by decide +kernel
theorem dX7_reckon_35 : decode cX7_reckon 35 = .ok (.iload_n 2, 1) := by decide +kernel
theorem dX7_reckon_36 : decode cX7_reckon 36 = .ok (.invokevirtual 36, 3) := by decide +kernel
theorem dX7_reckon_39 : decode cX7_reckon 39 = .ok (.iinc 2 1, 3) := by decide +kernel
theorem dX7_reckon_42 : decode cX7_reckon 42 = .ok (.goto (-17), 3) := by decide +kernel
theorem dX7_reckon_45 : decode cX7_reckon 45 = .ok (.iconst 0, 1) := by decide +kernel
theorem dX7_reckon_46 : decode cX7_reckon 46 = .ok (.istore_n 2, 1) := by decide +kernel
theorem dX7_reckon_47 : decode cX7_reckon 47 = .ok (.iload_n 2, 1) := by decide +kernel
theorem dX7_reckon_48 : decode cX7_reckon 48 = .ok (.aload_n 0, 1) := by decide +kernel
theorem dX7_reckon_49 : decode cX7_reckon 49 = .ok (.getfield 15, 3) := by decide +kernel
theorem dX7_reckon_52 : decode cX7_reckon 52 = .ok (.if_icmp .ge 15, 3) := by decide +kernel
theorem dX7_reckon_55 : decode cX7_reckon 55 = .ok (.aload_n 0, 1) := by decide +kernel
theorem dX7_reckon_56 : decode cX7_reckon 56 = .ok (.aload_n 1, 1) := by decide +kernel
theorem dX7_reckon_57 : decode cX7_reckon 57 = .ok (.iload_n 2, 1) := by decide +kernel
theorem dX7_reckon_58 : decode cX7_reckon 58 = .ok (.invokevirtual 40, 3) := by decide +kernel
theorem dX7_reckon_61 : decode cX7_reckon 61 = .ok (.iinc 2 1, 3) := by decide +kernel
theorem dX7_reckon_64 : decode cX7_reckon 64 = .ok (.goto (-17), 3) := by decide +kernel
theorem dX7_reckon_67 : decode cX7_reckon 67 = .ok (.return_, 1) := by decide +kernel
theorem dX7_sixthsAt_0 : decode cX7_sixthsAt 0 = .ok (.iconst 0, 1) := by decide +kernel
theorem dX7_sixthsAt_1 : decode cX7_sixthsAt 1 = .ok (.istore_n 3, 1) := by decide +kernel
theorem dX7_sixthsAt_2 : decode cX7_sixthsAt 2 = .ok (.iload_n 3, 1) := by decide +kernel
theorem dX7_sixthsAt_3 : decode cX7_sixthsAt 3 = .ok (.aload_n 0, 1) := by decide +kernel
theorem dX7_sixthsAt_4 : decode cX7_sixthsAt 4 = .ok (.getfield 9, 3) := by decide +kernel
theorem dX7_sixthsAt_7 : decode cX7_sixthsAt 7 = .ok (.if_icmp .ge 28, 3) := by decide +kernel
theorem dX7_sixthsAt_10 : decode cX7_sixthsAt 10 = .ok (.aload_n 0, 1) := by decide +kernel
theorem dX7_sixthsAt_11 : decode cX7_sixthsAt 11 = .ok (.getfield 18, 3) := by decide +kernel
theorem dX7_sixthsAt_14 : decode cX7_sixthsAt 14 = .ok (.iload_n 3, 1) := by decide +kernel
theorem dX7_sixthsAt_15 : decode cX7_sixthsAt 15 = .ok (.iaload, 1) := by decide +kernel
theorem dX7_sixthsAt_16 : decode cX7_sixthsAt 16 = .ok (.iload_n 2, 1) := by decide +kernel
theorem dX7_sixthsAt_17 : decode cX7_sixthsAt 17 = .ok (.if_icmp .ne 12, 3) := by decide +kernel
theorem dX7_sixthsAt_20 : decode cX7_sixthsAt 20 = .ok (.aload_n 0, 1) := by decide +kernel
theorem dX7_sixthsAt_21 : decode cX7_sixthsAt 21 = .ok (.getfield 24, 3) := by decide +kernel
theorem dX7_sixthsAt_24 : decode cX7_sixthsAt 24 = .ok (.iload_n 1, 1) := by decide +kernel
theorem dX7_sixthsAt_25 : decode cX7_sixthsAt 25 = .ok (.aaload, 1) := by decide +kernel
theorem dX7_sixthsAt_26 : decode cX7_sixthsAt 26 = .ok (.iload_n 3, 1) := by decide +kernel
theorem dX7_sixthsAt_27 : decode cX7_sixthsAt 27 = .ok (.iaload, 1) := by decide +kernel
theorem dX7_sixthsAt_28 : decode cX7_sixthsAt 28 = .ok (.ireturn, 1) := by decide +kernel
theorem dX7_sixthsAt_29 : decode cX7_sixthsAt 29 = .ok (.iinc 3 1, 3) := by decide +kernel
theorem dX7_sixthsAt_32 : decode cX7_sixthsAt 32 = .ok (.goto (-30), 3) := by decide +kernel
theorem dX7_sixthsAt_35 : decode cX7_sixthsAt 35 = .ok (.iconst 0, 1) := by decide +kernel
theorem dX7_sixthsAt_36 : decode cX7_sixthsAt 36 = .ok (.ireturn, 1) := by decide +kernel
theorem dX7_howMany_0 : decode cX7_howMany 0 = .ok (.iconst 0, 1) := by decide +kernel
theorem dX7_howMany_1 : decode cX7_howMany 1 = .ok (.istore_n 2, 1) := by decide +kernel
theorem dX7_howMany_2 : decode cX7_howMany 2 = .ok (.iconst 0, 1) := by decide +kernel
theorem dX7_howMany_3 : decode cX7_howMany 3 = .ok (.istore_n 3, 1) := by decide +kernel
theorem dX7_howMany_4 : decode cX7_howMany 4 = .ok (.iload_n 3, 1) := by decide +kernel
theorem dX7_howMany_5 : decode cX7_howMany 5 = .ok (.aload_n 0, 1) := by decide +kernel
theorem dX7_howMany_6 : decode cX7_howMany 6 = .ok (.getfield 9, 3) := by decide +kernel
theorem dX7_howMany_9 : decode cX7_howMany 9 = .ok (.if_icmp .ge 28, 3) := by decide +kernel
theorem dX7_howMany_12 : decode cX7_howMany 12 = .ok (.iload_n 2, 1) := by decide +kernel
theorem dX7_howMany_13 : decode cX7_howMany 13 = .ok (.aload_n 0, 1) := by decide +kernel
theorem dX7_howMany_14 : decode cX7_howMany 14 = .ok (.getfield 24, 3) := by decide +kernel
theorem dX7_howMany_17 : decode cX7_howMany 17 = .ok (.iload_n 1, 1) := by decide +kernel
theorem dX7_howMany_18 : decode cX7_howMany 18 = .ok (.aaload, 1) := by decide +kernel
theorem dX7_howMany_19 : decode cX7_howMany 19 = .ok (.iload_n 3, 1) := by decide +kernel
theorem dX7_howMany_20 : decode cX7_howMany 20 = .ok (.iaload, 1) := by decide +kernel
theorem dX7_howMany_21 : decode cX7_howMany 21 = .ok (.ifCond .eq 7, 3) := by decide +kernel
theorem dX7_howMany_24 : decode cX7_howMany 24 = .ok (.iconst 1, 1) := by decide +kernel
theorem dX7_howMany_25 : decode cX7_howMany 25 = .ok (.goto 4, 3) := by decide +kernel
theorem dX7_howMany_28 : decode cX7_howMany 28 = .ok (.iconst 0, 1) := by decide +kernel
theorem dX7_howMany_29 : decode cX7_howMany 29 = .ok (.iadd, 1) := by decide +kernel
theorem dX7_howMany_30 : decode cX7_howMany 30 = .ok (.istore_n 2, 1) := by decide +kernel
theorem dX7_howMany_31 : decode cX7_howMany 31 = .ok (.iinc 3 1, 3) := by decide +kernel
theorem dX7_howMany_34 : decode cX7_howMany 34 = .ok (.goto (-30), 3) := by decide +kernel
theorem dX7_howMany_37 : decode cX7_howMany 37 = .ok (.iload_n 2, 1) := by decide +kernel
theorem dX7_howMany_38 : decode cX7_howMany 38 = .ok (.ireturn, 1) := by decide +kernel
theorem dX7_placeOf_0 : decode cX7_placeOf 0 = .ok (.iload_n 2, 1) := by decide +kernel
theorem dX7_placeOf_1 : decode cX7_placeOf 1 = .ok (.istore_n 3, 1) := by decide +kernel
theorem dX7_placeOf_2 : decode cX7_placeOf 2 = .ok (.iconst 0, 1) := by decide +kernel
theorem dX7_placeOf_3 : decode cX7_placeOf 3 = .ok (.istore 4, 2) := by decide +kernel
theorem dX7_placeOf_5 : decode cX7_placeOf 5 = .ok (.iload 4, 2) := by decide +kernel
theorem dX7_placeOf_7 : decode cX7_placeOf 7 = .ok (.aload_n 0, 1) := by decide +kernel
theorem dX7_placeOf_8 : decode cX7_placeOf 8 = .ok (.getfield 9, 3) := by decide +kernel
theorem dX7_placeOf_11 : decode cX7_placeOf 11 = .ok (.if_icmp .ge 36, 3) := by decide +kernel
theorem dX7_placeOf_14 : decode cX7_placeOf 14 = .ok (.aload_n 0, 1) := by decide +kernel
theorem dX7_placeOf_15 : decode cX7_placeOf 15 = .ok (.getfield 24, 3) := by decide +kernel
theorem dX7_placeOf_18 : decode cX7_placeOf 18 = .ok (.iload_n 1, 1) := by decide +kernel
theorem dX7_placeOf_19 : decode cX7_placeOf 19 = .ok (.aaload, 1) := by decide +kernel
theorem dX7_placeOf_20 : decode cX7_placeOf 20 = .ok (.iload 4, 2) := by decide +kernel
theorem dX7_placeOf_22 : decode cX7_placeOf 22 = .ok (.iaload, 1) := by decide +kernel
theorem dX7_placeOf_23 : decode cX7_placeOf 23 = .ok (.ifCond .eq 18, 3) := by decide +kernel
theorem dX7_placeOf_26 : decode cX7_placeOf 26 = .ok (.iload_n 3, 1) := by decide +kernel
theorem dX7_placeOf_27 : decode cX7_placeOf 27 = .ok (.ifCond .ne 11, 3) := by decide +kernel
theorem dX7_placeOf_30 : decode cX7_placeOf 30 = .ok (.aload_n 0, 1) := by decide +kernel
theorem dX7_placeOf_31 : decode cX7_placeOf 31 = .ok (.getfield 18, 3) := by decide +kernel
theorem dX7_placeOf_34 : decode cX7_placeOf 34 = .ok (.iload 4, 2) := by decide +kernel
theorem dX7_placeOf_36 : decode cX7_placeOf 36 = .ok (.iaload, 1) := by decide +kernel
theorem dX7_placeOf_37 : decode cX7_placeOf 37 = .ok (.ireturn, 1) := by decide +kernel
theorem dX7_placeOf_38 : decode cX7_placeOf 38 = .ok (.iinc 3 (-1), 3) := by decide +kernel
theorem dX7_placeOf_41 : decode cX7_placeOf 41 = .ok (.iinc 4 1, 3) := by decide +kernel
theorem dX7_placeOf_44 : decode cX7_placeOf 44 = .ok (.goto (-39), 3) := by decide +kernel
theorem dX7_placeOf_47 : decode cX7_placeOf 47 = .ok (.bipush (-2), 2) := by decide +kernel
theorem dX7_placeOf_49 : decode cX7_placeOf 49 = .ok (.ireturn, 1) := by decide +kernel
theorem dX7_indexOf_0 : decode cX7_indexOf 0 = .ok (.ldc2_w 97, 3) := by decide +kernel
theorem dX7_indexOf_3 : decode cX7_indexOf 3 = .ok (.lstore_n 2, 1) := by decide +kernel
theorem dX7_indexOf_4 : decode cX7_indexOf 4 = .ok (.iconst 0, 1) := by decide +kernel
theorem dX7_indexOf_5 : decode cX7_indexOf 5 = .ok (.istore 4, 2) := by decide +kernel
theorem dX7_indexOf_7 : decode cX7_indexOf 7 = .ok (.iload 4, 2) := by decide +kernel
theorem dX7_indexOf_9 : decode cX7_indexOf 9 = .ok (.aload_n 0, 1) := by decide +kernel
theorem dX7_indexOf_10 : decode cX7_indexOf 10 = .ok (.getfield 9, 3) := by decide +kernel
theorem dX7_indexOf_13 : decode cX7_indexOf 13 = .ok (.if_icmp .ge 24, 3) := by decide +kernel
theorem dX7_indexOf_16 : decode cX7_indexOf 16 = .ok (.lload_n 2, 1) := by decide +kernel
theorem dX7_indexOf_17 : decode cX7_indexOf 17 = .ok (.aload_n 0, 1) := by decide +kernel
theorem dX7_indexOf_18 : decode cX7_indexOf 18 = .ok (.getfield 24, 3) := by decide +kernel
theorem dX7_indexOf_21 : decode cX7_indexOf 21 = .ok (.iload_n 1, 1) := by decide +kernel
theorem dX7_indexOf_22 : decode cX7_indexOf 22 = .ok (.aaload, 1) := by decide +kernel
theorem dX7_indexOf_23 : decode cX7_indexOf 23 = .ok (.iload 4, 2) := by decide +kernel
theorem dX7_indexOf_25 : decode cX7_indexOf 25 = .ok (.iaload, 1) := by decide +kernel
theorem dX7_indexOf_26 : decode cX7_indexOf 26 = .ok (.i2l, 1) := by decide +kernel
theorem dX7_indexOf_27 : decode cX7_indexOf 27 = .ok (.invokestatic 109, 3) := by decide +kernel
theorem dX7_indexOf_30 : decode cX7_indexOf 30 = .ok (.lstore_n 2, 1) := by decide +kernel
theorem dX7_indexOf_31 : decode cX7_indexOf 31 = .ok (.iinc 4 1, 3) := by decide +kernel
theorem dX7_indexOf_34 : decode cX7_indexOf 34 = .ok (.goto (-27), 3) := by decide +kernel
theorem dX7_indexOf_37 : decode cX7_indexOf 37 = .ok (.ldc2_w 97, 3) := by decide +kernel
theorem dX7_indexOf_40 : decode cX7_indexOf 40 = .ok (.lload_n 2, 1) := by decide +kernel
theorem dX7_indexOf_41 : decode cX7_indexOf 41 = .ok (.invokestatic 78, 3) := by decide +kernel
theorem dX7_indexOf_44 : decode cX7_indexOf 44 = .ok (.l2i, 1) := by decide +kernel
theorem dX7_indexOf_45 : decode cX7_indexOf 45 = .ok (.ireturn, 1) := by decide +kernel
def mX0_size (v0 : Nat) (σ : mSt) : Option (Int × mSt) := mG (isC v0 0) <| some (σ v0 0, σ)
def mX0_kind (v0 : Nat) (v1 : Int) (σ : mSt) : Option (Int × mSt) := mG (isC v0 0) <| mRef (σ v0 1) fun r1 => mG (ixOK r1 20 v1) <| some (σ r1 (wI v1).toNat, σ)
def mX0_first (v0 : Nat) (v1 : Int) (σ : mSt) : Option (Int × mSt) := mG (isC v0 0) <| mRef (σ v0 2) fun r1 => mG (ixOK r1 20 v1) <| some (σ r1 (wI v1).toNat, σ)
def mX0_second (v0 : Nat) (v1 : Int) (σ : mSt) : Option (Int × mSt) := mG (isC v0 0) <| mRef (σ v0 3) fun r1 => mG (ixOK r1 20 v1) <| some (σ r1 (wI v1).toNat, σ)
def mX0_term (v0 : Nat) (v1 : Int) (v2 : Int) (σ : mSt) : Option (Int × mSt) := mG (isC v0 0) <| mRef (σ v0 6) fun r1 => mG (ixOK r1 26 v1) <| mRef (σ r1 (wI v1).toNat) fun r4 => mG (ixOK r4 20 v2) <| some (σ r4 (wI v2).toNat, σ)
def mX0_sign (v0 : Nat) (v1 : Int) (v2 : Int) (σ : mSt) : Option (Int × mSt) := mG (isC v0 0) <| mRef (σ v0 7) fun r1 => mG (ixOK r1 26 v1) <| mRef (σ r1 (wI v1).toNat) fun r4 => mG (ixOK r4 20 v2) <| some (σ r4 (wI v2).toNat, σ)
def mX0_clear (v0 : Nat) (σ : mSt) : Option (Int × mSt) := mG (isC v0 0) <| bnd (upS σ v0 0 0) fun s1 => some (0, s1)
def mX0_isFull (v0 : Nat) (σ : mSt) : Option (Int × mSt) := mG (isC v0 0) <| if wI (σ v0 0) < 8 then (some (0, σ)) else some (1, σ)
def mX10_length (v0 : Nat) (σ : mSt) : Option (Int × mSt) := mG (isC v0 9) <| some ((σ v0 3) - (σ v0 2), σ)
def mX10_byteAt_B31 (v0 : Nat) (v1 : Int) (σ : mSt) : Option (Int × mSt) := some (0, σ)
def mX10_byteAt (v0 : Nat) (v1 : Int) (σ : mSt) : Option (Int × mSt) := mG (isC v0 9) <| if wI v1 < 0 then (mX10_byteAt_B31 v0 v1 σ) else if wI (σ v0 3) ≤ wI ((σ v0 2) + v1) then (mX10_byteAt_B31 v0 v1 σ) else mRef (σ v0 0) fun r3 => mG (ixOK r3 22 ((σ v0 2) + v1)) <| mG (-128 ≤ σ r3 (wI ((σ v0 2) + v1)).toNat ∧ σ r3 (wI ((σ v0 2) + v1)).toNat < 128) <| some (σ r3 (wI ((σ v0 2) + v1)).toNat, σ)
def mX0_begin_B97 (v0 : Nat) (v1 : Int) (v2 : Nat) (σ : mSt) : Option (Int × mSt) := some (0, σ)
def mX0_begin_L62 (v0 : Nat) (v1 : Int) (v2 : Nat) (x97 : mSt → Option (Int × mSt)) : Nat → Int → mSt → Option (Int × mSt)
  | 0, _, _ => none
  | n + 1, v3, σ => mRef (σ v0 4) fun r1 => mG (ixOK r1 20 (σ v0 0)) <| if wI (σ r1 (wI (σ v0 0)).toNat) ≤ wI v3 then (x97 σ) else mRef (σ v0 5) fun r5 => mG (ixOK r5 25 (σ v0 0)) <| mRef (σ r5 (wI (σ v0 0)).toNat) fun r8 => mCall (mX10_byteAt v2 v3 σ) fun b10 s11 => mG (ixOK r8 22 v3) <| mG (-128 ≤ b10 ∧ b10 < 128) <| bnd (upS s11 r8 (wI v3).toNat b10) fun s15 => bnd (v3 + 1) fun a17 => mX0_begin_L62 v0 v1 v2 x97 n a17 s15
def mX0_begin (v0 : Nat) (v1 : Int) (v2 : Nat) (σ : mSt) : Option (Int × mSt) := mG (isC v0 0) <| mCall (mX0_isFull v0 σ) fun b19 s20 => if wI b19 = 0 then (mCall (mX10_length v2 s20) fun b23 s24 => if wI b23 ≤ 10 then (mRef (s24 v0 1) fun r27 => mG (ixOK r27 20 (s24 v0 0)) <| bnd (upS s24 r27 (wI (s24 v0 0)).toNat v1) fun s30 => mRef (s30 v0 2) fun r32 => mG (ixOK r32 20 (s30 v0 0)) <| bnd (upS s30 r32 (wI (s30 v0 0)).toNat 0) fun s35 => mRef (s35 v0 3) fun r37 => mG (ixOK r37 20 (s35 v0 0)) <| bnd (upS s35 r37 (wI (s35 v0 0)).toNat 0) fun s40 => mRef (s40 v0 4) fun r42 => mCall (mX10_length v2 s40) fun b44 s45 => mG (ixOK r42 20 (s40 v0 0)) <| bnd (upS s45 r42 (wI (s40 v0 0)).toNat b44) fun s48 => mX0_begin_L62 v0 v1 v2 (fun zσ => mX0_begin_B97 v0 v1 v2 zσ) mF 0 s48) else some (0, s24)) else some (0, s20)
def mX0_setFirst (v0 : Nat) (v1 : Int) (σ : mSt) : Option (Int × mSt) := mG (isC v0 0) <| mCall (mX0_isFull v0 σ) fun b1 s2 => if wI b1 = 0 then (mRef (s2 v0 2) fun r5 => mG (ixOK r5 20 (s2 v0 0)) <| bnd (upS s2 r5 (wI (s2 v0 0)).toNat v1) fun s8 => some (0, s8)) else some (0, s2)
def mX0_setSecond (v0 : Nat) (v1 : Int) (σ : mSt) : Option (Int × mSt) := mG (isC v0 0) <| mCall (mX0_isFull v0 σ) fun b1 s2 => if wI b1 = 0 then (mRef (s2 v0 3) fun r5 => mG (ixOK r5 20 (s2 v0 0)) <| bnd (upS s2 r5 (wI (s2 v0 0)).toNat v1) fun s8 => some (0, s8)) else some (0, s2)
def mX0_hasAllTerms_B20 (v0 : Nat) (σ : mSt) : Option (Int × mSt) := some (1, σ)
def mX0_hasAllTerms (v0 : Nat) (σ : mSt) : Option (Int × mSt) := mG (isC v0 0) <| mCall (mX0_isFull v0 σ) fun b1 s2 => if wI b1 = 0 then (mRef (s2 v0 2) fun r5 => mG (ixOK r5 20 (s2 v0 0)) <| if wI (s2 r5 (wI (s2 v0 0)).toNat) < 4 then (some (0, s2)) else mX0_hasAllTerms_B20 v0 s2) else mX0_hasAllTerms_B20 v0 s2
def mX0_addTerm (v0 : Nat) (v1 : Int) (v2 : Int) (σ : mSt) : Option (Int × mSt) := mG (isC v0 0) <| mCall (mX0_hasAllTerms v0 σ) fun b1 s2 => if wI b1 = 0 then (mRef (s2 v0 6) fun r5 => mG (ixOK r5 26 (s2 v0 0)) <| mRef (s2 r5 (wI (s2 v0 0)).toNat) fun r8 => mRef (s2 v0 2) fun r10 => mG (ixOK r10 20 (s2 v0 0)) <| mG (ixOK r8 20 (s2 r10 (wI (s2 v0 0)).toNat)) <| bnd (upS s2 r8 (wI (s2 r10 (wI (s2 v0 0)).toNat)).toNat v2) fun s14 => mRef (s14 v0 7) fun r16 => mG (ixOK r16 26 (s14 v0 0)) <| mRef (s14 r16 (wI (s14 v0 0)).toNat) fun r19 => mRef (s14 v0 2) fun r21 => mG (ixOK r21 20 (s14 v0 0)) <| mG (ixOK r19 20 (s14 r21 (wI (s14 v0 0)).toNat)) <| bnd (upS s14 r19 (wI (s14 r21 (wI (s14 v0 0)).toNat)).toNat v1) fun s25 => mRef (s25 v0 2) fun r27 => mG (ixOK r27 20 (s25 v0 0)) <| bnd (upS s25 r27 (wI (s25 v0 0)).toNat ((s25 r27 (wI (s25 v0 0)).toNat) + 1)) fun s30 => some (0, s30)) else some (0, s2)
def mX0_finish (v0 : Nat) (σ : mSt) : Option (Int × mSt) := mG (isC v0 0) <| mCall (mX0_isFull v0 σ) fun b1 s2 => if wI b1 = 0 then (bnd (upS s2 v0 0 ((s2 v0 0) + 1)) fun s5 => some (0, s5)) else some (0, s2)
def mX0_hasName_B67 (v0 : Nat) (v1 : Int) (v2 : Nat) (v3 : Int) (σ : mSt) : Option (Int × mSt) := mG (v3 = 0 ∨ v3 = 1) <| some (v3, σ)
def mX0_hasName_L22 (v0 : Nat) (v1 : Int) (v2 : Nat) (x67 : Int → mSt → Option (Int × mSt)) : Nat → Int → Int → mSt → Option (Int × mSt)
  | 0, _, _, _ => none
  | n + 1, v3, v4, σ => mRef (σ v0 4) fun r2 => mG (ixOK r2 20 v1) <| if wI (σ r2 (wI v1).toNat) ≤ wI v4 then (x67 v3 σ) else if wI v3 = 0 then (x67 v3 σ) else mRef (σ v0 5) fun r7 => mG (ixOK r7 25 v1) <| mRef (σ r7 (wI v1).toNat) fun r10 => mG (ixOK r10 22 v4) <| mCall (mX10_byteAt v2 v4 σ) fun b13 s14 => if wI (σ r10 (wI v4).toNat) = wI b13 then (bnd (v4 + 1) fun a19 => mX0_hasName_L22 v0 v1 v2 x67 n 1 a19 s14) else bnd (v4 + 1) fun a17 => mX0_hasName_L22 v0 v1 v2 x67 n 0 a17 s14
def mX0_hasName_B18 (v0 : Nat) (v1 : Int) (v2 : Nat) (t0 : Int) (σ : mSt) : Option (Int × mSt) := mX0_hasName_L22 v0 v1 v2 (fun z3 zσ => mX0_hasName_B67 v0 v1 v2 z3 zσ) mF t0 0 σ
def mX0_hasName (v0 : Nat) (v1 : Int) (v2 : Nat) (σ : mSt) : Option (Int × mSt) := mG (isC v0 0) <| mRef (σ v0 4) fun r21 => mG (ixOK r21 20 v1) <| mCall (mX10_length v2 σ) fun b24 s25 => if wI (σ r21 (wI v1).toNat) = wI b24 then (mX0_hasName_B18 v0 v1 v2 1 s25) else mX0_hasName_B18 v0 v1 v2 0 s25
def mX0_find_B27 (v0 : Nat) (v1 : Nat) (σ : mSt) : Option (Int × mSt) := some ((-1), σ)
def mX0_find_L2 (v0 : Nat) (v1 : Nat) (x27 : mSt → Option (Int × mSt)) : Nat → Int → mSt → Option (Int × mSt)
  | 0, _, _ => none
  | n + 1, v2, σ => if wI (σ v0 0) ≤ wI v2 then (x27 σ) else mCall (mX0_hasName v0 v2 v1 σ) fun b2 s3 => if wI b2 = 0 then (bnd (v2 + 1) fun a6 => mX0_find_L2 v0 v1 x27 n a6 s3) else some (v2, s3)
def mX0_find (v0 : Nat) (v1 : Nat) (σ : mSt) : Option (Int × mSt) := mG (isC v0 0) <| mX0_find_L2 v0 v1 (fun zσ => mX0_find_B27 v0 v1 zσ) mF 0 σ
def mX1_drop (v0 : Nat) (σ : mSt) : Option (Int × mSt) := mG (isC v0 1) <| bnd (upS σ v0 2 (-1)) fun s1 => some (0, s1)
def mX3_begin_B53 (v0 : Nat) (v1 : Int) (σ : mSt) : Option (Int × mSt) := some (0, σ)
def mX3_begin_B47 (v0 : Nat) (v1 : Int) (c7 : Int → mSt → Option (Int × mSt)) (x53 : mSt → Option (Int × mSt)) (v3 : Int) (σ : mSt) : Option (Int × mSt) := bnd (v3 + 1) fun a1 => c7 a1 σ
def mX3_begin_L15 (v0 : Nat) (v1 : Int) (v3 : Int) (x47 : mSt → Option (Int × mSt)) : Nat → Int → mSt → Option (Int × mSt)
  | 0, _, _ => none
  | n + 1, v4, σ => if 4 ≤ wI v4 then (x47 σ) else mRef (σ v0 0) fun r4 => mG (ixOK r4 27 v3) <| mRef (σ r4 (wI v3).toNat) fun r7 => if wI v3 = wI v4 then (mG (ixOK r7 21 v4) <| bnd (upS σ r7 (wI v4).toNat v1) fun s16 => bnd (v4 + 1) fun a18 => mX3_begin_L15 v0 v1 v3 x47 n a18 s16) else mG (ixOK r7 21 v4) <| bnd (upS σ r7 (wI v4).toNat 0) fun s11 => bnd (v4 + 1) fun a13 => mX3_begin_L15 v0 v1 v3 x47 n a13 s11
def mX3_begin_L7 (v0 : Nat) (v1 : Int) (x53 : mSt → Option (Int × mSt)) : Nat → Int → mSt → Option (Int × mSt)
  | 0, _, _ => none
  | n + 1, v3, σ => if 4 ≤ wI v3 then (x53 σ) else mX3_begin_L15 v0 v1 v3 (fun zσ => mX3_begin_B47 v0 v1 (mX3_begin_L7 v0 v1 x53 n) x53 v3 zσ) mF 0 σ
def mX3_begin (v0 : Nat) (v1 : Int) (σ : mSt) : Option (Int × mSt) := mG (isC v0 3) <| bnd (upS σ v0 2 v1) fun s21 => mX3_begin_L7 v0 v1 (fun zσ => mX3_begin_B53 v0 v1 zσ) mF 0 s21
def mX3_lotsByWhole_B45 (v0 : Nat) (v1 : Int) (v3 : Int) (σ : mSt) : Option (Int × mSt) := some (v3, σ)
def mX3_lotsByWhole_L5 (v0 : Nat) (v1 : Int) (x45 : Int → mSt → Option (Int × mSt)) : Nat → Int → Int → mSt → Option (Int × mSt)
  | 0, _, _, _ => none
  | n + 1, v3, v5, σ => if 4 ≤ wI v5 then (x45 v3 σ) else mRef (σ v0 0) fun r2 => mG (ixOK r2 27 v5) <| mRef (σ r2 (wI v5).toNat) fun r5 => mG (ixOK r5 21 v5) <| mCall (mX5_quotient (σ v0 2) (σ r5 (wI v5).toNat) σ) fun b8 s9 => bnd (v3 * b8) fun a11 => if wL a11 ≤ wL v1 then (bnd (v5 + 1) fun a14 => mX3_lotsByWhole_L5 v0 v1 x45 n a11 a14 s9) else some (0, s9)
def mX3_lotsByWhole (v0 : Nat) (v1 : Int) (σ : mSt) : Option (Int × mSt) := mG (isC v0 3) <| mX3_lotsByWhole_L5 v0 v1 (fun z3 zσ => mX3_lotsByWhole_B45 v0 v1 z3 zσ) mF 1 0 σ
def mX6_begin (v0 : Nat) (v1 : Int) (v3 : Int) (σ : mSt) : Option (Int × mSt) := mG (isC v0 5) <| bnd (upS σ v0 0 v1) fun s1 => bnd (upS s1 v0 1 v3) fun s3 => mRef (s3 v0 2) fun r5 => mCall (mX3_begin r5 1 s3) fun b7 s8 => some (0, s8)
def mX6_discriminantOf (v0 : Nat) (v1 : Nat) (σ : mSt) : Option (Int × mSt) := mG (isC v0 5) <| mCall (mJ9_abs_067f4 ((4 * (σ v0 0)) * (σ v0 1)) σ) fun b1 s2 => mCall (mX3_lotsByWhole v1 b1 s2) fun b4 s5 => mCall (mX5_divides b4 b1 s5) fun b7 s8 => if wI b7 = 0 then (some (0, s8)) else mCall (mX5_quotient b1 b4 s8) fun b11 s12 => some (b11, s12)
def mX6_discriminant (v0 : Nat) (σ : mSt) : Option (Int × mSt) := mG (isC v0 5) <| mRef (σ v0 2) fun r1 => mCall (mX6_discriminantOf v0 r1 σ) fun b3 s4 => some (b3, s4)
def mX7_note_B84 (v0 : Nat) (v1 : Int) (v2 : Int) (σ : mSt) : Option (Int × mSt) := mRef (σ v0 2) fun r1 => mG (ixOK r1 20 v2) <| bnd (upS σ r1 (wI v2).toNat v1) fun s4 => bnd (upS s4 v0 0 ((s4 v0 0) + 1)) fun s6 => some (0, s6)
def mX7_note_L59 (v0 : Nat) (v1 : Int) (v2 : Int) (x84 : mSt → Option (Int × mSt)) : Nat → Int → mSt → Option (Int × mSt)
  | 0, _, _ => none
  | n + 1, v3, σ => if wI v3 ≤ wI v2 then (x84 σ) else mRef (σ v0 2) fun r9 => mRef (σ v0 2) fun r11 => mG (ixOK r11 20 (v3 - 1)) <| mG (ixOK r9 20 v3) <| bnd (upS σ r9 (wI v3).toNat (σ r11 (wI (v3 - 1)).toNat)) fun s15 => bnd (v3 + (-1)) fun a17 => mX7_note_L59 v0 v1 v2 x84 n a17 s15
def mX7_note_B54 (v0 : Nat) (v1 : Int) (v2 : Int) (σ : mSt) : Option (Int × mSt) := bnd (σ v0 0) fun a19 => mX7_note_L59 v0 v1 v2 (fun zσ => mX7_note_B84 v0 v1 v2 zσ) mF a19 σ
def mX7_note_B26 (v0 : Nat) (v1 : Int) (v2 : Int) (σ : mSt) : Option (Int × mSt) := if 64 ≤ wI (σ v0 0) then (some (0, σ)) else if wI (σ v0 0) ≤ wI v2 then (mX7_note_B54 v0 v1 v2 σ) else mRef (σ v0 2) fun r23 => mG (ixOK r23 20 v2) <| if wI (σ r23 (wI v2).toNat) = wI v1 then (some (0, σ)) else mX7_note_B54 v0 v1 v2 σ
def mX7_note_L2 (v0 : Nat) (v1 : Int) (x26 : Int → mSt → Option (Int × mSt)) : Nat → Int → mSt → Option (Int × mSt)
  | 0, _, _ => none
  | n + 1, v2, σ => if wI (σ v0 0) ≤ wI v2 then (x26 v2 σ) else mRef (σ v0 2) fun r28 => mG (ixOK r28 20 v2) <| if wI v1 ≤ wI (σ r28 (wI v2).toNat) then (x26 v2 σ) else bnd (v2 + 1) fun a32 => mX7_note_L2 v0 v1 x26 n a32 σ
def mX7_note (v0 : Nat) (v1 : Int) (σ : mSt) : Option (Int × mSt) := mG (isC v0 6) <| mX7_note_L2 v0 v1 (fun z2 zσ => mX7_note_B26 v0 v1 z2 zσ) mF 0 σ
def mX7_noteDivisors_B62 (v0 : Nat) (v1 : Int) (σ : mSt) : Option (Int × mSt) := some (0, σ)
def mX7_noteDivisors_B56 (v0 : Nat) (v1 : Int) (c7 : Int → Int → mSt → Option (Int × mSt)) (x62 : mSt → Option (Int × mSt)) (v2 : Int) (v3 : Int) (σ : mSt) : Option (Int × mSt) := bnd (v3 + 1) fun a1 => c7 v2 a1 σ
def mX7_noteDivisors_L33 (v0 : Nat) (v1 : Int) (v3 : Int) (x56 : Int → mSt → Option (Int × mSt)) : Nat → Int → Int → mSt → Option (Int × mSt)
  | 0, _, _, _ => none
  | n + 1, v2, v4, σ => if 32 ≤ wI v4 then (x56 v2 σ) else mG (wI v3 ≠ 0) <| if wI ((wI v2).tmod (wI v3)) = 0 then (bnd ((wI v2).tdiv (wI v3)) fun a6 => bnd (v4 + 1) fun a8 => mX7_noteDivisors_L33 v0 v1 v3 x56 n a6 a8 σ) else x56 v2 σ
def mX7_noteDivisors_B30 (v0 : Nat) (v1 : Int) (c7 : Int → Int → mSt → Option (Int × mSt)) (x62 : mSt → Option (Int × mSt)) (v2 : Int) (v3 : Int) (σ : mSt) : Option (Int × mSt) := mX7_noteDivisors_L33 v0 v1 v3 (fun z2 zσ => mX7_noteDivisors_B56 v0 v1 c7 x62 z2 v3 zσ) mF v2 0 σ
def mX7_noteDivisors_L7 (v0 : Nat) (v1 : Int) (x62 : mSt → Option (Int × mSt)) : Nat → Int → Int → mSt → Option (Int × mSt)
  | 0, _, _, _ => none
  | n + 1, v2, v3, σ => if 999 < wI v3 then (x62 σ) else if wI v2 ≤ 1 then (x62 σ) else mG (wI v3 ≠ 0) <| if wI ((wI v2).tmod (wI v3)) = 0 then (mCall (mX7_note v0 v3 σ) fun b14 s15 => mX7_noteDivisors_B30 v0 v1 (mX7_noteDivisors_L7 v0 v1 x62 n) x62 v2 v3 s15) else mX7_noteDivisors_B30 v0 v1 (mX7_noteDivisors_L7 v0 v1 x62 n) x62 v2 v3 σ
def mX7_noteDivisors (v0 : Nat) (v1 : Int) (σ : mSt) : Option (Int × mSt) := mG (isC v0 6) <| mCall (mJ9_abs_0f7a4 v1 σ) fun b17 s18 => mX7_noteDivisors_L7 v0 v1 (fun zσ => mX7_noteDivisors_B62 v0 v1 zσ) mF b17 2 s18
def mX7_noteAll_B40 (v0 : Nat) (v1 : Nat) (v2 : Int) (σ : mSt) : Option (Int × mSt) := mCall (mX0_second v1 v2 σ) fun b1 s2 => mCall (mX7_noteDivisors v0 b1 s2) fun b4 s5 => some (0, s5)
def mX7_noteAll (v0 : Nat) (v1 : Nat) (v2 : Int) (σ : mSt) : Option (Int × mSt) := mG (isC v0 6) <| mCall (mX0_kind v1 v2 σ) fun b7 s8 => if wI b7 = 2 then (some (0, s8)) else mCall (mX0_kind v1 v2 s8) fun b11 s12 => if wI b11 = 1 then (mCall (mX0_first v1 v2 s12) fun b21 s22 => mCall (mX7_note v0 b21 s22) fun b24 s25 => mX7_noteAll_B40 v0 v1 v2 s25) else mCall (mX0_first v1 v2 s12) fun b15 s16 => mCall (mX7_noteDivisors v0 b15 s16) fun b18 s19 => mX7_noteAll_B40 v0 v1 v2 s19
def mX7_isRamified_B229 (v0 : Nat) (v1 : Int) (v2 : Int) (v3 : Int) (t0 : Int) (σ : mSt) : Option (Int × mSt) := mG (t0 = 0 ∨ t0 = 1) <| some (t0, σ)
def mX7_isRamified_B204 (v0 : Nat) (v1 : Int) (v2 : Int) (v3 : Int) (v4 : Int) (v8 : Int) (v10 : Int) (σ : mSt) : Option (Int × mSt) := if wI v4 = 1 then (mCall (mX5_isSquareModulo v8 v3 σ) fun b4 s5 => if wI b4 = 0 then (if wI v10 = 0 then (mX7_isRamified_B229 v0 v1 v2 v3 1 s5) else mX7_isRamified_B229 v0 v1 v2 v3 0 s5) else mG (v10 = 0 ∨ v10 = 1) <| some (v10, s5)) else mG (v10 = 0 ∨ v10 = 1) <| some (v10, σ)
def mX7_isRamified_B202 (v0 : Nat) (v1 : Int) (v2 : Int) (v3 : Int) (v4 : Int) (v8 : Int) (t0 : Int) (σ : mSt) : Option (Int × mSt) := mX7_isRamified_B204 v0 v1 v2 v3 v4 v8 t0 σ
def mX7_isRamified_B175 (v0 : Nat) (v1 : Int) (v2 : Int) (v3 : Int) (v4 : Int) (v5 : Int) (v6 : Int) (v8 : Int) (t0 : Int) (σ : mSt) : Option (Int × mSt) := if wI v5 = 1 then (mCall (mX5_isSquareModulo v6 v3 σ) fun b11 s12 => if wI b11 = 0 then (if wI t0 = 0 then (mX7_isRamified_B202 v0 v1 v2 v3 v4 v8 1 s12) else mX7_isRamified_B202 v0 v1 v2 v3 v4 v8 0 s12) else mX7_isRamified_B204 v0 v1 v2 v3 v4 v8 t0 s12) else mX7_isRamified_B204 v0 v1 v2 v3 v4 v8 t0 σ
def mX7_isRamified_B174 (v0 : Nat) (v1 : Int) (v2 : Int) (v3 : Int) (v4 : Int) (v5 : Int) (v6 : Int) (v8 : Int) (σ : mSt) : Option (Int × mSt) := mX7_isRamified_B175 v0 v1 v2 v3 v4 v5 v6 v8 0 σ
def mX7_isRamified_B72 (v0 : Nat) (v1 : Int) (v2 : Int) (v3 : Int) (v4 : Int) (v5 : Int) (v6 : Int) (t0 : Int) (σ : mSt) : Option (Int × mSt) := if wI v3 = 2 then (mG (wL 2 ≠ 0) <| mG (wL 8 ≠ 0) <| bnd (((((wL (v6 - 1)).tdiv (wL 2)) * ((wL (t0 - 1)).tdiv (wL 2))) + ((wI v4) * ((wL ((t0 * t0) - 1)).tdiv (wL 8)))) + ((wI v5) * ((wL ((v6 * v6) - 1)).tdiv (wL 8)))) fun a23 => if wL ((wL a23).tmod (wL 2)) = 0 then (some (0, σ)) else some (1, σ)) else if wI v4 = 1 then (if wI v5 = 1 then (mG (wI 2 ≠ 0) <| if wI ((wI ((wI (v3 - 1)).tdiv (wI 2))).tmod (wI 2)) = 1 then (mX7_isRamified_B175 v0 v1 v2 v3 v4 v5 v6 t0 1 σ) else mX7_isRamified_B174 v0 v1 v2 v3 v4 v5 v6 t0 σ) else mX7_isRamified_B174 v0 v1 v2 v3 v4 v5 v6 t0 σ) else mX7_isRamified_B174 v0 v1 v2 v3 v4 v5 v6 t0 σ
def mX7_isRamified_B52 (v0 : Nat) (v1 : Int) (v2 : Int) (v3 : Int) (v4 : Int) (v5 : Int) (t0 : Int) (σ : mSt) : Option (Int × mSt) := if wI v5 = 1 then (mCall (mX5_quotient (wI v2) (wI v3) σ) fun b27 s28 => mX7_isRamified_B72 v0 v1 v2 v3 v4 v5 t0 b27 s28) else mX7_isRamified_B72 v0 v1 v2 v3 v4 v5 t0 (wI v2) σ
def mX7_isRamified_B16 (v0 : Nat) (v1 : Int) (v2 : Int) (v3 : Int) (σ : mSt) : Option (Int × mSt) := some (0, σ)
def mX7_isRamified (v0 : Nat) (v1 : Int) (v2 : Int) (v3 : Int) (σ : mSt) : Option (Int × mSt) := mG (isC v0 6) <| if wI v3 = 0 then (if 0 ≤ wI v1 then (mX7_isRamified_B16 v0 v1 v2 v3 σ) else if 0 ≤ wI v2 then (mX7_isRamified_B16 v0 v1 v2 v3 σ) else some (1, σ)) else mCall (mX5_howOften v3 (wI v1) σ) fun b31 s32 => mCall (mX5_howOften v3 (wI v2) s32) fun b34 s35 => if wI b31 = 1 then (mCall (mX5_quotient (wI v1) (wI v3) s35) fun b38 s39 => mX7_isRamified_B52 v0 v1 v2 v3 b31 b34 b38 s39) else mX7_isRamified_B52 v0 v1 v2 v3 b31 b34 (wI v1) s35
def mX7_powerThatIs_B41 (v0 : Nat) (v1 : Int) (v2 : Int) (v3 : Int) (σ : mSt) : Option (Int × mSt) := some (0, σ)
def mX7_powerThatIs_L6 (v0 : Nat) (v1 : Int) (v2 : Int) (v3 : Int) (x41 : mSt → Option (Int × mSt)) : Nat → Int → Int → mSt → Option (Int × mSt)
  | 0, _, _, _ => none
  | n + 1, v4, v6, σ => if wI v3 ≤ wI v6 then (x41 σ) else mG (wL (wI v3) ≠ 0) <| bnd ((wL (v4 * (wI v2))).tmod (wL (wI v3))) fun a3 => mG (wI v3 ≠ 0) <| if wL a3 = wL (wI ((wI v1).tmod (wI v3))) then (some (v6, σ)) else bnd (v6 + 1) fun a7 => mX7_powerThatIs_L6 v0 v1 v2 v3 x41 n a3 a7 σ
def mX7_powerThatIs (v0 : Nat) (v1 : Int) (v2 : Int) (v3 : Int) (σ : mSt) : Option (Int × mSt) := mG (isC v0 6) <| mX7_powerThatIs_L6 v0 v1 v2 v3 (fun zσ => mX7_powerThatIs_B41 v0 v1 v2 v3 zσ) mF 1 1 σ
def mX7_leastGenerator_B28 (v0 : Nat) (v1 : Int) (σ : mSt) : Option (Int × mSt) := some (1, σ)
def mX7_leastGenerator_L2 (v0 : Nat) (v1 : Int) (x28 : mSt → Option (Int × mSt)) : Nat → Int → mSt → Option (Int × mSt)
  | 0, _, _ => none
  | n + 1, v2, σ => if wI v1 ≤ wI v2 then (x28 σ) else mCall (mX7_powerThatIs v0 1 v2 v1 σ) fun b2 s3 => if wI b2 = wI (v1 - 1) then (some (v2, s3)) else bnd (v2 + 1) fun a6 => mX7_leastGenerator_L2 v0 v1 x28 n a6 s3
def mX7_leastGenerator (v0 : Nat) (v1 : Int) (σ : mSt) : Option (Int × mSt) := mG (isC v0 6) <| mX7_leastGenerator_L2 v0 v1 (fun zσ => mX7_leastGenerator_B28 v0 v1 zσ) mF 2 σ
def mX7_reckonCyclic_B117 (v0 : Nat) (v1 : Int) (v2 : Int) (v3 : Int) (v5 : Int) (v6 : Int) (σ : mSt) : Option (Int × mSt) := if wI v6 = (-1) then (some (0, σ)) else mRef (σ v0 3) fun r2 => mG (ixOK r2 26 v1) <| mRef (σ r2 (wI v1).toNat) fun r5 => mCall (mX5_rest (wI (-v5)) 6 σ) fun b7 s8 => mG (ixOK r5 20 v6) <| bnd (upS s8 r5 (wI v6).toNat b7) fun s11 => some (0, s11)
def mX7_reckonCyclic_B97 (v0 : Nat) (v1 : Int) (v2 : Int) (v3 : Int) (v4 : Int) (c16 : Int → Int → Int → mSt → Option (Int × mSt)) (x117 : Int → Int → mSt → Option (Int × mSt)) (v5 : Int) (v6 : Int) (v7 : Int) (σ : mSt) : Option (Int × mSt) := mRef (σ v0 3) fun r13 => mG (ixOK r13 26 v1) <| mRef (σ r13 (wI v1).toNat) fun r16 => mG (ixOK r16 20 v7) <| bnd (v5 + (σ r16 (wI v7).toNat)) fun a19 => bnd (v7 + 1) fun a21 => c16 a19 v6 a21 σ
def mX7_reckonCyclic_L16 (v0 : Nat) (v1 : Int) (v2 : Int) (v3 : Int) (v4 : Int) (x117 : Int → Int → mSt → Option (Int × mSt)) : Nat → Int → Int → Int → mSt → Option (Int × mSt)
  | 0, _, _, _, _ => none
  | n + 1, v5, v6, v7, σ => if wI (σ v0 0) ≤ wI v7 then (x117 v5 v6 σ) else mRef (σ v0 2) fun r24 => mG (ixOK r24 20 v7) <| bnd (σ r24 (wI v7).toNat) fun a27 => mRef (σ v0 3) fun r29 => mG (ixOK r29 26 v1) <| mRef (σ r29 (wI v1).toNat) fun r32 => mG (ixOK r32 20 v7) <| bnd (upS σ r32 (wI v7).toNat 0) fun s35 => if wI a27 = wI v2 then (mX7_reckonCyclic_B97 v0 v1 v2 v3 v4 (mX7_reckonCyclic_L16 v0 v1 v2 v3 v4 x117 n) x117 v5 v7 v7 s35) else if wI a27 ≤ 1 then (mX7_reckonCyclic_B97 v0 v1 v2 v3 v4 (mX7_reckonCyclic_L16 v0 v1 v2 v3 v4 x117 n) x117 v5 v6 v7 s35) else mCall (mX5_howOften a27 (wI v3) s35) fun b39 s40 => mCall (mX7_powerThatIs v0 a27 v4 v2 s40) fun b42 s43 => bnd (b39 * b42) fun a45 => mRef (s43 v0 3) fun r47 => mG (ixOK r47 26 v1) <| mRef (s43 r47 (wI v1).toNat) fun r50 => mG (wI 3 ≠ 0) <| mG (ixOK r50 20 v7) <| bnd (upS s43 r50 (wI v7).toNat (2 * ((wI a45).tmod (wI 3)))) fun s54 => mX7_reckonCyclic_B97 v0 v1 v2 v3 v4 (mX7_reckonCyclic_L16 v0 v1 v2 v3 v4 x117 n) x117 v5 v6 v7 s54
def mX7_reckonCyclic (v0 : Nat) (v1 : Int) (v2 : Int) (v3 : Int) (σ : mSt) : Option (Int × mSt) := mG (isC v0 6) <| mCall (mX7_leastGenerator v0 v2 σ) fun b56 s57 => mX7_reckonCyclic_L16 v0 v1 v2 v3 b56 (fun z5 z6 zσ => mX7_reckonCyclic_B117 v0 v1 v2 v3 z5 z6 zσ) mF 0 (-1) 0 s57
def mX7_reckonSum_B89 (v0 : Nat) (v1 : Nat) (v2 : Int) (σ : mSt) : Option (Int × mSt) := some (0, σ)
def mX7_reckonSum_B66 (v0 : Nat) (v1 : Nat) (v2 : Int) (c2 : Int → mSt → Option (Int × mSt)) (x89 : mSt → Option (Int × mSt)) (v3 : Int) (v4 : Int) (σ : mSt) : Option (Int × mSt) := mRef (σ v0 3) fun r1 => mG (ixOK r1 26 v2) <| mRef (σ r1 (wI v2).toNat) fun r4 => mCall (mX5_rest v4 6 σ) fun b6 s7 => mG (ixOK r4 20 v3) <| bnd (upS s7 r4 (wI v3).toNat b6) fun s10 => bnd (v3 + 1) fun a12 => c2 a12 s10
def mX7_reckonSum_L16 (v0 : Nat) (v1 : Nat) (v2 : Int) (v3 : Int) (x66 : Int → mSt → Option (Int × mSt)) : Nat → Int → Int → mSt → Option (Int × mSt)
  | 0, _, _, _ => none
  | n + 1, v4, v6, σ => mCall (mX0_first v1 v2 σ) fun b14 s15 => if wI b14 ≤ wI v6 then (x66 v4 s15) else if 4 ≤ wI v6 then (x66 v4 s15) else mCall (mX0_sign v1 v2 v6 s15) fun b19 s20 => mRef (s20 v0 3) fun r22 => mCall (mX0_term v1 v2 v6 s20) fun b24 s25 => mG (ixOK r22 26 b24) <| mRef (s25 r22 (wI b24).toNat) fun r28 => mG (ixOK r28 20 v3) <| bnd (v4 + (wI (b19 * (s25 r28 (wI v3).toNat)))) fun a31 => bnd (v6 + 1) fun a33 => mX7_reckonSum_L16 v0 v1 v2 v3 x66 n a31 a33 s25
def mX7_reckonSum_L2 (v0 : Nat) (v1 : Nat) (v2 : Int) (x89 : mSt → Option (Int × mSt)) : Nat → Int → mSt → Option (Int × mSt)
  | 0, _, _ => none
  | n + 1, v3, σ => if wI (σ v0 0) ≤ wI v3 then (x89 σ) else mX7_reckonSum_L16 v0 v1 v2 v3 (fun z4 zσ => mX7_reckonSum_B66 v0 v1 v2 (mX7_reckonSum_L2 v0 v1 v2 x89 n) x89 v3 z4 zσ) mF 0 0 σ
def mX7_reckonSum (v0 : Nat) (v1 : Nat) (v2 : Int) (σ : mSt) : Option (Int × mSt) := mG (isC v0 6) <| mX7_reckonSum_L2 v0 v1 v2 (fun zσ => mX7_reckonSum_B89 v0 v1 v2 zσ) mF 0 σ
def mX7_reckonOne_B93 (v0 : Nat) (v1 : Nat) (v2 : Int) (σ : mSt) : Option (Int × mSt) := some (0, σ)
def mX7_reckonOne_L47 (v0 : Nat) (v1 : Nat) (v2 : Int) (v3 : Int) (v4 : Int) (x93 : mSt → Option (Int × mSt)) : Nat → Int → mSt → Option (Int × mSt)
  | 0, _, _ => none
  | n + 1, v5, σ => if wI (σ v0 0) ≤ wI v5 then (x93 σ) else mRef (σ v0 3) fun r2 => mG (ixOK r2 26 v2) <| mRef (σ r2 (wI v2).toNat) fun r5 => mRef (σ v0 2) fun r7 => mG (ixOK r7 20 v5) <| mCall (mX7_isRamified v0 v3 v4 (σ r7 (wI v5).toNat) σ) fun b10 s11 => if wI b10 = 0 then (mG (ixOK r5 20 v5) <| bnd (upS s11 r5 (wI v5).toNat 0) fun s15 => bnd (v5 + 1) fun a17 => mX7_reckonOne_L47 v0 v1 v2 v3 v4 x93 n a17 s15) else mG (ixOK r5 20 v5) <| bnd (upS s11 r5 (wI v5).toNat 3) fun s20 => bnd (v5 + 1) fun a22 => mX7_reckonOne_L47 v0 v1 v2 v3 v4 x93 n a22 s20
def mX7_reckonOne (v0 : Nat) (v1 : Nat) (v2 : Int) (σ : mSt) : Option (Int × mSt) := mG (isC v0 6) <| mCall (mX0_first v1 v2 σ) fun b24 s25 => mCall (mX0_second v1 v2 s25) fun b27 s28 => mCall (mX0_kind v1 v2 s28) fun b30 s31 => if wI b30 = 0 then (mX7_reckonOne_L47 v0 v1 v2 b24 b27 (fun zσ => mX7_reckonOne_B93 v0 v1 v2 zσ) mF 0 s31) else if wI b30 = 1 then (mCall (mX7_reckonCyclic v0 v2 b24 b27 s31) fun b35 s36 => some (0, s36)) else mCall (mX7_reckonSum v0 v1 v2 s31) fun b38 s39 => some (0, s39)
def mX7_reckon_B67 (v0 : Nat) (v1 : Nat) (σ : mSt) : Option (Int × mSt) := some (0, σ)
def mX7_reckon_L47 (v0 : Nat) (v1 : Nat) (x67 : mSt → Option (Int × mSt)) : Nat → Int → mSt → Option (Int × mSt)
  | 0, _, _ => none
  | n + 1, v2, σ => if wI (σ v0 1) ≤ wI v2 then (x67 σ) else mCall (mX7_reckonOne v0 v1 v2 σ) fun b2 s3 => bnd (v2 + 1) fun a5 => mX7_reckon_L47 v0 v1 x67 n a5 s3
def mX7_reckon_B45 (v0 : Nat) (v1 : Nat) (σ : mSt) : Option (Int × mSt) := mX7_reckon_L47 v0 v1 (fun zσ => mX7_reckon_B67 v0 v1 zσ) mF 0 σ
def mX7_reckon_L25 (v0 : Nat) (v1 : Nat) (x45 : mSt → Option (Int × mSt)) : Nat → Int → mSt → Option (Int × mSt)
  | 0, _, _ => none
  | n + 1, v2, σ => if wI (σ v0 1) ≤ wI v2 then (x45 σ) else mCall (mX7_noteAll v0 v1 v2 σ) fun b8 s9 => bnd (v2 + 1) fun a11 => mX7_reckon_L25 v0 v1 x45 n a11 s9
def mX7_reckon (v0 : Nat) (v1 : Nat) (σ : mSt) : Option (Int × mSt) := mG (isC v0 6) <| bnd (upS σ v0 0 0) fun s13 => mCall (mX0_size v1 s13) fun b15 s16 => bnd (upS s16 v0 1 b15) fun s18 => mCall (mX7_note v0 0 s18) fun b20 s21 => mCall (mX7_note v0 2 s21) fun b23 s24 => mX7_reckon_L25 v0 v1 (fun zσ => mX7_reckon_B45 v0 v1 zσ) mF 0 s24
def mX7_sixthsAt_B35 (v0 : Nat) (v1 : Int) (v2 : Int) (σ : mSt) : Option (Int × mSt) := some (0, σ)
def mX7_sixthsAt_L2 (v0 : Nat) (v1 : Int) (v2 : Int) (x35 : mSt → Option (Int × mSt)) : Nat → Int → mSt → Option (Int × mSt)
  | 0, _, _ => none
  | n + 1, v3, σ => if wI (σ v0 0) ≤ wI v3 then (x35 σ) else mRef (σ v0 2) fun r2 => mG (ixOK r2 20 v3) <| if wI (σ r2 (wI v3).toNat) = wI v2 then (mRef (σ v0 3) fun r8 => mG (ixOK r8 26 v1) <| mRef (σ r8 (wI v1).toNat) fun r11 => mG (ixOK r11 20 v3) <| some (σ r11 (wI v3).toNat, σ)) else bnd (v3 + 1) fun a6 => mX7_sixthsAt_L2 v0 v1 v2 x35 n a6 σ
def mX7_sixthsAt (v0 : Nat) (v1 : Int) (v2 : Int) (σ : mSt) : Option (Int × mSt) := mG (isC v0 6) <| mX7_sixthsAt_L2 v0 v1 v2 (fun zσ => mX7_sixthsAt_B35 v0 v1 v2 zσ) mF 0 σ
def mX7_howMany_B37 (v0 : Nat) (v1 : Int) (v2 : Int) (σ : mSt) : Option (Int × mSt) := some (v2, σ)
def mX7_howMany_L4 (v0 : Nat) (v1 : Int) (x37 : Int → mSt → Option (Int × mSt)) : Nat → Int → Int → mSt → Option (Int × mSt)
  | 0, _, _, _ => none
  | n + 1, v2, v3, σ => if wI (σ v0 0) ≤ wI v3 then (x37 v2 σ) else mRef (σ v0 3) fun r2 => mG (ixOK r2 26 v1) <| mRef (σ r2 (wI v1).toNat) fun r5 => mG (ixOK r5 20 v3) <| if wI (σ r5 (wI v3).toNat) = 0 then (bnd (v2 + 0) fun a9 => bnd (v3 + 1) fun a11 => mX7_howMany_L4 v0 v1 x37 n a9 a11 σ) else bnd (v2 + 1) fun a13 => bnd (v3 + 1) fun a15 => mX7_howMany_L4 v0 v1 x37 n a13 a15 σ
def mX7_howMany (v0 : Nat) (v1 : Int) (σ : mSt) : Option (Int × mSt) := mG (isC v0 6) <| mX7_howMany_L4 v0 v1 (fun z2 zσ => mX7_howMany_B37 v0 v1 z2 zσ) mF 0 0 σ
def mX7_placeOf_B47 (v0 : Nat) (v1 : Int) (v2 : Int) (σ : mSt) : Option (Int × mSt) := some ((-2), σ)
def mX7_placeOf_L5 (v0 : Nat) (v1 : Int) (v2 : Int) (x47 : mSt → Option (Int × mSt)) : Nat → Int → Int → mSt → Option (Int × mSt)
  | 0, _, _, _ => none
  | n + 1, v3, v4, σ => if wI (σ v0 0) ≤ wI v4 then (x47 σ) else mRef (σ v0 3) fun r2 => mG (ixOK r2 26 v1) <| mRef (σ r2 (wI v1).toNat) fun r5 => mG (ixOK r5 20 v4) <| if wI (σ r5 (wI v4).toNat) = 0 then (bnd (v4 + 1) fun a9 => mX7_placeOf_L5 v0 v1 v2 x47 n v3 a9 σ) else if wI v3 = 0 then (mRef (σ v0 2) fun r16 => mG (ixOK r16 20 v4) <| some (σ r16 (wI v4).toNat, σ)) else bnd (v3 + (-1)) fun a12 => bnd (v4 + 1) fun a14 => mX7_placeOf_L5 v0 v1 v2 x47 n a12 a14 σ
def mX7_placeOf (v0 : Nat) (v1 : Int) (v2 : Int) (σ : mSt) : Option (Int × mSt) := mG (isC v0 6) <| mX7_placeOf_L5 v0 v1 v2 (fun zσ => mX7_placeOf_B47 v0 v1 v2 zσ) mF v2 0 σ
def mX7_indexOf_B37 (v0 : Nat) (v1 : Int) (v2 : Int) (σ : mSt) : Option (Int × mSt) := mCall (mX5_quotient 6 v2 σ) fun b1 s2 => some (b1, s2)
def mX7_indexOf_L7 (v0 : Nat) (v1 : Int) (x37 : Int → mSt → Option (Int × mSt)) : Nat → Int → Int → mSt → Option (Int × mSt)
  | 0, _, _, _ => none
  | n + 1, v2, v4, σ => if wI (σ v0 0) ≤ wI v4 then (x37 v2 σ) else mRef (σ v0 3) fun r5 => mG (ixOK r5 26 v1) <| mRef (σ r5 (wI v1).toNat) fun r8 => mG (ixOK r8 20 v4) <| mCall (mX5_greatestDivisor v2 (wI (σ r8 (wI v4).toNat)) σ) fun b11 s12 => bnd (v4 + 1) fun a14 => mX7_indexOf_L7 v0 v1 x37 n b11 a14 s12
def mX7_indexOf (v0 : Nat) (v1 : Int) (σ : mSt) : Option (Int × mSt) := mG (isC v0 6) <| mX7_indexOf_L7 v0 v1 (fun z2 zσ => mX7_indexOf_B37 v0 v1 z2 zσ) mF 6 0 σ
set_option maxRecDepth 100000 in
set_option maxHeartbeats 4000000 in
theorem qX0_size (l : Launch) (E : mE) (σ : mSt) (v0 : Nat) (out : Int × mSt) (hm : mX0_size v0 σ = some out) : mMet l yX0_size cX0_size 1 (some .int) 0 0 E 257 [.ref (eA E v0)] σ (some (vI out.1)) out.2 := by
  unfold mX0_size at hm
  obtain ⟨g0, hm⟩ := g_t hm
  refine m_entry (by decide +kernel) (Nat.le_of_ble_eq_true rfl) (fun p e s m args below meth c G hr hk hM ls hl => ?_)
  have G : CallFix p m c cX0_size 1 s args mTs RX0 := G
  have hl : lv_has ls 1 [(0, .ref (eA E v0))] := hl
  refine r_aload_n (np := 1) G hl 0 rfl dX0_size_0 rfl rfl ?_
  refine r_getI (np := 4) G hM (shp_lt g0 (by decide)) g0 fdX0_0 lkX0_9 dX0_size_1 rfl ?_
  exact r_iret G hr hk hM hm dX0_size_4
theorem gX0_size {v0 : Nat} {σ : mSt} {out : Int × mSt} (hm : mX0_size v0 σ = some out) : isC v0 0 := (g_t hm).1
set_option maxRecDepth 100000 in
set_option maxHeartbeats 4000000 in
theorem qX0_kind (l : Launch) (E : mE) (σ : mSt) (v0 : Nat) (v1 : Int) (out : Int × mSt) (hm : mX0_kind v0 v1 σ = some out) : mMet l yX0_kind cX0_kind 2 (some .int) 0 0 E 257 [.ref (eA E v0), vI v1] σ (some (vI out.1)) out.2 := by
  unfold mX0_kind at hm
  obtain ⟨g0, hm⟩ := g_t hm
  refine m_entry (by decide +kernel) (Nat.le_of_ble_eq_true rfl) (fun p e s m args below meth c G hr hk hM ls hl => ?_)
  have G : CallFix p m c cX0_kind 2 s args mTs RX0 := G
  have hl : lv_has ls 2 [(0, .ref (eA E v0)), (1, vI v1)] := hl
  refine r_aload_n (np := 1) G hl 0 rfl dX0_kind_0 rfl rfl ?_
  obtain ⟨r1, e2, hm⟩ := ref_t hm
  refine r_getR (np := 4) G hM (shp_lt g0 (by decide)) g0 e2 fdX0_1 lkX0_15 dX0_kind_1 rfl ?_
  refine r_iload_n (np := 5) G hl 1 rfl dX0_kind_4 rfl rfl ?_
  obtain ⟨g3, hm⟩ := g_t hm
  refine r_iaload (np := 6) G hM g3 rfl dX0_kind_5 rfl ?_
  exact r_iret G hr hk hM hm dX0_kind_6
theorem gX0_kind {v0 : Nat} {v1 : Int} {σ : mSt} {out : Int × mSt} (hm : mX0_kind v0 v1 σ = some out) : isC v0 0 := (g_t hm).1
set_option maxRecDepth 100000 in
set_option maxHeartbeats 4000000 in
theorem qX0_first (l : Launch) (E : mE) (σ : mSt) (v0 : Nat) (v1 : Int) (out : Int × mSt) (hm : mX0_first v0 v1 σ = some out) : mMet l yX0_first cX0_first 2 (some .int) 0 0 E 257 [.ref (eA E v0), vI v1] σ (some (vI out.1)) out.2 := by
  unfold mX0_first at hm
  obtain ⟨g0, hm⟩ := g_t hm
  refine m_entry (by decide +kernel) (Nat.le_of_ble_eq_true rfl) (fun p e s m args below meth c G hr hk hM ls hl => ?_)
  have G : CallFix p m c cX0_first 2 s args mTs RX0 := G
  have hl : lv_has ls 2 [(0, .ref (eA E v0)), (1, vI v1)] := hl
  refine r_aload_n (np := 1) G hl 0 rfl dX0_first_0 rfl rfl ?_
  obtain ⟨r1, e2, hm⟩ := ref_t hm
  refine r_getR (np := 4) G hM (shp_lt g0 (by decide)) g0 e2 fdX0_2 lkX0_19 dX0_first_1 rfl ?_
  refine r_iload_n (np := 5) G hl 1 rfl dX0_first_4 rfl rfl ?_
  obtain ⟨g3, hm⟩ := g_t hm
  refine r_iaload (np := 6) G hM g3 rfl dX0_first_5 rfl ?_
  exact r_iret G hr hk hM hm dX0_first_6
theorem gX0_first {v0 : Nat} {v1 : Int} {σ : mSt} {out : Int × mSt} (hm : mX0_first v0 v1 σ = some out) : isC v0 0 := (g_t hm).1
set_option maxRecDepth 100000 in
set_option maxHeartbeats 4000000 in
theorem qX0_second (l : Launch) (E : mE) (σ : mSt) (v0 : Nat) (v1 : Int) (out : Int × mSt) (hm : mX0_second v0 v1 σ = some out) : mMet l yX0_second cX0_second 2 (some .int) 0 0 E 257 [.ref (eA E v0), vI v1] σ (some (vI out.1)) out.2 := by
  unfold mX0_second at hm
  obtain ⟨g0, hm⟩ := g_t hm
  refine m_entry (by decide +kernel) (Nat.le_of_ble_eq_true rfl) (fun p e s m args below meth c G hr hk hM ls hl => ?_)
  have G : CallFix p m c cX0_second 2 s args mTs RX0 := G
  have hl : lv_has ls 2 [(0, .ref (eA E v0)), (1, vI v1)] := hl
  refine r_aload_n (np := 1) G hl 0 rfl dX0_second_0 rfl rfl ?_
  obtain ⟨r1, e2, hm⟩ := ref_t hm
  refine r_getR (np := 4) G hM (shp_lt g0 (by decide)) g0 e2 fdX0_3 lkX0_22 dX0_second_1 rfl ?_
  refine r_iload_n (np := 5) G hl 1 rfl dX0_second_4 rfl rfl ?_
  obtain ⟨g3, hm⟩ := g_t hm
  refine r_iaload (np := 6) G hM g3 rfl dX0_second_5 rfl ?_
  exact r_iret G hr hk hM hm dX0_second_6
theorem gX0_second {v0 : Nat} {v1 : Int} {σ : mSt} {out : Int × mSt} (hm : mX0_second v0 v1 σ = some out) : isC v0 0 := (g_t hm).1
set_option maxRecDepth 100000 in
set_option maxHeartbeats 4000000 in
theorem qX0_term (l : Launch) (E : mE) (σ : mSt) (v0 : Nat) (v1 : Int) (v2 : Int) (out : Int × mSt) (hm : mX0_term v0 v1 v2 σ = some out) : mMet l yX0_term cX0_term 3 (some .int) 0 0 E 257 [.ref (eA E v0), vI v1, vI v2] σ (some (vI out.1)) out.2 := by
  unfold mX0_term at hm
  obtain ⟨g0, hm⟩ := g_t hm
  refine m_entry (by decide +kernel) (Nat.le_of_ble_eq_true rfl) (fun p e s m args below meth c G hr hk hM ls hl => ?_)
  have G : CallFix p m c cX0_term 3 s args mTs RX0 := G
  have hl : lv_has ls 3 [(0, .ref (eA E v0)), (1, vI v1), (2, vI v2)] := hl
  refine r_aload_n (np := 1) G hl 0 rfl dX0_term_0 rfl rfl ?_
  obtain ⟨r1, e2, hm⟩ := ref_t hm
  refine r_getR (np := 4) G hM (shp_lt g0 (by decide)) g0 e2 fdX0_6 lkX0_35 dX0_term_1 rfl ?_
  refine r_iload_n (np := 5) G hl 1 rfl dX0_term_4 rfl rfl ?_
  obtain ⟨g3, hm⟩ := g_t hm
  obtain ⟨r4, e5, hm⟩ := ref_t hm
  refine r_aaload (np := 6) G hM (t := 6) g3 rfl ⟨by decide, by decide⟩ rfl rfl e5 dX0_term_5 rfl ?_
  refine r_iload_n (np := 7) G hl 2 rfl dX0_term_6 rfl rfl ?_
  obtain ⟨g6, hm⟩ := g_t hm
  refine r_iaload (np := 8) G hM g6 rfl dX0_term_7 rfl ?_
  exact r_iret G hr hk hM hm dX0_term_8
theorem gX0_term {v0 : Nat} {v1 : Int} {v2 : Int} {σ : mSt} {out : Int × mSt} (hm : mX0_term v0 v1 v2 σ = some out) : isC v0 0 := (g_t hm).1
set_option maxRecDepth 100000 in
set_option maxHeartbeats 4000000 in
theorem qX0_sign (l : Launch) (E : mE) (σ : mSt) (v0 : Nat) (v1 : Int) (v2 : Int) (out : Int × mSt) (hm : mX0_sign v0 v1 v2 σ = some out) : mMet l yX0_sign cX0_sign 3 (some .int) 0 0 E 257 [.ref (eA E v0), vI v1, vI v2] σ (some (vI out.1)) out.2 := by
  unfold mX0_sign at hm
  obtain ⟨g0, hm⟩ := g_t hm
  refine m_entry (by decide +kernel) (Nat.le_of_ble_eq_true rfl) (fun p e s m args below meth c G hr hk hM ls hl => ?_)
  have G : CallFix p m c cX0_sign 3 s args mTs RX0 := G
  have hl : lv_has ls 3 [(0, .ref (eA E v0)), (1, vI v1), (2, vI v2)] := hl
  refine r_aload_n (np := 1) G hl 0 rfl dX0_sign_0 rfl rfl ?_
  obtain ⟨r1, e2, hm⟩ := ref_t hm
  refine r_getR (np := 4) G hM (shp_lt g0 (by decide)) g0 e2 fdX0_7 lkX0_38 dX0_sign_1 rfl ?_
  refine r_iload_n (np := 5) G hl 1 rfl dX0_sign_4 rfl rfl ?_
  obtain ⟨g3, hm⟩ := g_t hm
  obtain ⟨r4, e5, hm⟩ := ref_t hm
  refine r_aaload (np := 6) G hM (t := 6) g3 rfl ⟨by decide, by decide⟩ rfl rfl e5 dX0_sign_5 rfl ?_
  refine r_iload_n (np := 7) G hl 2 rfl dX0_sign_6 rfl rfl ?_
  obtain ⟨g6, hm⟩ := g_t hm
  refine r_iaload (np := 8) G hM g6 rfl dX0_sign_7 rfl ?_
  exact r_iret G hr hk hM hm dX0_sign_8
theorem gX0_sign {v0 : Nat} {v1 : Int} {v2 : Int} {σ : mSt} {out : Int × mSt} (hm : mX0_sign v0 v1 v2 σ = some out) : isC v0 0 := (g_t hm).1
set_option maxRecDepth 100000 in
set_option maxHeartbeats 4000000 in
theorem qX0_clear (l : Launch) (E : mE) (σ : mSt) (v0 : Nat) (out : Int × mSt) (hm : mX0_clear v0 σ = some out) : mMet l yX0_clear cX0_clear 1 none 0 0 E 257 [.ref (eA E v0)] σ none out.2 := by
  unfold mX0_clear at hm
  obtain ⟨g0, hm⟩ := g_t hm
  refine m_entry (by decide +kernel) (Nat.le_of_ble_eq_true rfl) (fun p e s m args below meth c G hr hk hM ls hl => ?_)
  have G : CallFix p m c cX0_clear 1 s args mTs RX0 := G
  have hl : lv_has ls 1 [(0, .ref (eA E v0))] := hl
  refine r_aload_n (np := 1) G hl 0 rfl dX0_clear_0 rfl rfl ?_
  refine r_iconst (np := 2) G 0 dX0_clear_1 rfl ?_
  obtain ⟨s1, e2, hm⟩ := bnd_t hm
  refine r_putI (np := 5) G hM (shp_lt g0 (by decide)) g0 ptX0_0 rfl lkX0_9 s1 e2 dX0_clear_2 rfl (fun H locs hM => ?_)
  exact r_vret G hr hk hM hm dX0_clear_5
theorem gX0_clear {v0 : Nat} {σ : mSt} {out : Int × mSt} (hm : mX0_clear v0 σ = some out) : isC v0 0 := (g_t hm).1
set_option maxRecDepth 100000 in
set_option maxHeartbeats 4000000 in
theorem qX0_isFull (l : Launch) (E : mE) (σ : mSt) (v0 : Nat) (out : Int × mSt) (hm : mX0_isFull v0 σ = some out) : mMet l yX0_isFull cX0_isFull 1 (some .boolean) 0 0 E 257 [.ref (eA E v0)] σ (some (vI out.1)) out.2 := by
  unfold mX0_isFull at hm
  obtain ⟨g0, hm⟩ := g_t hm
  refine m_entry (by decide +kernel) (Nat.le_of_ble_eq_true rfl) (fun p e s m args below meth c G hr hk hM ls hl => ?_)
  have G : CallFix p m c cX0_isFull 1 s args mTs RX0 := G
  have hl : lv_has ls 1 [(0, .ref (eA E v0))] := hl
  refine r_aload_n (np := 1) G hl 0 rfl dX0_isFull_0 rfl rfl ?_
  refine r_getI (np := 4) G hM (shp_lt g0 (by decide)) g0 fdX0_0 lkX0_9 dX0_isFull_1 rfl ?_
  refine r_bipush (np := 6) G 8 dX0_isFull_4 (by decide) rfl ?_
  refine r_icmp_lt (np := 9) (tgt := 13) G rfl (wIk 8 rfl) dX0_isFull_6 (by decide) rfl (fun h1 => ?_) (fun h1 => ?_)
  · have hm := b_t h1 hm
    refine r_iconst (np := 14) G 0 dX0_isFull_13 rfl ?_
    exact r_zret G hr hk hM (Or.inl rfl) hm dX0_isFull_14
  · have hm := b_f h1 hm
    refine r_iconst (np := 10) G 1 dX0_isFull_9 rfl ?_
    refine r_goto (np := 14) G dX0_isFull_10 (by decide) ?_
    exact r_zret G hr hk hM (Or.inr rfl) hm dX0_isFull_14
theorem gX0_isFull {v0 : Nat} {σ : mSt} {out : Int × mSt} (hm : mX0_isFull v0 σ = some out) : isC v0 0 := (g_t hm).1
set_option maxRecDepth 100000 in
set_option maxHeartbeats 4000000 in
theorem qX10_length (l : Launch) (E : mE) (σ : mSt) (v0 : Nat) (out : Int × mSt) (hm : mX10_length v0 σ = some out) : mMet l yX10_length cX10_length 1 (some .int) 0 0 E 257 [.ref (eA E v0)] σ (some (vI out.1)) out.2 := by
  unfold mX10_length at hm
  obtain ⟨g0, hm⟩ := g_t hm
  refine m_entry (by decide +kernel) (Nat.le_of_ble_eq_true rfl) (fun p e s m args below meth c G hr hk hM ls hl => ?_)
  have G : CallFix p m c cX10_length 1 s args mTs RX10 := G
  have hl : lv_has ls 1 [(0, .ref (eA E v0))] := hl
  refine r_aload_n (np := 1) G hl 0 rfl dX10_length_0 rfl rfl ?_
  refine r_getI (np := 4) G hM (shp_lt g0 (by decide)) g0 fdX10_3 lkX10_22 dX10_length_1 rfl ?_
  refine r_aload_n (np := 5) G hl 0 rfl dX10_length_4 rfl rfl ?_
  refine r_getI (np := 8) G hM (shp_lt g0 (by decide)) g0 fdX10_2 lkX10_19 dX10_length_5 rfl ?_
  refine r_isub (np := 9) G dX10_length_8 rfl ?_
  exact r_iret G hr hk hM hm dX10_length_9
theorem gX10_length {v0 : Nat} {σ : mSt} {out : Int × mSt} (hm : mX10_length v0 σ = some out) : isC v0 9 := (g_t hm).1
set_option maxRecDepth 100000 in
set_option maxHeartbeats 4000000 in
theorem wX10_byteAt_B31 (l : Launch) (E : mE) (out : Int × mSt) {p : Program} {e : Env} {s : State} {m : MethodId} {args : Array Value} {below : List Frame} {meth : Method} {c : Code} (G : CallFix p m c cX10_byteAt 2 s args mTs RX10) (hr : meth.sig.returnType = (some .byte)) (hk : meth.locks = false) (v0 : Nat) (v1 : Int) (g0 : isC v0 9) : ∀ (σ : mSt) (H : Heap) (locs : List Loc) (ls : Array Slot), mX10_byteAt_B31 v0 v1 σ = some out → mM (mA E 257) E 257 σ s H locs → lv_has ls 2 [] → mGo l p e 0 0 s m args below meth c E (some (vI out.1)) out.2 H locs (F0 m 31 ls []) := by
  intro σ H locs ls hm hM hl
  unfold mX10_byteAt_B31 at hm
  refine r_iconst (np := 32) G 0 dX10_byteAt_31 rfl ?_
  exact r_bret G hr hk hM ⟨by decide, by decide⟩ hm dX10_byteAt_32
set_option maxRecDepth 100000 in
set_option maxHeartbeats 4000000 in
theorem qX10_byteAt (l : Launch) (E : mE) (σ : mSt) (v0 : Nat) (v1 : Int) (out : Int × mSt) (hm : mX10_byteAt v0 v1 σ = some out) : mMet l yX10_byteAt cX10_byteAt 2 (some .byte) 0 0 E 257 [.ref (eA E v0), vI v1] σ (some (vI out.1)) out.2 := by
  unfold mX10_byteAt at hm
  obtain ⟨g0, hm⟩ := g_t hm
  refine m_entry (by decide +kernel) (Nat.le_of_ble_eq_true rfl) (fun p e s m args below meth c G hr hk hM ls hl => ?_)
  have G : CallFix p m c cX10_byteAt 2 s args mTs RX10 := G
  have hl : lv_has ls 2 [(0, .ref (eA E v0)), (1, vI v1)] := hl
  refine r_iload_n (np := 1) G hl 1 rfl dX10_byteAt_0 rfl rfl ?_
  refine r_if_lt (np := 4) (tgt := 31) G rfl dX10_byteAt_1 (by decide) rfl (fun h1 => ?_) (fun h1 => ?_)
  · have hm := b_t h1 hm
    exact wX10_byteAt_B31 l E out G hr hk v0 v1 g0 _ _ _ _ hm hM (lv_sub hl [] rfl)
  · have hm := b_f h1 hm
    refine r_aload_n (np := 5) G hl 0 rfl dX10_byteAt_4 rfl rfl ?_
    refine r_getI (np := 8) G hM (shp_lt g0 (by decide)) g0 fdX10_2 lkX10_19 dX10_byteAt_5 rfl ?_
    refine r_iload_n (np := 9) G hl 1 rfl dX10_byteAt_8 rfl rfl ?_
    refine r_iadd (np := 10) G dX10_byteAt_9 rfl ?_
    refine r_aload_n (np := 11) G hl 0 rfl dX10_byteAt_10 rfl rfl ?_
    refine r_getI (np := 14) G hM (shp_lt g0 (by decide)) g0 fdX10_3 lkX10_22 dX10_byteAt_11 rfl ?_
    refine r_icmp_ge (np := 17) (tgt := 31) G rfl rfl dX10_byteAt_14 (by decide) rfl (fun h2 => ?_) (fun h2 => ?_)
    · have hm := b_t h2 hm
      exact wX10_byteAt_B31 l E out G hr hk v0 v1 g0 _ _ _ _ hm hM (lv_sub hl [] rfl)
    · have hm := b_f h2 hm
      refine r_aload_n (np := 18) G hl 0 rfl dX10_byteAt_17 rfl rfl ?_
      obtain ⟨r3, e4, hm⟩ := ref_t hm
      refine r_getR (np := 21) G hM (shp_lt g0 (by decide)) g0 e4 fdX10_0 lkX10_9 dX10_byteAt_18 rfl ?_
      refine r_aload_n (np := 22) G hl 0 rfl dX10_byteAt_21 rfl rfl ?_
      refine r_getI (np := 25) G hM (shp_lt g0 (by decide)) g0 fdX10_2 lkX10_19 dX10_byteAt_22 rfl ?_
      refine r_iload_n (np := 26) G hl 1 rfl dX10_byteAt_25 rfl rfl ?_
      refine r_iadd (np := 27) G dX10_byteAt_26 rfl ?_
      obtain ⟨g5, hm⟩ := g_t hm
      refine r_baload (np := 28) G hM g5 rfl dX10_byteAt_27 rfl ?_
      refine r_goto (np := 32) G dX10_byteAt_28 (by decide) ?_
      obtain ⟨g6, hm⟩ := g_t hm
      exact r_bret G hr hk hM g6 hm dX10_byteAt_32
theorem gX10_byteAt {v0 : Nat} {v1 : Int} {σ : mSt} {out : Int × mSt} (hm : mX10_byteAt v0 v1 σ = some out) : isC v0 9 := (g_t hm).1
set_option maxRecDepth 100000 in
set_option maxHeartbeats 4000000 in
theorem wX0_begin_B97 (l : Launch) (E : mE) (out : Int × mSt) {p : Program} {e : Env} {s : State} {m : MethodId} {args : Array Value} {below : List Frame} {meth : Method} {c : Code} (G : CallFix p m c cX0_begin 4 s args mTs RX0) (hr : meth.sig.returnType = none) (hk : meth.locks = false) (v0 : Nat) (v1 : Int) (v2 : Nat) (g0 : isC v0 0) : ∀ (σ : mSt) (H : Heap) (locs : List Loc) (ls : Array Slot), mX0_begin_B97 v0 v1 v2 σ = some out → mM (mA E 257) E 257 σ s H locs → lv_has ls 4 [] → mGo l p e 1 21 s m args below meth c E none out.2 H locs (F0 m 97 ls []) := by
  intro σ H locs ls hm hM hl
  unfold mX0_begin_B97 at hm
  exact r_vret G hr hk hM hm dX0_begin_97
set_option maxRecDepth 100000 in
set_option maxHeartbeats 4000000 in
theorem wX0_begin_L62 (l : Launch) (E : mE) (out : Int × mSt) {p : Program} {e : Env} {s : State} {m : MethodId} {args : Array Value} {below : List Frame} {meth : Method} {c : Code} (G : CallFix p m c cX0_begin 4 s args mTs RX0) (hr : meth.sig.returnType = none) (hk : meth.locks = false) (v0 : Nat) (v1 : Int) (v2 : Nat) (g0 : isC v0 0) (x97 : mSt → Option (Int × mSt)) (hx97 : ∀ (σ : mSt) (H : Heap) (locs : List Loc) (ls : Array Slot), x97 σ = some out → mM (mA E 257) E 257 σ s H locs → lv_has ls 4 [] → mGo l p e 1 21 s m args below meth c E none out.2 H locs (F0 m 97 ls [])) : ∀ (n : Nat) (v3 : Int) (σ : mSt) (H : Heap) (locs : List Loc) (ls : Array Slot), mX0_begin_L62 v0 v1 v2 x97 n v3 σ = some out → mM (mA E 257) E 257 σ s H locs → lv_has ls 4 [(0, .ref (eA E v0)), (2, .ref (eA E v2)), (3, vI v3)] → mGo l p e 1 21 s m args below meth c E none out.2 H locs (F0 m 62 ls []) := by
  intro n
  induction n with
  | zero =>
    intro v3 σ H locs ls hm hM hl
    exact absurd hm (by rw [mX0_begin_L62.eq_1]; exact fun h => nomatch h)
  | succ n ih =>
    intro v3 σ H locs ls hm hM hl
    rw [mX0_begin_L62.eq_2] at hm
    refine r_iload_n (np := 63) G hl 2 rfl dX0_begin_62 rfl rfl ?_
    refine r_aload_n (np := 64) G hl 0 rfl dX0_begin_63 rfl rfl ?_
    obtain ⟨r1, e2, hm⟩ := ref_t hm
    refine r_getR (np := 67) G hM (shp_lt g0 (by decide)) g0 e2 fdX0_4 lkX0_25 dX0_begin_64 rfl ?_
    refine r_aload_n (np := 68) G hl 0 rfl dX0_begin_67 rfl rfl ?_
    refine r_getI (np := 71) G hM (shp_lt g0 (by decide)) g0 fdX0_0 lkX0_9 dX0_begin_68 rfl ?_
    obtain ⟨g3, hm⟩ := g_t hm
    refine r_iaload (np := 72) G hM g3 rfl dX0_begin_71 rfl ?_
    refine r_icmp_ge (np := 75) (tgt := 97) G rfl rfl dX0_begin_72 (by decide) rfl (fun h4 => ?_) (fun h4 => ?_)
    · have hm := b_t h4 hm
      exact hx97 _ _ _ _ hm hM (lv_sub hl [] rfl)
    · have hm := b_f h4 hm
      refine r_aload_n (np := 76) G hl 0 rfl dX0_begin_75 rfl rfl ?_
      obtain ⟨r5, e6, hm⟩ := ref_t hm
      refine r_getR (np := 79) G hM (shp_lt g0 (by decide)) g0 e6 fdX0_5 lkX0_30 dX0_begin_76 rfl ?_
      refine r_aload_n (np := 80) G hl 0 rfl dX0_begin_79 rfl rfl ?_
      refine r_getI (np := 83) G hM (shp_lt g0 (by decide)) g0 fdX0_0 lkX0_9 dX0_begin_80 rfl ?_
      obtain ⟨g7, hm⟩ := g_t hm
      obtain ⟨r8, e9, hm⟩ := ref_t hm
      refine r_aaload (np := 84) G hM (t := 5) g7 rfl ⟨by decide, by decide⟩ rfl rfl e9 dX0_begin_83 rfl ?_
      refine r_iload_n (np := 85) G hl 2 rfl dX0_begin_84 rfl rfl ?_
      refine r_aload_n (np := 86) G hl 1 rfl dX0_begin_85 rfl rfl ?_
      refine r_iload_n (np := 87) G hl 2 rfl dX0_begin_86 rfl rfl ?_
      obtain ⟨b10, s11, e12, hm⟩ := call_t hm
      refine m_callVI (np := 90) G hM hl.1 [vI v3] (qX10_byteAt l E σ v2 v3 _ e12) myX10_byteAt (shp_lt (gX10_byteAt e12) (by decide)) (gX10_byteAt e12) rfl (by decide) lkX0_51 ⟨Nat.le_of_ble_eq_true rfl, Nat.le_of_ble_eq_true rfl⟩ ⟨Nat.le_of_ble_eq_true rfl, Nat.le_of_ble_eq_true rfl⟩ [vI v3, .ref (eA E r8)] rfl (Nat.le_of_ble_eq_true rfl) dX0_begin_87 rfl (fun H locs hM => ?_)
      obtain ⟨g13, hm⟩ := g_t hm
      obtain ⟨g14, hm⟩ := g_t hm
      obtain ⟨s15, e16, hm⟩ := bnd_t hm
      refine r_bastore (np := 91) G hM g13 rfl g14 s15 e16 dX0_begin_90 rfl (fun H locs hM => ?_)
      obtain ⟨a17, e18, hm⟩ := bnd_t hm
      refine r_iinc (np := 94) G hl 2 rfl e18 [(3, vI a17), (0, .ref (eA E v0)), (2, .ref (eA E v2))] dX0_begin_91 rfl (by decide) rfl (fun ls hl => ?_)
      refine r_goto (np := 62) G dX0_begin_94 (by decide) ?_
      exact ih a17 _ _ _ _ hm hM (lv_sub hl [1, 2, 0] rfl)
set_option maxRecDepth 100000 in
set_option maxHeartbeats 4000000 in
theorem qX0_begin (l : Launch) (E : mE) (σ : mSt) (v0 : Nat) (v1 : Int) (v2 : Nat) (out : Int × mSt) (hm : mX0_begin v0 v1 v2 σ = some out) : mMet l yX0_begin cX0_begin 4 none 1 21 E 257 [.ref (eA E v0), vI v1, .ref (eA E v2)] σ none out.2 := by
  unfold mX0_begin at hm
  obtain ⟨g0, hm⟩ := g_t hm
  refine m_entry (by decide +kernel) (Nat.le_of_ble_eq_true rfl) (fun p e s m args below meth c G hr hk hM ls hl => ?_)
  have G : CallFix p m c cX0_begin 4 s args mTs RX0 := G
  have hl : lv_has ls 4 [(0, .ref (eA E v0)), (1, vI v1), (2, .ref (eA E v2))] := hl
  refine r_aload_n (np := 1) G hl 0 rfl dX0_begin_0 rfl rfl ?_
  obtain ⟨b19, s20, e21, hm⟩ := call_t hm
  refine m_callVI (np := 4) G hM hl.1 [] (qX0_isFull l E σ v0 _ e21) myX0_isFull (shp_lt (gX0_isFull e21) (by decide)) (gX0_isFull e21) rfl (by decide) lkX0_41 ⟨Nat.le_of_ble_eq_true rfl, Nat.le_of_ble_eq_true rfl⟩ ⟨Nat.le_of_ble_eq_true rfl, Nat.le_of_ble_eq_true rfl⟩ [] rfl (Nat.le_of_ble_eq_true rfl) dX0_begin_1 rfl (fun H locs hM => ?_)
  refine r_if_ne (np := 7) (tgt := 16) G rfl dX0_begin_4 (by decide) rfl (fun h22 => ?_) (fun h22 => ?_)
  · have hm := b_f h22 hm
    exact r_vret G hr hk hM hm dX0_begin_16
  · have hm := b_t h22 hm
    refine r_aload_n (np := 8) G hl 2 rfl dX0_begin_7 rfl rfl ?_
    obtain ⟨b23, s24, e25, hm⟩ := call_t hm
    refine m_callVI (np := 11) G hM hl.1 [] (qX10_length l E s20 v2 _ e25) myX10_length (shp_lt (gX10_length e25) (by decide)) (gX10_length e25) rfl (by decide) lkX0_45 ⟨Nat.le_of_ble_eq_true rfl, Nat.le_of_ble_eq_true rfl⟩ ⟨Nat.le_of_ble_eq_true rfl, Nat.le_of_ble_eq_true rfl⟩ [] rfl (Nat.le_of_ble_eq_true rfl) dX0_begin_8 rfl (fun H locs hM => ?_)
    refine r_bipush (np := 13) G 10 dX0_begin_11 (by decide) rfl ?_
    refine r_icmp_le (np := 16) (tgt := 17) G rfl (wIk 10 rfl) dX0_begin_13 (by decide) rfl (fun h26 => ?_) (fun h26 => ?_)
    · have hm := b_t h26 hm
      refine r_aload_n (np := 18) G hl 0 rfl dX0_begin_17 rfl rfl ?_
      obtain ⟨r27, e28, hm⟩ := ref_t hm
      refine r_getR (np := 21) G hM (shp_lt g0 (by decide)) g0 e28 fdX0_1 lkX0_15 dX0_begin_18 rfl ?_
      refine r_aload_n (np := 22) G hl 0 rfl dX0_begin_21 rfl rfl ?_
      refine r_getI (np := 25) G hM (shp_lt g0 (by decide)) g0 fdX0_0 lkX0_9 dX0_begin_22 rfl ?_
      refine r_iload_n (np := 26) G hl 1 rfl dX0_begin_25 rfl rfl ?_
      obtain ⟨g29, hm⟩ := g_t hm
      obtain ⟨s30, e31, hm⟩ := bnd_t hm
      refine r_iastore (np := 27) G hM g29 rfl s30 e31 dX0_begin_26 rfl (fun H locs hM => ?_)
      refine r_aload_n (np := 28) G hl 0 rfl dX0_begin_27 rfl rfl ?_
      obtain ⟨r32, e33, hm⟩ := ref_t hm
      refine r_getR (np := 31) G hM (shp_lt g0 (by decide)) g0 e33 fdX0_2 lkX0_19 dX0_begin_28 rfl ?_
      refine r_aload_n (np := 32) G hl 0 rfl dX0_begin_31 rfl rfl ?_
      refine r_getI (np := 35) G hM (shp_lt g0 (by decide)) g0 fdX0_0 lkX0_9 dX0_begin_32 rfl ?_
      refine r_iconst (np := 36) G 0 dX0_begin_35 rfl ?_
      obtain ⟨g34, hm⟩ := g_t hm
      obtain ⟨s35, e36, hm⟩ := bnd_t hm
      refine r_iastore (np := 37) G hM g34 rfl s35 e36 dX0_begin_36 rfl (fun H locs hM => ?_)
      refine r_aload_n (np := 38) G hl 0 rfl dX0_begin_37 rfl rfl ?_
      obtain ⟨r37, e38, hm⟩ := ref_t hm
      refine r_getR (np := 41) G hM (shp_lt g0 (by decide)) g0 e38 fdX0_3 lkX0_22 dX0_begin_38 rfl ?_
      refine r_aload_n (np := 42) G hl 0 rfl dX0_begin_41 rfl rfl ?_
      refine r_getI (np := 45) G hM (shp_lt g0 (by decide)) g0 fdX0_0 lkX0_9 dX0_begin_42 rfl ?_
      refine r_iconst (np := 46) G 0 dX0_begin_45 rfl ?_
      obtain ⟨g39, hm⟩ := g_t hm
      obtain ⟨s40, e41, hm⟩ := bnd_t hm
      refine r_iastore (np := 47) G hM g39 rfl s40 e41 dX0_begin_46 rfl (fun H locs hM => ?_)
      refine r_aload_n (np := 48) G hl 0 rfl dX0_begin_47 rfl rfl ?_
      obtain ⟨r42, e43, hm⟩ := ref_t hm
      refine r_getR (np := 51) G hM (shp_lt g0 (by decide)) g0 e43 fdX0_4 lkX0_25 dX0_begin_48 rfl ?_
      refine r_aload_n (np := 52) G hl 0 rfl dX0_begin_51 rfl rfl ?_
      refine r_getI (np := 55) G hM (shp_lt g0 (by decide)) g0 fdX0_0 lkX0_9 dX0_begin_52 rfl ?_
      refine r_aload_n (np := 56) G hl 2 rfl dX0_begin_55 rfl rfl ?_
      obtain ⟨b44, s45, e46, hm⟩ := call_t hm
      refine m_callVI (np := 59) G hM hl.1 [] (qX10_length l E s40 v2 _ e46) myX10_length (shp_lt (gX10_length e46) (by decide)) (gX10_length e46) rfl (by decide) lkX0_45 ⟨Nat.le_of_ble_eq_true rfl, Nat.le_of_ble_eq_true rfl⟩ ⟨Nat.le_of_ble_eq_true rfl, Nat.le_of_ble_eq_true rfl⟩ [vI (s40 v0 0), .ref (eA E r42)] rfl (Nat.le_of_ble_eq_true rfl) dX0_begin_56 rfl (fun H locs hM => ?_)
      obtain ⟨g47, hm⟩ := g_t hm
      obtain ⟨s48, e49, hm⟩ := bnd_t hm
      refine r_iastore (np := 60) G hM g47 rfl s48 e49 dX0_begin_59 rfl (fun H locs hM => ?_)
      refine r_iconst (np := 61) G 0 dX0_begin_60 rfl ?_
      refine r_istore_n (np := 62) G hl rfl [(3, vI 0), (0, .ref (eA E v0)), (1, vI v1), (2, .ref (eA E v2))] dX0_begin_61 rfl rfl (by decide) rfl (fun ls hl => ?_)
      exact wX0_begin_L62 l E out G hr hk v0 v1 v2 g0 (fun zσ => mX0_begin_B97 v0 v1 v2 zσ) (fun zσ zH zl zs zm zM zv => wX0_begin_B97 l E out G hr hk v0 v1 v2 g0 zσ zH zl zs zm zM zv) mF 0 _ _ _ _ hm hM (lv_sub hl [1, 3, 0] rfl)
    · have hm := b_f h26 hm
      exact r_vret G hr hk hM hm dX0_begin_16
theorem gX0_begin {v0 : Nat} {v1 : Int} {v2 : Nat} {σ : mSt} {out : Int × mSt} (hm : mX0_begin v0 v1 v2 σ = some out) : isC v0 0 := (g_t hm).1
set_option maxRecDepth 100000 in
set_option maxHeartbeats 4000000 in
theorem qX0_setFirst (l : Launch) (E : mE) (σ : mSt) (v0 : Nat) (v1 : Int) (out : Int × mSt) (hm : mX0_setFirst v0 v1 σ = some out) : mMet l yX0_setFirst cX0_setFirst 3 none 1 20 E 257 [.ref (eA E v0), vL v1] σ none out.2 := by
  unfold mX0_setFirst at hm
  obtain ⟨g0, hm⟩ := g_t hm
  refine m_entry (by decide +kernel) (Nat.le_of_ble_eq_true rfl) (fun p e s m args below meth c G hr hk hM ls hl => ?_)
  have G : CallFix p m c cX0_setFirst 3 s args mTs RX0 := G
  have hl : lv_has ls 3 [(0, .ref (eA E v0)), (1, vL v1)] := hl
  refine r_aload_n (np := 1) G hl 0 rfl dX0_setFirst_0 rfl rfl ?_
  obtain ⟨b1, s2, e3, hm⟩ := call_t hm
  refine m_callVI (np := 4) G hM hl.1 [] (qX0_isFull l E σ v0 _ e3) myX0_isFull (shp_lt (gX0_isFull e3) (by decide)) (gX0_isFull e3) rfl (by decide) lkX0_41 ⟨Nat.le_of_ble_eq_true rfl, Nat.le_of_ble_eq_true rfl⟩ ⟨Nat.le_of_ble_eq_true rfl, Nat.le_of_ble_eq_true rfl⟩ [] rfl (Nat.le_of_ble_eq_true rfl) dX0_setFirst_1 rfl (fun H locs hM => ?_)
  refine r_if_ne (np := 7) (tgt := 18) G rfl dX0_setFirst_4 (by decide) rfl (fun h4 => ?_) (fun h4 => ?_)
  · have hm := b_f h4 hm
    exact r_vret G hr hk hM hm dX0_setFirst_18
  · have hm := b_t h4 hm
    refine r_aload_n (np := 8) G hl 0 rfl dX0_setFirst_7 rfl rfl ?_
    obtain ⟨r5, e6, hm⟩ := ref_t hm
    refine r_getR (np := 11) G hM (shp_lt g0 (by decide)) g0 e6 fdX0_2 lkX0_19 dX0_setFirst_8 rfl ?_
    refine r_aload_n (np := 12) G hl 0 rfl dX0_setFirst_11 rfl rfl ?_
    refine r_getI (np := 15) G hM (shp_lt g0 (by decide)) g0 fdX0_0 lkX0_9 dX0_setFirst_12 rfl ?_
    refine r_lload_n (np := 16) G hl 1 rfl dX0_setFirst_15 rfl rfl ?_
    refine r_l2i (np := 17) G dX0_setFirst_16 rfl ?_
    obtain ⟨g7, hm⟩ := g_t hm
    obtain ⟨s8, e9, hm⟩ := bnd_t hm
    refine r_iastore (np := 18) G hM g7 rfl s8 e9 dX0_setFirst_17 rfl (fun H locs hM => ?_)
    exact r_vret G hr hk hM hm dX0_setFirst_18
theorem gX0_setFirst {v0 : Nat} {v1 : Int} {σ : mSt} {out : Int × mSt} (hm : mX0_setFirst v0 v1 σ = some out) : isC v0 0 := (g_t hm).1
set_option maxRecDepth 100000 in
set_option maxHeartbeats 4000000 in
theorem qX0_setSecond (l : Launch) (E : mE) (σ : mSt) (v0 : Nat) (v1 : Int) (out : Int × mSt) (hm : mX0_setSecond v0 v1 σ = some out) : mMet l yX0_setSecond cX0_setSecond 3 none 1 20 E 257 [.ref (eA E v0), vL v1] σ none out.2 := by
  unfold mX0_setSecond at hm
  obtain ⟨g0, hm⟩ := g_t hm
  refine m_entry (by decide +kernel) (Nat.le_of_ble_eq_true rfl) (fun p e s m args below meth c G hr hk hM ls hl => ?_)
  have G : CallFix p m c cX0_setSecond 3 s args mTs RX0 := G
  have hl : lv_has ls 3 [(0, .ref (eA E v0)), (1, vL v1)] := hl
  refine r_aload_n (np := 1) G hl 0 rfl dX0_setSecond_0 rfl rfl ?_
  obtain ⟨b1, s2, e3, hm⟩ := call_t hm
  refine m_callVI (np := 4) G hM hl.1 [] (qX0_isFull l E σ v0 _ e3) myX0_isFull (shp_lt (gX0_isFull e3) (by decide)) (gX0_isFull e3) rfl (by decide) lkX0_41 ⟨Nat.le_of_ble_eq_true rfl, Nat.le_of_ble_eq_true rfl⟩ ⟨Nat.le_of_ble_eq_true rfl, Nat.le_of_ble_eq_true rfl⟩ [] rfl (Nat.le_of_ble_eq_true rfl) dX0_setSecond_1 rfl (fun H locs hM => ?_)
  refine r_if_ne (np := 7) (tgt := 18) G rfl dX0_setSecond_4 (by decide) rfl (fun h4 => ?_) (fun h4 => ?_)
  · have hm := b_f h4 hm
    exact r_vret G hr hk hM hm dX0_setSecond_18
  · have hm := b_t h4 hm
    refine r_aload_n (np := 8) G hl 0 rfl dX0_setSecond_7 rfl rfl ?_
    obtain ⟨r5, e6, hm⟩ := ref_t hm
    refine r_getR (np := 11) G hM (shp_lt g0 (by decide)) g0 e6 fdX0_3 lkX0_22 dX0_setSecond_8 rfl ?_
    refine r_aload_n (np := 12) G hl 0 rfl dX0_setSecond_11 rfl rfl ?_
    refine r_getI (np := 15) G hM (shp_lt g0 (by decide)) g0 fdX0_0 lkX0_9 dX0_setSecond_12 rfl ?_
    refine r_lload_n (np := 16) G hl 1 rfl dX0_setSecond_15 rfl rfl ?_
    refine r_l2i (np := 17) G dX0_setSecond_16 rfl ?_
    obtain ⟨g7, hm⟩ := g_t hm
    obtain ⟨s8, e9, hm⟩ := bnd_t hm
    refine r_iastore (np := 18) G hM g7 rfl s8 e9 dX0_setSecond_17 rfl (fun H locs hM => ?_)
    exact r_vret G hr hk hM hm dX0_setSecond_18
theorem gX0_setSecond {v0 : Nat} {v1 : Int} {σ : mSt} {out : Int × mSt} (hm : mX0_setSecond v0 v1 σ = some out) : isC v0 0 := (g_t hm).1
set_option maxRecDepth 100000 in
set_option maxHeartbeats 4000000 in
theorem wX0_hasAllTerms_B20 (l : Launch) (E : mE) (out : Int × mSt) {p : Program} {e : Env} {s : State} {m : MethodId} {args : Array Value} {below : List Frame} {meth : Method} {c : Code} (G : CallFix p m c cX0_hasAllTerms 1 s args mTs RX0) (hr : meth.sig.returnType = (some .boolean)) (hk : meth.locks = false) (v0 : Nat) (g0 : isC v0 0) : ∀ (σ : mSt) (H : Heap) (locs : List Loc) (ls : Array Slot), mX0_hasAllTerms_B20 v0 σ = some out → mM (mA E 257) E 257 σ s H locs → lv_has ls 1 [] → mGo l p e 1 20 s m args below meth c E (some (vI out.1)) out.2 H locs (F0 m 20 ls []) := by
  intro σ H locs ls hm hM hl
  unfold mX0_hasAllTerms_B20 at hm
  refine r_iconst (np := 21) G 1 dX0_hasAllTerms_20 rfl ?_
  refine r_goto (np := 25) G dX0_hasAllTerms_21 (by decide) ?_
  exact r_zret G hr hk hM (Or.inr rfl) hm dX0_hasAllTerms_25
set_option maxRecDepth 100000 in
set_option maxHeartbeats 4000000 in
theorem qX0_hasAllTerms (l : Launch) (E : mE) (σ : mSt) (v0 : Nat) (out : Int × mSt) (hm : mX0_hasAllTerms v0 σ = some out) : mMet l yX0_hasAllTerms cX0_hasAllTerms 1 (some .boolean) 1 20 E 257 [.ref (eA E v0)] σ (some (vI out.1)) out.2 := by
  unfold mX0_hasAllTerms at hm
  obtain ⟨g0, hm⟩ := g_t hm
  refine m_entry (by decide +kernel) (Nat.le_of_ble_eq_true rfl) (fun p e s m args below meth c G hr hk hM ls hl => ?_)
  have G : CallFix p m c cX0_hasAllTerms 1 s args mTs RX0 := G
  have hl : lv_has ls 1 [(0, .ref (eA E v0))] := hl
  refine r_aload_n (np := 1) G hl 0 rfl dX0_hasAllTerms_0 rfl rfl ?_
  obtain ⟨b1, s2, e3, hm⟩ := call_t hm
  refine m_callVI (np := 4) G hM hl.1 [] (qX0_isFull l E σ v0 _ e3) myX0_isFull (shp_lt (gX0_isFull e3) (by decide)) (gX0_isFull e3) rfl (by decide) lkX0_41 ⟨Nat.le_of_ble_eq_true rfl, Nat.le_of_ble_eq_true rfl⟩ ⟨Nat.le_of_ble_eq_true rfl, Nat.le_of_ble_eq_true rfl⟩ [] rfl (Nat.le_of_ble_eq_true rfl) dX0_hasAllTerms_1 rfl (fun H locs hM => ?_)
  refine r_if_ne (np := 7) (tgt := 20) G rfl dX0_hasAllTerms_4 (by decide) rfl (fun h4 => ?_) (fun h4 => ?_)
  · have hm := b_f h4 hm
    exact wX0_hasAllTerms_B20 l E out G hr hk v0 g0 _ _ _ _ hm hM (lv_sub hl [] rfl)
  · have hm := b_t h4 hm
    refine r_aload_n (np := 8) G hl 0 rfl dX0_hasAllTerms_7 rfl rfl ?_
    obtain ⟨r5, e6, hm⟩ := ref_t hm
    refine r_getR (np := 11) G hM (shp_lt g0 (by decide)) g0 e6 fdX0_2 lkX0_19 dX0_hasAllTerms_8 rfl ?_
    refine r_aload_n (np := 12) G hl 0 rfl dX0_hasAllTerms_11 rfl rfl ?_
    refine r_getI (np := 15) G hM (shp_lt g0 (by decide)) g0 fdX0_0 lkX0_9 dX0_hasAllTerms_12 rfl ?_
    obtain ⟨g7, hm⟩ := g_t hm
    refine r_iaload (np := 16) G hM g7 rfl dX0_hasAllTerms_15 rfl ?_
    refine r_iconst (np := 17) G 4 dX0_hasAllTerms_16 rfl ?_
    refine r_icmp_lt (np := 20) (tgt := 24) G rfl (wIk 4 rfl) dX0_hasAllTerms_17 (by decide) rfl (fun h8 => ?_) (fun h8 => ?_)
    · have hm := b_t h8 hm
      refine r_iconst (np := 25) G 0 dX0_hasAllTerms_24 rfl ?_
      exact r_zret G hr hk hM (Or.inl rfl) hm dX0_hasAllTerms_25
    · have hm := b_f h8 hm
      exact wX0_hasAllTerms_B20 l E out G hr hk v0 g0 _ _ _ _ hm hM (lv_sub hl [] rfl)
theorem gX0_hasAllTerms {v0 : Nat} {σ : mSt} {out : Int × mSt} (hm : mX0_hasAllTerms v0 σ = some out) : isC v0 0 := (g_t hm).1
set_option maxRecDepth 100000 in
set_option maxHeartbeats 4000000 in
theorem qX0_addTerm (l : Launch) (E : mE) (σ : mSt) (v0 : Nat) (v1 : Int) (v2 : Int) (out : Int × mSt) (hm : mX0_addTerm v0 v1 v2 σ = some out) : mMet l yX0_addTerm cX0_addTerm 3 none 2 40 E 257 [.ref (eA E v0), vI v1, vI v2] σ none out.2 := by
  unfold mX0_addTerm at hm
  obtain ⟨g0, hm⟩ := g_t hm
  refine m_entry (by decide +kernel) (Nat.le_of_ble_eq_true rfl) (fun p e s m args below meth c G hr hk hM ls hl => ?_)
  have G : CallFix p m c cX0_addTerm 3 s args mTs RX0 := G
  have hl : lv_has ls 3 [(0, .ref (eA E v0)), (1, vI v1), (2, vI v2)] := hl
  refine r_aload_n (np := 1) G hl 0 rfl dX0_addTerm_0 rfl rfl ?_
  obtain ⟨b1, s2, e3, hm⟩ := call_t hm
  refine m_callVI (np := 4) G hM hl.1 [] (qX0_hasAllTerms l E σ v0 _ e3) myX0_hasAllTerms (shp_lt (gX0_hasAllTerms e3) (by decide)) (gX0_hasAllTerms e3) rfl (by decide) lkX0_55 ⟨Nat.le_of_ble_eq_true rfl, Nat.le_of_ble_eq_true rfl⟩ ⟨Nat.le_of_ble_eq_true rfl, Nat.le_of_ble_eq_true rfl⟩ [] rfl (Nat.le_of_ble_eq_true rfl) dX0_addTerm_1 rfl (fun H locs hM => ?_)
  refine r_if_ne (np := 7) (tgt := 60) G rfl dX0_addTerm_4 (by decide) rfl (fun h4 => ?_) (fun h4 => ?_)
  · have hm := b_f h4 hm
    exact r_vret G hr hk hM hm dX0_addTerm_60
  · have hm := b_t h4 hm
    refine r_aload_n (np := 8) G hl 0 rfl dX0_addTerm_7 rfl rfl ?_
    obtain ⟨r5, e6, hm⟩ := ref_t hm
    refine r_getR (np := 11) G hM (shp_lt g0 (by decide)) g0 e6 fdX0_6 lkX0_35 dX0_addTerm_8 rfl ?_
    refine r_aload_n (np := 12) G hl 0 rfl dX0_addTerm_11 rfl rfl ?_
    refine r_getI (np := 15) G hM (shp_lt g0 (by decide)) g0 fdX0_0 lkX0_9 dX0_addTerm_12 rfl ?_
    obtain ⟨g7, hm⟩ := g_t hm
    obtain ⟨r8, e9, hm⟩ := ref_t hm
    refine r_aaload (np := 16) G hM (t := 6) g7 rfl ⟨by decide, by decide⟩ rfl rfl e9 dX0_addTerm_15 rfl ?_
    refine r_aload_n (np := 17) G hl 0 rfl dX0_addTerm_16 rfl rfl ?_
    obtain ⟨r10, e11, hm⟩ := ref_t hm
    refine r_getR (np := 20) G hM (shp_lt g0 (by decide)) g0 e11 fdX0_2 lkX0_19 dX0_addTerm_17 rfl ?_
    refine r_aload_n (np := 21) G hl 0 rfl dX0_addTerm_20 rfl rfl ?_
    refine r_getI (np := 24) G hM (shp_lt g0 (by decide)) g0 fdX0_0 lkX0_9 dX0_addTerm_21 rfl ?_
    obtain ⟨g12, hm⟩ := g_t hm
    refine r_iaload (np := 25) G hM g12 rfl dX0_addTerm_24 rfl ?_
    refine r_iload_n (np := 26) G hl 2 rfl dX0_addTerm_25 rfl rfl ?_
    obtain ⟨g13, hm⟩ := g_t hm
    obtain ⟨s14, e15, hm⟩ := bnd_t hm
    refine r_iastore (np := 27) G hM g13 rfl s14 e15 dX0_addTerm_26 rfl (fun H locs hM => ?_)
    refine r_aload_n (np := 28) G hl 0 rfl dX0_addTerm_27 rfl rfl ?_
    obtain ⟨r16, e17, hm⟩ := ref_t hm
    refine r_getR (np := 31) G hM (shp_lt g0 (by decide)) g0 e17 fdX0_7 lkX0_38 dX0_addTerm_28 rfl ?_
    refine r_aload_n (np := 32) G hl 0 rfl dX0_addTerm_31 rfl rfl ?_
    refine r_getI (np := 35) G hM (shp_lt g0 (by decide)) g0 fdX0_0 lkX0_9 dX0_addTerm_32 rfl ?_
    obtain ⟨g18, hm⟩ := g_t hm
    obtain ⟨r19, e20, hm⟩ := ref_t hm
    refine r_aaload (np := 36) G hM (t := 6) g18 rfl ⟨by decide, by decide⟩ rfl rfl e20 dX0_addTerm_35 rfl ?_
    refine r_aload_n (np := 37) G hl 0 rfl dX0_addTerm_36 rfl rfl ?_
    obtain ⟨r21, e22, hm⟩ := ref_t hm
    refine r_getR (np := 40) G hM (shp_lt g0 (by decide)) g0 e22 fdX0_2 lkX0_19 dX0_addTerm_37 rfl ?_
    refine r_aload_n (np := 41) G hl 0 rfl dX0_addTerm_40 rfl rfl ?_
    refine r_getI (np := 44) G hM (shp_lt g0 (by decide)) g0 fdX0_0 lkX0_9 dX0_addTerm_41 rfl ?_
    obtain ⟨g23, hm⟩ := g_t hm
    refine r_iaload (np := 45) G hM g23 rfl dX0_addTerm_44 rfl ?_
    refine r_iload_n (np := 46) G hl 1 rfl dX0_addTerm_45 rfl rfl ?_
    obtain ⟨g24, hm⟩ := g_t hm
    obtain ⟨s25, e26, hm⟩ := bnd_t hm
    refine r_iastore (np := 47) G hM g24 rfl s25 e26 dX0_addTerm_46 rfl (fun H locs hM => ?_)
    refine r_aload_n (np := 48) G hl 0 rfl dX0_addTerm_47 rfl rfl ?_
    obtain ⟨r27, e28, hm⟩ := ref_t hm
    refine r_getR (np := 51) G hM (shp_lt g0 (by decide)) g0 e28 fdX0_2 lkX0_19 dX0_addTerm_48 rfl ?_
    refine r_aload_n (np := 52) G hl 0 rfl dX0_addTerm_51 rfl rfl ?_
    refine r_getI (np := 55) G hM (shp_lt g0 (by decide)) g0 fdX0_0 lkX0_9 dX0_addTerm_52 rfl ?_
    refine r_dup2 (np := 56) G dX0_addTerm_55 rfl rfl rfl ?_
    obtain ⟨g29, hm⟩ := g_t hm
    refine r_iaload (np := 57) G hM g29 rfl dX0_addTerm_56 rfl ?_
    refine r_iconst (np := 58) G 1 dX0_addTerm_57 rfl ?_
    refine r_iadd (np := 59) G dX0_addTerm_58 rfl ?_
    obtain ⟨s30, e31, hm⟩ := bnd_t hm
    refine r_iastore (np := 60) G hM g29 rfl s30 e31 dX0_addTerm_59 rfl (fun H locs hM => ?_)
    exact r_vret G hr hk hM hm dX0_addTerm_60
theorem gX0_addTerm {v0 : Nat} {v1 : Int} {v2 : Int} {σ : mSt} {out : Int × mSt} (hm : mX0_addTerm v0 v1 v2 σ = some out) : isC v0 0 := (g_t hm).1
set_option maxRecDepth 100000 in
set_option maxHeartbeats 4000000 in
theorem qX0_finish (l : Launch) (E : mE) (σ : mSt) (v0 : Nat) (out : Int × mSt) (hm : mX0_finish v0 σ = some out) : mMet l yX0_finish cX0_finish 1 none 1 20 E 257 [.ref (eA E v0)] σ none out.2 := by
  unfold mX0_finish at hm
  obtain ⟨g0, hm⟩ := g_t hm
  refine m_entry (by decide +kernel) (Nat.le_of_ble_eq_true rfl) (fun p e s m args below meth c G hr hk hM ls hl => ?_)
  have G : CallFix p m c cX0_finish 1 s args mTs RX0 := G
  have hl : lv_has ls 1 [(0, .ref (eA E v0))] := hl
  refine r_aload_n (np := 1) G hl 0 rfl dX0_finish_0 rfl rfl ?_
  obtain ⟨b1, s2, e3, hm⟩ := call_t hm
  refine m_callVI (np := 4) G hM hl.1 [] (qX0_isFull l E σ v0 _ e3) myX0_isFull (shp_lt (gX0_isFull e3) (by decide)) (gX0_isFull e3) rfl (by decide) lkX0_41 ⟨Nat.le_of_ble_eq_true rfl, Nat.le_of_ble_eq_true rfl⟩ ⟨Nat.le_of_ble_eq_true rfl, Nat.le_of_ble_eq_true rfl⟩ [] rfl (Nat.le_of_ble_eq_true rfl) dX0_finish_1 rfl (fun H locs hM => ?_)
  refine r_if_ne (np := 7) (tgt := 17) G rfl dX0_finish_4 (by decide) rfl (fun h4 => ?_) (fun h4 => ?_)
  · have hm := b_f h4 hm
    exact r_vret G hr hk hM hm dX0_finish_17
  · have hm := b_t h4 hm
    refine r_aload_n (np := 8) G hl 0 rfl dX0_finish_7 rfl rfl ?_
    refine r_dup (np := 9) G dX0_finish_8 rfl rfl ?_
    refine r_getI (np := 12) G hM (shp_lt g0 (by decide)) g0 fdX0_0 lkX0_9 dX0_finish_9 rfl ?_
    refine r_iconst (np := 13) G 1 dX0_finish_12 rfl ?_
    refine r_iadd (np := 14) G dX0_finish_13 rfl ?_
    obtain ⟨s5, e6, hm⟩ := bnd_t hm
    refine r_putI (np := 17) G hM (shp_lt g0 (by decide)) g0 ptX0_0 rfl lkX0_9 s5 e6 dX0_finish_14 rfl (fun H locs hM => ?_)
    exact r_vret G hr hk hM hm dX0_finish_17
theorem gX0_finish {v0 : Nat} {σ : mSt} {out : Int × mSt} (hm : mX0_finish v0 σ = some out) : isC v0 0 := (g_t hm).1
set_option maxRecDepth 100000 in
set_option maxHeartbeats 4000000 in
theorem wX0_hasName_B67 (l : Launch) (E : mE) (out : Int × mSt) {p : Program} {e : Env} {s : State} {m : MethodId} {args : Array Value} {below : List Frame} {meth : Method} {c : Code} (G : CallFix p m c cX0_hasName 5 s args mTs RX0) (hr : meth.sig.returnType = (some .boolean)) (hk : meth.locks = false) (v0 : Nat) (v1 : Int) (v2 : Nat) (g0 : isC v0 0) : ∀ (v3 : Int) (σ : mSt) (H : Heap) (locs : List Loc) (ls : Array Slot), mX0_hasName_B67 v0 v1 v2 v3 σ = some out → mM (mA E 257) E 257 σ s H locs → lv_has ls 5 [(3, vI v3)] → mGo l p e 1 21 s m args below meth c E (some (vI out.1)) out.2 H locs (F0 m 67 ls []) := by
  intro v3 σ H locs ls hm hM hl
  unfold mX0_hasName_B67 at hm
  refine r_iload_n (np := 68) G hl 0 rfl dX0_hasName_67 rfl rfl ?_
  obtain ⟨g1, hm⟩ := g_t hm
  exact r_zret G hr hk hM g1 hm dX0_hasName_68
set_option maxRecDepth 100000 in
set_option maxHeartbeats 4000000 in
theorem wX0_hasName_L22 (l : Launch) (E : mE) (out : Int × mSt) {p : Program} {e : Env} {s : State} {m : MethodId} {args : Array Value} {below : List Frame} {meth : Method} {c : Code} (G : CallFix p m c cX0_hasName 5 s args mTs RX0) (hr : meth.sig.returnType = (some .boolean)) (hk : meth.locks = false) (v0 : Nat) (v1 : Int) (v2 : Nat) (g0 : isC v0 0) (x67 : Int → mSt → Option (Int × mSt)) (hx67 : ∀ (v3 : Int) (σ : mSt) (H : Heap) (locs : List Loc) (ls : Array Slot), x67 v3 σ = some out → mM (mA E 257) E 257 σ s H locs → lv_has ls 5 [(3, vI v3)] → mGo l p e 1 21 s m args below meth c E (some (vI out.1)) out.2 H locs (F0 m 67 ls [])) : ∀ (n : Nat) (v3 : Int) (v4 : Int) (σ : mSt) (H : Heap) (locs : List Loc) (ls : Array Slot), mX0_hasName_L22 v0 v1 v2 x67 n v3 v4 σ = some out → mM (mA E 257) E 257 σ s H locs → lv_has ls 5 [(0, .ref (eA E v0)), (1, vI v1), (2, .ref (eA E v2)), (3, vI v3), (4, vI v4)] → mGo l p e 1 21 s m args below meth c E (some (vI out.1)) out.2 H locs (F0 m 22 ls []) := by
  intro n
  induction n with
  | zero =>
    intro v3 v4 σ H locs ls hm hM hl
    exact absurd hm (by rw [mX0_hasName_L22.eq_1]; exact fun h => nomatch h)
  | succ n ih =>
    intro v3 v4 σ H locs ls hm hM hl
    rw [mX0_hasName_L22.eq_2] at hm
    refine r_iload (np := 24) G hl 4 rfl dX0_hasName_22 rfl ?_
    refine r_aload_n (np := 25) G hl 0 rfl dX0_hasName_24 rfl rfl ?_
    obtain ⟨r2, e3, hm⟩ := ref_t hm
    refine r_getR (np := 28) G hM (shp_lt g0 (by decide)) g0 e3 fdX0_4 lkX0_25 dX0_hasName_25 rfl ?_
    refine r_iload_n (np := 29) G hl 1 rfl dX0_hasName_28 rfl rfl ?_
    obtain ⟨g4, hm⟩ := g_t hm
    refine r_iaload (np := 30) G hM g4 rfl dX0_hasName_29 rfl ?_
    refine r_icmp_ge (np := 33) (tgt := 67) G rfl rfl dX0_hasName_30 (by decide) rfl (fun h5 => ?_) (fun h5 => ?_)
    · have hm := b_t h5 hm
      exact hx67 v3 _ _ _ _ hm hM (lv_sub hl [3] rfl)
    · have hm := b_f h5 hm
      refine r_iload_n (np := 34) G hl 3 rfl dX0_hasName_33 rfl rfl ?_
      refine r_if_eq (np := 37) (tgt := 67) G rfl dX0_hasName_34 (by decide) rfl (fun h6 => ?_) (fun h6 => ?_)
      · have hm := b_t h6 hm
        exact hx67 v3 _ _ _ _ hm hM (lv_sub hl [3] rfl)
      · have hm := b_f h6 hm
        refine r_aload_n (np := 38) G hl 0 rfl dX0_hasName_37 rfl rfl ?_
        obtain ⟨r7, e8, hm⟩ := ref_t hm
        refine r_getR (np := 41) G hM (shp_lt g0 (by decide)) g0 e8 fdX0_5 lkX0_30 dX0_hasName_38 rfl ?_
        refine r_iload_n (np := 42) G hl 1 rfl dX0_hasName_41 rfl rfl ?_
        obtain ⟨g9, hm⟩ := g_t hm
        obtain ⟨r10, e11, hm⟩ := ref_t hm
        refine r_aaload (np := 43) G hM (t := 5) g9 rfl ⟨by decide, by decide⟩ rfl rfl e11 dX0_hasName_42 rfl ?_
        refine r_iload (np := 45) G hl 4 rfl dX0_hasName_43 rfl ?_
        obtain ⟨g12, hm⟩ := g_t hm
        refine r_baload (np := 46) G hM g12 rfl dX0_hasName_45 rfl ?_
        refine r_aload_n (np := 47) G hl 2 rfl dX0_hasName_46 rfl rfl ?_
        refine r_iload (np := 49) G hl 4 rfl dX0_hasName_47 rfl ?_
        obtain ⟨b13, s14, e15, hm⟩ := call_t hm
        refine m_callVI (np := 52) G hM hl.1 [vI v4] (qX10_byteAt l E σ v2 v4 _ e15) myX10_byteAt (shp_lt (gX10_byteAt e15) (by decide)) (gX10_byteAt e15) rfl (by decide) lkX0_51 ⟨Nat.le_of_ble_eq_true rfl, Nat.le_of_ble_eq_true rfl⟩ ⟨Nat.le_of_ble_eq_true rfl, Nat.le_of_ble_eq_true rfl⟩ [vI (σ r10 (wI v4).toNat)] rfl (Nat.le_of_ble_eq_true rfl) dX0_hasName_49 rfl (fun H locs hM => ?_)
        refine r_icmp_ne (np := 55) (tgt := 59) G rfl rfl dX0_hasName_52 (by decide) rfl (fun h16 => ?_) (fun h16 => ?_)
        · have hm := b_f h16 hm
          refine r_iconst (np := 60) G 0 dX0_hasName_59 rfl ?_
          refine r_istore_n (np := 61) G hl rfl [(3, vI 0), (0, .ref (eA E v0)), (1, vI v1), (2, .ref (eA E v2)), (4, vI v4)] dX0_hasName_60 rfl rfl (by decide) rfl (fun ls hl => ?_)
          obtain ⟨a17, e18, hm⟩ := bnd_t hm
          refine r_iinc (np := 64) G hl 4 rfl e18 [(4, vI a17), (3, vI 0), (0, .ref (eA E v0)), (1, vI v1), (2, .ref (eA E v2))] dX0_hasName_61 rfl (by decide) rfl (fun ls hl => ?_)
          refine r_goto (np := 22) G dX0_hasName_64 (by decide) ?_
          exact ih 0 a17 _ _ _ _ hm hM (lv_sub hl [2, 3, 4, 1, 0] rfl)
        · have hm := b_t h16 hm
          refine r_iconst (np := 56) G 1 dX0_hasName_55 rfl ?_
          refine r_goto (np := 60) G dX0_hasName_56 (by decide) ?_
          refine r_istore_n (np := 61) G hl rfl [(3, vI 1), (0, .ref (eA E v0)), (1, vI v1), (2, .ref (eA E v2)), (4, vI v4)] dX0_hasName_60 rfl rfl (by decide) rfl (fun ls hl => ?_)
          obtain ⟨a19, e20, hm⟩ := bnd_t hm
          refine r_iinc (np := 64) G hl 4 rfl e20 [(4, vI a19), (3, vI 1), (0, .ref (eA E v0)), (1, vI v1), (2, .ref (eA E v2))] dX0_hasName_61 rfl (by decide) rfl (fun ls hl => ?_)
          refine r_goto (np := 22) G dX0_hasName_64 (by decide) ?_
          exact ih 1 a19 _ _ _ _ hm hM (lv_sub hl [2, 3, 4, 1, 0] rfl)
set_option maxRecDepth 100000 in
set_option maxHeartbeats 4000000 in
theorem wX0_hasName_B18 (l : Launch) (E : mE) (out : Int × mSt) {p : Program} {e : Env} {s : State} {m : MethodId} {args : Array Value} {below : List Frame} {meth : Method} {c : Code} (G : CallFix p m c cX0_hasName 5 s args mTs RX0) (hr : meth.sig.returnType = (some .boolean)) (hk : meth.locks = false) (v0 : Nat) (v1 : Int) (v2 : Nat) (g0 : isC v0 0) : ∀ (t0 : Int) (σ : mSt) (H : Heap) (locs : List Loc) (ls : Array Slot), mX0_hasName_B18 v0 v1 v2 t0 σ = some out → mM (mA E 257) E 257 σ s H locs → lv_has ls 5 [(0, .ref (eA E v0)), (1, vI v1), (2, .ref (eA E v2))] → mGo l p e 1 21 s m args below meth c E (some (vI out.1)) out.2 H locs (F0 m 18 ls [vI t0]) := by
  intro t0 σ H locs ls hm hM hl
  unfold mX0_hasName_B18 at hm
  refine r_istore_n (np := 19) G hl rfl [(3, vI t0), (0, .ref (eA E v0)), (1, vI v1), (2, .ref (eA E v2))] dX0_hasName_18 rfl rfl (by decide) rfl (fun ls hl => ?_)
  refine r_iconst (np := 20) G 0 dX0_hasName_19 rfl ?_
  refine r_istore (np := 22) G hl rfl [(4, vI 0), (3, vI t0), (0, .ref (eA E v0)), (1, vI v1), (2, .ref (eA E v2))] dX0_hasName_20 rfl (by decide) rfl (fun ls hl => ?_)
  exact wX0_hasName_L22 l E out G hr hk v0 v1 v2 g0 (fun z3 zσ => mX0_hasName_B67 v0 v1 v2 z3 zσ) (fun z3 zσ zH zl zs zm zM zv => wX0_hasName_B67 l E out G hr hk v0 v1 v2 g0 z3 zσ zH zl zs zm zM zv) mF t0 0 _ _ _ _ hm hM (lv_sub hl [2, 3, 4, 1, 0] rfl)
set_option maxRecDepth 100000 in
set_option maxHeartbeats 4000000 in
theorem qX0_hasName (l : Launch) (E : mE) (σ : mSt) (v0 : Nat) (v1 : Int) (v2 : Nat) (out : Int × mSt) (hm : mX0_hasName v0 v1 v2 σ = some out) : mMet l yX0_hasName cX0_hasName 5 (some .boolean) 1 21 E 257 [.ref (eA E v0), vI v1, .ref (eA E v2)] σ (some (vI out.1)) out.2 := by
  unfold mX0_hasName at hm
  obtain ⟨g0, hm⟩ := g_t hm
  refine m_entry (by decide +kernel) (Nat.le_of_ble_eq_true rfl) (fun p e s m args below meth c G hr hk hM ls hl => ?_)
  have G : CallFix p m c cX0_hasName 5 s args mTs RX0 := G
  have hl : lv_has ls 5 [(0, .ref (eA E v0)), (1, vI v1), (2, .ref (eA E v2))] := hl
  refine r_aload_n (np := 1) G hl 0 rfl dX0_hasName_0 rfl rfl ?_
  obtain ⟨r21, e22, hm⟩ := ref_t hm
  refine r_getR (np := 4) G hM (shp_lt g0 (by decide)) g0 e22 fdX0_4 lkX0_25 dX0_hasName_1 rfl ?_
  refine r_iload_n (np := 5) G hl 1 rfl dX0_hasName_4 rfl rfl ?_
  obtain ⟨g23, hm⟩ := g_t hm
  refine r_iaload (np := 6) G hM g23 rfl dX0_hasName_5 rfl ?_
  refine r_aload_n (np := 7) G hl 2 rfl dX0_hasName_6 rfl rfl ?_
  obtain ⟨b24, s25, e26, hm⟩ := call_t hm
  refine m_callVI (np := 10) G hM hl.1 [] (qX10_length l E σ v2 _ e26) myX10_length (shp_lt (gX10_length e26) (by decide)) (gX10_length e26) rfl (by decide) lkX0_45 ⟨Nat.le_of_ble_eq_true rfl, Nat.le_of_ble_eq_true rfl⟩ ⟨Nat.le_of_ble_eq_true rfl, Nat.le_of_ble_eq_true rfl⟩ [vI (σ r21 (wI v1).toNat)] rfl (Nat.le_of_ble_eq_true rfl) dX0_hasName_7 rfl (fun H locs hM => ?_)
  refine r_icmp_ne (np := 13) (tgt := 17) G rfl rfl dX0_hasName_10 (by decide) rfl (fun h27 => ?_) (fun h27 => ?_)
  · have hm := b_f h27 hm
    refine r_iconst (np := 18) G 0 dX0_hasName_17 rfl ?_
    exact wX0_hasName_B18 l E out G hr hk v0 v1 v2 g0 0 _ _ _ _ hm hM (lv_sub hl [0, 1, 2] rfl)
  · have hm := b_t h27 hm
    refine r_iconst (np := 14) G 1 dX0_hasName_13 rfl ?_
    refine r_goto (np := 18) G dX0_hasName_14 (by decide) ?_
    exact wX0_hasName_B18 l E out G hr hk v0 v1 v2 g0 1 _ _ _ _ hm hM (lv_sub hl [0, 1, 2] rfl)
theorem gX0_hasName {v0 : Nat} {v1 : Int} {v2 : Nat} {σ : mSt} {out : Int × mSt} (hm : mX0_hasName v0 v1 v2 σ = some out) : isC v0 0 := (g_t hm).1
set_option maxRecDepth 100000 in
set_option maxHeartbeats 4000000 in
theorem wX0_find_B27 (l : Launch) (E : mE) (out : Int × mSt) {p : Program} {e : Env} {s : State} {m : MethodId} {args : Array Value} {below : List Frame} {meth : Method} {c : Code} (G : CallFix p m c cX0_find 3 s args mTs RX0) (hr : meth.sig.returnType = (some .int)) (hk : meth.locks = false) (v0 : Nat) (v1 : Nat) (g0 : isC v0 0) : ∀ (σ : mSt) (H : Heap) (locs : List Loc) (ls : Array Slot), mX0_find_B27 v0 v1 σ = some out → mM (mA E 257) E 257 σ s H locs → lv_has ls 3 [] → mGo l p e 2 45 s m args below meth c E (some (vI out.1)) out.2 H locs (F0 m 27 ls []) := by
  intro σ H locs ls hm hM hl
  unfold mX0_find_B27 at hm
  refine r_iconst (np := 28) G (-1) dX0_find_27 rfl ?_
  exact r_iret G hr hk hM hm dX0_find_28
set_option maxRecDepth 100000 in
set_option maxHeartbeats 4000000 in
theorem wX0_find_L2 (l : Launch) (E : mE) (out : Int × mSt) {p : Program} {e : Env} {s : State} {m : MethodId} {args : Array Value} {below : List Frame} {meth : Method} {c : Code} (G : CallFix p m c cX0_find 3 s args mTs RX0) (hr : meth.sig.returnType = (some .int)) (hk : meth.locks = false) (v0 : Nat) (v1 : Nat) (g0 : isC v0 0) (x27 : mSt → Option (Int × mSt)) (hx27 : ∀ (σ : mSt) (H : Heap) (locs : List Loc) (ls : Array Slot), x27 σ = some out → mM (mA E 257) E 257 σ s H locs → lv_has ls 3 [] → mGo l p e 2 45 s m args below meth c E (some (vI out.1)) out.2 H locs (F0 m 27 ls [])) : ∀ (n : Nat) (v2 : Int) (σ : mSt) (H : Heap) (locs : List Loc) (ls : Array Slot), mX0_find_L2 v0 v1 x27 n v2 σ = some out → mM (mA E 257) E 257 σ s H locs → lv_has ls 3 [(0, .ref (eA E v0)), (1, .ref (eA E v1)), (2, vI v2)] → mGo l p e 2 45 s m args below meth c E (some (vI out.1)) out.2 H locs (F0 m 2 ls []) := by
  intro n
  induction n with
  | zero =>
    intro v2 σ H locs ls hm hM hl
    exact absurd hm (by rw [mX0_find_L2.eq_1]; exact fun h => nomatch h)
  | succ n ih =>
    intro v2 σ H locs ls hm hM hl
    rw [mX0_find_L2.eq_2] at hm
    refine r_iload_n (np := 3) G hl 2 rfl dX0_find_2 rfl rfl ?_
    refine r_aload_n (np := 4) G hl 0 rfl dX0_find_3 rfl rfl ?_
    refine r_getI (np := 7) G hM (shp_lt g0 (by decide)) g0 fdX0_0 lkX0_9 dX0_find_4 rfl ?_
    refine r_icmp_ge (np := 10) (tgt := 27) G rfl rfl dX0_find_7 (by decide) rfl (fun h1 => ?_) (fun h1 => ?_)
    · have hm := b_t h1 hm
      exact hx27 _ _ _ _ hm hM (lv_sub hl [] rfl)
    · have hm := b_f h1 hm
      refine r_aload_n (np := 11) G hl 0 rfl dX0_find_10 rfl rfl ?_
      refine r_iload_n (np := 12) G hl 2 rfl dX0_find_11 rfl rfl ?_
      refine r_aload_n (np := 13) G hl 1 rfl dX0_find_12 rfl rfl ?_
      obtain ⟨b2, s3, e4, hm⟩ := call_t hm
      refine m_callVI (np := 16) G hM hl.1 [vI v2, .ref (eA E v1)] (qX0_hasName l E σ v0 v2 v1 _ e4) myX0_hasName (shp_lt (gX0_hasName e4) (by decide)) (gX0_hasName e4) rfl (by decide) lkX0_58 ⟨Nat.le_of_ble_eq_true rfl, Nat.le_of_ble_eq_true rfl⟩ ⟨Nat.le_of_ble_eq_true rfl, Nat.le_of_ble_eq_true rfl⟩ [] rfl (Nat.le_of_ble_eq_true rfl) dX0_find_13 rfl (fun H locs hM => ?_)
      refine r_if_eq (np := 19) (tgt := 21) G rfl dX0_find_16 (by decide) rfl (fun h5 => ?_) (fun h5 => ?_)
      · have hm := b_t h5 hm
        obtain ⟨a6, e7, hm⟩ := bnd_t hm
        refine r_iinc (np := 24) G hl 2 rfl e7 [(2, vI a6), (0, .ref (eA E v0)), (1, .ref (eA E v1))] dX0_find_21 rfl (by decide) rfl (fun ls hl => ?_)
        refine r_goto (np := 2) G dX0_find_24 (by decide) ?_
        exact ih a6 _ _ _ _ hm hM (lv_sub hl [1, 2, 0] rfl)
      · have hm := b_f h5 hm
        refine r_iload_n (np := 20) G hl 2 rfl dX0_find_19 rfl rfl ?_
        exact r_iret G hr hk hM hm dX0_find_20
set_option maxRecDepth 100000 in
set_option maxHeartbeats 4000000 in
theorem qX0_find (l : Launch) (E : mE) (σ : mSt) (v0 : Nat) (v1 : Nat) (out : Int × mSt) (hm : mX0_find v0 v1 σ = some out) : mMet l yX0_find cX0_find 3 (some .int) 2 45 E 257 [.ref (eA E v0), .ref (eA E v1)] σ (some (vI out.1)) out.2 := by
  unfold mX0_find at hm
  obtain ⟨g0, hm⟩ := g_t hm
  refine m_entry (by decide +kernel) (Nat.le_of_ble_eq_true rfl) (fun p e s m args below meth c G hr hk hM ls hl => ?_)
  have G : CallFix p m c cX0_find 3 s args mTs RX0 := G
  have hl : lv_has ls 3 [(0, .ref (eA E v0)), (1, .ref (eA E v1))] := hl
  refine r_iconst (np := 1) G 0 dX0_find_0 rfl ?_
  refine r_istore_n (np := 2) G hl rfl [(2, vI 0), (0, .ref (eA E v0)), (1, .ref (eA E v1))] dX0_find_1 rfl rfl (by decide) rfl (fun ls hl => ?_)
  exact wX0_find_L2 l E out G hr hk v0 v1 g0 (fun zσ => mX0_find_B27 v0 v1 zσ) (fun zσ zH zl zs zm zM zv => wX0_find_B27 l E out G hr hk v0 v1 g0 zσ zH zl zs zm zM zv) mF 0 _ _ _ _ hm hM (lv_sub hl [1, 2, 0] rfl)
theorem gX0_find {v0 : Nat} {v1 : Nat} {σ : mSt} {out : Int × mSt} (hm : mX0_find v0 v1 σ = some out) : isC v0 0 := (g_t hm).1
set_option maxRecDepth 100000 in
set_option maxHeartbeats 4000000 in
theorem qX1_drop (l : Launch) (E : mE) (σ : mSt) (v0 : Nat) (out : Int × mSt) (hm : mX1_drop v0 σ = some out) : mMet l yX1_drop cX1_drop 1 none 0 0 E 257 [.ref (eA E v0)] σ none out.2 := by
  unfold mX1_drop at hm
  obtain ⟨g0, hm⟩ := g_t hm
  refine m_entry (by decide +kernel) (Nat.le_of_ble_eq_true rfl) (fun p e s m args below meth c G hr hk hM ls hl => ?_)
  have G : CallFix p m c cX1_drop 1 s args mTs RX1 := G
  have hl : lv_has ls 1 [(0, .ref (eA E v0))] := hl
  refine r_aload_n (np := 1) G hl 0 rfl dX1_drop_0 rfl rfl ?_
  refine r_iconst (np := 2) G (-1) dX1_drop_1 rfl ?_
  obtain ⟨s1, e2, hm⟩ := bnd_t hm
  refine r_putI (np := 5) G hM (shp_lt g0 (by decide)) g0 ptX1_2 rfl lkX1_19 s1 e2 dX1_drop_2 rfl (fun H locs hM => ?_)
  exact r_vret G hr hk hM hm dX1_drop_5
theorem gX1_drop {v0 : Nat} {σ : mSt} {out : Int × mSt} (hm : mX1_drop v0 σ = some out) : isC v0 1 := (g_t hm).1
set_option maxRecDepth 100000 in
set_option maxHeartbeats 4000000 in
theorem wX3_begin_B53 (l : Launch) (E : mE) (out : Int × mSt) {p : Program} {e : Env} {s : State} {m : MethodId} {args : Array Value} {below : List Frame} {meth : Method} {c : Code} (G : CallFix p m c cX3_begin 5 s args mTs RX3) (hr : meth.sig.returnType = none) (hk : meth.locks = false) (v0 : Nat) (v1 : Int) (g0 : isC v0 3) : ∀ (σ : mSt) (H : Heap) (locs : List Loc) (ls : Array Slot), mX3_begin_B53 v0 v1 σ = some out → mM (mA E 257) E 257 σ s H locs → lv_has ls 5 [] → mGo l p e 0 0 s m args below meth c E none out.2 H locs (F0 m 53 ls []) := by
  intro σ H locs ls hm hM hl
  unfold mX3_begin_B53 at hm
  exact r_vret G hr hk hM hm dX3_begin_53
set_option maxRecDepth 100000 in
set_option maxHeartbeats 4000000 in
theorem wX3_begin_B47 (l : Launch) (E : mE) (out : Int × mSt) {p : Program} {e : Env} {s : State} {m : MethodId} {args : Array Value} {below : List Frame} {meth : Method} {c : Code} (G : CallFix p m c cX3_begin 5 s args mTs RX3) (hr : meth.sig.returnType = none) (hk : meth.locks = false) (v0 : Nat) (v1 : Int) (g0 : isC v0 3) (c7 : Int → mSt → Option (Int × mSt)) (x53 : mSt → Option (Int × mSt)) (hc7 : ∀ (v3 : Int) (σ : mSt) (H : Heap) (locs : List Loc) (ls : Array Slot), c7 v3 σ = some out → mM (mA E 257) E 257 σ s H locs → lv_has ls 5 [(0, .ref (eA E v0)), (1, vL v1), (3, vI v3)] → mGo l p e 0 0 s m args below meth c E none out.2 H locs (F0 m 7 ls [])) (hx53 : ∀ (σ : mSt) (H : Heap) (locs : List Loc) (ls : Array Slot), x53 σ = some out → mM (mA E 257) E 257 σ s H locs → lv_has ls 5 [] → mGo l p e 0 0 s m args below meth c E none out.2 H locs (F0 m 53 ls [])) : ∀ (v3 : Int) (σ : mSt) (H : Heap) (locs : List Loc) (ls : Array Slot), mX3_begin_B47 v0 v1 c7 x53 v3 σ = some out → mM (mA E 257) E 257 σ s H locs → lv_has ls 5 [(0, .ref (eA E v0)), (1, vL v1), (3, vI v3)] → mGo l p e 0 0 s m args below meth c E none out.2 H locs (F0 m 47 ls []) := by
  intro v3 σ H locs ls hm hM hl
  unfold mX3_begin_B47 at hm
  obtain ⟨a1, e2, hm⟩ := bnd_t hm
  refine r_iinc (np := 50) G hl 2 rfl e2 [(3, vI a1), (0, .ref (eA E v0)), (1, vL v1)] dX3_begin_47 rfl (by decide) rfl (fun ls hl => ?_)
  refine r_goto (np := 7) G dX3_begin_50 (by decide) ?_
  exact hc7 a1 _ _ _ _ hm hM (lv_sub hl [1, 2, 0] rfl)
set_option maxRecDepth 100000 in
set_option maxHeartbeats 4000000 in
theorem wX3_begin_L15 (l : Launch) (E : mE) (out : Int × mSt) {p : Program} {e : Env} {s : State} {m : MethodId} {args : Array Value} {below : List Frame} {meth : Method} {c : Code} (G : CallFix p m c cX3_begin 5 s args mTs RX3) (hr : meth.sig.returnType = none) (hk : meth.locks = false) (v0 : Nat) (v1 : Int) (v3 : Int) (g0 : isC v0 3) (x47 : mSt → Option (Int × mSt)) (hx47 : ∀ (σ : mSt) (H : Heap) (locs : List Loc) (ls : Array Slot), x47 σ = some out → mM (mA E 257) E 257 σ s H locs → lv_has ls 5 [(0, .ref (eA E v0)), (1, vL v1), (3, vI v3)] → mGo l p e 0 0 s m args below meth c E none out.2 H locs (F0 m 47 ls [])) : ∀ (n : Nat) (v4 : Int) (σ : mSt) (H : Heap) (locs : List Loc) (ls : Array Slot), mX3_begin_L15 v0 v1 v3 x47 n v4 σ = some out → mM (mA E 257) E 257 σ s H locs → lv_has ls 5 [(0, .ref (eA E v0)), (1, vL v1), (3, vI v3), (4, vI v4)] → mGo l p e 0 0 s m args below meth c E none out.2 H locs (F0 m 15 ls []) := by
  intro n
  induction n with
  | zero =>
    intro v4 σ H locs ls hm hM hl
    exact absurd hm (by rw [mX3_begin_L15.eq_1]; exact fun h => nomatch h)
  | succ n ih =>
    intro v4 σ H locs ls hm hM hl
    rw [mX3_begin_L15.eq_2] at hm
    refine r_iload (np := 17) G hl 3 rfl dX3_begin_15 rfl ?_
    refine r_iconst (np := 18) G 4 dX3_begin_17 rfl ?_
    refine r_icmp_ge (np := 21) (tgt := 47) G rfl (wIk 4 rfl) dX3_begin_18 (by decide) rfl (fun h3 => ?_) (fun h3 => ?_)
    · have hm := b_t h3 hm
      exact hx47 _ _ _ _ hm hM (lv_sub hl [0, 1, 2] rfl)
    · have hm := b_f h3 hm
      refine r_aload_n (np := 22) G hl 0 rfl dX3_begin_21 rfl rfl ?_
      obtain ⟨r4, e5, hm⟩ := ref_t hm
      refine r_getR (np := 25) G hM (shp_lt g0 (by decide)) g0 e5 fdX3_0 lkX3_9 dX3_begin_22 rfl ?_
      refine r_iload_n (np := 26) G hl 2 rfl dX3_begin_25 rfl rfl ?_
      obtain ⟨g6, hm⟩ := g_t hm
      obtain ⟨r7, e8, hm⟩ := ref_t hm
      refine r_aaload (np := 27) G hM (t := 7) g6 rfl ⟨by decide, by decide⟩ rfl rfl e8 dX3_begin_26 rfl ?_
      refine r_iload (np := 29) G hl 3 rfl dX3_begin_27 rfl ?_
      refine r_iload_n (np := 30) G hl 2 rfl dX3_begin_29 rfl rfl ?_
      refine r_iload (np := 32) G hl 3 rfl dX3_begin_30 rfl ?_
      refine r_icmp_ne (np := 35) (tgt := 39) G rfl rfl dX3_begin_32 (by decide) rfl (fun h9 => ?_) (fun h9 => ?_)
      · have hm := b_f h9 hm
        refine r_lconst (np := 40) G 0 dX3_begin_39 rfl rfl ?_
        obtain ⟨g10, hm⟩ := g_t hm
        obtain ⟨s11, e12, hm⟩ := bnd_t hm
        refine r_lastore (np := 41) G hM g10 rfl s11 e12 dX3_begin_40 rfl (fun H locs hM => ?_)
        obtain ⟨a13, e14, hm⟩ := bnd_t hm
        refine r_iinc (np := 44) G hl 3 rfl e14 [(4, vI a13), (0, .ref (eA E v0)), (1, vL v1), (3, vI v3)] dX3_begin_41 rfl (by decide) rfl (fun ls hl => ?_)
        refine r_goto (np := 15) G dX3_begin_44 (by decide) ?_
        exact ih a13 _ _ _ _ hm hM (lv_sub hl [1, 2, 3, 0] rfl)
      · have hm := b_t h9 hm
        refine r_lload_n (np := 36) G hl 1 rfl dX3_begin_35 rfl rfl ?_
        refine r_goto (np := 40) G dX3_begin_36 (by decide) ?_
        obtain ⟨g15, hm⟩ := g_t hm
        obtain ⟨s16, e17, hm⟩ := bnd_t hm
        refine r_lastore (np := 41) G hM g15 rfl s16 e17 dX3_begin_40 rfl (fun H locs hM => ?_)
        obtain ⟨a18, e19, hm⟩ := bnd_t hm
        refine r_iinc (np := 44) G hl 3 rfl e19 [(4, vI a18), (0, .ref (eA E v0)), (1, vL v1), (3, vI v3)] dX3_begin_41 rfl (by decide) rfl (fun ls hl => ?_)
        refine r_goto (np := 15) G dX3_begin_44 (by decide) ?_
        exact ih a18 _ _ _ _ hm hM (lv_sub hl [1, 2, 3, 0] rfl)
set_option maxRecDepth 100000 in
set_option maxHeartbeats 4000000 in
theorem wX3_begin_L7 (l : Launch) (E : mE) (out : Int × mSt) {p : Program} {e : Env} {s : State} {m : MethodId} {args : Array Value} {below : List Frame} {meth : Method} {c : Code} (G : CallFix p m c cX3_begin 5 s args mTs RX3) (hr : meth.sig.returnType = none) (hk : meth.locks = false) (v0 : Nat) (v1 : Int) (g0 : isC v0 3) (x53 : mSt → Option (Int × mSt)) (hx53 : ∀ (σ : mSt) (H : Heap) (locs : List Loc) (ls : Array Slot), x53 σ = some out → mM (mA E 257) E 257 σ s H locs → lv_has ls 5 [] → mGo l p e 0 0 s m args below meth c E none out.2 H locs (F0 m 53 ls [])) : ∀ (n : Nat) (v3 : Int) (σ : mSt) (H : Heap) (locs : List Loc) (ls : Array Slot), mX3_begin_L7 v0 v1 x53 n v3 σ = some out → mM (mA E 257) E 257 σ s H locs → lv_has ls 5 [(0, .ref (eA E v0)), (1, vL v1), (3, vI v3)] → mGo l p e 0 0 s m args below meth c E none out.2 H locs (F0 m 7 ls []) := by
  intro n
  induction n with
  | zero =>
    intro v3 σ H locs ls hm hM hl
    exact absurd hm (by rw [mX3_begin_L7.eq_1]; exact fun h => nomatch h)
  | succ n ih =>
    intro v3 σ H locs ls hm hM hl
    rw [mX3_begin_L7.eq_2] at hm
    refine r_iload_n (np := 8) G hl 2 rfl dX3_begin_7 rfl rfl ?_
    refine r_iconst (np := 9) G 4 dX3_begin_8 rfl ?_
    refine r_icmp_ge (np := 12) (tgt := 53) G rfl (wIk 4 rfl) dX3_begin_9 (by decide) rfl (fun h20 => ?_) (fun h20 => ?_)
    · have hm := b_t h20 hm
      exact hx53 _ _ _ _ hm hM (lv_sub hl [] rfl)
    · have hm := b_f h20 hm
      refine r_iconst (np := 13) G 0 dX3_begin_12 rfl ?_
      refine r_istore (np := 15) G hl rfl [(4, vI 0), (0, .ref (eA E v0)), (1, vL v1), (3, vI v3)] dX3_begin_13 rfl (by decide) rfl (fun ls hl => ?_)
      exact wX3_begin_L15 l E out G hr hk v0 v1 v3 g0 (fun zσ => mX3_begin_B47 v0 v1 (mX3_begin_L7 v0 v1 x53 n) x53 v3 zσ) (fun zσ zH zl zs zm zM zv => wX3_begin_B47 l E out G hr hk v0 v1 g0 (mX3_begin_L7 v0 v1 x53 n) x53 ih hx53 v3 zσ zH zl zs zm zM zv) mF 0 _ _ _ _ hm hM (lv_sub hl [1, 2, 3, 0] rfl)
set_option maxRecDepth 100000 in
set_option maxHeartbeats 4000000 in
theorem qX3_begin (l : Launch) (E : mE) (σ : mSt) (v0 : Nat) (v1 : Int) (out : Int × mSt) (hm : mX3_begin v0 v1 σ = some out) : mMet l yX3_begin cX3_begin 5 none 0 0 E 257 [.ref (eA E v0), vL v1] σ none out.2 := by
  unfold mX3_begin at hm
  obtain ⟨g0, hm⟩ := g_t hm
  refine m_entry (by decide +kernel) (Nat.le_of_ble_eq_true rfl) (fun p e s m args below meth c G hr hk hM ls hl => ?_)
  have G : CallFix p m c cX3_begin 5 s args mTs RX3 := G
  have hl : lv_has ls 5 [(0, .ref (eA E v0)), (1, vL v1)] := hl
  refine r_aload_n (np := 1) G hl 0 rfl dX3_begin_0 rfl rfl ?_
  refine r_lload_n (np := 2) G hl 1 rfl dX3_begin_1 rfl rfl ?_
  obtain ⟨s21, e22, hm⟩ := bnd_t hm
  refine r_putL (np := 5) G hM (shp_lt g0 (by decide)) g0 ptX3_2 rfl lkX3_18 s21 e22 dX3_begin_2 rfl (fun H locs hM => ?_)
  refine r_iconst (np := 6) G 0 dX3_begin_5 rfl ?_
  refine r_istore_n (np := 7) G hl rfl [(3, vI 0), (0, .ref (eA E v0)), (1, vL v1)] dX3_begin_6 rfl rfl (by decide) rfl (fun ls hl => ?_)
  exact wX3_begin_L7 l E out G hr hk v0 v1 g0 (fun zσ => mX3_begin_B53 v0 v1 zσ) (fun zσ zH zl zs zm zM zv => wX3_begin_B53 l E out G hr hk v0 v1 g0 zσ zH zl zs zm zM zv) mF 0 _ _ _ _ hm hM (lv_sub hl [1, 2, 0] rfl)
theorem gX3_begin {v0 : Nat} {v1 : Int} {σ : mSt} {out : Int × mSt} (hm : mX3_begin v0 v1 σ = some out) : isC v0 3 := (g_t hm).1
set_option maxRecDepth 100000 in
set_option maxHeartbeats 4000000 in
theorem wX3_lotsByWhole_B45 (l : Launch) (E : mE) (out : Int × mSt) {p : Program} {e : Env} {s : State} {m : MethodId} {args : Array Value} {below : List Frame} {meth : Method} {c : Code} (G : CallFix p m c cX3_lotsByWhole 6 s args mTs RX3) (hr : meth.sig.returnType = (some .long)) (hk : meth.locks = false) (v0 : Nat) (v1 : Int) (g0 : isC v0 3) : ∀ (v3 : Int) (σ : mSt) (H : Heap) (locs : List Loc) (ls : Array Slot), mX3_lotsByWhole_B45 v0 v1 v3 σ = some out → mM (mA E 257) E 257 σ s H locs → lv_has ls 6 [(3, vL v3)] → mGo l p e 2 48 s m args below meth c E (some (vL out.1)) out.2 H locs (F0 m 45 ls []) := by
  intro v3 σ H locs ls hm hM hl
  unfold mX3_lotsByWhole_B45 at hm
  refine r_lload_n (np := 46) G hl 0 rfl dX3_lotsByWhole_45 rfl rfl ?_
  exact r_lret G hr hk hM hm dX3_lotsByWhole_46
set_option maxRecDepth 100000 in
set_option maxHeartbeats 4000000 in
theorem wX3_lotsByWhole_L5 (l : Launch) (E : mE) (out : Int × mSt) {p : Program} {e : Env} {s : State} {m : MethodId} {args : Array Value} {below : List Frame} {meth : Method} {c : Code} (G : CallFix p m c cX3_lotsByWhole 6 s args mTs RX3) (hr : meth.sig.returnType = (some .long)) (hk : meth.locks = false) (v0 : Nat) (v1 : Int) (g0 : isC v0 3) (x45 : Int → mSt → Option (Int × mSt)) (hx45 : ∀ (v3 : Int) (σ : mSt) (H : Heap) (locs : List Loc) (ls : Array Slot), x45 v3 σ = some out → mM (mA E 257) E 257 σ s H locs → lv_has ls 6 [(3, vL v3)] → mGo l p e 2 48 s m args below meth c E (some (vL out.1)) out.2 H locs (F0 m 45 ls [])) : ∀ (n : Nat) (v3 : Int) (v5 : Int) (σ : mSt) (H : Heap) (locs : List Loc) (ls : Array Slot), mX3_lotsByWhole_L5 v0 v1 x45 n v3 v5 σ = some out → mM (mA E 257) E 257 σ s H locs → lv_has ls 6 [(0, .ref (eA E v0)), (1, vL v1), (3, vL v3), (5, vI v5)] → mGo l p e 2 48 s m args below meth c E (some (vL out.1)) out.2 H locs (F0 m 5 ls []) := by
  intro n
  induction n with
  | zero =>
    intro v3 v5 σ H locs ls hm hM hl
    exact absurd hm (by rw [mX3_lotsByWhole_L5.eq_1]; exact fun h => nomatch h)
  | succ n ih =>
    intro v3 v5 σ H locs ls hm hM hl
    rw [mX3_lotsByWhole_L5.eq_2] at hm
    refine r_iload (np := 7) G hl 3 rfl dX3_lotsByWhole_5 rfl ?_
    refine r_iconst (np := 8) G 4 dX3_lotsByWhole_7 rfl ?_
    refine r_icmp_ge (np := 11) (tgt := 45) G rfl (wIk 4 rfl) dX3_lotsByWhole_8 (by decide) rfl (fun h1 => ?_) (fun h1 => ?_)
    · have hm := b_t h1 hm
      exact hx45 v3 _ _ _ _ hm hM (lv_sub hl [2] rfl)
    · have hm := b_f h1 hm
      refine r_lload_n (np := 12) G hl 2 rfl dX3_lotsByWhole_11 rfl rfl ?_
      refine r_aload_n (np := 13) G hl 0 rfl dX3_lotsByWhole_12 rfl rfl ?_
      refine r_getL (np := 16) G hM (shp_lt g0 (by decide)) g0 fdX3_2 lkX3_18 dX3_lotsByWhole_13 rfl ?_
      refine r_aload_n (np := 17) G hl 0 rfl dX3_lotsByWhole_16 rfl rfl ?_
      obtain ⟨r2, e3, hm⟩ := ref_t hm
      refine r_getR (np := 20) G hM (shp_lt g0 (by decide)) g0 e3 fdX3_0 lkX3_9 dX3_lotsByWhole_17 rfl ?_
      refine r_iload (np := 22) G hl 3 rfl dX3_lotsByWhole_20 rfl ?_
      obtain ⟨g4, hm⟩ := g_t hm
      obtain ⟨r5, e6, hm⟩ := ref_t hm
      refine r_aaload (np := 23) G hM (t := 7) g4 rfl ⟨by decide, by decide⟩ rfl rfl e6 dX3_lotsByWhole_22 rfl ?_
      refine r_iload (np := 25) G hl 3 rfl dX3_lotsByWhole_23 rfl ?_
      obtain ⟨g7, hm⟩ := g_t hm
      refine r_laload (np := 26) G hM g7 rfl dX3_lotsByWhole_25 rfl ?_
      obtain ⟨b8, s9, e10, hm⟩ := call_t hm
      refine m_callSL (np := 29) G hM hl.1 [vL (σ v0 2), vL (σ r5 (wI v5).toNat)] (qX5_quotient l E σ (σ v0 2) (σ r5 (wI v5).toNat) _ e10) myX5_quotient lkX3_28 ⟨Nat.le_of_ble_eq_true rfl, Nat.le_of_ble_eq_true rfl⟩ ⟨Nat.le_of_ble_eq_true rfl, Nat.le_of_ble_eq_true rfl⟩ [vL v3] rfl (Nat.le_of_ble_eq_true rfl) dX3_lotsByWhole_26 rfl (fun H locs hM => ?_)
      refine r_lmul (np := 30) G dX3_lotsByWhole_29 rfl ?_
      obtain ⟨a11, e12, hm⟩ := bnd_t hm
      refine r_lstore_n (np := 31) G hl e12 [(3, vL a11), (0, .ref (eA E v0)), (1, vL v1), (5, vI v5)] dX3_lotsByWhole_30 rfl rfl (by decide) rfl (fun ls hl => ?_)
      refine r_lload_n (np := 32) G hl 0 rfl dX3_lotsByWhole_31 rfl rfl ?_
      refine r_lload_n (np := 33) G hl 2 rfl dX3_lotsByWhole_32 rfl rfl ?_
      refine r_lcmp_le (np := 37) (tgt := 39) G rfl rfl dX3_lotsByWhole_33 dX3_lotsByWhole_34 (by decide) rfl (fun h13 => ?_) (fun h13 => ?_)
      · have hm := b_t h13 hm
        obtain ⟨a14, e15, hm⟩ := bnd_t hm
        refine r_iinc (np := 42) G hl 3 rfl e15 [(5, vI a14), (3, vL a11), (0, .ref (eA E v0)), (1, vL v1)] dX3_lotsByWhole_39 rfl (by decide) rfl (fun ls hl => ?_)
        refine r_goto (np := 5) G dX3_lotsByWhole_42 (by decide) ?_
        exact ih a11 a14 _ _ _ _ hm hM (lv_sub hl [2, 3, 1, 0] rfl)
      · have hm := b_f h13 hm
        refine r_lconst (np := 38) G 0 dX3_lotsByWhole_37 rfl rfl ?_
        exact r_lret G hr hk hM hm dX3_lotsByWhole_38
set_option maxRecDepth 100000 in
set_option maxHeartbeats 4000000 in
theorem qX3_lotsByWhole (l : Launch) (E : mE) (σ : mSt) (v0 : Nat) (v1 : Int) (out : Int × mSt) (hm : mX3_lotsByWhole v0 v1 σ = some out) : mMet l yX3_lotsByWhole cX3_lotsByWhole 6 (some .long) 2 48 E 257 [.ref (eA E v0), vL v1] σ (some (vL out.1)) out.2 := by
  unfold mX3_lotsByWhole at hm
  obtain ⟨g0, hm⟩ := g_t hm
  refine m_entry (by decide +kernel) (Nat.le_of_ble_eq_true rfl) (fun p e s m args below meth c G hr hk hM ls hl => ?_)
  have G : CallFix p m c cX3_lotsByWhole 6 s args mTs RX3 := G
  have hl : lv_has ls 6 [(0, .ref (eA E v0)), (1, vL v1)] := hl
  refine r_lconst (np := 1) G 1 dX3_lotsByWhole_0 rfl rfl ?_
  refine r_lstore_n (np := 2) G hl rfl [(3, vL 1), (0, .ref (eA E v0)), (1, vL v1)] dX3_lotsByWhole_1 rfl rfl (by decide) rfl (fun ls hl => ?_)
  refine r_iconst (np := 3) G 0 dX3_lotsByWhole_2 rfl ?_
  refine r_istore (np := 5) G hl rfl [(5, vI 0), (3, vL 1), (0, .ref (eA E v0)), (1, vL v1)] dX3_lotsByWhole_3 rfl (by decide) rfl (fun ls hl => ?_)
  exact wX3_lotsByWhole_L5 l E out G hr hk v0 v1 g0 (fun z3 zσ => mX3_lotsByWhole_B45 v0 v1 z3 zσ) (fun z3 zσ zH zl zs zm zM zv => wX3_lotsByWhole_B45 l E out G hr hk v0 v1 g0 z3 zσ zH zl zs zm zM zv) mF 1 0 _ _ _ _ hm hM (lv_sub hl [2, 3, 1, 0] rfl)
theorem gX3_lotsByWhole {v0 : Nat} {v1 : Int} {σ : mSt} {out : Int × mSt} (hm : mX3_lotsByWhole v0 v1 σ = some out) : isC v0 3 := (g_t hm).1
set_option maxRecDepth 100000 in
set_option maxHeartbeats 4000000 in
theorem qX6_begin (l : Launch) (E : mE) (σ : mSt) (v0 : Nat) (v1 : Int) (v3 : Int) (out : Int × mSt) (hm : mX6_begin v0 v1 v3 σ = some out) : mMet l yX6_begin cX6_begin 5 none 1 24 E 257 [.ref (eA E v0), vL v1, vL v3] σ none out.2 := by
  unfold mX6_begin at hm
  obtain ⟨g0, hm⟩ := g_t hm
  refine m_entry (by decide +kernel) (Nat.le_of_ble_eq_true rfl) (fun p e s m args below meth c G hr hk hM ls hl => ?_)
  have G : CallFix p m c cX6_begin 5 s args mTs RX6 := G
  have hl : lv_has ls 5 [(0, .ref (eA E v0)), (1, vL v1), (3, vL v3)] := hl
  refine r_aload_n (np := 1) G hl 0 rfl dX6_begin_0 rfl rfl ?_
  refine r_lload_n (np := 2) G hl 1 rfl dX6_begin_1 rfl rfl ?_
  obtain ⟨s1, e2, hm⟩ := bnd_t hm
  refine r_putL (np := 5) G hM (shp_lt g0 (by decide)) g0 ptX6_0 rfl lkX6_7 s1 e2 dX6_begin_2 rfl (fun H locs hM => ?_)
  refine r_aload_n (np := 6) G hl 0 rfl dX6_begin_5 rfl rfl ?_
  refine r_lload_n (np := 7) G hl 2 rfl dX6_begin_6 rfl rfl ?_
  obtain ⟨s3, e4, hm⟩ := bnd_t hm
  refine r_putL (np := 10) G hM (shp_lt g0 (by decide)) g0 ptX6_1 rfl lkX6_13 s3 e4 dX6_begin_7 rfl (fun H locs hM => ?_)
  refine r_aload_n (np := 11) G hl 0 rfl dX6_begin_10 rfl rfl ?_
  obtain ⟨r5, e6, hm⟩ := ref_t hm
  refine r_getR (np := 14) G hM (shp_lt g0 (by decide)) g0 e6 fdX6_2 lkX6_19 dX6_begin_11 rfl ?_
  refine r_lconst (np := 15) G 1 dX6_begin_14 rfl rfl ?_
  obtain ⟨b7, s8, e9, hm⟩ := call_t hm
  refine m_callVV (np := 18) G hM hl.1 [vL 1] (qX3_begin l E s3 r5 1 _ e9) myX3_begin (shp_lt (gX3_begin e9) (by decide)) (gX3_begin e9) rfl (by decide) lkX6_27 ⟨Nat.le_of_ble_eq_true rfl, Nat.le_of_ble_eq_true rfl⟩ ⟨Nat.le_of_ble_eq_true rfl, Nat.le_of_ble_eq_true rfl⟩ [] rfl (Nat.le_of_ble_eq_true rfl) dX6_begin_15 rfl (fun H locs hM => ?_)
  exact r_vret G hr hk hM hm dX6_begin_18
theorem gX6_begin {v0 : Nat} {v1 : Int} {v3 : Int} {σ : mSt} {out : Int × mSt} (hm : mX6_begin v0 v1 v3 σ = some out) : isC v0 5 := (g_t hm).1
set_option maxRecDepth 100000 in
set_option maxHeartbeats 4000000 in
theorem qX6_discriminantOf (l : Launch) (E : mE) (σ : mSt) (v0 : Nat) (v1 : Nat) (out : Int × mSt) (hm : mX6_discriminantOf v0 v1 σ = some out) : mMet l yX6_discriminantOf cX6_discriminantOf 6 (some .long) 3 73 E 257 [.ref (eA E v0), .ref (eA E v1)] σ (some (vL out.1)) out.2 := by
  unfold mX6_discriminantOf at hm
  obtain ⟨g0, hm⟩ := g_t hm
  refine m_entry (by decide +kernel) (Nat.le_of_ble_eq_true rfl) (fun p e s m args below meth c G hr hk hM ls hl => ?_)
  have G : CallFix p m c cX6_discriminantOf 6 s args mTs RX6 := G
  have hl : lv_has ls 6 [(0, .ref (eA E v0)), (1, .ref (eA E v1))] := hl
  refine r_ldc2 (np := 3) G 4 dX6_discriminantOf_0 lkX6_43 rfl rfl ?_
  refine r_aload_n (np := 4) G hl 0 rfl dX6_discriminantOf_3 rfl rfl ?_
  refine r_getL (np := 7) G hM (shp_lt g0 (by decide)) g0 fdX6_0 lkX6_7 dX6_discriminantOf_4 rfl ?_
  refine r_lmul (np := 8) G dX6_discriminantOf_7 rfl ?_
  refine r_aload_n (np := 9) G hl 0 rfl dX6_discriminantOf_8 rfl rfl ?_
  refine r_getL (np := 12) G hM (shp_lt g0 (by decide)) g0 fdX6_1 lkX6_13 dX6_discriminantOf_9 rfl ?_
  refine r_lmul (np := 13) G dX6_discriminantOf_12 rfl ?_
  obtain ⟨b1, s2, e3, hm⟩ := call_t hm
  refine m_callSL (np := 16) G hM hl.1 [vL ((4 * (σ v0 0)) * (σ v0 1))] (qJ9_abs_067f4 l E σ ((4 * (σ v0 0)) * (σ v0 1)) _ e3) myJ9_abs_067f4 lkX6_45 ⟨Nat.le_of_ble_eq_true rfl, Nat.le_of_ble_eq_true rfl⟩ ⟨Nat.le_of_ble_eq_true rfl, Nat.le_of_ble_eq_true rfl⟩ [] rfl (Nat.le_of_ble_eq_true rfl) dX6_discriminantOf_13 rfl (fun H locs hM => ?_)
  refine r_lstore_n (np := 17) G hl rfl [(2, vL b1), (0, .ref (eA E v0)), (1, .ref (eA E v1))] dX6_discriminantOf_16 rfl rfl (by decide) rfl (fun ls hl => ?_)
  refine r_aload_n (np := 18) G hl 2 rfl dX6_discriminantOf_17 rfl rfl ?_
  refine r_lload_n (np := 19) G hl 0 rfl dX6_discriminantOf_18 rfl rfl ?_
  obtain ⟨b4, s5, e6, hm⟩ := call_t hm
  refine m_callVL (np := 22) G hM hl.1 [vL b1] (qX3_lotsByWhole l E s2 v1 b1 _ e6) myX3_lotsByWhole (shp_lt (gX3_lotsByWhole e6) (by decide)) (gX3_lotsByWhole e6) rfl (by decide) lkX6_51 ⟨Nat.le_of_ble_eq_true rfl, Nat.le_of_ble_eq_true rfl⟩ ⟨Nat.le_of_ble_eq_true rfl, Nat.le_of_ble_eq_true rfl⟩ [] rfl (Nat.le_of_ble_eq_true rfl) dX6_discriminantOf_19 rfl (fun H locs hM => ?_)
  refine r_lstore (np := 24) G hl rfl [(4, vL b4), (2, vL b1), (0, .ref (eA E v0)), (1, .ref (eA E v1))] dX6_discriminantOf_22 rfl (by decide) rfl (fun ls hl => ?_)
  refine r_lload (np := 26) G hl 0 rfl dX6_discriminantOf_24 rfl ?_
  refine r_lload_n (np := 27) G hl 1 rfl dX6_discriminantOf_26 rfl rfl ?_
  obtain ⟨b7, s8, e9, hm⟩ := call_t hm
  refine m_callSI (np := 30) G hM hl.1 [vL b4, vL b1] (qX5_divides l E s5 b4 b1 _ e9) myX5_divides lkX6_54 ⟨Nat.le_of_ble_eq_true rfl, Nat.le_of_ble_eq_true rfl⟩ ⟨Nat.le_of_ble_eq_true rfl, Nat.le_of_ble_eq_true rfl⟩ [] rfl (Nat.le_of_ble_eq_true rfl) dX6_discriminantOf_27 rfl (fun H locs hM => ?_)
  refine r_if_eq (np := 33) (tgt := 42) G rfl dX6_discriminantOf_30 (by decide) rfl (fun h10 => ?_) (fun h10 => ?_)
  · have hm := b_t h10 hm
    refine r_lconst (np := 43) G 0 dX6_discriminantOf_42 rfl rfl ?_
    exact r_lret G hr hk hM hm dX6_discriminantOf_43
  · have hm := b_f h10 hm
    refine r_lload_n (np := 34) G hl 1 rfl dX6_discriminantOf_33 rfl rfl ?_
    refine r_lload (np := 36) G hl 0 rfl dX6_discriminantOf_34 rfl ?_
    obtain ⟨b11, s12, e13, hm⟩ := call_t hm
    refine m_callSL (np := 39) G hM hl.1 [vL b1, vL b4] (qX5_quotient l E s8 b1 b4 _ e13) myX5_quotient lkX6_60 ⟨Nat.le_of_ble_eq_true rfl, Nat.le_of_ble_eq_true rfl⟩ ⟨Nat.le_of_ble_eq_true rfl, Nat.le_of_ble_eq_true rfl⟩ [] rfl (Nat.le_of_ble_eq_true rfl) dX6_discriminantOf_36 rfl (fun H locs hM => ?_)
    refine r_goto (np := 43) G dX6_discriminantOf_39 (by decide) ?_
    exact r_lret G hr hk hM hm dX6_discriminantOf_43
theorem gX6_discriminantOf {v0 : Nat} {v1 : Nat} {σ : mSt} {out : Int × mSt} (hm : mX6_discriminantOf v0 v1 σ = some out) : isC v0 5 := (g_t hm).1
set_option maxRecDepth 100000 in
set_option maxHeartbeats 4000000 in
theorem qX6_discriminant (l : Launch) (E : mE) (σ : mSt) (v0 : Nat) (out : Int × mSt) (hm : mX6_discriminant v0 σ = some out) : mMet l yX6_discriminant cX6_discriminant 1 (some .long) 4 98 E 257 [.ref (eA E v0)] σ (some (vL out.1)) out.2 := by
  unfold mX6_discriminant at hm
  obtain ⟨g0, hm⟩ := g_t hm
  refine m_entry (by decide +kernel) (Nat.le_of_ble_eq_true rfl) (fun p e s m args below meth c G hr hk hM ls hl => ?_)
  have G : CallFix p m c cX6_discriminant 1 s args mTs RX6 := G
  have hl : lv_has ls 1 [(0, .ref (eA E v0))] := hl
  refine r_aload_n (np := 1) G hl 0 rfl dX6_discriminant_0 rfl rfl ?_
  refine r_aload_n (np := 2) G hl 0 rfl dX6_discriminant_1 rfl rfl ?_
  obtain ⟨r1, e2, hm⟩ := ref_t hm
  refine r_getR (np := 5) G hM (shp_lt g0 (by decide)) g0 e2 fdX6_2 lkX6_19 dX6_discriminant_2 rfl ?_
  obtain ⟨b3, s4, e5, hm⟩ := call_t hm
  refine m_callVL (np := 8) G hM hl.1 [.ref (eA E r1)] (qX6_discriminantOf l E σ v0 r1 _ e5) myX6_discriminantOf (shp_lt (gX6_discriminantOf e5) (by decide)) (gX6_discriminantOf e5) rfl (by decide) lkX6_39 ⟨Nat.le_of_ble_eq_true rfl, Nat.le_of_ble_eq_true rfl⟩ ⟨Nat.le_of_ble_eq_true rfl, Nat.le_of_ble_eq_true rfl⟩ [] rfl (Nat.le_of_ble_eq_true rfl) dX6_discriminant_5 rfl (fun H locs hM => ?_)
  exact r_lret G hr hk hM hm dX6_discriminant_8
theorem gX6_discriminant {v0 : Nat} {σ : mSt} {out : Int × mSt} (hm : mX6_discriminant v0 σ = some out) : isC v0 5 := (g_t hm).1
set_option maxRecDepth 100000 in
set_option maxHeartbeats 4000000 in
theorem wX7_note_B84 (l : Launch) (E : mE) (out : Int × mSt) {p : Program} {e : Env} {s : State} {m : MethodId} {args : Array Value} {below : List Frame} {meth : Method} {c : Code} (G : CallFix p m c cX7_note 4 s args mTs RX7) (hr : meth.sig.returnType = none) (hk : meth.locks = false) (v0 : Nat) (v1 : Int) (g0 : isC v0 6) : ∀ (v2 : Int) (σ : mSt) (H : Heap) (locs : List Loc) (ls : Array Slot), mX7_note_B84 v0 v1 v2 σ = some out → mM (mA E 257) E 257 σ s H locs → lv_has ls 4 [(0, .ref (eA E v0)), (1, vI v1), (2, vI v2)] → mGo l p e 0 0 s m args below meth c E none out.2 H locs (F0 m 84 ls []) := by
  intro v2 σ H locs ls hm hM hl
  unfold mX7_note_B84 at hm
  refine r_aload_n (np := 85) G hl 0 rfl dX7_note_84 rfl rfl ?_
  obtain ⟨r1, e2, hm⟩ := ref_t hm
  refine r_getR (np := 88) G hM (shp_lt g0 (by decide)) g0 e2 fdX7_2 lkX7_18 dX7_note_85 rfl ?_
  refine r_iload_n (np := 89) G hl 2 rfl dX7_note_88 rfl rfl ?_
  refine r_iload_n (np := 90) G hl 1 rfl dX7_note_89 rfl rfl ?_
  obtain ⟨g3, hm⟩ := g_t hm
  obtain ⟨s4, e5, hm⟩ := bnd_t hm
  refine r_iastore (np := 91) G hM g3 rfl s4 e5 dX7_note_90 rfl (fun H locs hM => ?_)
  refine r_aload_n (np := 92) G hl 0 rfl dX7_note_91 rfl rfl ?_
  refine r_dup (np := 93) G dX7_note_92 rfl rfl ?_
  refine r_getI (np := 96) G hM (shp_lt g0 (by decide)) g0 fdX7_0 lkX7_9 dX7_note_93 rfl ?_
  refine r_iconst (np := 97) G 1 dX7_note_96 rfl ?_
  refine r_iadd (np := 98) G dX7_note_97 rfl ?_
  obtain ⟨s6, e7, hm⟩ := bnd_t hm
  refine r_putI (np := 101) G hM (shp_lt g0 (by decide)) g0 ptX7_0 rfl lkX7_9 s6 e7 dX7_note_98 rfl (fun H locs hM => ?_)
  exact r_vret G hr hk hM hm dX7_note_101
set_option maxRecDepth 100000 in
set_option maxHeartbeats 4000000 in
theorem wX7_note_L59 (l : Launch) (E : mE) (out : Int × mSt) {p : Program} {e : Env} {s : State} {m : MethodId} {args : Array Value} {below : List Frame} {meth : Method} {c : Code} (G : CallFix p m c cX7_note 4 s args mTs RX7) (hr : meth.sig.returnType = none) (hk : meth.locks = false) (v0 : Nat) (v1 : Int) (v2 : Int) (g0 : isC v0 6) (x84 : mSt → Option (Int × mSt)) (hx84 : ∀ (σ : mSt) (H : Heap) (locs : List Loc) (ls : Array Slot), x84 σ = some out → mM (mA E 257) E 257 σ s H locs → lv_has ls 4 [(0, .ref (eA E v0)), (1, vI v1), (2, vI v2)] → mGo l p e 0 0 s m args below meth c E none out.2 H locs (F0 m 84 ls [])) : ∀ (n : Nat) (v3 : Int) (σ : mSt) (H : Heap) (locs : List Loc) (ls : Array Slot), mX7_note_L59 v0 v1 v2 x84 n v3 σ = some out → mM (mA E 257) E 257 σ s H locs → lv_has ls 4 [(0, .ref (eA E v0)), (1, vI v1), (2, vI v2), (3, vI v3)] → mGo l p e 0 0 s m args below meth c E none out.2 H locs (F0 m 59 ls []) := by
  intro n
  induction n with
  | zero =>
    intro v3 σ H locs ls hm hM hl
    exact absurd hm (by rw [mX7_note_L59.eq_1]; exact fun h => nomatch h)
  | succ n ih =>
    intro v3 σ H locs ls hm hM hl
    rw [mX7_note_L59.eq_2] at hm
    refine r_iload_n (np := 60) G hl 3 rfl dX7_note_59 rfl rfl ?_
    refine r_iload_n (np := 61) G hl 2 rfl dX7_note_60 rfl rfl ?_
    refine r_icmp_le (np := 64) (tgt := 84) G rfl rfl dX7_note_61 (by decide) rfl (fun h8 => ?_) (fun h8 => ?_)
    · have hm := b_t h8 hm
      exact hx84 _ _ _ _ hm hM (lv_sub hl [0, 1, 2] rfl)
    · have hm := b_f h8 hm
      refine r_aload_n (np := 65) G hl 0 rfl dX7_note_64 rfl rfl ?_
      obtain ⟨r9, e10, hm⟩ := ref_t hm
      refine r_getR (np := 68) G hM (shp_lt g0 (by decide)) g0 e10 fdX7_2 lkX7_18 dX7_note_65 rfl ?_
      refine r_iload_n (np := 69) G hl 3 rfl dX7_note_68 rfl rfl ?_
      refine r_aload_n (np := 70) G hl 0 rfl dX7_note_69 rfl rfl ?_
      obtain ⟨r11, e12, hm⟩ := ref_t hm
      refine r_getR (np := 73) G hM (shp_lt g0 (by decide)) g0 e12 fdX7_2 lkX7_18 dX7_note_70 rfl ?_
      refine r_iload_n (np := 74) G hl 3 rfl dX7_note_73 rfl rfl ?_
      refine r_iconst (np := 75) G 1 dX7_note_74 rfl ?_
      refine r_isub (np := 76) G dX7_note_75 rfl ?_
      obtain ⟨g13, hm⟩ := g_t hm
      refine r_iaload (np := 77) G hM g13 rfl dX7_note_76 rfl ?_
      obtain ⟨g14, hm⟩ := g_t hm
      obtain ⟨s15, e16, hm⟩ := bnd_t hm
      refine r_iastore (np := 78) G hM g14 rfl s15 e16 dX7_note_77 rfl (fun H locs hM => ?_)
      obtain ⟨a17, e18, hm⟩ := bnd_t hm
      refine r_iinc (np := 81) G hl 3 rfl e18 [(3, vI a17), (0, .ref (eA E v0)), (1, vI v1), (2, vI v2)] dX7_note_78 rfl (by decide) rfl (fun ls hl => ?_)
      refine r_goto (np := 59) G dX7_note_81 (by decide) ?_
      exact ih a17 _ _ _ _ hm hM (lv_sub hl [1, 2, 3, 0] rfl)
set_option maxRecDepth 100000 in
set_option maxHeartbeats 4000000 in
theorem wX7_note_B54 (l : Launch) (E : mE) (out : Int × mSt) {p : Program} {e : Env} {s : State} {m : MethodId} {args : Array Value} {below : List Frame} {meth : Method} {c : Code} (G : CallFix p m c cX7_note 4 s args mTs RX7) (hr : meth.sig.returnType = none) (hk : meth.locks = false) (v0 : Nat) (v1 : Int) (g0 : isC v0 6) : ∀ (v2 : Int) (σ : mSt) (H : Heap) (locs : List Loc) (ls : Array Slot), mX7_note_B54 v0 v1 v2 σ = some out → mM (mA E 257) E 257 σ s H locs → lv_has ls 4 [(0, .ref (eA E v0)), (1, vI v1), (2, vI v2)] → mGo l p e 0 0 s m args below meth c E none out.2 H locs (F0 m 54 ls []) := by
  intro v2 σ H locs ls hm hM hl
  unfold mX7_note_B54 at hm
  refine r_aload_n (np := 55) G hl 0 rfl dX7_note_54 rfl rfl ?_
  refine r_getI (np := 58) G hM (shp_lt g0 (by decide)) g0 fdX7_0 lkX7_9 dX7_note_55 rfl ?_
  obtain ⟨a19, e20, hm⟩ := bnd_t hm
  refine r_istore_n (np := 59) G hl e20 [(3, vI a19), (0, .ref (eA E v0)), (1, vI v1), (2, vI v2)] dX7_note_58 rfl rfl (by decide) rfl (fun ls hl => ?_)
  exact wX7_note_L59 l E out G hr hk v0 v1 v2 g0 (fun zσ => mX7_note_B84 v0 v1 v2 zσ) (fun zσ zH zl zs zm zM zv => wX7_note_B84 l E out G hr hk v0 v1 g0 v2 zσ zH zl zs zm zM zv) mF a19 _ _ _ _ hm hM (lv_sub hl [1, 2, 3, 0] rfl)
set_option maxRecDepth 100000 in
set_option maxHeartbeats 4000000 in
theorem wX7_note_B26 (l : Launch) (E : mE) (out : Int × mSt) {p : Program} {e : Env} {s : State} {m : MethodId} {args : Array Value} {below : List Frame} {meth : Method} {c : Code} (G : CallFix p m c cX7_note 4 s args mTs RX7) (hr : meth.sig.returnType = none) (hk : meth.locks = false) (v0 : Nat) (v1 : Int) (g0 : isC v0 6) : ∀ (v2 : Int) (σ : mSt) (H : Heap) (locs : List Loc) (ls : Array Slot), mX7_note_B26 v0 v1 v2 σ = some out → mM (mA E 257) E 257 σ s H locs → lv_has ls 4 [(0, .ref (eA E v0)), (1, vI v1), (2, vI v2)] → mGo l p e 0 0 s m args below meth c E none out.2 H locs (F0 m 26 ls []) := by
  intro v2 σ H locs ls hm hM hl
  unfold mX7_note_B26 at hm
  refine r_aload_n (np := 27) G hl 0 rfl dX7_note_26 rfl rfl ?_
  refine r_getI (np := 30) G hM (shp_lt g0 (by decide)) g0 fdX7_0 lkX7_9 dX7_note_27 rfl ?_
  refine r_bipush (np := 32) G 64 dX7_note_30 (by decide) rfl ?_
  refine r_icmp_ge (np := 35) (tgt := 53) G rfl (wIk 64 rfl) dX7_note_32 (by decide) rfl (fun h21 => ?_) (fun h21 => ?_)
  · have hm := b_t h21 hm
    exact r_vret G hr hk hM hm dX7_note_53
  · have hm := b_f h21 hm
    refine r_iload_n (np := 36) G hl 2 rfl dX7_note_35 rfl rfl ?_
    refine r_aload_n (np := 37) G hl 0 rfl dX7_note_36 rfl rfl ?_
    refine r_getI (np := 40) G hM (shp_lt g0 (by decide)) g0 fdX7_0 lkX7_9 dX7_note_37 rfl ?_
    refine r_icmp_ge (np := 43) (tgt := 54) G rfl rfl dX7_note_40 (by decide) rfl (fun h22 => ?_) (fun h22 => ?_)
    · have hm := b_t h22 hm
      exact wX7_note_B54 l E out G hr hk v0 v1 g0 v2 _ _ _ _ hm hM (lv_sub hl [0, 1, 2] rfl)
    · have hm := b_f h22 hm
      refine r_aload_n (np := 44) G hl 0 rfl dX7_note_43 rfl rfl ?_
      obtain ⟨r23, e24, hm⟩ := ref_t hm
      refine r_getR (np := 47) G hM (shp_lt g0 (by decide)) g0 e24 fdX7_2 lkX7_18 dX7_note_44 rfl ?_
      refine r_iload_n (np := 48) G hl 2 rfl dX7_note_47 rfl rfl ?_
      obtain ⟨g25, hm⟩ := g_t hm
      refine r_iaload (np := 49) G hM g25 rfl dX7_note_48 rfl ?_
      refine r_iload_n (np := 50) G hl 1 rfl dX7_note_49 rfl rfl ?_
      refine r_icmp_ne (np := 53) (tgt := 54) G rfl rfl dX7_note_50 (by decide) rfl (fun h26 => ?_) (fun h26 => ?_)
      · have hm := b_f h26 hm
        exact wX7_note_B54 l E out G hr hk v0 v1 g0 v2 _ _ _ _ hm hM (lv_sub hl [0, 1, 2] rfl)
      · have hm := b_t h26 hm
        exact r_vret G hr hk hM hm dX7_note_53
set_option maxRecDepth 100000 in
set_option maxHeartbeats 4000000 in
theorem wX7_note_L2 (l : Launch) (E : mE) (out : Int × mSt) {p : Program} {e : Env} {s : State} {m : MethodId} {args : Array Value} {below : List Frame} {meth : Method} {c : Code} (G : CallFix p m c cX7_note 4 s args mTs RX7) (hr : meth.sig.returnType = none) (hk : meth.locks = false) (v0 : Nat) (v1 : Int) (g0 : isC v0 6) (x26 : Int → mSt → Option (Int × mSt)) (hx26 : ∀ (v2 : Int) (σ : mSt) (H : Heap) (locs : List Loc) (ls : Array Slot), x26 v2 σ = some out → mM (mA E 257) E 257 σ s H locs → lv_has ls 4 [(0, .ref (eA E v0)), (1, vI v1), (2, vI v2)] → mGo l p e 0 0 s m args below meth c E none out.2 H locs (F0 m 26 ls [])) : ∀ (n : Nat) (v2 : Int) (σ : mSt) (H : Heap) (locs : List Loc) (ls : Array Slot), mX7_note_L2 v0 v1 x26 n v2 σ = some out → mM (mA E 257) E 257 σ s H locs → lv_has ls 4 [(0, .ref (eA E v0)), (1, vI v1), (2, vI v2)] → mGo l p e 0 0 s m args below meth c E none out.2 H locs (F0 m 2 ls []) := by
  intro n
  induction n with
  | zero =>
    intro v2 σ H locs ls hm hM hl
    exact absurd hm (by rw [mX7_note_L2.eq_1]; exact fun h => nomatch h)
  | succ n ih =>
    intro v2 σ H locs ls hm hM hl
    rw [mX7_note_L2.eq_2] at hm
    refine r_iload_n (np := 3) G hl 2 rfl dX7_note_2 rfl rfl ?_
    refine r_aload_n (np := 4) G hl 0 rfl dX7_note_3 rfl rfl ?_
    refine r_getI (np := 7) G hM (shp_lt g0 (by decide)) g0 fdX7_0 lkX7_9 dX7_note_4 rfl ?_
    refine r_icmp_ge (np := 10) (tgt := 26) G rfl rfl dX7_note_7 (by decide) rfl (fun h27 => ?_) (fun h27 => ?_)
    · have hm := b_t h27 hm
      exact hx26 v2 _ _ _ _ hm hM (lv_sub hl [0, 1, 2] rfl)
    · have hm := b_f h27 hm
      refine r_aload_n (np := 11) G hl 0 rfl dX7_note_10 rfl rfl ?_
      obtain ⟨r28, e29, hm⟩ := ref_t hm
      refine r_getR (np := 14) G hM (shp_lt g0 (by decide)) g0 e29 fdX7_2 lkX7_18 dX7_note_11 rfl ?_
      refine r_iload_n (np := 15) G hl 2 rfl dX7_note_14 rfl rfl ?_
      obtain ⟨g30, hm⟩ := g_t hm
      refine r_iaload (np := 16) G hM g30 rfl dX7_note_15 rfl ?_
      refine r_iload_n (np := 17) G hl 1 rfl dX7_note_16 rfl rfl ?_
      refine r_icmp_ge (np := 20) (tgt := 26) G rfl rfl dX7_note_17 (by decide) rfl (fun h31 => ?_) (fun h31 => ?_)
      · have hm := b_t h31 hm
        exact hx26 v2 _ _ _ _ hm hM (lv_sub hl [0, 1, 2] rfl)
      · have hm := b_f h31 hm
        obtain ⟨a32, e33, hm⟩ := bnd_t hm
        refine r_iinc (np := 23) G hl 2 rfl e33 [(2, vI a32), (0, .ref (eA E v0)), (1, vI v1)] dX7_note_20 rfl (by decide) rfl (fun ls hl => ?_)
        refine r_goto (np := 2) G dX7_note_23 (by decide) ?_
        exact ih a32 _ _ _ _ hm hM (lv_sub hl [1, 2, 0] rfl)
set_option maxRecDepth 100000 in
set_option maxHeartbeats 4000000 in
theorem qX7_note (l : Launch) (E : mE) (σ : mSt) (v0 : Nat) (v1 : Int) (out : Int × mSt) (hm : mX7_note v0 v1 σ = some out) : mMet l yX7_note cX7_note 4 none 0 0 E 257 [.ref (eA E v0), vI v1] σ none out.2 := by
  unfold mX7_note at hm
  obtain ⟨g0, hm⟩ := g_t hm
  refine m_entry (by decide +kernel) (Nat.le_of_ble_eq_true rfl) (fun p e s m args below meth c G hr hk hM ls hl => ?_)
  have G : CallFix p m c cX7_note 4 s args mTs RX7 := G
  have hl : lv_has ls 4 [(0, .ref (eA E v0)), (1, vI v1)] := hl
  refine r_iconst (np := 1) G 0 dX7_note_0 rfl ?_
  refine r_istore_n (np := 2) G hl rfl [(2, vI 0), (0, .ref (eA E v0)), (1, vI v1)] dX7_note_1 rfl rfl (by decide) rfl (fun ls hl => ?_)
  exact wX7_note_L2 l E out G hr hk v0 v1 g0 (fun z2 zσ => mX7_note_B26 v0 v1 z2 zσ) (fun z2 zσ zH zl zs zm zM zv => wX7_note_B26 l E out G hr hk v0 v1 g0 z2 zσ zH zl zs zm zM zv) mF 0 _ _ _ _ hm hM (lv_sub hl [1, 2, 0] rfl)
theorem gX7_note {v0 : Nat} {v1 : Int} {σ : mSt} {out : Int × mSt} (hm : mX7_note v0 v1 σ = some out) : isC v0 6 := (g_t hm).1
set_option maxRecDepth 100000 in
set_option maxHeartbeats 4000000 in
theorem wX7_noteDivisors_B62 (l : Launch) (E : mE) (out : Int × mSt) {p : Program} {e : Env} {s : State} {m : MethodId} {args : Array Value} {below : List Frame} {meth : Method} {c : Code} (G : CallFix p m c cX7_noteDivisors 5 s args mTs RX7) (hr : meth.sig.returnType = none) (hk : meth.locks = false) (v0 : Nat) (v1 : Int) (g0 : isC v0 6) : ∀ (σ : mSt) (H : Heap) (locs : List Loc) (ls : Array Slot), mX7_noteDivisors_B62 v0 v1 σ = some out → mM (mA E 257) E 257 σ s H locs → lv_has ls 5 [] → mGo l p e 1 23 s m args below meth c E none out.2 H locs (F0 m 62 ls []) := by
  intro σ H locs ls hm hM hl
  unfold mX7_noteDivisors_B62 at hm
  exact r_vret G hr hk hM hm dX7_noteDivisors_62
set_option maxRecDepth 100000 in
set_option maxHeartbeats 4000000 in
theorem wX7_noteDivisors_B56 (l : Launch) (E : mE) (out : Int × mSt) {p : Program} {e : Env} {s : State} {m : MethodId} {args : Array Value} {below : List Frame} {meth : Method} {c : Code} (G : CallFix p m c cX7_noteDivisors 5 s args mTs RX7) (hr : meth.sig.returnType = none) (hk : meth.locks = false) (v0 : Nat) (v1 : Int) (g0 : isC v0 6) (c7 : Int → Int → mSt → Option (Int × mSt)) (x62 : mSt → Option (Int × mSt)) (hc7 : ∀ (v2 : Int) (v3 : Int) (σ : mSt) (H : Heap) (locs : List Loc) (ls : Array Slot), c7 v2 v3 σ = some out → mM (mA E 257) E 257 σ s H locs → lv_has ls 5 [(0, .ref (eA E v0)), (2, vI v2), (3, vI v3)] → mGo l p e 1 23 s m args below meth c E none out.2 H locs (F0 m 7 ls [])) (hx62 : ∀ (σ : mSt) (H : Heap) (locs : List Loc) (ls : Array Slot), x62 σ = some out → mM (mA E 257) E 257 σ s H locs → lv_has ls 5 [] → mGo l p e 1 23 s m args below meth c E none out.2 H locs (F0 m 62 ls [])) : ∀ (v2 : Int) (v3 : Int) (σ : mSt) (H : Heap) (locs : List Loc) (ls : Array Slot), mX7_noteDivisors_B56 v0 v1 c7 x62 v2 v3 σ = some out → mM (mA E 257) E 257 σ s H locs → lv_has ls 5 [(0, .ref (eA E v0)), (2, vI v2), (3, vI v3)] → mGo l p e 1 23 s m args below meth c E none out.2 H locs (F0 m 56 ls []) := by
  intro v2 v3 σ H locs ls hm hM hl
  unfold mX7_noteDivisors_B56 at hm
  obtain ⟨a1, e2, hm⟩ := bnd_t hm
  refine r_iinc (np := 59) G hl 2 rfl e2 [(3, vI a1), (0, .ref (eA E v0)), (2, vI v2)] dX7_noteDivisors_56 rfl (by decide) rfl (fun ls hl => ?_)
  refine r_goto (np := 7) G dX7_noteDivisors_59 (by decide) ?_
  exact hc7 v2 a1 _ _ _ _ hm hM (lv_sub hl [1, 2, 0] rfl)
set_option maxRecDepth 100000 in
set_option maxHeartbeats 4000000 in
theorem wX7_noteDivisors_L33 (l : Launch) (E : mE) (out : Int × mSt) {p : Program} {e : Env} {s : State} {m : MethodId} {args : Array Value} {below : List Frame} {meth : Method} {c : Code} (G : CallFix p m c cX7_noteDivisors 5 s args mTs RX7) (hr : meth.sig.returnType = none) (hk : meth.locks = false) (v0 : Nat) (v1 : Int) (v3 : Int) (g0 : isC v0 6) (x56 : Int → mSt → Option (Int × mSt)) (hx56 : ∀ (v2 : Int) (σ : mSt) (H : Heap) (locs : List Loc) (ls : Array Slot), x56 v2 σ = some out → mM (mA E 257) E 257 σ s H locs → lv_has ls 5 [(0, .ref (eA E v0)), (2, vI v2), (3, vI v3)] → mGo l p e 1 23 s m args below meth c E none out.2 H locs (F0 m 56 ls [])) : ∀ (n : Nat) (v2 : Int) (v4 : Int) (σ : mSt) (H : Heap) (locs : List Loc) (ls : Array Slot), mX7_noteDivisors_L33 v0 v1 v3 x56 n v2 v4 σ = some out → mM (mA E 257) E 257 σ s H locs → lv_has ls 5 [(0, .ref (eA E v0)), (2, vI v2), (3, vI v3), (4, vI v4)] → mGo l p e 1 23 s m args below meth c E none out.2 H locs (F0 m 33 ls []) := by
  intro n
  induction n with
  | zero =>
    intro v2 v4 σ H locs ls hm hM hl
    exact absurd hm (by rw [mX7_noteDivisors_L33.eq_1]; exact fun h => nomatch h)
  | succ n ih =>
    intro v2 v4 σ H locs ls hm hM hl
    rw [mX7_noteDivisors_L33.eq_2] at hm
    refine r_iload (np := 35) G hl 3 rfl dX7_noteDivisors_33 rfl ?_
    refine r_bipush (np := 37) G 32 dX7_noteDivisors_35 (by decide) rfl ?_
    refine r_icmp_ge (np := 40) (tgt := 56) G rfl (wIk 32 rfl) dX7_noteDivisors_37 (by decide) rfl (fun h3 => ?_) (fun h3 => ?_)
    · have hm := b_t h3 hm
      exact hx56 v2 _ _ _ _ hm hM (lv_sub hl [0, 1, 2] rfl)
    · have hm := b_f h3 hm
      refine r_iload_n (np := 41) G hl 1 rfl dX7_noteDivisors_40 rfl rfl ?_
      refine r_iload_n (np := 42) G hl 2 rfl dX7_noteDivisors_41 rfl rfl ?_
      obtain ⟨g4, hm⟩ := g_t hm
      refine r_irem (np := 43) G g4 dX7_noteDivisors_42 rfl ?_
      refine r_if_ne (np := 46) (tgt := 56) G rfl dX7_noteDivisors_43 (by decide) rfl (fun h5 => ?_) (fun h5 => ?_)
      · have hm := b_f h5 hm
        exact hx56 v2 _ _ _ _ hm hM (lv_sub hl [0, 1, 2] rfl)
      · have hm := b_t h5 hm
        refine r_iload_n (np := 47) G hl 1 rfl dX7_noteDivisors_46 rfl rfl ?_
        refine r_iload_n (np := 48) G hl 2 rfl dX7_noteDivisors_47 rfl rfl ?_
        refine r_idiv (np := 49) G g4 dX7_noteDivisors_48 rfl ?_
        obtain ⟨a6, e7, hm⟩ := bnd_t hm
        refine r_istore_n (np := 50) G hl e7 [(2, vI a6), (0, .ref (eA E v0)), (3, vI v3), (4, vI v4)] dX7_noteDivisors_49 rfl rfl (by decide) rfl (fun ls hl => ?_)
        obtain ⟨a8, e9, hm⟩ := bnd_t hm
        refine r_iinc (np := 53) G hl 3 rfl e9 [(4, vI a8), (2, vI a6), (0, .ref (eA E v0)), (3, vI v3)] dX7_noteDivisors_50 rfl (by decide) rfl (fun ls hl => ?_)
        refine r_goto (np := 33) G dX7_noteDivisors_53 (by decide) ?_
        exact ih a6 a8 _ _ _ _ hm hM (lv_sub hl [2, 1, 3, 0] rfl)
set_option maxRecDepth 100000 in
set_option maxHeartbeats 4000000 in
theorem wX7_noteDivisors_B30 (l : Launch) (E : mE) (out : Int × mSt) {p : Program} {e : Env} {s : State} {m : MethodId} {args : Array Value} {below : List Frame} {meth : Method} {c : Code} (G : CallFix p m c cX7_noteDivisors 5 s args mTs RX7) (hr : meth.sig.returnType = none) (hk : meth.locks = false) (v0 : Nat) (v1 : Int) (g0 : isC v0 6) (c7 : Int → Int → mSt → Option (Int × mSt)) (x62 : mSt → Option (Int × mSt)) (hc7 : ∀ (v2 : Int) (v3 : Int) (σ : mSt) (H : Heap) (locs : List Loc) (ls : Array Slot), c7 v2 v3 σ = some out → mM (mA E 257) E 257 σ s H locs → lv_has ls 5 [(0, .ref (eA E v0)), (2, vI v2), (3, vI v3)] → mGo l p e 1 23 s m args below meth c E none out.2 H locs (F0 m 7 ls [])) (hx62 : ∀ (σ : mSt) (H : Heap) (locs : List Loc) (ls : Array Slot), x62 σ = some out → mM (mA E 257) E 257 σ s H locs → lv_has ls 5 [] → mGo l p e 1 23 s m args below meth c E none out.2 H locs (F0 m 62 ls [])) : ∀ (v2 : Int) (v3 : Int) (σ : mSt) (H : Heap) (locs : List Loc) (ls : Array Slot), mX7_noteDivisors_B30 v0 v1 c7 x62 v2 v3 σ = some out → mM (mA E 257) E 257 σ s H locs → lv_has ls 5 [(0, .ref (eA E v0)), (2, vI v2), (3, vI v3)] → mGo l p e 1 23 s m args below meth c E none out.2 H locs (F0 m 30 ls []) := by
  intro v2 v3 σ H locs ls hm hM hl
  unfold mX7_noteDivisors_B30 at hm
  refine r_iconst (np := 31) G 0 dX7_noteDivisors_30 rfl ?_
  refine r_istore (np := 33) G hl rfl [(4, vI 0), (0, .ref (eA E v0)), (2, vI v2), (3, vI v3)] dX7_noteDivisors_31 rfl (by decide) rfl (fun ls hl => ?_)
  exact wX7_noteDivisors_L33 l E out G hr hk v0 v1 v3 g0 (fun z2 zσ => mX7_noteDivisors_B56 v0 v1 c7 x62 z2 v3 zσ) (fun z2 zσ zH zl zs zm zM zv => wX7_noteDivisors_B56 l E out G hr hk v0 v1 g0 c7 x62 hc7 hx62 z2 v3 zσ zH zl zs zm zM zv) mF v2 0 _ _ _ _ hm hM (lv_sub hl [1, 2, 3, 0] rfl)
set_option maxRecDepth 100000 in
set_option maxHeartbeats 4000000 in
theorem wX7_noteDivisors_L7 (l : Launch) (E : mE) (out : Int × mSt) {p : Program} {e : Env} {s : State} {m : MethodId} {args : Array Value} {below : List Frame} {meth : Method} {c : Code} (G : CallFix p m c cX7_noteDivisors 5 s args mTs RX7) (hr : meth.sig.returnType = none) (hk : meth.locks = false) (v0 : Nat) (v1 : Int) (g0 : isC v0 6) (x62 : mSt → Option (Int × mSt)) (hx62 : ∀ (σ : mSt) (H : Heap) (locs : List Loc) (ls : Array Slot), x62 σ = some out → mM (mA E 257) E 257 σ s H locs → lv_has ls 5 [] → mGo l p e 1 23 s m args below meth c E none out.2 H locs (F0 m 62 ls [])) : ∀ (n : Nat) (v2 : Int) (v3 : Int) (σ : mSt) (H : Heap) (locs : List Loc) (ls : Array Slot), mX7_noteDivisors_L7 v0 v1 x62 n v2 v3 σ = some out → mM (mA E 257) E 257 σ s H locs → lv_has ls 5 [(0, .ref (eA E v0)), (2, vI v2), (3, vI v3)] → mGo l p e 1 23 s m args below meth c E none out.2 H locs (F0 m 7 ls []) := by
  intro n
  induction n with
  | zero =>
    intro v2 v3 σ H locs ls hm hM hl
    exact absurd hm (by rw [mX7_noteDivisors_L7.eq_1]; exact fun h => nomatch h)
  | succ n ih =>
    intro v2 v3 σ H locs ls hm hM hl
    rw [mX7_noteDivisors_L7.eq_2] at hm
    refine r_iload_n (np := 8) G hl 2 rfl dX7_noteDivisors_7 rfl rfl ?_
    refine r_sipush (np := 11) G 999 dX7_noteDivisors_8 (by decide) rfl ?_
    refine r_icmp_gt (np := 14) (tgt := 62) G rfl (wIk 999 rfl) dX7_noteDivisors_11 (by decide) rfl (fun h10 => ?_) (fun h10 => ?_)
    · have hm := b_t h10 hm
      exact hx62 _ _ _ _ hm hM (lv_sub hl [] rfl)
    · have hm := b_f h10 hm
      refine r_iload_n (np := 15) G hl 1 rfl dX7_noteDivisors_14 rfl rfl ?_
      refine r_iconst (np := 16) G 1 dX7_noteDivisors_15 rfl ?_
      refine r_icmp_le (np := 19) (tgt := 62) G rfl (wIk 1 rfl) dX7_noteDivisors_16 (by decide) rfl (fun h11 => ?_) (fun h11 => ?_)
      · have hm := b_t h11 hm
        exact hx62 _ _ _ _ hm hM (lv_sub hl [] rfl)
      · have hm := b_f h11 hm
        refine r_iload_n (np := 20) G hl 1 rfl dX7_noteDivisors_19 rfl rfl ?_
        refine r_iload_n (np := 21) G hl 2 rfl dX7_noteDivisors_20 rfl rfl ?_
        obtain ⟨g12, hm⟩ := g_t hm
        refine r_irem (np := 22) G g12 dX7_noteDivisors_21 rfl ?_
        refine r_if_ne (np := 25) (tgt := 30) G rfl dX7_noteDivisors_22 (by decide) rfl (fun h13 => ?_) (fun h13 => ?_)
        · have hm := b_f h13 hm
          exact wX7_noteDivisors_B30 l E out G hr hk v0 v1 g0 (mX7_noteDivisors_L7 v0 v1 x62 n) x62 ih hx62 v2 v3 _ _ _ _ hm hM (lv_sub hl [0, 1, 2] rfl)
        · have hm := b_t h13 hm
          refine r_aload_n (np := 26) G hl 0 rfl dX7_noteDivisors_25 rfl rfl ?_
          refine r_iload_n (np := 27) G hl 2 rfl dX7_noteDivisors_26 rfl rfl ?_
          obtain ⟨b14, s15, e16, hm⟩ := call_t hm
          refine m_callVV (np := 30) G hM hl.1 [vI v3] (qX7_note l E σ v0 v3 _ e16) myX7_note (shp_lt (gX7_note e16) (by decide)) (gX7_note e16) rfl (by decide) lkX7_32 ⟨Nat.le_of_ble_eq_true rfl, Nat.le_of_ble_eq_true rfl⟩ ⟨Nat.le_of_ble_eq_true rfl, Nat.le_of_ble_eq_true rfl⟩ [] rfl (Nat.le_of_ble_eq_true rfl) dX7_noteDivisors_27 rfl (fun H locs hM => ?_)
          exact wX7_noteDivisors_B30 l E out G hr hk v0 v1 g0 (mX7_noteDivisors_L7 v0 v1 x62 n) x62 ih hx62 v2 v3 _ _ _ _ hm hM (lv_sub hl [0, 1, 2] rfl)
set_option maxRecDepth 100000 in
set_option maxHeartbeats 4000000 in
theorem qX7_noteDivisors (l : Launch) (E : mE) (σ : mSt) (v0 : Nat) (v1 : Int) (out : Int × mSt) (hm : mX7_noteDivisors v0 v1 σ = some out) : mMet l yX7_noteDivisors cX7_noteDivisors 5 none 1 23 E 257 [.ref (eA E v0), vI v1] σ none out.2 := by
  unfold mX7_noteDivisors at hm
  obtain ⟨g0, hm⟩ := g_t hm
  refine m_entry (by decide +kernel) (Nat.le_of_ble_eq_true rfl) (fun p e s m args below meth c G hr hk hM ls hl => ?_)
  have G : CallFix p m c cX7_noteDivisors 5 s args mTs RX7 := G
  have hl : lv_has ls 5 [(0, .ref (eA E v0)), (1, vI v1)] := hl
  refine r_iload_n (np := 1) G hl 1 rfl dX7_noteDivisors_0 rfl rfl ?_
  obtain ⟨b17, s18, e19, hm⟩ := call_t hm
  refine m_callSI (np := 4) G hM hl.1 [vI v1] (qJ9_abs_0f7a4 l E σ v1 _ e19) myJ9_abs_0f7a4 lkX7_56 ⟨Nat.le_of_ble_eq_true rfl, Nat.le_of_ble_eq_true rfl⟩ ⟨Nat.le_of_ble_eq_true rfl, Nat.le_of_ble_eq_true rfl⟩ [] rfl (Nat.le_of_ble_eq_true rfl) dX7_noteDivisors_1 rfl (fun H locs hM => ?_)
  refine r_istore_n (np := 5) G hl rfl [(2, vI b17), (0, .ref (eA E v0)), (1, vI v1)] dX7_noteDivisors_4 rfl rfl (by decide) rfl (fun ls hl => ?_)
  refine r_iconst (np := 6) G 2 dX7_noteDivisors_5 rfl ?_
  refine r_istore_n (np := 7) G hl rfl [(3, vI 2), (2, vI b17), (0, .ref (eA E v0)), (1, vI v1)] dX7_noteDivisors_6 rfl rfl (by decide) rfl (fun ls hl => ?_)
  exact wX7_noteDivisors_L7 l E out G hr hk v0 v1 g0 (fun zσ => mX7_noteDivisors_B62 v0 v1 zσ) (fun zσ zH zl zs zm zM zv => wX7_noteDivisors_B62 l E out G hr hk v0 v1 g0 zσ zH zl zs zm zM zv) mF b17 2 _ _ _ _ hm hM (lv_sub hl [2, 1, 0] rfl)
theorem gX7_noteDivisors {v0 : Nat} {v1 : Int} {σ : mSt} {out : Int × mSt} (hm : mX7_noteDivisors v0 v1 σ = some out) : isC v0 6 := (g_t hm).1
set_option maxRecDepth 100000 in
set_option maxHeartbeats 4000000 in
theorem wX7_noteAll_B40 (l : Launch) (E : mE) (out : Int × mSt) {p : Program} {e : Env} {s : State} {m : MethodId} {args : Array Value} {below : List Frame} {meth : Method} {c : Code} (G : CallFix p m c cX7_noteAll 3 s args mTs RX7) (hr : meth.sig.returnType = none) (hk : meth.locks = false) (v0 : Nat) (v1 : Nat) (v2 : Int) (g0 : isC v0 6) : ∀ (σ : mSt) (H : Heap) (locs : List Loc) (ls : Array Slot), mX7_noteAll_B40 v0 v1 v2 σ = some out → mM (mA E 257) E 257 σ s H locs → lv_has ls 3 [(0, .ref (eA E v0)), (1, .ref (eA E v1)), (2, vI v2)] → mGo l p e 2 47 s m args below meth c E none out.2 H locs (F0 m 40 ls []) := by
  intro σ H locs ls hm hM hl
  unfold mX7_noteAll_B40 at hm
  refine r_aload_n (np := 41) G hl 0 rfl dX7_noteAll_40 rfl rfl ?_
  refine r_aload_n (np := 42) G hl 1 rfl dX7_noteAll_41 rfl rfl ?_
  refine r_iload_n (np := 43) G hl 2 rfl dX7_noteAll_42 rfl rfl ?_
  obtain ⟨b1, s2, e3, hm⟩ := call_t hm
  refine m_callVI (np := 46) G hM hl.1 [vI v2] (qX0_second l E σ v1 v2 _ e3) myX0_second (shp_lt (gX0_second e3) (by decide)) (gX0_second e3) rfl (by decide) lkX7_53 ⟨Nat.le_of_ble_eq_true rfl, Nat.le_of_ble_eq_true rfl⟩ ⟨Nat.le_of_ble_eq_true rfl, Nat.le_of_ble_eq_true rfl⟩ [.ref (eA E v0)] rfl (Nat.le_of_ble_eq_true rfl) dX7_noteAll_43 rfl (fun H locs hM => ?_)
  obtain ⟨b4, s5, e6, hm⟩ := call_t hm
  refine m_callVV (np := 49) G hM hl.1 [vI b1] (qX7_noteDivisors l E s2 v0 b1 _ e6) myX7_noteDivisors (shp_lt (gX7_noteDivisors e6) (by decide)) (gX7_noteDivisors e6) rfl (by decide) lkX7_50 ⟨Nat.le_of_ble_eq_true rfl, Nat.le_of_ble_eq_true rfl⟩ ⟨Nat.le_of_ble_eq_true rfl, Nat.le_of_ble_eq_true rfl⟩ [] rfl (Nat.le_of_ble_eq_true rfl) dX7_noteAll_46 rfl (fun H locs hM => ?_)
  exact r_vret G hr hk hM hm dX7_noteAll_49
set_option maxRecDepth 100000 in
set_option maxHeartbeats 4000000 in
theorem qX7_noteAll (l : Launch) (E : mE) (σ : mSt) (v0 : Nat) (v1 : Nat) (v2 : Int) (out : Int × mSt) (hm : mX7_noteAll v0 v1 v2 σ = some out) : mMet l yX7_noteAll cX7_noteAll 3 none 2 47 E 257 [.ref (eA E v0), .ref (eA E v1), vI v2] σ none out.2 := by
  unfold mX7_noteAll at hm
  obtain ⟨g0, hm⟩ := g_t hm
  refine m_entry (by decide +kernel) (Nat.le_of_ble_eq_true rfl) (fun p e s m args below meth c G hr hk hM ls hl => ?_)
  have G : CallFix p m c cX7_noteAll 3 s args mTs RX7 := G
  have hl : lv_has ls 3 [(0, .ref (eA E v0)), (1, .ref (eA E v1)), (2, vI v2)] := hl
  refine r_aload_n (np := 1) G hl 1 rfl dX7_noteAll_0 rfl rfl ?_
  refine r_iload_n (np := 2) G hl 2 rfl dX7_noteAll_1 rfl rfl ?_
  obtain ⟨b7, s8, e9, hm⟩ := call_t hm
  refine m_callVI (np := 5) G hM hl.1 [vI v2] (qX0_kind l E σ v1 v2 _ e9) myX0_kind (shp_lt (gX0_kind e9) (by decide)) (gX0_kind e9) rfl (by decide) lkX7_43 ⟨Nat.le_of_ble_eq_true rfl, Nat.le_of_ble_eq_true rfl⟩ ⟨Nat.le_of_ble_eq_true rfl, Nat.le_of_ble_eq_true rfl⟩ [] rfl (Nat.le_of_ble_eq_true rfl) dX7_noteAll_2 rfl (fun H locs hM => ?_)
  refine r_iconst (np := 6) G 2 dX7_noteAll_5 rfl ?_
  refine r_icmp_ne (np := 9) (tgt := 10) G rfl (wIk 2 rfl) dX7_noteAll_6 (by decide) rfl (fun h10 => ?_) (fun h10 => ?_)
  · have hm := b_f h10 hm
    refine r_aload_n (np := 11) G hl 1 rfl dX7_noteAll_10 rfl rfl ?_
    refine r_iload_n (np := 12) G hl 2 rfl dX7_noteAll_11 rfl rfl ?_
    obtain ⟨b11, s12, e13, hm⟩ := call_t hm
    refine m_callVI (np := 15) G hM hl.1 [vI v2] (qX0_kind l E s8 v1 v2 _ e13) myX0_kind (shp_lt (gX0_kind e13) (by decide)) (gX0_kind e13) rfl (by decide) lkX7_43 ⟨Nat.le_of_ble_eq_true rfl, Nat.le_of_ble_eq_true rfl⟩ ⟨Nat.le_of_ble_eq_true rfl, Nat.le_of_ble_eq_true rfl⟩ [] rfl (Nat.le_of_ble_eq_true rfl) dX7_noteAll_12 rfl (fun H locs hM => ?_)
    refine r_iconst (np := 16) G 1 dX7_noteAll_15 rfl ?_
    refine r_icmp_ne (np := 19) (tgt := 31) G rfl (wIk 1 rfl) dX7_noteAll_16 (by decide) rfl (fun h14 => ?_) (fun h14 => ?_)
    · have hm := b_f h14 hm
      refine r_aload_n (np := 32) G hl 0 rfl dX7_noteAll_31 rfl rfl ?_
      refine r_aload_n (np := 33) G hl 1 rfl dX7_noteAll_32 rfl rfl ?_
      refine r_iload_n (np := 34) G hl 2 rfl dX7_noteAll_33 rfl rfl ?_
      obtain ⟨b15, s16, e17, hm⟩ := call_t hm
      refine m_callVI (np := 37) G hM hl.1 [vI v2] (qX0_first l E s12 v1 v2 _ e17) myX0_first (shp_lt (gX0_first e17) (by decide)) (gX0_first e17) rfl (by decide) lkX7_47 ⟨Nat.le_of_ble_eq_true rfl, Nat.le_of_ble_eq_true rfl⟩ ⟨Nat.le_of_ble_eq_true rfl, Nat.le_of_ble_eq_true rfl⟩ [.ref (eA E v0)] rfl (Nat.le_of_ble_eq_true rfl) dX7_noteAll_34 rfl (fun H locs hM => ?_)
      obtain ⟨b18, s19, e20, hm⟩ := call_t hm
      refine m_callVV (np := 40) G hM hl.1 [vI b15] (qX7_noteDivisors l E s16 v0 b15 _ e20) myX7_noteDivisors (shp_lt (gX7_noteDivisors e20) (by decide)) (gX7_noteDivisors e20) rfl (by decide) lkX7_50 ⟨Nat.le_of_ble_eq_true rfl, Nat.le_of_ble_eq_true rfl⟩ ⟨Nat.le_of_ble_eq_true rfl, Nat.le_of_ble_eq_true rfl⟩ [] rfl (Nat.le_of_ble_eq_true rfl) dX7_noteAll_37 rfl (fun H locs hM => ?_)
      exact wX7_noteAll_B40 l E out G hr hk v0 v1 v2 g0 _ _ _ _ hm hM (lv_sub hl [0, 1, 2] rfl)
    · have hm := b_t h14 hm
      refine r_aload_n (np := 20) G hl 0 rfl dX7_noteAll_19 rfl rfl ?_
      refine r_aload_n (np := 21) G hl 1 rfl dX7_noteAll_20 rfl rfl ?_
      refine r_iload_n (np := 22) G hl 2 rfl dX7_noteAll_21 rfl rfl ?_
      obtain ⟨b21, s22, e23, hm⟩ := call_t hm
      refine m_callVI (np := 25) G hM hl.1 [vI v2] (qX0_first l E s12 v1 v2 _ e23) myX0_first (shp_lt (gX0_first e23) (by decide)) (gX0_first e23) rfl (by decide) lkX7_47 ⟨Nat.le_of_ble_eq_true rfl, Nat.le_of_ble_eq_true rfl⟩ ⟨Nat.le_of_ble_eq_true rfl, Nat.le_of_ble_eq_true rfl⟩ [.ref (eA E v0)] rfl (Nat.le_of_ble_eq_true rfl) dX7_noteAll_22 rfl (fun H locs hM => ?_)
      obtain ⟨b24, s25, e26, hm⟩ := call_t hm
      refine m_callVV (np := 28) G hM hl.1 [vI b21] (qX7_note l E s22 v0 b21 _ e26) myX7_note (shp_lt (gX7_note e26) (by decide)) (gX7_note e26) rfl (by decide) lkX7_32 ⟨Nat.le_of_ble_eq_true rfl, Nat.le_of_ble_eq_true rfl⟩ ⟨Nat.le_of_ble_eq_true rfl, Nat.le_of_ble_eq_true rfl⟩ [] rfl (Nat.le_of_ble_eq_true rfl) dX7_noteAll_25 rfl (fun H locs hM => ?_)
      refine r_goto (np := 40) G dX7_noteAll_28 (by decide) ?_
      exact wX7_noteAll_B40 l E out G hr hk v0 v1 v2 g0 _ _ _ _ hm hM (lv_sub hl [0, 1, 2] rfl)
  · have hm := b_t h10 hm
    exact r_vret G hr hk hM hm dX7_noteAll_9
theorem gX7_noteAll {v0 : Nat} {v1 : Nat} {v2 : Int} {σ : mSt} {out : Int × mSt} (hm : mX7_noteAll v0 v1 v2 σ = some out) : isC v0 6 := (g_t hm).1
set_option maxRecDepth 100000 in
set_option maxHeartbeats 4000000 in
theorem wX7_isRamified_B229 (l : Launch) (E : mE) (out : Int × mSt) {p : Program} {e : Env} {s : State} {m : MethodId} {args : Array Value} {below : List Frame} {meth : Method} {c : Code} (G : CallFix p m c cX7_isRamified 12 s args mTs RX7) (hr : meth.sig.returnType = (some .boolean)) (hk : meth.locks = false) (v0 : Nat) (v1 : Int) (v2 : Int) (v3 : Int) (g0 : isC v0 6) : ∀ (t0 : Int) (σ : mSt) (H : Heap) (locs : List Loc) (ls : Array Slot), mX7_isRamified_B229 v0 v1 v2 v3 t0 σ = some out → mM (mA E 257) E 257 σ s H locs → lv_has ls 12 [] → mGo l p e 3 74 s m args below meth c E (some (vI out.1)) out.2 H locs (F0 m 229 ls [vI t0]) := by
  intro t0 σ H locs ls hm hM hl
  unfold mX7_isRamified_B229 at hm
  refine r_istore (np := 231) G hl rfl [(10, vI t0)] dX7_isRamified_229 rfl (by decide) rfl (fun ls hl => ?_)
  refine r_iload (np := 233) G hl 0 rfl dX7_isRamified_231 rfl ?_
  obtain ⟨g1, hm⟩ := g_t hm
  exact r_zret G hr hk hM g1 hm dX7_isRamified_233
set_option maxRecDepth 100000 in
set_option maxHeartbeats 4000000 in
theorem wX7_isRamified_B204 (l : Launch) (E : mE) (out : Int × mSt) {p : Program} {e : Env} {s : State} {m : MethodId} {args : Array Value} {below : List Frame} {meth : Method} {c : Code} (G : CallFix p m c cX7_isRamified 12 s args mTs RX7) (hr : meth.sig.returnType = (some .boolean)) (hk : meth.locks = false) (v0 : Nat) (v1 : Int) (v2 : Int) (v3 : Int) (g0 : isC v0 6) : ∀ (v4 : Int) (v8 : Int) (v10 : Int) (σ : mSt) (H : Heap) (locs : List Loc) (ls : Array Slot), mX7_isRamified_B204 v0 v1 v2 v3 v4 v8 v10 σ = some out → mM (mA E 257) E 257 σ s H locs → lv_has ls 12 [(3, vI v3), (4, vI v4), (8, vL v8), (10, vI v10)] → mGo l p e 3 74 s m args below meth c E (some (vI out.1)) out.2 H locs (F0 m 204 ls []) := by
  intro v4 v8 v10 σ H locs ls hm hM hl
  unfold mX7_isRamified_B204 at hm
  refine r_iload (np := 206) G hl 1 rfl dX7_isRamified_204 rfl ?_
  refine r_iconst (np := 207) G 1 dX7_isRamified_206 rfl ?_
  refine r_icmp_ne (np := 210) (tgt := 231) G rfl (wIk 1 rfl) dX7_isRamified_207 (by decide) rfl (fun h2 => ?_) (fun h2 => ?_)
  · have hm := b_f h2 hm
    refine r_iload (np := 233) G hl 3 rfl dX7_isRamified_231 rfl ?_
    obtain ⟨g3, hm⟩ := g_t hm
    exact r_zret G hr hk hM g3 hm dX7_isRamified_233
  · have hm := b_t h2 hm
    refine r_lload (np := 212) G hl 2 rfl dX7_isRamified_210 rfl ?_
    refine r_iload_n (np := 213) G hl 0 rfl dX7_isRamified_212 rfl rfl ?_
    obtain ⟨b4, s5, e6, hm⟩ := call_t hm
    refine m_callSI (np := 216) G hM hl.1 [vL v8, vI v3] (qX5_isSquareModulo l E σ v8 v3 _ e6) myX5_isSquareModulo lkX7_86 ⟨Nat.le_of_ble_eq_true rfl, Nat.le_of_ble_eq_true rfl⟩ ⟨Nat.le_of_ble_eq_true rfl, Nat.le_of_ble_eq_true rfl⟩ [] rfl (Nat.le_of_ble_eq_true rfl) dX7_isRamified_213 rfl (fun H locs hM => ?_)
    refine r_if_ne (np := 219) (tgt := 231) G rfl dX7_isRamified_216 (by decide) rfl (fun h7 => ?_) (fun h7 => ?_)
    · have hm := b_f h7 hm
      refine r_iload (np := 233) G hl 3 rfl dX7_isRamified_231 rfl ?_
      obtain ⟨g8, hm⟩ := g_t hm
      exact r_zret G hr hk hM g8 hm dX7_isRamified_233
    · have hm := b_t h7 hm
      refine r_iload (np := 221) G hl 3 rfl dX7_isRamified_219 rfl ?_
      refine r_if_ne (np := 224) (tgt := 228) G rfl dX7_isRamified_221 (by decide) rfl (fun h9 => ?_) (fun h9 => ?_)
      · have hm := b_f h9 hm
        refine r_iconst (np := 229) G 0 dX7_isRamified_228 rfl ?_
        exact wX7_isRamified_B229 l E out G hr hk v0 v1 v2 v3 g0 0 _ _ _ _ hm hM (lv_sub hl [] rfl)
      · have hm := b_t h9 hm
        refine r_iconst (np := 225) G 1 dX7_isRamified_224 rfl ?_
        refine r_goto (np := 229) G dX7_isRamified_225 (by decide) ?_
        exact wX7_isRamified_B229 l E out G hr hk v0 v1 v2 v3 g0 1 _ _ _ _ hm hM (lv_sub hl [] rfl)
set_option maxRecDepth 100000 in
set_option maxHeartbeats 4000000 in
theorem wX7_isRamified_B202 (l : Launch) (E : mE) (out : Int × mSt) {p : Program} {e : Env} {s : State} {m : MethodId} {args : Array Value} {below : List Frame} {meth : Method} {c : Code} (G : CallFix p m c cX7_isRamified 12 s args mTs RX7) (hr : meth.sig.returnType = (some .boolean)) (hk : meth.locks = false) (v0 : Nat) (v1 : Int) (v2 : Int) (v3 : Int) (g0 : isC v0 6) : ∀ (v4 : Int) (v8 : Int) (t0 : Int) (σ : mSt) (H : Heap) (locs : List Loc) (ls : Array Slot), mX7_isRamified_B202 v0 v1 v2 v3 v4 v8 t0 σ = some out → mM (mA E 257) E 257 σ s H locs → lv_has ls 12 [(3, vI v3), (4, vI v4), (8, vL v8)] → mGo l p e 3 74 s m args below meth c E (some (vI out.1)) out.2 H locs (F0 m 202 ls [vI t0]) := by
  intro v4 v8 t0 σ H locs ls hm hM hl
  unfold mX7_isRamified_B202 at hm
  refine r_istore (np := 204) G hl rfl [(10, vI t0), (3, vI v3), (4, vI v4), (8, vL v8)] dX7_isRamified_202 rfl (by decide) rfl (fun ls hl => ?_)
  exact wX7_isRamified_B204 l E out G hr hk v0 v1 v2 v3 g0 v4 v8 t0 _ _ _ _ hm hM (lv_sub hl [1, 2, 3, 0] rfl)
set_option maxRecDepth 100000 in
set_option maxHeartbeats 4000000 in
theorem wX7_isRamified_B175 (l : Launch) (E : mE) (out : Int × mSt) {p : Program} {e : Env} {s : State} {m : MethodId} {args : Array Value} {below : List Frame} {meth : Method} {c : Code} (G : CallFix p m c cX7_isRamified 12 s args mTs RX7) (hr : meth.sig.returnType = (some .boolean)) (hk : meth.locks = false) (v0 : Nat) (v1 : Int) (v2 : Int) (v3 : Int) (g0 : isC v0 6) : ∀ (v4 : Int) (v5 : Int) (v6 : Int) (v8 : Int) (t0 : Int) (σ : mSt) (H : Heap) (locs : List Loc) (ls : Array Slot), mX7_isRamified_B175 v0 v1 v2 v3 v4 v5 v6 v8 t0 σ = some out → mM (mA E 257) E 257 σ s H locs → lv_has ls 12 [(3, vI v3), (4, vI v4), (5, vI v5), (6, vL v6), (8, vL v8)] → mGo l p e 3 74 s m args below meth c E (some (vI out.1)) out.2 H locs (F0 m 175 ls [vI t0]) := by
  intro v4 v5 v6 v8 t0 σ H locs ls hm hM hl
  unfold mX7_isRamified_B175 at hm
  refine r_istore (np := 177) G hl rfl [(10, vI t0), (3, vI v3), (4, vI v4), (5, vI v5), (6, vL v6), (8, vL v8)] dX7_isRamified_175 rfl (by decide) rfl (fun ls hl => ?_)
  refine r_iload (np := 179) G hl 3 rfl dX7_isRamified_177 rfl ?_
  refine r_iconst (np := 180) G 1 dX7_isRamified_179 rfl ?_
  refine r_icmp_ne (np := 183) (tgt := 204) G rfl (wIk 1 rfl) dX7_isRamified_180 (by decide) rfl (fun h10 => ?_) (fun h10 => ?_)
  · have hm := b_f h10 hm
    exact wX7_isRamified_B204 l E out G hr hk v0 v1 v2 v3 g0 v4 v8 t0 _ _ _ _ hm hM (lv_sub hl [1, 2, 5, 0] rfl)
  · have hm := b_t h10 hm
    refine r_lload (np := 185) G hl 4 rfl dX7_isRamified_183 rfl ?_
    refine r_iload_n (np := 186) G hl 1 rfl dX7_isRamified_185 rfl rfl ?_
    obtain ⟨b11, s12, e13, hm⟩ := call_t hm
    refine m_callSI (np := 189) G hM hl.1 [vL v6, vI v3] (qX5_isSquareModulo l E σ v6 v3 _ e13) myX5_isSquareModulo lkX7_86 ⟨Nat.le_of_ble_eq_true rfl, Nat.le_of_ble_eq_true rfl⟩ ⟨Nat.le_of_ble_eq_true rfl, Nat.le_of_ble_eq_true rfl⟩ [] rfl (Nat.le_of_ble_eq_true rfl) dX7_isRamified_186 rfl (fun H locs hM => ?_)
    refine r_if_ne (np := 192) (tgt := 204) G rfl dX7_isRamified_189 (by decide) rfl (fun h14 => ?_) (fun h14 => ?_)
    · have hm := b_f h14 hm
      exact wX7_isRamified_B204 l E out G hr hk v0 v1 v2 v3 g0 v4 v8 t0 _ _ _ _ hm hM (lv_sub hl [1, 2, 5, 0] rfl)
    · have hm := b_t h14 hm
      refine r_iload (np := 194) G hl 0 rfl dX7_isRamified_192 rfl ?_
      refine r_if_ne (np := 197) (tgt := 201) G rfl dX7_isRamified_194 (by decide) rfl (fun h15 => ?_) (fun h15 => ?_)
      · have hm := b_f h15 hm
        refine r_iconst (np := 202) G 0 dX7_isRamified_201 rfl ?_
        exact wX7_isRamified_B202 l E out G hr hk v0 v1 v2 v3 g0 v4 v8 0 _ _ _ _ hm hM (lv_sub hl [1, 2, 5] rfl)
      · have hm := b_t h15 hm
        refine r_iconst (np := 198) G 1 dX7_isRamified_197 rfl ?_
        refine r_goto (np := 202) G dX7_isRamified_198 (by decide) ?_
        exact wX7_isRamified_B202 l E out G hr hk v0 v1 v2 v3 g0 v4 v8 1 _ _ _ _ hm hM (lv_sub hl [1, 2, 5] rfl)
set_option maxRecDepth 100000 in
set_option maxHeartbeats 4000000 in
theorem wX7_isRamified_B174 (l : Launch) (E : mE) (out : Int × mSt) {p : Program} {e : Env} {s : State} {m : MethodId} {args : Array Value} {below : List Frame} {meth : Method} {c : Code} (G : CallFix p m c cX7_isRamified 12 s args mTs RX7) (hr : meth.sig.returnType = (some .boolean)) (hk : meth.locks = false) (v0 : Nat) (v1 : Int) (v2 : Int) (v3 : Int) (g0 : isC v0 6) : ∀ (v4 : Int) (v5 : Int) (v6 : Int) (v8 : Int) (σ : mSt) (H : Heap) (locs : List Loc) (ls : Array Slot), mX7_isRamified_B174 v0 v1 v2 v3 v4 v5 v6 v8 σ = some out → mM (mA E 257) E 257 σ s H locs → lv_has ls 12 [(3, vI v3), (4, vI v4), (5, vI v5), (6, vL v6), (8, vL v8)] → mGo l p e 3 74 s m args below meth c E (some (vI out.1)) out.2 H locs (F0 m 174 ls []) := by
  intro v4 v5 v6 v8 σ H locs ls hm hM hl
  unfold mX7_isRamified_B174 at hm
  refine r_iconst (np := 175) G 0 dX7_isRamified_174 rfl ?_
  exact wX7_isRamified_B175 l E out G hr hk v0 v1 v2 v3 g0 v4 v5 v6 v8 0 _ _ _ _ hm hM (lv_sub hl [0, 1, 2, 3, 4] rfl)
set_option maxRecDepth 100000 in
set_option maxHeartbeats 4000000 in
theorem wX7_isRamified_B72 (l : Launch) (E : mE) (out : Int × mSt) {p : Program} {e : Env} {s : State} {m : MethodId} {args : Array Value} {below : List Frame} {meth : Method} {c : Code} (G : CallFix p m c cX7_isRamified 12 s args mTs RX7) (hr : meth.sig.returnType = (some .boolean)) (hk : meth.locks = false) (v0 : Nat) (v1 : Int) (v2 : Int) (v3 : Int) (g0 : isC v0 6) : ∀ (v4 : Int) (v5 : Int) (v6 : Int) (t0 : Int) (σ : mSt) (H : Heap) (locs : List Loc) (ls : Array Slot), mX7_isRamified_B72 v0 v1 v2 v3 v4 v5 v6 t0 σ = some out → mM (mA E 257) E 257 σ s H locs → lv_has ls 12 [(3, vI v3), (4, vI v4), (5, vI v5), (6, vL v6)] → mGo l p e 3 74 s m args below meth c E (some (vI out.1)) out.2 H locs (F0 m 72 ls [vL t0]) := by
  intro v4 v5 v6 t0 σ H locs ls hm hM hl
  unfold mX7_isRamified_B72 at hm
  refine r_lstore (np := 74) G hl rfl [(8, vL t0), (3, vI v3), (4, vI v4), (5, vI v5), (6, vL v6)] dX7_isRamified_72 rfl (by decide) rfl (fun ls hl => ?_)
  refine r_iload_n (np := 75) G hl 1 rfl dX7_isRamified_74 rfl rfl ?_
  refine r_iconst (np := 76) G 2 dX7_isRamified_75 rfl ?_
  refine r_icmp_ne (np := 79) (tgt := 147) G rfl (wIk 2 rfl) dX7_isRamified_76 (by decide) rfl (fun h16 => ?_) (fun h16 => ?_)
  · have hm := b_f h16 hm
    refine r_iload (np := 149) G hl 2 rfl dX7_isRamified_147 rfl ?_
    refine r_iconst (np := 150) G 1 dX7_isRamified_149 rfl ?_
    refine r_icmp_ne (np := 153) (tgt := 174) G rfl (wIk 1 rfl) dX7_isRamified_150 (by decide) rfl (fun h17 => ?_) (fun h17 => ?_)
    · have hm := b_f h17 hm
      exact wX7_isRamified_B174 l E out G hr hk v0 v1 v2 v3 g0 v4 v5 v6 t0 _ _ _ _ hm hM (lv_sub hl [1, 2, 3, 4, 0] rfl)
    · have hm := b_t h17 hm
      refine r_iload (np := 155) G hl 3 rfl dX7_isRamified_153 rfl ?_
      refine r_iconst (np := 156) G 1 dX7_isRamified_155 rfl ?_
      refine r_icmp_ne (np := 159) (tgt := 174) G rfl (wIk 1 rfl) dX7_isRamified_156 (by decide) rfl (fun h18 => ?_) (fun h18 => ?_)
      · have hm := b_f h18 hm
        exact wX7_isRamified_B174 l E out G hr hk v0 v1 v2 v3 g0 v4 v5 v6 t0 _ _ _ _ hm hM (lv_sub hl [1, 2, 3, 4, 0] rfl)
      · have hm := b_t h18 hm
        refine r_iload_n (np := 160) G hl 1 rfl dX7_isRamified_159 rfl rfl ?_
        refine r_iconst (np := 161) G 1 dX7_isRamified_160 rfl ?_
        refine r_isub (np := 162) G dX7_isRamified_161 rfl ?_
        refine r_iconst (np := 163) G 2 dX7_isRamified_162 rfl ?_
        obtain ⟨g19, hm⟩ := g_t hm
        refine r_idiv (np := 164) G g19 dX7_isRamified_163 rfl ?_
        refine r_iconst (np := 165) G 2 dX7_isRamified_164 rfl ?_
        refine r_irem (np := 166) G g19 dX7_isRamified_165 rfl ?_
        refine r_iconst (np := 167) G 1 dX7_isRamified_166 rfl ?_
        refine r_icmp_ne (np := 170) (tgt := 174) G rfl (wIk 1 rfl) dX7_isRamified_167 (by decide) rfl (fun h20 => ?_) (fun h20 => ?_)
        · have hm := b_f h20 hm
          exact wX7_isRamified_B174 l E out G hr hk v0 v1 v2 v3 g0 v4 v5 v6 t0 _ _ _ _ hm hM (lv_sub hl [1, 2, 3, 4, 0] rfl)
        · have hm := b_t h20 hm
          refine r_iconst (np := 171) G 1 dX7_isRamified_170 rfl ?_
          refine r_goto (np := 175) G dX7_isRamified_171 (by decide) ?_
          exact wX7_isRamified_B175 l E out G hr hk v0 v1 v2 v3 g0 v4 v5 v6 t0 1 _ _ _ _ hm hM (lv_sub hl [1, 2, 3, 4, 0] rfl)
  · have hm := b_t h16 hm
    refine r_lload (np := 81) G hl 4 rfl dX7_isRamified_79 rfl ?_
    refine r_lconst (np := 82) G 1 dX7_isRamified_81 rfl rfl ?_
    refine r_lsub (np := 83) G dX7_isRamified_82 rfl ?_
    refine r_ldc2 (np := 86) G 2 dX7_isRamified_83 lkX7_82 rfl rfl ?_
    obtain ⟨g21, hm⟩ := g_t hm
    refine r_ldiv (np := 87) G g21 dX7_isRamified_86 rfl ?_
    refine r_lload (np := 89) G hl 0 rfl dX7_isRamified_87 rfl ?_
    refine r_lconst (np := 90) G 1 dX7_isRamified_89 rfl rfl ?_
    refine r_lsub (np := 91) G dX7_isRamified_90 rfl ?_
    refine r_ldc2 (np := 94) G 2 dX7_isRamified_91 lkX7_82 rfl rfl ?_
    refine r_ldiv (np := 95) G g21 dX7_isRamified_94 rfl ?_
    refine r_lmul (np := 96) G dX7_isRamified_95 rfl ?_
    refine r_iload (np := 98) G hl 2 rfl dX7_isRamified_96 rfl ?_
    refine r_i2l (np := 99) G rfl dX7_isRamified_98 rfl ?_
    refine r_lload (np := 101) G hl 0 rfl dX7_isRamified_99 rfl ?_
    refine r_lload (np := 103) G hl 0 rfl dX7_isRamified_101 rfl ?_
    refine r_lmul (np := 104) G dX7_isRamified_103 rfl ?_
    refine r_lconst (np := 105) G 1 dX7_isRamified_104 rfl rfl ?_
    refine r_lsub (np := 106) G dX7_isRamified_105 rfl ?_
    refine r_ldc2 (np := 109) G 8 dX7_isRamified_106 lkX7_84 rfl rfl ?_
    obtain ⟨g22, hm⟩ := g_t hm
    refine r_ldiv (np := 110) G g22 dX7_isRamified_109 rfl ?_
    refine r_lmul (np := 111) G dX7_isRamified_110 rfl ?_
    refine r_ladd (np := 112) G dX7_isRamified_111 rfl ?_
    refine r_iload (np := 114) G hl 3 rfl dX7_isRamified_112 rfl ?_
    refine r_i2l (np := 115) G rfl dX7_isRamified_114 rfl ?_
    refine r_lload (np := 117) G hl 4 rfl dX7_isRamified_115 rfl ?_
    refine r_lload (np := 119) G hl 4 rfl dX7_isRamified_117 rfl ?_
    refine r_lmul (np := 120) G dX7_isRamified_119 rfl ?_
    refine r_lconst (np := 121) G 1 dX7_isRamified_120 rfl rfl ?_
    refine r_lsub (np := 122) G dX7_isRamified_121 rfl ?_
    refine r_ldc2 (np := 125) G 8 dX7_isRamified_122 lkX7_84 rfl rfl ?_
    refine r_ldiv (np := 126) G g22 dX7_isRamified_125 rfl ?_
    refine r_lmul (np := 127) G dX7_isRamified_126 rfl ?_
    refine r_ladd (np := 128) G dX7_isRamified_127 rfl ?_
    obtain ⟨a23, e24, hm⟩ := bnd_t hm
    refine r_lstore (np := 130) G hl e24 [(10, vL a23), (8, vL t0), (3, vI v3), (4, vI v4), (5, vI v5), (6, vL v6)] dX7_isRamified_128 rfl (by decide) rfl (fun ls hl => ?_)
    refine r_lload (np := 132) G hl 0 rfl dX7_isRamified_130 rfl ?_
    refine r_ldc2 (np := 135) G 2 dX7_isRamified_132 lkX7_82 rfl rfl ?_
    refine r_lrem (np := 136) G g21 dX7_isRamified_135 rfl ?_
    refine r_lconst (np := 137) G 0 dX7_isRamified_136 rfl rfl ?_
    refine r_lcmp_eq (np := 141) (tgt := 145) G rfl (wLk 0 rfl) dX7_isRamified_137 dX7_isRamified_138 (by decide) rfl (fun h25 => ?_) (fun h25 => ?_)
    · have hm := b_t h25 hm
      refine r_iconst (np := 146) G 0 dX7_isRamified_145 rfl ?_
      exact r_zret G hr hk hM (Or.inl rfl) hm dX7_isRamified_146
    · have hm := b_f h25 hm
      refine r_iconst (np := 142) G 1 dX7_isRamified_141 rfl ?_
      refine r_goto (np := 146) G dX7_isRamified_142 (by decide) ?_
      exact r_zret G hr hk hM (Or.inr rfl) hm dX7_isRamified_146
set_option maxRecDepth 100000 in
set_option maxHeartbeats 4000000 in
theorem wX7_isRamified_B52 (l : Launch) (E : mE) (out : Int × mSt) {p : Program} {e : Env} {s : State} {m : MethodId} {args : Array Value} {below : List Frame} {meth : Method} {c : Code} (G : CallFix p m c cX7_isRamified 12 s args mTs RX7) (hr : meth.sig.returnType = (some .boolean)) (hk : meth.locks = false) (v0 : Nat) (v1 : Int) (v2 : Int) (v3 : Int) (g0 : isC v0 6) : ∀ (v4 : Int) (v5 : Int) (t0 : Int) (σ : mSt) (H : Heap) (locs : List Loc) (ls : Array Slot), mX7_isRamified_B52 v0 v1 v2 v3 v4 v5 t0 σ = some out → mM (mA E 257) E 257 σ s H locs → lv_has ls 12 [(2, vI v2), (3, vI v3), (4, vI v4), (5, vI v5)] → mGo l p e 3 74 s m args below meth c E (some (vI out.1)) out.2 H locs (F0 m 52 ls [vL t0]) := by
  intro v4 v5 t0 σ H locs ls hm hM hl
  unfold mX7_isRamified_B52 at hm
  refine r_lstore (np := 54) G hl rfl [(6, vL t0), (2, vI v2), (3, vI v3), (4, vI v4), (5, vI v5)] dX7_isRamified_52 rfl (by decide) rfl (fun ls hl => ?_)
  refine r_iload (np := 56) G hl 4 rfl dX7_isRamified_54 rfl ?_
  refine r_iconst (np := 57) G 1 dX7_isRamified_56 rfl ?_
  refine r_icmp_ne (np := 60) (tgt := 70) G rfl (wIk 1 rfl) dX7_isRamified_57 (by decide) rfl (fun h26 => ?_) (fun h26 => ?_)
  · have hm := b_f h26 hm
    refine r_iload_n (np := 71) G hl 1 rfl dX7_isRamified_70 rfl rfl ?_
    refine r_i2l (np := 72) G rfl dX7_isRamified_71 rfl ?_
    exact wX7_isRamified_B72 l E out G hr hk v0 v1 v2 v3 g0 v4 v5 t0 (wI v2) _ _ _ _ hm hM (lv_sub hl [2, 3, 4, 0] rfl)
  · have hm := b_t h26 hm
    refine r_iload_n (np := 61) G hl 1 rfl dX7_isRamified_60 rfl rfl ?_
    refine r_i2l (np := 62) G rfl dX7_isRamified_61 rfl ?_
    refine r_iload_n (np := 63) G hl 2 rfl dX7_isRamified_62 rfl rfl ?_
    refine r_i2l (np := 64) G rfl dX7_isRamified_63 rfl ?_
    obtain ⟨b27, s28, e29, hm⟩ := call_t hm
    refine m_callSL (np := 67) G hM hl.1 [vL (wI v2), vL (wI v3)] (qX5_quotient l E σ (wI v2) (wI v3) _ e29) myX5_quotient lkX7_78 ⟨Nat.le_of_ble_eq_true rfl, Nat.le_of_ble_eq_true rfl⟩ ⟨Nat.le_of_ble_eq_true rfl, Nat.le_of_ble_eq_true rfl⟩ [] rfl (Nat.le_of_ble_eq_true rfl) dX7_isRamified_64 rfl (fun H locs hM => ?_)
    refine r_goto (np := 72) G dX7_isRamified_67 (by decide) ?_
    exact wX7_isRamified_B72 l E out G hr hk v0 v1 v2 v3 g0 v4 v5 t0 b27 _ _ _ _ hm hM (lv_sub hl [2, 3, 4, 0] rfl)
set_option maxRecDepth 100000 in
set_option maxHeartbeats 4000000 in
theorem wX7_isRamified_B16 (l : Launch) (E : mE) (out : Int × mSt) {p : Program} {e : Env} {s : State} {m : MethodId} {args : Array Value} {below : List Frame} {meth : Method} {c : Code} (G : CallFix p m c cX7_isRamified 12 s args mTs RX7) (hr : meth.sig.returnType = (some .boolean)) (hk : meth.locks = false) (v0 : Nat) (v1 : Int) (v2 : Int) (v3 : Int) (g0 : isC v0 6) : ∀ (σ : mSt) (H : Heap) (locs : List Loc) (ls : Array Slot), mX7_isRamified_B16 v0 v1 v2 v3 σ = some out → mM (mA E 257) E 257 σ s H locs → lv_has ls 12 [] → mGo l p e 3 74 s m args below meth c E (some (vI out.1)) out.2 H locs (F0 m 16 ls []) := by
  intro σ H locs ls hm hM hl
  unfold mX7_isRamified_B16 at hm
  refine r_iconst (np := 17) G 0 dX7_isRamified_16 rfl ?_
  exact r_zret G hr hk hM (Or.inl rfl) hm dX7_isRamified_17
set_option maxRecDepth 100000 in
set_option maxHeartbeats 4000000 in
theorem qX7_isRamified (l : Launch) (E : mE) (σ : mSt) (v0 : Nat) (v1 : Int) (v2 : Int) (v3 : Int) (out : Int × mSt) (hm : mX7_isRamified v0 v1 v2 v3 σ = some out) : mMet l yX7_isRamified cX7_isRamified 12 (some .boolean) 3 74 E 257 [.ref (eA E v0), vI v1, vI v2, vI v3] σ (some (vI out.1)) out.2 := by
  unfold mX7_isRamified at hm
  obtain ⟨g0, hm⟩ := g_t hm
  refine m_entry (by decide +kernel) (Nat.le_of_ble_eq_true rfl) (fun p e s m args below meth c G hr hk hM ls hl => ?_)
  have G : CallFix p m c cX7_isRamified 12 s args mTs RX7 := G
  have hl : lv_has ls 12 [(0, .ref (eA E v0)), (1, vI v1), (2, vI v2), (3, vI v3)] := hl
  refine r_iload_n (np := 1) G hl 3 rfl dX7_isRamified_0 rfl rfl ?_
  refine r_if_ne (np := 4) (tgt := 18) G rfl dX7_isRamified_1 (by decide) rfl (fun h30 => ?_) (fun h30 => ?_)
  · have hm := b_f h30 hm
    refine r_iload_n (np := 19) G hl 3 rfl dX7_isRamified_18 rfl rfl ?_
    refine r_iload_n (np := 20) G hl 1 rfl dX7_isRamified_19 rfl rfl ?_
    refine r_i2l (np := 21) G rfl dX7_isRamified_20 rfl ?_
    obtain ⟨b31, s32, e33, hm⟩ := call_t hm
    refine m_callSI (np := 24) G hM hl.1 [vI v3, vL (wI v1)] (qX5_howOften l E σ v3 (wI v1) _ e33) myX5_howOften lkX7_72 ⟨Nat.le_of_ble_eq_true rfl, Nat.le_of_ble_eq_true rfl⟩ ⟨Nat.le_of_ble_eq_true rfl, Nat.le_of_ble_eq_true rfl⟩ [] rfl (Nat.le_of_ble_eq_true rfl) dX7_isRamified_21 rfl (fun H locs hM => ?_)
    refine r_istore (np := 26) G hl rfl [(4, vI b31), (0, .ref (eA E v0)), (1, vI v1), (2, vI v2), (3, vI v3)] dX7_isRamified_24 rfl (by decide) rfl (fun ls hl => ?_)
    refine r_iload_n (np := 27) G hl 4 rfl dX7_isRamified_26 rfl rfl ?_
    refine r_iload_n (np := 28) G hl 3 rfl dX7_isRamified_27 rfl rfl ?_
    refine r_i2l (np := 29) G rfl dX7_isRamified_28 rfl ?_
    obtain ⟨b34, s35, e36, hm⟩ := call_t hm
    refine m_callSI (np := 32) G hM hl.1 [vI v3, vL (wI v2)] (qX5_howOften l E s32 v3 (wI v2) _ e36) myX5_howOften lkX7_72 ⟨Nat.le_of_ble_eq_true rfl, Nat.le_of_ble_eq_true rfl⟩ ⟨Nat.le_of_ble_eq_true rfl, Nat.le_of_ble_eq_true rfl⟩ [] rfl (Nat.le_of_ble_eq_true rfl) dX7_isRamified_29 rfl (fun H locs hM => ?_)
    refine r_istore (np := 34) G hl rfl [(5, vI b34), (4, vI b31), (0, .ref (eA E v0)), (1, vI v1), (2, vI v2), (3, vI v3)] dX7_isRamified_32 rfl (by decide) rfl (fun ls hl => ?_)
    refine r_iload (np := 36) G hl 1 rfl dX7_isRamified_34 rfl ?_
    refine r_iconst (np := 37) G 1 dX7_isRamified_36 rfl ?_
    refine r_icmp_ne (np := 40) (tgt := 50) G rfl (wIk 1 rfl) dX7_isRamified_37 (by decide) rfl (fun h37 => ?_) (fun h37 => ?_)
    · have hm := b_f h37 hm
      refine r_iload_n (np := 51) G hl 3 rfl dX7_isRamified_50 rfl rfl ?_
      refine r_i2l (np := 52) G rfl dX7_isRamified_51 rfl ?_
      exact wX7_isRamified_B52 l E out G hr hk v0 v1 v2 v3 g0 b31 b34 (wI v1) _ _ _ _ hm hM (lv_sub hl [4, 5, 1, 0] rfl)
    · have hm := b_t h37 hm
      refine r_iload_n (np := 41) G hl 3 rfl dX7_isRamified_40 rfl rfl ?_
      refine r_i2l (np := 42) G rfl dX7_isRamified_41 rfl ?_
      refine r_iload_n (np := 43) G hl 5 rfl dX7_isRamified_42 rfl rfl ?_
      refine r_i2l (np := 44) G rfl dX7_isRamified_43 rfl ?_
      obtain ⟨b38, s39, e40, hm⟩ := call_t hm
      refine m_callSL (np := 47) G hM hl.1 [vL (wI v1), vL (wI v3)] (qX5_quotient l E s35 (wI v1) (wI v3) _ e40) myX5_quotient lkX7_78 ⟨Nat.le_of_ble_eq_true rfl, Nat.le_of_ble_eq_true rfl⟩ ⟨Nat.le_of_ble_eq_true rfl, Nat.le_of_ble_eq_true rfl⟩ [] rfl (Nat.le_of_ble_eq_true rfl) dX7_isRamified_44 rfl (fun H locs hM => ?_)
      refine r_goto (np := 52) G dX7_isRamified_47 (by decide) ?_
      exact wX7_isRamified_B52 l E out G hr hk v0 v1 v2 v3 g0 b31 b34 b38 _ _ _ _ hm hM (lv_sub hl [4, 5, 1, 0] rfl)
  · have hm := b_t h30 hm
    refine r_iload_n (np := 5) G hl 1 rfl dX7_isRamified_4 rfl rfl ?_
    refine r_if_ge (np := 8) (tgt := 16) G rfl dX7_isRamified_5 (by decide) rfl (fun h41 => ?_) (fun h41 => ?_)
    · have hm := b_t h41 hm
      exact wX7_isRamified_B16 l E out G hr hk v0 v1 v2 v3 g0 _ _ _ _ hm hM (lv_sub hl [] rfl)
    · have hm := b_f h41 hm
      refine r_iload_n (np := 9) G hl 2 rfl dX7_isRamified_8 rfl rfl ?_
      refine r_if_ge (np := 12) (tgt := 16) G rfl dX7_isRamified_9 (by decide) rfl (fun h42 => ?_) (fun h42 => ?_)
      · have hm := b_t h42 hm
        exact wX7_isRamified_B16 l E out G hr hk v0 v1 v2 v3 g0 _ _ _ _ hm hM (lv_sub hl [] rfl)
      · have hm := b_f h42 hm
        refine r_iconst (np := 13) G 1 dX7_isRamified_12 rfl ?_
        refine r_goto (np := 17) G dX7_isRamified_13 (by decide) ?_
        exact r_zret G hr hk hM (Or.inr rfl) hm dX7_isRamified_17
theorem gX7_isRamified {v0 : Nat} {v1 : Int} {v2 : Int} {v3 : Int} {σ : mSt} {out : Int × mSt} (hm : mX7_isRamified v0 v1 v2 v3 σ = some out) : isC v0 6 := (g_t hm).1
set_option maxRecDepth 100000 in
set_option maxHeartbeats 4000000 in
theorem wX7_powerThatIs_B41 (l : Launch) (E : mE) (out : Int × mSt) {p : Program} {e : Env} {s : State} {m : MethodId} {args : Array Value} {below : List Frame} {meth : Method} {c : Code} (G : CallFix p m c cX7_powerThatIs 7 s args mTs RX7) (hr : meth.sig.returnType = (some .int)) (hk : meth.locks = false) (v0 : Nat) (v1 : Int) (v2 : Int) (v3 : Int) (g0 : isC v0 6) : ∀ (σ : mSt) (H : Heap) (locs : List Loc) (ls : Array Slot), mX7_powerThatIs_B41 v0 v1 v2 v3 σ = some out → mM (mA E 257) E 257 σ s H locs → lv_has ls 7 [] → mGo l p e 0 0 s m args below meth c E (some (vI out.1)) out.2 H locs (F0 m 41 ls []) := by
  intro σ H locs ls hm hM hl
  unfold mX7_powerThatIs_B41 at hm
  refine r_iconst (np := 42) G 0 dX7_powerThatIs_41 rfl ?_
  exact r_iret G hr hk hM hm dX7_powerThatIs_42
set_option maxRecDepth 100000 in
set_option maxHeartbeats 4000000 in
theorem wX7_powerThatIs_L6 (l : Launch) (E : mE) (out : Int × mSt) {p : Program} {e : Env} {s : State} {m : MethodId} {args : Array Value} {below : List Frame} {meth : Method} {c : Code} (G : CallFix p m c cX7_powerThatIs 7 s args mTs RX7) (hr : meth.sig.returnType = (some .int)) (hk : meth.locks = false) (v0 : Nat) (v1 : Int) (v2 : Int) (v3 : Int) (g0 : isC v0 6) (x41 : mSt → Option (Int × mSt)) (hx41 : ∀ (σ : mSt) (H : Heap) (locs : List Loc) (ls : Array Slot), x41 σ = some out → mM (mA E 257) E 257 σ s H locs → lv_has ls 7 [] → mGo l p e 0 0 s m args below meth c E (some (vI out.1)) out.2 H locs (F0 m 41 ls [])) : ∀ (n : Nat) (v4 : Int) (v6 : Int) (σ : mSt) (H : Heap) (locs : List Loc) (ls : Array Slot), mX7_powerThatIs_L6 v0 v1 v2 v3 x41 n v4 v6 σ = some out → mM (mA E 257) E 257 σ s H locs → lv_has ls 7 [(1, vI v1), (2, vI v2), (3, vI v3), (4, vL v4), (6, vI v6)] → mGo l p e 0 0 s m args below meth c E (some (vI out.1)) out.2 H locs (F0 m 6 ls []) := by
  intro n
  induction n with
  | zero =>
    intro v4 v6 σ H locs ls hm hM hl
    exact absurd hm (by rw [mX7_powerThatIs_L6.eq_1]; exact fun h => nomatch h)
  | succ n ih =>
    intro v4 v6 σ H locs ls hm hM hl
    rw [mX7_powerThatIs_L6.eq_2] at hm
    refine r_iload (np := 8) G hl 4 rfl dX7_powerThatIs_6 rfl ?_
    refine r_iload_n (np := 9) G hl 2 rfl dX7_powerThatIs_8 rfl rfl ?_
    refine r_icmp_ge (np := 12) (tgt := 41) G rfl rfl dX7_powerThatIs_9 (by decide) rfl (fun h1 => ?_) (fun h1 => ?_)
    · have hm := b_t h1 hm
      exact hx41 _ _ _ _ hm hM (lv_sub hl [] rfl)
    · have hm := b_f h1 hm
      refine r_lload (np := 14) G hl 3 rfl dX7_powerThatIs_12 rfl ?_
      refine r_iload_n (np := 15) G hl 1 rfl dX7_powerThatIs_14 rfl rfl ?_
      refine r_i2l (np := 16) G rfl dX7_powerThatIs_15 rfl ?_
      refine r_lmul (np := 17) G dX7_powerThatIs_16 rfl ?_
      refine r_iload_n (np := 18) G hl 2 rfl dX7_powerThatIs_17 rfl rfl ?_
      refine r_i2l (np := 19) G rfl dX7_powerThatIs_18 rfl ?_
      obtain ⟨g2, hm⟩ := g_t hm
      refine r_lrem (np := 20) G g2 dX7_powerThatIs_19 rfl ?_
      obtain ⟨a3, e4, hm⟩ := bnd_t hm
      refine r_lstore (np := 22) G hl e4 [(4, vL a3), (1, vI v1), (2, vI v2), (3, vI v3), (6, vI v6)] dX7_powerThatIs_20 rfl (by decide) rfl (fun ls hl => ?_)
      refine r_lload (np := 24) G hl 0 rfl dX7_powerThatIs_22 rfl ?_
      refine r_iload_n (np := 25) G hl 1 rfl dX7_powerThatIs_24 rfl rfl ?_
      refine r_iload_n (np := 26) G hl 3 rfl dX7_powerThatIs_25 rfl rfl ?_
      obtain ⟨g5, hm⟩ := g_t hm
      refine r_irem (np := 27) G g5 dX7_powerThatIs_26 rfl ?_
      refine r_i2l (np := 28) G rfl dX7_powerThatIs_27 rfl ?_
      refine r_lcmp_ne (np := 32) (tgt := 35) G rfl rfl dX7_powerThatIs_28 dX7_powerThatIs_29 (by decide) rfl (fun h6 => ?_) (fun h6 => ?_)
      · have hm := b_f h6 hm
        obtain ⟨a7, e8, hm⟩ := bnd_t hm
        refine r_iinc (np := 38) G hl 4 rfl e8 [(6, vI a7), (4, vL a3), (1, vI v1), (2, vI v2), (3, vI v3)] dX7_powerThatIs_35 rfl (by decide) rfl (fun ls hl => ?_)
        refine r_goto (np := 6) G dX7_powerThatIs_38 (by decide) ?_
        exact ih a3 a7 _ _ _ _ hm hM (lv_sub hl [2, 3, 4, 1, 0] rfl)
      · have hm := b_t h6 hm
        refine r_iload (np := 34) G hl 4 rfl dX7_powerThatIs_32 rfl ?_
        exact r_iret G hr hk hM hm dX7_powerThatIs_34
set_option maxRecDepth 100000 in
set_option maxHeartbeats 4000000 in
theorem qX7_powerThatIs (l : Launch) (E : mE) (σ : mSt) (v0 : Nat) (v1 : Int) (v2 : Int) (v3 : Int) (out : Int × mSt) (hm : mX7_powerThatIs v0 v1 v2 v3 σ = some out) : mMet l yX7_powerThatIs cX7_powerThatIs 7 (some .int) 0 0 E 257 [.ref (eA E v0), vI v1, vI v2, vI v3] σ (some (vI out.1)) out.2 := by
  unfold mX7_powerThatIs at hm
  obtain ⟨g0, hm⟩ := g_t hm
  refine m_entry (by decide +kernel) (Nat.le_of_ble_eq_true rfl) (fun p e s m args below meth c G hr hk hM ls hl => ?_)
  have G : CallFix p m c cX7_powerThatIs 7 s args mTs RX7 := G
  have hl : lv_has ls 7 [(0, .ref (eA E v0)), (1, vI v1), (2, vI v2), (3, vI v3)] := hl
  refine r_lconst (np := 1) G 1 dX7_powerThatIs_0 rfl rfl ?_
  refine r_lstore (np := 3) G hl rfl [(4, vL 1), (0, .ref (eA E v0)), (1, vI v1), (2, vI v2), (3, vI v3)] dX7_powerThatIs_1 rfl (by decide) rfl (fun ls hl => ?_)
  refine r_iconst (np := 4) G 1 dX7_powerThatIs_3 rfl ?_
  refine r_istore (np := 6) G hl rfl [(6, vI 1), (4, vL 1), (0, .ref (eA E v0)), (1, vI v1), (2, vI v2), (3, vI v3)] dX7_powerThatIs_4 rfl (by decide) rfl (fun ls hl => ?_)
  exact wX7_powerThatIs_L6 l E out G hr hk v0 v1 v2 v3 g0 (fun zσ => mX7_powerThatIs_B41 v0 v1 v2 v3 zσ) (fun zσ zH zl zs zm zM zv => wX7_powerThatIs_B41 l E out G hr hk v0 v1 v2 v3 g0 zσ zH zl zs zm zM zv) mF 1 1 _ _ _ _ hm hM (lv_sub hl [3, 4, 5, 1, 0] rfl)
theorem gX7_powerThatIs {v0 : Nat} {v1 : Int} {v2 : Int} {v3 : Int} {σ : mSt} {out : Int × mSt} (hm : mX7_powerThatIs v0 v1 v2 v3 σ = some out) : isC v0 6 := (g_t hm).1
set_option maxRecDepth 100000 in
set_option maxHeartbeats 4000000 in
theorem wX7_leastGenerator_B28 (l : Launch) (E : mE) (out : Int × mSt) {p : Program} {e : Env} {s : State} {m : MethodId} {args : Array Value} {below : List Frame} {meth : Method} {c : Code} (G : CallFix p m c cX7_leastGenerator 3 s args mTs RX7) (hr : meth.sig.returnType = (some .int)) (hk : meth.locks = false) (v0 : Nat) (v1 : Int) (g0 : isC v0 6) : ∀ (σ : mSt) (H : Heap) (locs : List Loc) (ls : Array Slot), mX7_leastGenerator_B28 v0 v1 σ = some out → mM (mA E 257) E 257 σ s H locs → lv_has ls 3 [] → mGo l p e 1 26 s m args below meth c E (some (vI out.1)) out.2 H locs (F0 m 28 ls []) := by
  intro σ H locs ls hm hM hl
  unfold mX7_leastGenerator_B28 at hm
  refine r_iconst (np := 29) G 1 dX7_leastGenerator_28 rfl ?_
  exact r_iret G hr hk hM hm dX7_leastGenerator_29
set_option maxRecDepth 100000 in
set_option maxHeartbeats 4000000 in
theorem wX7_leastGenerator_L2 (l : Launch) (E : mE) (out : Int × mSt) {p : Program} {e : Env} {s : State} {m : MethodId} {args : Array Value} {below : List Frame} {meth : Method} {c : Code} (G : CallFix p m c cX7_leastGenerator 3 s args mTs RX7) (hr : meth.sig.returnType = (some .int)) (hk : meth.locks = false) (v0 : Nat) (v1 : Int) (g0 : isC v0 6) (x28 : mSt → Option (Int × mSt)) (hx28 : ∀ (σ : mSt) (H : Heap) (locs : List Loc) (ls : Array Slot), x28 σ = some out → mM (mA E 257) E 257 σ s H locs → lv_has ls 3 [] → mGo l p e 1 26 s m args below meth c E (some (vI out.1)) out.2 H locs (F0 m 28 ls [])) : ∀ (n : Nat) (v2 : Int) (σ : mSt) (H : Heap) (locs : List Loc) (ls : Array Slot), mX7_leastGenerator_L2 v0 v1 x28 n v2 σ = some out → mM (mA E 257) E 257 σ s H locs → lv_has ls 3 [(0, .ref (eA E v0)), (1, vI v1), (2, vI v2)] → mGo l p e 1 26 s m args below meth c E (some (vI out.1)) out.2 H locs (F0 m 2 ls []) := by
  intro n
  induction n with
  | zero =>
    intro v2 σ H locs ls hm hM hl
    exact absurd hm (by rw [mX7_leastGenerator_L2.eq_1]; exact fun h => nomatch h)
  | succ n ih =>
    intro v2 σ H locs ls hm hM hl
    rw [mX7_leastGenerator_L2.eq_2] at hm
    refine r_iload_n (np := 3) G hl 2 rfl dX7_leastGenerator_2 rfl rfl ?_
    refine r_iload_n (np := 4) G hl 1 rfl dX7_leastGenerator_3 rfl rfl ?_
    refine r_icmp_ge (np := 7) (tgt := 28) G rfl rfl dX7_leastGenerator_4 (by decide) rfl (fun h1 => ?_) (fun h1 => ?_)
    · have hm := b_t h1 hm
      exact hx28 _ _ _ _ hm hM (lv_sub hl [] rfl)
    · have hm := b_f h1 hm
      refine r_aload_n (np := 8) G hl 0 rfl dX7_leastGenerator_7 rfl rfl ?_
      refine r_iconst (np := 9) G 1 dX7_leastGenerator_8 rfl ?_
      refine r_iload_n (np := 10) G hl 2 rfl dX7_leastGenerator_9 rfl rfl ?_
      refine r_iload_n (np := 11) G hl 1 rfl dX7_leastGenerator_10 rfl rfl ?_
      obtain ⟨b2, s3, e4, hm⟩ := call_t hm
      refine m_callVI (np := 14) G hM hl.1 [vI 1, vI v2, vI v1] (qX7_powerThatIs l E σ v0 1 v2 v1 _ e4) myX7_powerThatIs (shp_lt (gX7_powerThatIs e4) (by decide)) (gX7_powerThatIs e4) rfl (by decide) lkX7_93 ⟨Nat.le_of_ble_eq_true rfl, Nat.le_of_ble_eq_true rfl⟩ ⟨Nat.le_of_ble_eq_true rfl, Nat.le_of_ble_eq_true rfl⟩ [] rfl (Nat.le_of_ble_eq_true rfl) dX7_leastGenerator_11 rfl (fun H locs hM => ?_)
      refine r_iload_n (np := 15) G hl 1 rfl dX7_leastGenerator_14 rfl rfl ?_
      refine r_iconst (np := 16) G 1 dX7_leastGenerator_15 rfl ?_
      refine r_isub (np := 17) G dX7_leastGenerator_16 rfl ?_
      refine r_icmp_ne (np := 20) (tgt := 22) G rfl rfl dX7_leastGenerator_17 (by decide) rfl (fun h5 => ?_) (fun h5 => ?_)
      · have hm := b_f h5 hm
        obtain ⟨a6, e7, hm⟩ := bnd_t hm
        refine r_iinc (np := 25) G hl 2 rfl e7 [(2, vI a6), (0, .ref (eA E v0)), (1, vI v1)] dX7_leastGenerator_22 rfl (by decide) rfl (fun ls hl => ?_)
        refine r_goto (np := 2) G dX7_leastGenerator_25 (by decide) ?_
        exact ih a6 _ _ _ _ hm hM (lv_sub hl [1, 2, 0] rfl)
      · have hm := b_t h5 hm
        refine r_iload_n (np := 21) G hl 2 rfl dX7_leastGenerator_20 rfl rfl ?_
        exact r_iret G hr hk hM hm dX7_leastGenerator_21
set_option maxRecDepth 100000 in
set_option maxHeartbeats 4000000 in
theorem qX7_leastGenerator (l : Launch) (E : mE) (σ : mSt) (v0 : Nat) (v1 : Int) (out : Int × mSt) (hm : mX7_leastGenerator v0 v1 σ = some out) : mMet l yX7_leastGenerator cX7_leastGenerator 3 (some .int) 1 26 E 257 [.ref (eA E v0), vI v1] σ (some (vI out.1)) out.2 := by
  unfold mX7_leastGenerator at hm
  obtain ⟨g0, hm⟩ := g_t hm
  refine m_entry (by decide +kernel) (Nat.le_of_ble_eq_true rfl) (fun p e s m args below meth c G hr hk hM ls hl => ?_)
  have G : CallFix p m c cX7_leastGenerator 3 s args mTs RX7 := G
  have hl : lv_has ls 3 [(0, .ref (eA E v0)), (1, vI v1)] := hl
  refine r_iconst (np := 1) G 2 dX7_leastGenerator_0 rfl ?_
  refine r_istore_n (np := 2) G hl rfl [(2, vI 2), (0, .ref (eA E v0)), (1, vI v1)] dX7_leastGenerator_1 rfl rfl (by decide) rfl (fun ls hl => ?_)
  exact wX7_leastGenerator_L2 l E out G hr hk v0 v1 g0 (fun zσ => mX7_leastGenerator_B28 v0 v1 zσ) (fun zσ zH zl zs zm zM zv => wX7_leastGenerator_B28 l E out G hr hk v0 v1 g0 zσ zH zl zs zm zM zv) mF 2 _ _ _ _ hm hM (lv_sub hl [1, 2, 0] rfl)
theorem gX7_leastGenerator {v0 : Nat} {v1 : Int} {σ : mSt} {out : Int × mSt} (hm : mX7_leastGenerator v0 v1 σ = some out) : isC v0 6 := (g_t hm).1
set_option maxRecDepth 100000 in
set_option maxHeartbeats 4000000 in
theorem wX7_reckonCyclic_B117 (l : Launch) (E : mE) (out : Int × mSt) {p : Program} {e : Env} {s : State} {m : MethodId} {args : Array Value} {below : List Frame} {meth : Method} {c : Code} (G : CallFix p m c cX7_reckonCyclic 10 s args mTs RX7) (hr : meth.sig.returnType = none) (hk : meth.locks = false) (v0 : Nat) (v1 : Int) (v2 : Int) (v3 : Int) (g0 : isC v0 6) : ∀ (v5 : Int) (v6 : Int) (σ : mSt) (H : Heap) (locs : List Loc) (ls : Array Slot), mX7_reckonCyclic_B117 v0 v1 v2 v3 v5 v6 σ = some out → mM (mA E 257) E 257 σ s H locs → lv_has ls 10 [(0, .ref (eA E v0)), (1, vI v1), (5, vI v5), (6, vI v6)] → mGo l p e 2 48 s m args below meth c E none out.2 H locs (F0 m 117 ls []) := by
  intro v5 v6 σ H locs ls hm hM hl
  unfold mX7_reckonCyclic_B117 at hm
  refine r_iload (np := 119) G hl 3 rfl dX7_reckonCyclic_117 rfl ?_
  refine r_iconst (np := 120) G (-1) dX7_reckonCyclic_119 rfl ?_
  refine r_icmp_eq (np := 123) (tgt := 143) G rfl (wIk (-1) rfl) dX7_reckonCyclic_120 (by decide) rfl (fun h1 => ?_) (fun h1 => ?_)
  · have hm := b_t h1 hm
    exact r_vret G hr hk hM hm dX7_reckonCyclic_143
  · have hm := b_f h1 hm
    refine r_aload_n (np := 124) G hl 0 rfl dX7_reckonCyclic_123 rfl rfl ?_
    obtain ⟨r2, e3, hm⟩ := ref_t hm
    refine r_getR (np := 127) G hM (shp_lt g0 (by decide)) g0 e3 fdX7_3 lkX7_24 dX7_reckonCyclic_124 rfl ?_
    refine r_iload_n (np := 128) G hl 1 rfl dX7_reckonCyclic_127 rfl rfl ?_
    obtain ⟨g4, hm⟩ := g_t hm
    obtain ⟨r5, e6, hm⟩ := ref_t hm
    refine r_aaload (np := 129) G hM (t := 6) g4 rfl ⟨by decide, by decide⟩ rfl rfl e6 dX7_reckonCyclic_128 rfl ?_
    refine r_iload (np := 131) G hl 3 rfl dX7_reckonCyclic_129 rfl ?_
    refine r_iload (np := 133) G hl 2 rfl dX7_reckonCyclic_131 rfl ?_
    refine r_ineg (np := 134) G dX7_reckonCyclic_133 rfl ?_
    refine r_i2l (np := 135) G rfl dX7_reckonCyclic_134 rfl ?_
    refine r_ldc2 (np := 138) G 6 dX7_reckonCyclic_135 lkX7_97 rfl rfl ?_
    obtain ⟨b7, s8, e9, hm⟩ := call_t hm
    refine m_callSL (np := 141) G hM hl.1 [vL (wI (-v5)), vL 6] (qX5_rest l E σ (wI (-v5)) 6 _ e9) myX5_rest lkX7_99 ⟨Nat.le_of_ble_eq_true rfl, Nat.le_of_ble_eq_true rfl⟩ ⟨Nat.le_of_ble_eq_true rfl, Nat.le_of_ble_eq_true rfl⟩ [vI v6, .ref (eA E r5)] rfl (Nat.le_of_ble_eq_true rfl) dX7_reckonCyclic_138 rfl (fun H locs hM => ?_)
    refine r_l2i (np := 142) G dX7_reckonCyclic_141 rfl ?_
    obtain ⟨g10, hm⟩ := g_t hm
    obtain ⟨s11, e12, hm⟩ := bnd_t hm
    refine r_iastore (np := 143) G hM g10 rfl s11 e12 dX7_reckonCyclic_142 rfl (fun H locs hM => ?_)
    exact r_vret G hr hk hM hm dX7_reckonCyclic_143
set_option maxRecDepth 100000 in
set_option maxHeartbeats 4000000 in
theorem wX7_reckonCyclic_B97 (l : Launch) (E : mE) (out : Int × mSt) {p : Program} {e : Env} {s : State} {m : MethodId} {args : Array Value} {below : List Frame} {meth : Method} {c : Code} (G : CallFix p m c cX7_reckonCyclic 10 s args mTs RX7) (hr : meth.sig.returnType = none) (hk : meth.locks = false) (v0 : Nat) (v1 : Int) (v2 : Int) (v3 : Int) (v4 : Int) (g0 : isC v0 6) (c16 : Int → Int → Int → mSt → Option (Int × mSt)) (x117 : Int → Int → mSt → Option (Int × mSt)) (hc16 : ∀ (v5 : Int) (v6 : Int) (v7 : Int) (σ : mSt) (H : Heap) (locs : List Loc) (ls : Array Slot), c16 v5 v6 v7 σ = some out → mM (mA E 257) E 257 σ s H locs → lv_has ls 10 [(0, .ref (eA E v0)), (1, vI v1), (2, vI v2), (3, vI v3), (4, vI v4), (5, vI v5), (6, vI v6), (7, vI v7)] → mGo l p e 2 48 s m args below meth c E none out.2 H locs (F0 m 16 ls [])) (hx117 : ∀ (v5 : Int) (v6 : Int) (σ : mSt) (H : Heap) (locs : List Loc) (ls : Array Slot), x117 v5 v6 σ = some out → mM (mA E 257) E 257 σ s H locs → lv_has ls 10 [(0, .ref (eA E v0)), (1, vI v1), (5, vI v5), (6, vI v6)] → mGo l p e 2 48 s m args below meth c E none out.2 H locs (F0 m 117 ls [])) : ∀ (v5 : Int) (v6 : Int) (v7 : Int) (σ : mSt) (H : Heap) (locs : List Loc) (ls : Array Slot), mX7_reckonCyclic_B97 v0 v1 v2 v3 v4 c16 x117 v5 v6 v7 σ = some out → mM (mA E 257) E 257 σ s H locs → lv_has ls 10 [(0, .ref (eA E v0)), (1, vI v1), (2, vI v2), (3, vI v3), (4, vI v4), (5, vI v5), (6, vI v6), (7, vI v7)] → mGo l p e 2 48 s m args below meth c E none out.2 H locs (F0 m 97 ls []) := by
  intro v5 v6 v7 σ H locs ls hm hM hl
  unfold mX7_reckonCyclic_B97 at hm
  refine r_iload (np := 99) G hl 5 rfl dX7_reckonCyclic_97 rfl ?_
  refine r_aload_n (np := 100) G hl 0 rfl dX7_reckonCyclic_99 rfl rfl ?_
  obtain ⟨r13, e14, hm⟩ := ref_t hm
  refine r_getR (np := 103) G hM (shp_lt g0 (by decide)) g0 e14 fdX7_3 lkX7_24 dX7_reckonCyclic_100 rfl ?_
  refine r_iload_n (np := 104) G hl 1 rfl dX7_reckonCyclic_103 rfl rfl ?_
  obtain ⟨g15, hm⟩ := g_t hm
  obtain ⟨r16, e17, hm⟩ := ref_t hm
  refine r_aaload (np := 105) G hM (t := 6) g15 rfl ⟨by decide, by decide⟩ rfl rfl e17 dX7_reckonCyclic_104 rfl ?_
  refine r_iload (np := 107) G hl 7 rfl dX7_reckonCyclic_105 rfl ?_
  obtain ⟨g18, hm⟩ := g_t hm
  refine r_iaload (np := 108) G hM g18 rfl dX7_reckonCyclic_107 rfl ?_
  refine r_iadd (np := 109) G dX7_reckonCyclic_108 rfl ?_
  obtain ⟨a19, e20, hm⟩ := bnd_t hm
  refine r_istore (np := 111) G hl e20 [(5, vI a19), (0, .ref (eA E v0)), (1, vI v1), (2, vI v2), (3, vI v3), (4, vI v4), (6, vI v6), (7, vI v7)] dX7_reckonCyclic_109 rfl (by decide) rfl (fun ls hl => ?_)
  obtain ⟨a21, e22, hm⟩ := bnd_t hm
  refine r_iinc (np := 114) G hl 7 rfl e22 [(7, vI a21), (5, vI a19), (0, .ref (eA E v0)), (1, vI v1), (2, vI v2), (3, vI v3), (4, vI v4), (6, vI v6)] dX7_reckonCyclic_111 rfl (by decide) rfl (fun ls hl => ?_)
  refine r_goto (np := 16) G dX7_reckonCyclic_114 (by decide) ?_
  exact hc16 a19 v6 a21 _ _ _ _ hm hM (lv_sub hl [2, 3, 4, 5, 6, 1, 7, 0] rfl)
set_option maxRecDepth 100000 in
set_option maxHeartbeats 4000000 in
theorem wX7_reckonCyclic_L16 (l : Launch) (E : mE) (out : Int × mSt) {p : Program} {e : Env} {s : State} {m : MethodId} {args : Array Value} {below : List Frame} {meth : Method} {c : Code} (G : CallFix p m c cX7_reckonCyclic 10 s args mTs RX7) (hr : meth.sig.returnType = none) (hk : meth.locks = false) (v0 : Nat) (v1 : Int) (v2 : Int) (v3 : Int) (v4 : Int) (g0 : isC v0 6) (x117 : Int → Int → mSt → Option (Int × mSt)) (hx117 : ∀ (v5 : Int) (v6 : Int) (σ : mSt) (H : Heap) (locs : List Loc) (ls : Array Slot), x117 v5 v6 σ = some out → mM (mA E 257) E 257 σ s H locs → lv_has ls 10 [(0, .ref (eA E v0)), (1, vI v1), (5, vI v5), (6, vI v6)] → mGo l p e 2 48 s m args below meth c E none out.2 H locs (F0 m 117 ls [])) : ∀ (n : Nat) (v5 : Int) (v6 : Int) (v7 : Int) (σ : mSt) (H : Heap) (locs : List Loc) (ls : Array Slot), mX7_reckonCyclic_L16 v0 v1 v2 v3 v4 x117 n v5 v6 v7 σ = some out → mM (mA E 257) E 257 σ s H locs → lv_has ls 10 [(0, .ref (eA E v0)), (1, vI v1), (2, vI v2), (3, vI v3), (4, vI v4), (5, vI v5), (6, vI v6), (7, vI v7)] → mGo l p e 2 48 s m args below meth c E none out.2 H locs (F0 m 16 ls []) := by
  intro n
  induction n with
  | zero =>
    intro v5 v6 v7 σ H locs ls hm hM hl
    exact absurd hm (by rw [mX7_reckonCyclic_L16.eq_1]; exact fun h => nomatch h)
  | succ n ih =>
    intro v5 v6 v7 σ H locs ls hm hM hl
    rw [mX7_reckonCyclic_L16.eq_2] at hm
    refine r_iload (np := 18) G hl 7 rfl dX7_reckonCyclic_16 rfl ?_
    refine r_aload_n (np := 19) G hl 0 rfl dX7_reckonCyclic_18 rfl rfl ?_
    refine r_getI (np := 22) G hM (shp_lt g0 (by decide)) g0 fdX7_0 lkX7_9 dX7_reckonCyclic_19 rfl ?_
    refine r_icmp_ge (np := 25) (tgt := 117) G rfl rfl dX7_reckonCyclic_22 (by decide) rfl (fun h23 => ?_) (fun h23 => ?_)
    · have hm := b_t h23 hm
      exact hx117 v5 v6 _ _ _ _ hm hM (lv_sub hl [0, 1, 5, 6] rfl)
    · have hm := b_f h23 hm
      refine r_aload_n (np := 26) G hl 0 rfl dX7_reckonCyclic_25 rfl rfl ?_
      obtain ⟨r24, e25, hm⟩ := ref_t hm
      refine r_getR (np := 29) G hM (shp_lt g0 (by decide)) g0 e25 fdX7_2 lkX7_18 dX7_reckonCyclic_26 rfl ?_
      refine r_iload (np := 31) G hl 7 rfl dX7_reckonCyclic_29 rfl ?_
      obtain ⟨g26, hm⟩ := g_t hm
      refine r_iaload (np := 32) G hM g26 rfl dX7_reckonCyclic_31 rfl ?_
      obtain ⟨a27, e28, hm⟩ := bnd_t hm
      refine r_istore (np := 34) G hl e28 [(8, vI a27), (0, .ref (eA E v0)), (1, vI v1), (2, vI v2), (3, vI v3), (4, vI v4), (5, vI v5), (6, vI v6), (7, vI v7)] dX7_reckonCyclic_32 rfl (by decide) rfl (fun ls hl => ?_)
      refine r_aload_n (np := 35) G hl 1 rfl dX7_reckonCyclic_34 rfl rfl ?_
      obtain ⟨r29, e30, hm⟩ := ref_t hm
      refine r_getR (np := 38) G hM (shp_lt g0 (by decide)) g0 e30 fdX7_3 lkX7_24 dX7_reckonCyclic_35 rfl ?_
      refine r_iload_n (np := 39) G hl 2 rfl dX7_reckonCyclic_38 rfl rfl ?_
      obtain ⟨g31, hm⟩ := g_t hm
      obtain ⟨r32, e33, hm⟩ := ref_t hm
      refine r_aaload (np := 40) G hM (t := 6) g31 rfl ⟨by decide, by decide⟩ rfl rfl e33 dX7_reckonCyclic_39 rfl ?_
      refine r_iload (np := 42) G hl 8 rfl dX7_reckonCyclic_40 rfl ?_
      refine r_iconst (np := 43) G 0 dX7_reckonCyclic_42 rfl ?_
      obtain ⟨g34, hm⟩ := g_t hm
      obtain ⟨s35, e36, hm⟩ := bnd_t hm
      refine r_iastore (np := 44) G hM g34 rfl s35 e36 dX7_reckonCyclic_43 rfl (fun H locs hM => ?_)
      refine r_iload (np := 46) G hl 0 rfl dX7_reckonCyclic_44 rfl ?_
      refine r_iload_n (np := 47) G hl 3 rfl dX7_reckonCyclic_46 rfl rfl ?_
      refine r_icmp_ne (np := 50) (tgt := 57) G rfl rfl dX7_reckonCyclic_47 (by decide) rfl (fun h37 => ?_) (fun h37 => ?_)
      · have hm := b_f h37 hm
        refine r_iload (np := 59) G hl 0 rfl dX7_reckonCyclic_57 rfl ?_
        refine r_iconst (np := 60) G 1 dX7_reckonCyclic_59 rfl ?_
        refine r_icmp_le (np := 63) (tgt := 97) G rfl (wIk 1 rfl) dX7_reckonCyclic_60 (by decide) rfl (fun h38 => ?_) (fun h38 => ?_)
        · have hm := b_t h38 hm
          exact wX7_reckonCyclic_B97 l E out G hr hk v0 v1 v2 v3 v4 g0 (mX7_reckonCyclic_L16 v0 v1 v2 v3 v4 x117 n) x117 ih hx117 v5 v6 v7 _ _ _ _ hm hM (lv_sub hl [1, 2, 3, 4, 5, 6, 7, 8] rfl)
        · have hm := b_f h38 hm
          refine r_iload (np := 65) G hl 0 rfl dX7_reckonCyclic_63 rfl ?_
          refine r_iload_n (np := 66) G hl 4 rfl dX7_reckonCyclic_65 rfl rfl ?_
          refine r_i2l (np := 67) G rfl dX7_reckonCyclic_66 rfl ?_
          obtain ⟨b39, s40, e41, hm⟩ := call_t hm
          refine m_callSI (np := 70) G hM hl.1 [vI a27, vL (wI v3)] (qX5_howOften l E s35 a27 (wI v3) _ e41) myX5_howOften lkX7_72 ⟨Nat.le_of_ble_eq_true rfl, Nat.le_of_ble_eq_true rfl⟩ ⟨Nat.le_of_ble_eq_true rfl, Nat.le_of_ble_eq_true rfl⟩ [] rfl (Nat.le_of_ble_eq_true rfl) dX7_reckonCyclic_67 rfl (fun H locs hM => ?_)
          refine r_aload_n (np := 71) G hl 1 rfl dX7_reckonCyclic_70 rfl rfl ?_
          refine r_iload (np := 73) G hl 0 rfl dX7_reckonCyclic_71 rfl ?_
          refine r_iload (np := 75) G hl 5 rfl dX7_reckonCyclic_73 rfl ?_
          refine r_iload_n (np := 76) G hl 3 rfl dX7_reckonCyclic_75 rfl rfl ?_
          obtain ⟨b42, s43, e44, hm⟩ := call_t hm
          refine m_callVI (np := 79) G hM hl.1 [vI a27, vI v4, vI v2] (qX7_powerThatIs l E s40 v0 a27 v4 v2 _ e44) myX7_powerThatIs (shp_lt (gX7_powerThatIs e44) (by decide)) (gX7_powerThatIs e44) rfl (by decide) lkX7_93 ⟨Nat.le_of_ble_eq_true rfl, Nat.le_of_ble_eq_true rfl⟩ ⟨Nat.le_of_ble_eq_true rfl, Nat.le_of_ble_eq_true rfl⟩ [vI b39] rfl (Nat.le_of_ble_eq_true rfl) dX7_reckonCyclic_76 rfl (fun H locs hM => ?_)
          refine r_imul (np := 80) G dX7_reckonCyclic_79 rfl ?_
          obtain ⟨a45, e46, hm⟩ := bnd_t hm
          refine r_istore (np := 82) G hl e46 [(9, vI a45), (8, vI a27), (0, .ref (eA E v0)), (1, vI v1), (2, vI v2), (3, vI v3), (4, vI v4), (5, vI v5), (6, vI v6), (7, vI v7)] dX7_reckonCyclic_80 rfl (by decide) rfl (fun ls hl => ?_)
          refine r_aload_n (np := 83) G hl 2 rfl dX7_reckonCyclic_82 rfl rfl ?_
          obtain ⟨r47, e48, hm⟩ := ref_t hm
          refine r_getR (np := 86) G hM (shp_lt g0 (by decide)) g0 e48 fdX7_3 lkX7_24 dX7_reckonCyclic_83 rfl ?_
          refine r_iload_n (np := 87) G hl 3 rfl dX7_reckonCyclic_86 rfl rfl ?_
          obtain ⟨g49, hm⟩ := g_t hm
          obtain ⟨r50, e51, hm⟩ := ref_t hm
          refine r_aaload (np := 88) G hM (t := 6) g49 rfl ⟨by decide, by decide⟩ rfl rfl e51 dX7_reckonCyclic_87 rfl ?_
          refine r_iload (np := 90) G hl 9 rfl dX7_reckonCyclic_88 rfl ?_
          refine r_iconst (np := 91) G 2 dX7_reckonCyclic_90 rfl ?_
          refine r_iload (np := 93) G hl 0 rfl dX7_reckonCyclic_91 rfl ?_
          refine r_iconst (np := 94) G 3 dX7_reckonCyclic_93 rfl ?_
          obtain ⟨g52, hm⟩ := g_t hm
          refine r_irem (np := 95) G g52 dX7_reckonCyclic_94 rfl ?_
          refine r_imul (np := 96) G dX7_reckonCyclic_95 rfl ?_
          obtain ⟨g53, hm⟩ := g_t hm
          obtain ⟨s54, e55, hm⟩ := bnd_t hm
          refine r_iastore (np := 97) G hM g53 rfl s54 e55 dX7_reckonCyclic_96 rfl (fun H locs hM => ?_)
          exact wX7_reckonCyclic_B97 l E out G hr hk v0 v1 v2 v3 v4 g0 (mX7_reckonCyclic_L16 v0 v1 v2 v3 v4 x117 n) x117 ih hx117 v5 v6 v7 _ _ _ _ hm hM (lv_sub hl [2, 3, 4, 5, 6, 7, 8, 9] rfl)
      · have hm := b_t h37 hm
        refine r_iload (np := 52) G hl 8 rfl dX7_reckonCyclic_50 rfl ?_
        refine r_istore (np := 54) G hl rfl [(6, vI v7), (8, vI a27), (0, .ref (eA E v0)), (1, vI v1), (2, vI v2), (3, vI v3), (4, vI v4), (5, vI v5), (7, vI v7)] dX7_reckonCyclic_52 rfl (by decide) rfl (fun ls hl => ?_)
        refine r_goto (np := 97) G dX7_reckonCyclic_54 (by decide) ?_
        exact wX7_reckonCyclic_B97 l E out G hr hk v0 v1 v2 v3 v4 g0 (mX7_reckonCyclic_L16 v0 v1 v2 v3 v4 x117 n) x117 ih hx117 v5 v7 v7 _ _ _ _ hm hM (lv_sub hl [2, 3, 4, 5, 6, 7, 0, 8] rfl)
set_option maxRecDepth 100000 in
set_option maxHeartbeats 4000000 in
theorem qX7_reckonCyclic (l : Launch) (E : mE) (σ : mSt) (v0 : Nat) (v1 : Int) (v2 : Int) (v3 : Int) (out : Int × mSt) (hm : mX7_reckonCyclic v0 v1 v2 v3 σ = some out) : mMet l yX7_reckonCyclic cX7_reckonCyclic 10 none 2 48 E 257 [.ref (eA E v0), vI v1, vI v2, vI v3] σ none out.2 := by
  unfold mX7_reckonCyclic at hm
  obtain ⟨g0, hm⟩ := g_t hm
  refine m_entry (by decide +kernel) (Nat.le_of_ble_eq_true rfl) (fun p e s m args below meth c G hr hk hM ls hl => ?_)
  have G : CallFix p m c cX7_reckonCyclic 10 s args mTs RX7 := G
  have hl : lv_has ls 10 [(0, .ref (eA E v0)), (1, vI v1), (2, vI v2), (3, vI v3)] := hl
  refine r_aload_n (np := 1) G hl 0 rfl dX7_reckonCyclic_0 rfl rfl ?_
  refine r_iload_n (np := 2) G hl 2 rfl dX7_reckonCyclic_1 rfl rfl ?_
  obtain ⟨b56, s57, e58, hm⟩ := call_t hm
  refine m_callVI (np := 5) G hM hl.1 [vI v2] (qX7_leastGenerator l E σ v0 v2 _ e58) myX7_leastGenerator (shp_lt (gX7_leastGenerator e58) (by decide)) (gX7_leastGenerator e58) rfl (by decide) lkX7_90 ⟨Nat.le_of_ble_eq_true rfl, Nat.le_of_ble_eq_true rfl⟩ ⟨Nat.le_of_ble_eq_true rfl, Nat.le_of_ble_eq_true rfl⟩ [] rfl (Nat.le_of_ble_eq_true rfl) dX7_reckonCyclic_2 rfl (fun H locs hM => ?_)
  refine r_istore (np := 7) G hl rfl [(4, vI b56), (0, .ref (eA E v0)), (1, vI v1), (2, vI v2), (3, vI v3)] dX7_reckonCyclic_5 rfl (by decide) rfl (fun ls hl => ?_)
  refine r_iconst (np := 8) G 0 dX7_reckonCyclic_7 rfl ?_
  refine r_istore (np := 10) G hl rfl [(5, vI 0), (4, vI b56), (0, .ref (eA E v0)), (1, vI v1), (2, vI v2), (3, vI v3)] dX7_reckonCyclic_8 rfl (by decide) rfl (fun ls hl => ?_)
  refine r_iconst (np := 11) G (-1) dX7_reckonCyclic_10 rfl ?_
  refine r_istore (np := 13) G hl rfl [(6, vI (-1)), (5, vI 0), (4, vI b56), (0, .ref (eA E v0)), (1, vI v1), (2, vI v2), (3, vI v3)] dX7_reckonCyclic_11 rfl (by decide) rfl (fun ls hl => ?_)
  refine r_iconst (np := 14) G 0 dX7_reckonCyclic_13 rfl ?_
  refine r_istore (np := 16) G hl rfl [(7, vI 0), (6, vI (-1)), (5, vI 0), (4, vI b56), (0, .ref (eA E v0)), (1, vI v1), (2, vI v2), (3, vI v3)] dX7_reckonCyclic_14 rfl (by decide) rfl (fun ls hl => ?_)
  exact wX7_reckonCyclic_L16 l E out G hr hk v0 v1 v2 v3 b56 g0 (fun z5 z6 zσ => mX7_reckonCyclic_B117 v0 v1 v2 v3 z5 z6 zσ) (fun z5 z6 zσ zH zl zs zm zM zv => wX7_reckonCyclic_B117 l E out G hr hk v0 v1 v2 v3 g0 z5 z6 zσ zH zl zs zm zM zv) mF 0 (-1) 0 _ _ _ _ hm hM (lv_sub hl [4, 5, 6, 7, 3, 2, 1, 0] rfl)
theorem gX7_reckonCyclic {v0 : Nat} {v1 : Int} {v2 : Int} {v3 : Int} {σ : mSt} {out : Int × mSt} (hm : mX7_reckonCyclic v0 v1 v2 v3 σ = some out) : isC v0 6 := (g_t hm).1
set_option maxRecDepth 100000 in
set_option maxHeartbeats 4000000 in
theorem wX7_reckonSum_B89 (l : Launch) (E : mE) (out : Int × mSt) {p : Program} {e : Env} {s : State} {m : MethodId} {args : Array Value} {below : List Frame} {meth : Method} {c : Code} (G : CallFix p m c cX7_reckonSum 7 s args mTs RX7) (hr : meth.sig.returnType = none) (hk : meth.locks = false) (v0 : Nat) (v1 : Nat) (v2 : Int) (g0 : isC v0 6) : ∀ (σ : mSt) (H : Heap) (locs : List Loc) (ls : Array Slot), mX7_reckonSum_B89 v0 v1 v2 σ = some out → mM (mA E 257) E 257 σ s H locs → lv_has ls 7 [] → mGo l p e 2 48 s m args below meth c E none out.2 H locs (F0 m 89 ls []) := by
  intro σ H locs ls hm hM hl
  unfold mX7_reckonSum_B89 at hm
  exact r_vret G hr hk hM hm dX7_reckonSum_89
set_option maxRecDepth 100000 in
set_option maxHeartbeats 4000000 in
theorem wX7_reckonSum_B66 (l : Launch) (E : mE) (out : Int × mSt) {p : Program} {e : Env} {s : State} {m : MethodId} {args : Array Value} {below : List Frame} {meth : Method} {c : Code} (G : CallFix p m c cX7_reckonSum 7 s args mTs RX7) (hr : meth.sig.returnType = none) (hk : meth.locks = false) (v0 : Nat) (v1 : Nat) (v2 : Int) (g0 : isC v0 6) (c2 : Int → mSt → Option (Int × mSt)) (x89 : mSt → Option (Int × mSt)) (hc2 : ∀ (v3 : Int) (σ : mSt) (H : Heap) (locs : List Loc) (ls : Array Slot), c2 v3 σ = some out → mM (mA E 257) E 257 σ s H locs → lv_has ls 7 [(0, .ref (eA E v0)), (1, .ref (eA E v1)), (2, vI v2), (3, vI v3)] → mGo l p e 2 48 s m args below meth c E none out.2 H locs (F0 m 2 ls [])) (hx89 : ∀ (σ : mSt) (H : Heap) (locs : List Loc) (ls : Array Slot), x89 σ = some out → mM (mA E 257) E 257 σ s H locs → lv_has ls 7 [] → mGo l p e 2 48 s m args below meth c E none out.2 H locs (F0 m 89 ls [])) : ∀ (v3 : Int) (v4 : Int) (σ : mSt) (H : Heap) (locs : List Loc) (ls : Array Slot), mX7_reckonSum_B66 v0 v1 v2 c2 x89 v3 v4 σ = some out → mM (mA E 257) E 257 σ s H locs → lv_has ls 7 [(0, .ref (eA E v0)), (1, .ref (eA E v1)), (2, vI v2), (3, vI v3), (4, vL v4)] → mGo l p e 2 48 s m args below meth c E none out.2 H locs (F0 m 66 ls []) := by
  intro v3 v4 σ H locs ls hm hM hl
  unfold mX7_reckonSum_B66 at hm
  refine r_aload_n (np := 67) G hl 0 rfl dX7_reckonSum_66 rfl rfl ?_
  obtain ⟨r1, e2, hm⟩ := ref_t hm
  refine r_getR (np := 70) G hM (shp_lt g0 (by decide)) g0 e2 fdX7_3 lkX7_24 dX7_reckonSum_67 rfl ?_
  refine r_iload_n (np := 71) G hl 2 rfl dX7_reckonSum_70 rfl rfl ?_
  obtain ⟨g3, hm⟩ := g_t hm
  obtain ⟨r4, e5, hm⟩ := ref_t hm
  refine r_aaload (np := 72) G hM (t := 6) g3 rfl ⟨by decide, by decide⟩ rfl rfl e5 dX7_reckonSum_71 rfl ?_
  refine r_iload_n (np := 73) G hl 3 rfl dX7_reckonSum_72 rfl rfl ?_
  refine r_lload (np := 75) G hl 4 rfl dX7_reckonSum_73 rfl ?_
  refine r_ldc2 (np := 78) G 6 dX7_reckonSum_75 lkX7_97 rfl rfl ?_
  obtain ⟨b6, s7, e8, hm⟩ := call_t hm
  refine m_callSL (np := 81) G hM hl.1 [vL v4, vL 6] (qX5_rest l E σ v4 6 _ e8) myX5_rest lkX7_99 ⟨Nat.le_of_ble_eq_true rfl, Nat.le_of_ble_eq_true rfl⟩ ⟨Nat.le_of_ble_eq_true rfl, Nat.le_of_ble_eq_true rfl⟩ [vI v3, .ref (eA E r4)] rfl (Nat.le_of_ble_eq_true rfl) dX7_reckonSum_78 rfl (fun H locs hM => ?_)
  refine r_l2i (np := 82) G dX7_reckonSum_81 rfl ?_
  obtain ⟨g9, hm⟩ := g_t hm
  obtain ⟨s10, e11, hm⟩ := bnd_t hm
  refine r_iastore (np := 83) G hM g9 rfl s10 e11 dX7_reckonSum_82 rfl (fun H locs hM => ?_)
  obtain ⟨a12, e13, hm⟩ := bnd_t hm
  refine r_iinc (np := 86) G hl 3 rfl e13 [(3, vI a12), (0, .ref (eA E v0)), (1, .ref (eA E v1)), (2, vI v2), (4, vL v4)] dX7_reckonSum_83 rfl (by decide) rfl (fun ls hl => ?_)
  refine r_goto (np := 2) G dX7_reckonSum_86 (by decide) ?_
  exact hc2 a12 _ _ _ _ hm hM (lv_sub hl [1, 2, 3, 0] rfl)
set_option maxRecDepth 100000 in
set_option maxHeartbeats 4000000 in
theorem wX7_reckonSum_L16 (l : Launch) (E : mE) (out : Int × mSt) {p : Program} {e : Env} {s : State} {m : MethodId} {args : Array Value} {below : List Frame} {meth : Method} {c : Code} (G : CallFix p m c cX7_reckonSum 7 s args mTs RX7) (hr : meth.sig.returnType = none) (hk : meth.locks = false) (v0 : Nat) (v1 : Nat) (v2 : Int) (v3 : Int) (g0 : isC v0 6) (x66 : Int → mSt → Option (Int × mSt)) (hx66 : ∀ (v4 : Int) (σ : mSt) (H : Heap) (locs : List Loc) (ls : Array Slot), x66 v4 σ = some out → mM (mA E 257) E 257 σ s H locs → lv_has ls 7 [(0, .ref (eA E v0)), (1, .ref (eA E v1)), (2, vI v2), (3, vI v3), (4, vL v4)] → mGo l p e 2 48 s m args below meth c E none out.2 H locs (F0 m 66 ls [])) : ∀ (n : Nat) (v4 : Int) (v6 : Int) (σ : mSt) (H : Heap) (locs : List Loc) (ls : Array Slot), mX7_reckonSum_L16 v0 v1 v2 v3 x66 n v4 v6 σ = some out → mM (mA E 257) E 257 σ s H locs → lv_has ls 7 [(0, .ref (eA E v0)), (1, .ref (eA E v1)), (2, vI v2), (3, vI v3), (4, vL v4), (6, vI v6)] → mGo l p e 2 48 s m args below meth c E none out.2 H locs (F0 m 16 ls []) := by
  intro n
  induction n with
  | zero =>
    intro v4 v6 σ H locs ls hm hM hl
    exact absurd hm (by rw [mX7_reckonSum_L16.eq_1]; exact fun h => nomatch h)
  | succ n ih =>
    intro v4 v6 σ H locs ls hm hM hl
    rw [mX7_reckonSum_L16.eq_2] at hm
    refine r_iload (np := 18) G hl 5 rfl dX7_reckonSum_16 rfl ?_
    refine r_aload_n (np := 19) G hl 1 rfl dX7_reckonSum_18 rfl rfl ?_
    refine r_iload_n (np := 20) G hl 2 rfl dX7_reckonSum_19 rfl rfl ?_
    obtain ⟨b14, s15, e16, hm⟩ := call_t hm
    refine m_callVI (np := 23) G hM hl.1 [vI v2] (qX0_first l E σ v1 v2 _ e16) myX0_first (shp_lt (gX0_first e16) (by decide)) (gX0_first e16) rfl (by decide) lkX7_47 ⟨Nat.le_of_ble_eq_true rfl, Nat.le_of_ble_eq_true rfl⟩ ⟨Nat.le_of_ble_eq_true rfl, Nat.le_of_ble_eq_true rfl⟩ [vI v6] rfl (Nat.le_of_ble_eq_true rfl) dX7_reckonSum_20 rfl (fun H locs hM => ?_)
    refine r_icmp_ge (np := 26) (tgt := 66) G rfl rfl dX7_reckonSum_23 (by decide) rfl (fun h17 => ?_) (fun h17 => ?_)
    · have hm := b_t h17 hm
      exact hx66 v4 _ _ _ _ hm hM (lv_sub hl [0, 1, 2, 3, 4] rfl)
    · have hm := b_f h17 hm
      refine r_iload (np := 28) G hl 5 rfl dX7_reckonSum_26 rfl ?_
      refine r_iconst (np := 29) G 4 dX7_reckonSum_28 rfl ?_
      refine r_icmp_ge (np := 32) (tgt := 66) G rfl (wIk 4 rfl) dX7_reckonSum_29 (by decide) rfl (fun h18 => ?_) (fun h18 => ?_)
      · have hm := b_t h18 hm
        exact hx66 v4 _ _ _ _ hm hM (lv_sub hl [0, 1, 2, 3, 4] rfl)
      · have hm := b_f h18 hm
        refine r_lload (np := 34) G hl 4 rfl dX7_reckonSum_32 rfl ?_
        refine r_aload_n (np := 35) G hl 1 rfl dX7_reckonSum_34 rfl rfl ?_
        refine r_iload_n (np := 36) G hl 2 rfl dX7_reckonSum_35 rfl rfl ?_
        refine r_iload (np := 38) G hl 5 rfl dX7_reckonSum_36 rfl ?_
        obtain ⟨b19, s20, e21, hm⟩ := call_t hm
        refine m_callVI (np := 41) G hM hl.1 [vI v2, vI v6] (qX0_sign l E s15 v1 v2 v6 _ e21) myX0_sign (shp_lt (gX0_sign e21) (by decide)) (gX0_sign e21) rfl (by decide) lkX7_102 ⟨Nat.le_of_ble_eq_true rfl, Nat.le_of_ble_eq_true rfl⟩ ⟨Nat.le_of_ble_eq_true rfl, Nat.le_of_ble_eq_true rfl⟩ [vL v4] rfl (Nat.le_of_ble_eq_true rfl) dX7_reckonSum_38 rfl (fun H locs hM => ?_)
        refine r_aload_n (np := 42) G hl 0 rfl dX7_reckonSum_41 rfl rfl ?_
        obtain ⟨r22, e23, hm⟩ := ref_t hm
        refine r_getR (np := 45) G hM (shp_lt g0 (by decide)) g0 e23 fdX7_3 lkX7_24 dX7_reckonSum_42 rfl ?_
        refine r_aload_n (np := 46) G hl 1 rfl dX7_reckonSum_45 rfl rfl ?_
        refine r_iload_n (np := 47) G hl 2 rfl dX7_reckonSum_46 rfl rfl ?_
        refine r_iload (np := 49) G hl 5 rfl dX7_reckonSum_47 rfl ?_
        obtain ⟨b24, s25, e26, hm⟩ := call_t hm
        refine m_callVI (np := 52) G hM hl.1 [vI v2, vI v6] (qX0_term l E s20 v1 v2 v6 _ e26) myX0_term (shp_lt (gX0_term e26) (by decide)) (gX0_term e26) rfl (by decide) lkX7_106 ⟨Nat.le_of_ble_eq_true rfl, Nat.le_of_ble_eq_true rfl⟩ ⟨Nat.le_of_ble_eq_true rfl, Nat.le_of_ble_eq_true rfl⟩ [.ref (eA E r22), vI b19, vL v4] rfl (Nat.le_of_ble_eq_true rfl) dX7_reckonSum_49 rfl (fun H locs hM => ?_)
        obtain ⟨g27, hm⟩ := g_t hm
        obtain ⟨r28, e29, hm⟩ := ref_t hm
        refine r_aaload (np := 53) G hM (t := 6) g27 rfl ⟨by decide, by decide⟩ rfl rfl e29 dX7_reckonSum_52 rfl ?_
        refine r_iload_n (np := 54) G hl 3 rfl dX7_reckonSum_53 rfl rfl ?_
        obtain ⟨g30, hm⟩ := g_t hm
        refine r_iaload (np := 55) G hM g30 rfl dX7_reckonSum_54 rfl ?_
        refine r_imul (np := 56) G dX7_reckonSum_55 rfl ?_
        refine r_i2l (np := 57) G rfl dX7_reckonSum_56 rfl ?_
        refine r_ladd (np := 58) G dX7_reckonSum_57 rfl ?_
        obtain ⟨a31, e32, hm⟩ := bnd_t hm
        refine r_lstore (np := 60) G hl e32 [(4, vL a31), (0, .ref (eA E v0)), (1, .ref (eA E v1)), (2, vI v2), (3, vI v3), (6, vI v6)] dX7_reckonSum_58 rfl (by decide) rfl (fun ls hl => ?_)
        obtain ⟨a33, e34, hm⟩ := bnd_t hm
        refine r_iinc (np := 63) G hl 5 rfl e34 [(6, vI a33), (4, vL a31), (0, .ref (eA E v0)), (1, .ref (eA E v1)), (2, vI v2), (3, vI v3)] dX7_reckonSum_60 rfl (by decide) rfl (fun ls hl => ?_)
        refine r_goto (np := 16) G dX7_reckonSum_63 (by decide) ?_
        exact ih a31 a33 _ _ _ _ hm hM (lv_sub hl [2, 3, 4, 5, 1, 0] rfl)
set_option maxRecDepth 100000 in
set_option maxHeartbeats 4000000 in
theorem wX7_reckonSum_L2 (l : Launch) (E : mE) (out : Int × mSt) {p : Program} {e : Env} {s : State} {m : MethodId} {args : Array Value} {below : List Frame} {meth : Method} {c : Code} (G : CallFix p m c cX7_reckonSum 7 s args mTs RX7) (hr : meth.sig.returnType = none) (hk : meth.locks = false) (v0 : Nat) (v1 : Nat) (v2 : Int) (g0 : isC v0 6) (x89 : mSt → Option (Int × mSt)) (hx89 : ∀ (σ : mSt) (H : Heap) (locs : List Loc) (ls : Array Slot), x89 σ = some out → mM (mA E 257) E 257 σ s H locs → lv_has ls 7 [] → mGo l p e 2 48 s m args below meth c E none out.2 H locs (F0 m 89 ls [])) : ∀ (n : Nat) (v3 : Int) (σ : mSt) (H : Heap) (locs : List Loc) (ls : Array Slot), mX7_reckonSum_L2 v0 v1 v2 x89 n v3 σ = some out → mM (mA E 257) E 257 σ s H locs → lv_has ls 7 [(0, .ref (eA E v0)), (1, .ref (eA E v1)), (2, vI v2), (3, vI v3)] → mGo l p e 2 48 s m args below meth c E none out.2 H locs (F0 m 2 ls []) := by
  intro n
  induction n with
  | zero =>
    intro v3 σ H locs ls hm hM hl
    exact absurd hm (by rw [mX7_reckonSum_L2.eq_1]; exact fun h => nomatch h)
  | succ n ih =>
    intro v3 σ H locs ls hm hM hl
    rw [mX7_reckonSum_L2.eq_2] at hm
    refine r_iload_n (np := 3) G hl 3 rfl dX7_reckonSum_2 rfl rfl ?_
    refine r_aload_n (np := 4) G hl 0 rfl dX7_reckonSum_3 rfl rfl ?_
    refine r_getI (np := 7) G hM (shp_lt g0 (by decide)) g0 fdX7_0 lkX7_9 dX7_reckonSum_4 rfl ?_
    refine r_icmp_ge (np := 10) (tgt := 89) G rfl rfl dX7_reckonSum_7 (by decide) rfl (fun h35 => ?_) (fun h35 => ?_)
    · have hm := b_t h35 hm
      exact hx89 _ _ _ _ hm hM (lv_sub hl [] rfl)
    · have hm := b_f h35 hm
      refine r_lconst (np := 11) G 0 dX7_reckonSum_10 rfl rfl ?_
      refine r_lstore (np := 13) G hl rfl [(4, vL 0), (0, .ref (eA E v0)), (1, .ref (eA E v1)), (2, vI v2), (3, vI v3)] dX7_reckonSum_11 rfl (by decide) rfl (fun ls hl => ?_)
      refine r_iconst (np := 14) G 0 dX7_reckonSum_13 rfl ?_
      refine r_istore (np := 16) G hl rfl [(6, vI 0), (4, vL 0), (0, .ref (eA E v0)), (1, .ref (eA E v1)), (2, vI v2), (3, vI v3)] dX7_reckonSum_14 rfl (by decide) rfl (fun ls hl => ?_)
      exact wX7_reckonSum_L16 l E out G hr hk v0 v1 v2 v3 g0 (fun z4 zσ => mX7_reckonSum_B66 v0 v1 v2 (mX7_reckonSum_L2 v0 v1 v2 x89 n) x89 v3 z4 zσ) (fun z4 zσ zH zl zs zm zM zv => wX7_reckonSum_B66 l E out G hr hk v0 v1 v2 g0 (mX7_reckonSum_L2 v0 v1 v2 x89 n) x89 ih hx89 v3 z4 zσ zH zl zs zm zM zv) mF 0 0 _ _ _ _ hm hM (lv_sub hl [2, 3, 4, 5, 1, 0] rfl)
set_option maxRecDepth 100000 in
set_option maxHeartbeats 4000000 in
theorem qX7_reckonSum (l : Launch) (E : mE) (σ : mSt) (v0 : Nat) (v1 : Nat) (v2 : Int) (out : Int × mSt) (hm : mX7_reckonSum v0 v1 v2 σ = some out) : mMet l yX7_reckonSum cX7_reckonSum 7 none 2 48 E 257 [.ref (eA E v0), .ref (eA E v1), vI v2] σ none out.2 := by
  unfold mX7_reckonSum at hm
  obtain ⟨g0, hm⟩ := g_t hm
  refine m_entry (by decide +kernel) (Nat.le_of_ble_eq_true rfl) (fun p e s m args below meth c G hr hk hM ls hl => ?_)
  have G : CallFix p m c cX7_reckonSum 7 s args mTs RX7 := G
  have hl : lv_has ls 7 [(0, .ref (eA E v0)), (1, .ref (eA E v1)), (2, vI v2)] := hl
  refine r_iconst (np := 1) G 0 dX7_reckonSum_0 rfl ?_
  refine r_istore_n (np := 2) G hl rfl [(3, vI 0), (0, .ref (eA E v0)), (1, .ref (eA E v1)), (2, vI v2)] dX7_reckonSum_1 rfl rfl (by decide) rfl (fun ls hl => ?_)
  exact wX7_reckonSum_L2 l E out G hr hk v0 v1 v2 g0 (fun zσ => mX7_reckonSum_B89 v0 v1 v2 zσ) (fun zσ zH zl zs zm zM zv => wX7_reckonSum_B89 l E out G hr hk v0 v1 v2 g0 zσ zH zl zs zm zM zv) mF 0 _ _ _ _ hm hM (lv_sub hl [1, 2, 3, 0] rfl)
theorem gX7_reckonSum {v0 : Nat} {v1 : Nat} {v2 : Int} {σ : mSt} {out : Int × mSt} (hm : mX7_reckonSum v0 v1 v2 σ = some out) : isC v0 6 := (g_t hm).1
set_option maxRecDepth 100000 in
set_option maxHeartbeats 4000000 in
theorem wX7_reckonOne_B93 (l : Launch) (E : mE) (out : Int × mSt) {p : Program} {e : Env} {s : State} {m : MethodId} {args : Array Value} {below : List Frame} {meth : Method} {c : Code} (G : CallFix p m c cX7_reckonOne 6 s args mTs RX7) (hr : meth.sig.returnType = none) (hk : meth.locks = false) (v0 : Nat) (v1 : Nat) (v2 : Int) (g0 : isC v0 6) : ∀ (σ : mSt) (H : Heap) (locs : List Loc) (ls : Array Slot), mX7_reckonOne_B93 v0 v1 v2 σ = some out → mM (mA E 257) E 257 σ s H locs → lv_has ls 6 [] → mGo l p e 4 105 s m args below meth c E none out.2 H locs (F0 m 93 ls []) := by
  intro σ H locs ls hm hM hl
  unfold mX7_reckonOne_B93 at hm
  refine r_goto (np := 113) G dX7_reckonOne_93 (by decide) ?_
  exact r_vret G hr hk hM hm dX7_reckonOne_113
set_option maxRecDepth 100000 in
set_option maxHeartbeats 4000000 in
theorem wX7_reckonOne_L47 (l : Launch) (E : mE) (out : Int × mSt) {p : Program} {e : Env} {s : State} {m : MethodId} {args : Array Value} {below : List Frame} {meth : Method} {c : Code} (G : CallFix p m c cX7_reckonOne 6 s args mTs RX7) (hr : meth.sig.returnType = none) (hk : meth.locks = false) (v0 : Nat) (v1 : Nat) (v2 : Int) (v3 : Int) (v4 : Int) (g0 : isC v0 6) (x93 : mSt → Option (Int × mSt)) (hx93 : ∀ (σ : mSt) (H : Heap) (locs : List Loc) (ls : Array Slot), x93 σ = some out → mM (mA E 257) E 257 σ s H locs → lv_has ls 6 [] → mGo l p e 4 105 s m args below meth c E none out.2 H locs (F0 m 93 ls [])) : ∀ (n : Nat) (v5 : Int) (σ : mSt) (H : Heap) (locs : List Loc) (ls : Array Slot), mX7_reckonOne_L47 v0 v1 v2 v3 v4 x93 n v5 σ = some out → mM (mA E 257) E 257 σ s H locs → lv_has ls 6 [(0, .ref (eA E v0)), (2, vI v2), (3, vI v3), (4, vI v4), (5, vI v5)] → mGo l p e 4 105 s m args below meth c E none out.2 H locs (F0 m 47 ls []) := by
  intro n
  induction n with
  | zero =>
    intro v5 σ H locs ls hm hM hl
    exact absurd hm (by rw [mX7_reckonOne_L47.eq_1]; exact fun h => nomatch h)
  | succ n ih =>
    intro v5 σ H locs ls hm hM hl
    rw [mX7_reckonOne_L47.eq_2] at hm
    refine r_iload (np := 49) G hl 4 rfl dX7_reckonOne_47 rfl ?_
    refine r_aload_n (np := 50) G hl 0 rfl dX7_reckonOne_49 rfl rfl ?_
    refine r_getI (np := 53) G hM (shp_lt g0 (by decide)) g0 fdX7_0 lkX7_9 dX7_reckonOne_50 rfl ?_
    refine r_icmp_ge (np := 56) (tgt := 93) G rfl rfl dX7_reckonOne_53 (by decide) rfl (fun h1 => ?_) (fun h1 => ?_)
    · have hm := b_t h1 hm
      exact hx93 _ _ _ _ hm hM (lv_sub hl [] rfl)
    · have hm := b_f h1 hm
      refine r_aload_n (np := 57) G hl 0 rfl dX7_reckonOne_56 rfl rfl ?_
      obtain ⟨r2, e3, hm⟩ := ref_t hm
      refine r_getR (np := 60) G hM (shp_lt g0 (by decide)) g0 e3 fdX7_3 lkX7_24 dX7_reckonOne_57 rfl ?_
      refine r_iload_n (np := 61) G hl 1 rfl dX7_reckonOne_60 rfl rfl ?_
      obtain ⟨g4, hm⟩ := g_t hm
      obtain ⟨r5, e6, hm⟩ := ref_t hm
      refine r_aaload (np := 62) G hM (t := 6) g4 rfl ⟨by decide, by decide⟩ rfl rfl e6 dX7_reckonOne_61 rfl ?_
      refine r_iload (np := 64) G hl 4 rfl dX7_reckonOne_62 rfl ?_
      refine r_aload_n (np := 65) G hl 0 rfl dX7_reckonOne_64 rfl rfl ?_
      refine r_iload_n (np := 66) G hl 2 rfl dX7_reckonOne_65 rfl rfl ?_
      refine r_iload (np := 68) G hl 3 rfl dX7_reckonOne_66 rfl ?_
      refine r_aload_n (np := 69) G hl 0 rfl dX7_reckonOne_68 rfl rfl ?_
      obtain ⟨r7, e8, hm⟩ := ref_t hm
      refine r_getR (np := 72) G hM (shp_lt g0 (by decide)) g0 e8 fdX7_2 lkX7_18 dX7_reckonOne_69 rfl ?_
      refine r_iload (np := 74) G hl 4 rfl dX7_reckonOne_72 rfl ?_
      obtain ⟨g9, hm⟩ := g_t hm
      refine r_iaload (np := 75) G hM g9 rfl dX7_reckonOne_74 rfl ?_
      obtain ⟨b10, s11, e12, hm⟩ := call_t hm
      refine m_callVI (np := 78) G hM hl.1 [vI v3, vI v4, vI (σ r7 (wI v5).toNat)] (qX7_isRamified l E σ v0 v3 v4 (σ r7 (wI v5).toNat) _ e12) myX7_isRamified (shp_lt (gX7_isRamified e12) (by decide)) (gX7_isRamified e12) rfl (by decide) lkX7_61 ⟨Nat.le_of_ble_eq_true rfl, Nat.le_of_ble_eq_true rfl⟩ ⟨Nat.le_of_ble_eq_true rfl, Nat.le_of_ble_eq_true rfl⟩ [vI v5, .ref (eA E r5)] rfl (Nat.le_of_ble_eq_true rfl) dX7_reckonOne_75 rfl (fun H locs hM => ?_)
      refine r_if_eq (np := 81) (tgt := 85) G rfl dX7_reckonOne_78 (by decide) rfl (fun h13 => ?_) (fun h13 => ?_)
      · have hm := b_t h13 hm
        refine r_iconst (np := 86) G 0 dX7_reckonOne_85 rfl ?_
        obtain ⟨g14, hm⟩ := g_t hm
        obtain ⟨s15, e16, hm⟩ := bnd_t hm
        refine r_iastore (np := 87) G hM g14 rfl s15 e16 dX7_reckonOne_86 rfl (fun H locs hM => ?_)
        obtain ⟨a17, e18, hm⟩ := bnd_t hm
        refine r_iinc (np := 90) G hl 4 rfl e18 [(5, vI a17), (0, .ref (eA E v0)), (2, vI v2), (3, vI v3), (4, vI v4)] dX7_reckonOne_87 rfl (by decide) rfl (fun ls hl => ?_)
        refine r_goto (np := 47) G dX7_reckonOne_90 (by decide) ?_
        exact ih a17 _ _ _ _ hm hM (lv_sub hl [1, 2, 3, 4, 0] rfl)
      · have hm := b_f h13 hm
        refine r_iconst (np := 82) G 3 dX7_reckonOne_81 rfl ?_
        refine r_goto (np := 86) G dX7_reckonOne_82 (by decide) ?_
        obtain ⟨g19, hm⟩ := g_t hm
        obtain ⟨s20, e21, hm⟩ := bnd_t hm
        refine r_iastore (np := 87) G hM g19 rfl s20 e21 dX7_reckonOne_86 rfl (fun H locs hM => ?_)
        obtain ⟨a22, e23, hm⟩ := bnd_t hm
        refine r_iinc (np := 90) G hl 4 rfl e23 [(5, vI a22), (0, .ref (eA E v0)), (2, vI v2), (3, vI v3), (4, vI v4)] dX7_reckonOne_87 rfl (by decide) rfl (fun ls hl => ?_)
        refine r_goto (np := 47) G dX7_reckonOne_90 (by decide) ?_
        exact ih a22 _ _ _ _ hm hM (lv_sub hl [1, 2, 3, 4, 0] rfl)
set_option maxRecDepth 100000 in
set_option maxHeartbeats 4000000 in
theorem qX7_reckonOne (l : Launch) (E : mE) (σ : mSt) (v0 : Nat) (v1 : Nat) (v2 : Int) (out : Int × mSt) (hm : mX7_reckonOne v0 v1 v2 σ = some out) : mMet l yX7_reckonOne cX7_reckonOne 6 none 4 105 E 257 [.ref (eA E v0), .ref (eA E v1), vI v2] σ none out.2 := by
  unfold mX7_reckonOne at hm
  obtain ⟨g0, hm⟩ := g_t hm
  refine m_entry (by decide +kernel) (Nat.le_of_ble_eq_true rfl) (fun p e s m args below meth c G hr hk hM ls hl => ?_)
  have G : CallFix p m c cX7_reckonOne 6 s args mTs RX7 := G
  have hl : lv_has ls 6 [(0, .ref (eA E v0)), (1, .ref (eA E v1)), (2, vI v2)] := hl
  refine r_aload_n (np := 1) G hl 1 rfl dX7_reckonOne_0 rfl rfl ?_
  refine r_iload_n (np := 2) G hl 2 rfl dX7_reckonOne_1 rfl rfl ?_
  obtain ⟨b24, s25, e26, hm⟩ := call_t hm
  refine m_callVI (np := 5) G hM hl.1 [vI v2] (qX0_first l E σ v1 v2 _ e26) myX0_first (shp_lt (gX0_first e26) (by decide)) (gX0_first e26) rfl (by decide) lkX7_47 ⟨Nat.le_of_ble_eq_true rfl, Nat.le_of_ble_eq_true rfl⟩ ⟨Nat.le_of_ble_eq_true rfl, Nat.le_of_ble_eq_true rfl⟩ [] rfl (Nat.le_of_ble_eq_true rfl) dX7_reckonOne_2 rfl (fun H locs hM => ?_)
  refine r_istore_n (np := 6) G hl rfl [(3, vI b24), (0, .ref (eA E v0)), (1, .ref (eA E v1)), (2, vI v2)] dX7_reckonOne_5 rfl rfl (by decide) rfl (fun ls hl => ?_)
  refine r_aload_n (np := 7) G hl 2 rfl dX7_reckonOne_6 rfl rfl ?_
  refine r_iload_n (np := 8) G hl 3 rfl dX7_reckonOne_7 rfl rfl ?_
  obtain ⟨b27, s28, e29, hm⟩ := call_t hm
  refine m_callVI (np := 11) G hM hl.1 [vI v2] (qX0_second l E s25 v1 v2 _ e29) myX0_second (shp_lt (gX0_second e29) (by decide)) (gX0_second e29) rfl (by decide) lkX7_53 ⟨Nat.le_of_ble_eq_true rfl, Nat.le_of_ble_eq_true rfl⟩ ⟨Nat.le_of_ble_eq_true rfl, Nat.le_of_ble_eq_true rfl⟩ [] rfl (Nat.le_of_ble_eq_true rfl) dX7_reckonOne_8 rfl (fun H locs hM => ?_)
  refine r_istore (np := 13) G hl rfl [(4, vI b27), (3, vI b24), (0, .ref (eA E v0)), (1, .ref (eA E v1)), (2, vI v2)] dX7_reckonOne_11 rfl (by decide) rfl (fun ls hl => ?_)
  refine r_aload_n (np := 14) G hl 3 rfl dX7_reckonOne_13 rfl rfl ?_
  refine r_iload_n (np := 15) G hl 4 rfl dX7_reckonOne_14 rfl rfl ?_
  obtain ⟨b30, s31, e32, hm⟩ := call_t hm
  refine m_callVI (np := 18) G hM hl.1 [vI v2] (qX0_kind l E s28 v1 v2 _ e32) myX0_kind (shp_lt (gX0_kind e32) (by decide)) (gX0_kind e32) rfl (by decide) lkX7_43 ⟨Nat.le_of_ble_eq_true rfl, Nat.le_of_ble_eq_true rfl⟩ ⟨Nat.le_of_ble_eq_true rfl, Nat.le_of_ble_eq_true rfl⟩ [] rfl (Nat.le_of_ble_eq_true rfl) dX7_reckonOne_15 rfl (fun H locs hM => ?_)
  rcases ite_c hm with ⟨h33, hm⟩ | ⟨h33, hm⟩
  · refine r_lsw (tgt := 44) (off := 26) G (by rw [h33]; rfl) rfl dX7_reckonOne_18 (by decide) ?_
    refine r_iconst (np := 45) G 0 dX7_reckonOne_44 rfl ?_
    refine r_istore (np := 47) G hl rfl [(5, vI 0), (4, vI b27), (3, vI b24), (0, .ref (eA E v0)), (1, .ref (eA E v1)), (2, vI v2)] dX7_reckonOne_45 rfl (by decide) rfl (fun ls hl => ?_)
    exact wX7_reckonOne_L47 l E out G hr hk v0 v1 v2 b24 b27 g0 (fun zσ => mX7_reckonOne_B93 v0 v1 v2 zσ) (fun zσ zH zl zs zm zM zv => wX7_reckonOne_B93 l E out G hr hk v0 v1 v2 g0 zσ zH zl zs zm zM zv) mF 0 _ _ _ _ hm hM (lv_sub hl [3, 5, 2, 1, 0] rfl)
  ·
    rcases ite_c hm with ⟨h34, hm⟩ | ⟨h34, hm⟩
    · refine r_lsw (tgt := 96) (off := 78) G (by rw [h34]; rfl) rfl dX7_reckonOne_18 (by decide) ?_
      refine r_aload_n (np := 97) G hl 2 rfl dX7_reckonOne_96 rfl rfl ?_
      refine r_iload_n (np := 98) G hl 4 rfl dX7_reckonOne_97 rfl rfl ?_
      refine r_iload_n (np := 99) G hl 1 rfl dX7_reckonOne_98 rfl rfl ?_
      refine r_iload (np := 101) G hl 0 rfl dX7_reckonOne_99 rfl ?_
      obtain ⟨b35, s36, e37, hm⟩ := call_t hm
      refine m_callVV (np := 104) G hM hl.1 [vI v2, vI b24, vI b27] (qX7_reckonCyclic l E s31 v0 v2 b24 b27 _ e37) myX7_reckonCyclic (shp_lt (gX7_reckonCyclic e37) (by decide)) (gX7_reckonCyclic e37) rfl (by decide) lkX7_65 ⟨Nat.le_of_ble_eq_true rfl, Nat.le_of_ble_eq_true rfl⟩ ⟨Nat.le_of_ble_eq_true rfl, Nat.le_of_ble_eq_true rfl⟩ [] rfl (Nat.le_of_ble_eq_true rfl) dX7_reckonOne_101 rfl (fun H locs hM => ?_)
      refine r_goto (np := 113) G dX7_reckonOne_104 (by decide) ?_
      exact r_vret G hr hk hM hm dX7_reckonOne_113
    ·
      refine r_lsw (tgt := 107) (off := 89) G (lsw_out [(0, 26), (1, 78)] (List.forall_mem_cons.mpr ⟨fun z => h33 z.symm, (List.forall_mem_cons.mpr ⟨fun z => h34 z.symm, (fun _ h => nomatch h)⟩)⟩)) rfl dX7_reckonOne_18 (by decide) ?_
      refine r_aload_n (np := 108) G hl 2 rfl dX7_reckonOne_107 rfl rfl ?_
      refine r_aload_n (np := 109) G hl 3 rfl dX7_reckonOne_108 rfl rfl ?_
      refine r_iload_n (np := 110) G hl 4 rfl dX7_reckonOne_109 rfl rfl ?_
      obtain ⟨b38, s39, e40, hm⟩ := call_t hm
      refine m_callVV (np := 113) G hM hl.1 [.ref (eA E v1), vI v2] (qX7_reckonSum l E s31 v0 v1 v2 _ e40) myX7_reckonSum (shp_lt (gX7_reckonSum e40) (by decide)) (gX7_reckonSum e40) rfl (by decide) lkX7_69 ⟨Nat.le_of_ble_eq_true rfl, Nat.le_of_ble_eq_true rfl⟩ ⟨Nat.le_of_ble_eq_true rfl, Nat.le_of_ble_eq_true rfl⟩ [] rfl (Nat.le_of_ble_eq_true rfl) dX7_reckonOne_110 rfl (fun H locs hM => ?_)
      exact r_vret G hr hk hM hm dX7_reckonOne_113
theorem gX7_reckonOne {v0 : Nat} {v1 : Nat} {v2 : Int} {σ : mSt} {out : Int × mSt} (hm : mX7_reckonOne v0 v1 v2 σ = some out) : isC v0 6 := (g_t hm).1
set_option maxRecDepth 100000 in
set_option maxHeartbeats 4000000 in
theorem wX7_reckon_B67 (l : Launch) (E : mE) (out : Int × mSt) {p : Program} {e : Env} {s : State} {m : MethodId} {args : Array Value} {below : List Frame} {meth : Method} {c : Code} (G : CallFix p m c cX7_reckon 3 s args mTs RX7) (hr : meth.sig.returnType = none) (hk : meth.locks = false) (v0 : Nat) (v1 : Nat) (g0 : isC v0 6) : ∀ (σ : mSt) (H : Heap) (locs : List Loc) (ls : Array Slot), mX7_reckon_B67 v0 v1 σ = some out → mM (mA E 257) E 257 σ s H locs → lv_has ls 3 [] → mGo l p e 5 130 s m args below meth c E none out.2 H locs (F0 m 67 ls []) := by
  intro σ H locs ls hm hM hl
  unfold mX7_reckon_B67 at hm
  exact r_vret G hr hk hM hm dX7_reckon_67
set_option maxRecDepth 100000 in
set_option maxHeartbeats 4000000 in
theorem wX7_reckon_L47 (l : Launch) (E : mE) (out : Int × mSt) {p : Program} {e : Env} {s : State} {m : MethodId} {args : Array Value} {below : List Frame} {meth : Method} {c : Code} (G : CallFix p m c cX7_reckon 3 s args mTs RX7) (hr : meth.sig.returnType = none) (hk : meth.locks = false) (v0 : Nat) (v1 : Nat) (g0 : isC v0 6) (x67 : mSt → Option (Int × mSt)) (hx67 : ∀ (σ : mSt) (H : Heap) (locs : List Loc) (ls : Array Slot), x67 σ = some out → mM (mA E 257) E 257 σ s H locs → lv_has ls 3 [] → mGo l p e 5 130 s m args below meth c E none out.2 H locs (F0 m 67 ls [])) : ∀ (n : Nat) (v2 : Int) (σ : mSt) (H : Heap) (locs : List Loc) (ls : Array Slot), mX7_reckon_L47 v0 v1 x67 n v2 σ = some out → mM (mA E 257) E 257 σ s H locs → lv_has ls 3 [(0, .ref (eA E v0)), (1, .ref (eA E v1)), (2, vI v2)] → mGo l p e 5 130 s m args below meth c E none out.2 H locs (F0 m 47 ls []) := by
  intro n
  induction n with
  | zero =>
    intro v2 σ H locs ls hm hM hl
    exact absurd hm (by rw [mX7_reckon_L47.eq_1]; exact fun h => nomatch h)
  | succ n ih =>
    intro v2 σ H locs ls hm hM hl
    rw [mX7_reckon_L47.eq_2] at hm
    refine r_iload_n (np := 48) G hl 2 rfl dX7_reckon_47 rfl rfl ?_
    refine r_aload_n (np := 49) G hl 0 rfl dX7_reckon_48 rfl rfl ?_
    refine r_getI (np := 52) G hM (shp_lt g0 (by decide)) g0 fdX7_1 lkX7_15 dX7_reckon_49 rfl ?_
    refine r_icmp_ge (np := 55) (tgt := 67) G rfl rfl dX7_reckon_52 (by decide) rfl (fun h1 => ?_) (fun h1 => ?_)
    · have hm := b_t h1 hm
      exact hx67 _ _ _ _ hm hM (lv_sub hl [] rfl)
    · have hm := b_f h1 hm
      refine r_aload_n (np := 56) G hl 0 rfl dX7_reckon_55 rfl rfl ?_
      refine r_aload_n (np := 57) G hl 1 rfl dX7_reckon_56 rfl rfl ?_
      refine r_iload_n (np := 58) G hl 2 rfl dX7_reckon_57 rfl rfl ?_
      obtain ⟨b2, s3, e4, hm⟩ := call_t hm
      refine m_callVV (np := 61) G hM hl.1 [.ref (eA E v1), vI v2] (qX7_reckonOne l E σ v0 v1 v2 _ e4) myX7_reckonOne (shp_lt (gX7_reckonOne e4) (by decide)) (gX7_reckonOne e4) rfl (by decide) lkX7_40 ⟨Nat.le_of_ble_eq_true rfl, Nat.le_of_ble_eq_true rfl⟩ ⟨Nat.le_of_ble_eq_true rfl, Nat.le_of_ble_eq_true rfl⟩ [] rfl (Nat.le_of_ble_eq_true rfl) dX7_reckon_58 rfl (fun H locs hM => ?_)
      obtain ⟨a5, e6, hm⟩ := bnd_t hm
      refine r_iinc (np := 64) G hl 2 rfl e6 [(2, vI a5), (0, .ref (eA E v0)), (1, .ref (eA E v1))] dX7_reckon_61 rfl (by decide) rfl (fun ls hl => ?_)
      refine r_goto (np := 47) G dX7_reckon_64 (by decide) ?_
      exact ih a5 _ _ _ _ hm hM (lv_sub hl [1, 2, 0] rfl)
set_option maxRecDepth 100000 in
set_option maxHeartbeats 4000000 in
theorem wX7_reckon_B45 (l : Launch) (E : mE) (out : Int × mSt) {p : Program} {e : Env} {s : State} {m : MethodId} {args : Array Value} {below : List Frame} {meth : Method} {c : Code} (G : CallFix p m c cX7_reckon 3 s args mTs RX7) (hr : meth.sig.returnType = none) (hk : meth.locks = false) (v0 : Nat) (v1 : Nat) (g0 : isC v0 6) : ∀ (σ : mSt) (H : Heap) (locs : List Loc) (ls : Array Slot), mX7_reckon_B45 v0 v1 σ = some out → mM (mA E 257) E 257 σ s H locs → lv_has ls 3 [(0, .ref (eA E v0)), (1, .ref (eA E v1))] → mGo l p e 5 130 s m args below meth c E none out.2 H locs (F0 m 45 ls []) := by
  intro σ H locs ls hm hM hl
  unfold mX7_reckon_B45 at hm
  refine r_iconst (np := 46) G 0 dX7_reckon_45 rfl ?_
  refine r_istore_n (np := 47) G hl rfl [(2, vI 0), (0, .ref (eA E v0)), (1, .ref (eA E v1))] dX7_reckon_46 rfl rfl (by decide) rfl (fun ls hl => ?_)
  exact wX7_reckon_L47 l E out G hr hk v0 v1 g0 (fun zσ => mX7_reckon_B67 v0 v1 zσ) (fun zσ zH zl zs zm zM zv => wX7_reckon_B67 l E out G hr hk v0 v1 g0 zσ zH zl zs zm zM zv) mF 0 _ _ _ _ hm hM (lv_sub hl [1, 2, 0] rfl)
set_option maxRecDepth 100000 in
set_option maxHeartbeats 4000000 in
theorem wX7_reckon_L25 (l : Launch) (E : mE) (out : Int × mSt) {p : Program} {e : Env} {s : State} {m : MethodId} {args : Array Value} {below : List Frame} {meth : Method} {c : Code} (G : CallFix p m c cX7_reckon 3 s args mTs RX7) (hr : meth.sig.returnType = none) (hk : meth.locks = false) (v0 : Nat) (v1 : Nat) (g0 : isC v0 6) (x45 : mSt → Option (Int × mSt)) (hx45 : ∀ (σ : mSt) (H : Heap) (locs : List Loc) (ls : Array Slot), x45 σ = some out → mM (mA E 257) E 257 σ s H locs → lv_has ls 3 [(0, .ref (eA E v0)), (1, .ref (eA E v1))] → mGo l p e 5 130 s m args below meth c E none out.2 H locs (F0 m 45 ls [])) : ∀ (n : Nat) (v2 : Int) (σ : mSt) (H : Heap) (locs : List Loc) (ls : Array Slot), mX7_reckon_L25 v0 v1 x45 n v2 σ = some out → mM (mA E 257) E 257 σ s H locs → lv_has ls 3 [(0, .ref (eA E v0)), (1, .ref (eA E v1)), (2, vI v2)] → mGo l p e 5 130 s m args below meth c E none out.2 H locs (F0 m 25 ls []) := by
  intro n
  induction n with
  | zero =>
    intro v2 σ H locs ls hm hM hl
    exact absurd hm (by rw [mX7_reckon_L25.eq_1]; exact fun h => nomatch h)
  | succ n ih =>
    intro v2 σ H locs ls hm hM hl
    rw [mX7_reckon_L25.eq_2] at hm
    refine r_iload_n (np := 26) G hl 2 rfl dX7_reckon_25 rfl rfl ?_
    refine r_aload_n (np := 27) G hl 0 rfl dX7_reckon_26 rfl rfl ?_
    refine r_getI (np := 30) G hM (shp_lt g0 (by decide)) g0 fdX7_1 lkX7_15 dX7_reckon_27 rfl ?_
    refine r_icmp_ge (np := 33) (tgt := 45) G rfl rfl dX7_reckon_30 (by decide) rfl (fun h7 => ?_) (fun h7 => ?_)
    · have hm := b_t h7 hm
      exact hx45 _ _ _ _ hm hM (lv_sub hl [0, 1] rfl)
    · have hm := b_f h7 hm
      refine r_aload_n (np := 34) G hl 0 rfl dX7_reckon_33 rfl rfl ?_
      refine r_aload_n (np := 35) G hl 1 rfl dX7_reckon_34 rfl rfl ?_
      refine r_iload_n (np := 36) G hl 2 rfl dX7_reckon_35 rfl rfl ?_
      obtain ⟨b8, s9, e10, hm⟩ := call_t hm
      refine m_callVV (np := 39) G hM hl.1 [.ref (eA E v1), vI v2] (qX7_noteAll l E σ v0 v1 v2 _ e10) myX7_noteAll (shp_lt (gX7_noteAll e10) (by decide)) (gX7_noteAll e10) rfl (by decide) lkX7_36 ⟨Nat.le_of_ble_eq_true rfl, Nat.le_of_ble_eq_true rfl⟩ ⟨Nat.le_of_ble_eq_true rfl, Nat.le_of_ble_eq_true rfl⟩ [] rfl (Nat.le_of_ble_eq_true rfl) dX7_reckon_36 rfl (fun H locs hM => ?_)
      obtain ⟨a11, e12, hm⟩ := bnd_t hm
      refine r_iinc (np := 42) G hl 2 rfl e12 [(2, vI a11), (0, .ref (eA E v0)), (1, .ref (eA E v1))] dX7_reckon_39 rfl (by decide) rfl (fun ls hl => ?_)
      refine r_goto (np := 25) G dX7_reckon_42 (by decide) ?_
      exact ih a11 _ _ _ _ hm hM (lv_sub hl [1, 2, 0] rfl)
set_option maxRecDepth 100000 in
set_option maxHeartbeats 4000000 in
theorem qX7_reckon (l : Launch) (E : mE) (σ : mSt) (v0 : Nat) (v1 : Nat) (out : Int × mSt) (hm : mX7_reckon v0 v1 σ = some out) : mMet l yX7_reckon cX7_reckon 3 none 5 130 E 257 [.ref (eA E v0), .ref (eA E v1)] σ none out.2 := by
  unfold mX7_reckon at hm
  obtain ⟨g0, hm⟩ := g_t hm
  refine m_entry (by decide +kernel) (Nat.le_of_ble_eq_true rfl) (fun p e s m args below meth c G hr hk hM ls hl => ?_)
  have G : CallFix p m c cX7_reckon 3 s args mTs RX7 := G
  have hl : lv_has ls 3 [(0, .ref (eA E v0)), (1, .ref (eA E v1))] := hl
  refine r_aload_n (np := 1) G hl 0 rfl dX7_reckon_0 rfl rfl ?_
  refine r_iconst (np := 2) G 0 dX7_reckon_1 rfl ?_
  obtain ⟨s13, e14, hm⟩ := bnd_t hm
  refine r_putI (np := 5) G hM (shp_lt g0 (by decide)) g0 ptX7_0 rfl lkX7_9 s13 e14 dX7_reckon_2 rfl (fun H locs hM => ?_)
  refine r_aload_n (np := 6) G hl 0 rfl dX7_reckon_5 rfl rfl ?_
  refine r_aload_n (np := 7) G hl 1 rfl dX7_reckon_6 rfl rfl ?_
  obtain ⟨b15, s16, e17, hm⟩ := call_t hm
  refine m_callVI (np := 10) G hM hl.1 [] (qX0_size l E s13 v1 _ e17) myX0_size (shp_lt (gX0_size e17) (by decide)) (gX0_size e17) rfl (by decide) lkX7_27 ⟨Nat.le_of_ble_eq_true rfl, Nat.le_of_ble_eq_true rfl⟩ ⟨Nat.le_of_ble_eq_true rfl, Nat.le_of_ble_eq_true rfl⟩ [.ref (eA E v0)] rfl (Nat.le_of_ble_eq_true rfl) dX7_reckon_7 rfl (fun H locs hM => ?_)
  obtain ⟨s18, e19, hm⟩ := bnd_t hm
  refine r_putI (np := 13) G hM (shp_lt g0 (by decide)) g0 ptX7_1 rfl lkX7_15 s18 e19 dX7_reckon_10 rfl (fun H locs hM => ?_)
  refine r_aload_n (np := 14) G hl 0 rfl dX7_reckon_13 rfl rfl ?_
  refine r_iconst (np := 15) G 0 dX7_reckon_14 rfl ?_
  obtain ⟨b20, s21, e22, hm⟩ := call_t hm
  refine m_callVV (np := 18) G hM hl.1 [vI 0] (qX7_note l E s18 v0 0 _ e22) myX7_note (shp_lt (gX7_note e22) (by decide)) (gX7_note e22) rfl (by decide) lkX7_32 ⟨Nat.le_of_ble_eq_true rfl, Nat.le_of_ble_eq_true rfl⟩ ⟨Nat.le_of_ble_eq_true rfl, Nat.le_of_ble_eq_true rfl⟩ [] rfl (Nat.le_of_ble_eq_true rfl) dX7_reckon_15 rfl (fun H locs hM => ?_)
  refine r_aload_n (np := 19) G hl 0 rfl dX7_reckon_18 rfl rfl ?_
  refine r_iconst (np := 20) G 2 dX7_reckon_19 rfl ?_
  obtain ⟨b23, s24, e25, hm⟩ := call_t hm
  refine m_callVV (np := 23) G hM hl.1 [vI 2] (qX7_note l E s21 v0 2 _ e25) myX7_note (shp_lt (gX7_note e25) (by decide)) (gX7_note e25) rfl (by decide) lkX7_32 ⟨Nat.le_of_ble_eq_true rfl, Nat.le_of_ble_eq_true rfl⟩ ⟨Nat.le_of_ble_eq_true rfl, Nat.le_of_ble_eq_true rfl⟩ [] rfl (Nat.le_of_ble_eq_true rfl) dX7_reckon_20 rfl (fun H locs hM => ?_)
  refine r_iconst (np := 24) G 0 dX7_reckon_23 rfl ?_
  refine r_istore_n (np := 25) G hl rfl [(2, vI 0), (0, .ref (eA E v0)), (1, .ref (eA E v1))] dX7_reckon_24 rfl rfl (by decide) rfl (fun ls hl => ?_)
  exact wX7_reckon_L25 l E out G hr hk v0 v1 g0 (fun zσ => mX7_reckon_B45 v0 v1 zσ) (fun zσ zH zl zs zm zM zv => wX7_reckon_B45 l E out G hr hk v0 v1 g0 zσ zH zl zs zm zM zv) mF 0 _ _ _ _ hm hM (lv_sub hl [1, 2, 0] rfl)
theorem gX7_reckon {v0 : Nat} {v1 : Nat} {σ : mSt} {out : Int × mSt} (hm : mX7_reckon v0 v1 σ = some out) : isC v0 6 := (g_t hm).1
set_option maxRecDepth 100000 in
set_option maxHeartbeats 4000000 in
theorem wX7_sixthsAt_B35 (l : Launch) (E : mE) (out : Int × mSt) {p : Program} {e : Env} {s : State} {m : MethodId} {args : Array Value} {below : List Frame} {meth : Method} {c : Code} (G : CallFix p m c cX7_sixthsAt 4 s args mTs RX7) (hr : meth.sig.returnType = (some .int)) (hk : meth.locks = false) (v0 : Nat) (v1 : Int) (v2 : Int) (g0 : isC v0 6) : ∀ (σ : mSt) (H : Heap) (locs : List Loc) (ls : Array Slot), mX7_sixthsAt_B35 v0 v1 v2 σ = some out → mM (mA E 257) E 257 σ s H locs → lv_has ls 4 [] → mGo l p e 0 0 s m args below meth c E (some (vI out.1)) out.2 H locs (F0 m 35 ls []) := by
  intro σ H locs ls hm hM hl
  unfold mX7_sixthsAt_B35 at hm
  refine r_iconst (np := 36) G 0 dX7_sixthsAt_35 rfl ?_
  exact r_iret G hr hk hM hm dX7_sixthsAt_36
set_option maxRecDepth 100000 in
set_option maxHeartbeats 4000000 in
theorem wX7_sixthsAt_L2 (l : Launch) (E : mE) (out : Int × mSt) {p : Program} {e : Env} {s : State} {m : MethodId} {args : Array Value} {below : List Frame} {meth : Method} {c : Code} (G : CallFix p m c cX7_sixthsAt 4 s args mTs RX7) (hr : meth.sig.returnType = (some .int)) (hk : meth.locks = false) (v0 : Nat) (v1 : Int) (v2 : Int) (g0 : isC v0 6) (x35 : mSt → Option (Int × mSt)) (hx35 : ∀ (σ : mSt) (H : Heap) (locs : List Loc) (ls : Array Slot), x35 σ = some out → mM (mA E 257) E 257 σ s H locs → lv_has ls 4 [] → mGo l p e 0 0 s m args below meth c E (some (vI out.1)) out.2 H locs (F0 m 35 ls [])) : ∀ (n : Nat) (v3 : Int) (σ : mSt) (H : Heap) (locs : List Loc) (ls : Array Slot), mX7_sixthsAt_L2 v0 v1 v2 x35 n v3 σ = some out → mM (mA E 257) E 257 σ s H locs → lv_has ls 4 [(0, .ref (eA E v0)), (1, vI v1), (2, vI v2), (3, vI v3)] → mGo l p e 0 0 s m args below meth c E (some (vI out.1)) out.2 H locs (F0 m 2 ls []) := by
  intro n
  induction n with
  | zero =>
    intro v3 σ H locs ls hm hM hl
    exact absurd hm (by rw [mX7_sixthsAt_L2.eq_1]; exact fun h => nomatch h)
  | succ n ih =>
    intro v3 σ H locs ls hm hM hl
    rw [mX7_sixthsAt_L2.eq_2] at hm
    refine r_iload_n (np := 3) G hl 3 rfl dX7_sixthsAt_2 rfl rfl ?_
    refine r_aload_n (np := 4) G hl 0 rfl dX7_sixthsAt_3 rfl rfl ?_
    refine r_getI (np := 7) G hM (shp_lt g0 (by decide)) g0 fdX7_0 lkX7_9 dX7_sixthsAt_4 rfl ?_
    refine r_icmp_ge (np := 10) (tgt := 35) G rfl rfl dX7_sixthsAt_7 (by decide) rfl (fun h1 => ?_) (fun h1 => ?_)
    · have hm := b_t h1 hm
      exact hx35 _ _ _ _ hm hM (lv_sub hl [] rfl)
    · have hm := b_f h1 hm
      refine r_aload_n (np := 11) G hl 0 rfl dX7_sixthsAt_10 rfl rfl ?_
      obtain ⟨r2, e3, hm⟩ := ref_t hm
      refine r_getR (np := 14) G hM (shp_lt g0 (by decide)) g0 e3 fdX7_2 lkX7_18 dX7_sixthsAt_11 rfl ?_
      refine r_iload_n (np := 15) G hl 3 rfl dX7_sixthsAt_14 rfl rfl ?_
      obtain ⟨g4, hm⟩ := g_t hm
      refine r_iaload (np := 16) G hM g4 rfl dX7_sixthsAt_15 rfl ?_
      refine r_iload_n (np := 17) G hl 2 rfl dX7_sixthsAt_16 rfl rfl ?_
      refine r_icmp_ne (np := 20) (tgt := 29) G rfl rfl dX7_sixthsAt_17 (by decide) rfl (fun h5 => ?_) (fun h5 => ?_)
      · have hm := b_f h5 hm
        obtain ⟨a6, e7, hm⟩ := bnd_t hm
        refine r_iinc (np := 32) G hl 3 rfl e7 [(3, vI a6), (0, .ref (eA E v0)), (1, vI v1), (2, vI v2)] dX7_sixthsAt_29 rfl (by decide) rfl (fun ls hl => ?_)
        refine r_goto (np := 2) G dX7_sixthsAt_32 (by decide) ?_
        exact ih a6 _ _ _ _ hm hM (lv_sub hl [1, 2, 3, 0] rfl)
      · have hm := b_t h5 hm
        refine r_aload_n (np := 21) G hl 0 rfl dX7_sixthsAt_20 rfl rfl ?_
        obtain ⟨r8, e9, hm⟩ := ref_t hm
        refine r_getR (np := 24) G hM (shp_lt g0 (by decide)) g0 e9 fdX7_3 lkX7_24 dX7_sixthsAt_21 rfl ?_
        refine r_iload_n (np := 25) G hl 1 rfl dX7_sixthsAt_24 rfl rfl ?_
        obtain ⟨g10, hm⟩ := g_t hm
        obtain ⟨r11, e12, hm⟩ := ref_t hm
        refine r_aaload (np := 26) G hM (t := 6) g10 rfl ⟨by decide, by decide⟩ rfl rfl e12 dX7_sixthsAt_25 rfl ?_
        refine r_iload_n (np := 27) G hl 3 rfl dX7_sixthsAt_26 rfl rfl ?_
        obtain ⟨g13, hm⟩ := g_t hm
        refine r_iaload (np := 28) G hM g13 rfl dX7_sixthsAt_27 rfl ?_
        exact r_iret G hr hk hM hm dX7_sixthsAt_28
set_option maxRecDepth 100000 in
set_option maxHeartbeats 4000000 in
theorem qX7_sixthsAt (l : Launch) (E : mE) (σ : mSt) (v0 : Nat) (v1 : Int) (v2 : Int) (out : Int × mSt) (hm : mX7_sixthsAt v0 v1 v2 σ = some out) : mMet l yX7_sixthsAt cX7_sixthsAt 4 (some .int) 0 0 E 257 [.ref (eA E v0), vI v1, vI v2] σ (some (vI out.1)) out.2 := by
  unfold mX7_sixthsAt at hm
  obtain ⟨g0, hm⟩ := g_t hm
  refine m_entry (by decide +kernel) (Nat.le_of_ble_eq_true rfl) (fun p e s m args below meth c G hr hk hM ls hl => ?_)
  have G : CallFix p m c cX7_sixthsAt 4 s args mTs RX7 := G
  have hl : lv_has ls 4 [(0, .ref (eA E v0)), (1, vI v1), (2, vI v2)] := hl
  refine r_iconst (np := 1) G 0 dX7_sixthsAt_0 rfl ?_
  refine r_istore_n (np := 2) G hl rfl [(3, vI 0), (0, .ref (eA E v0)), (1, vI v1), (2, vI v2)] dX7_sixthsAt_1 rfl rfl (by decide) rfl (fun ls hl => ?_)
  exact wX7_sixthsAt_L2 l E out G hr hk v0 v1 v2 g0 (fun zσ => mX7_sixthsAt_B35 v0 v1 v2 zσ) (fun zσ zH zl zs zm zM zv => wX7_sixthsAt_B35 l E out G hr hk v0 v1 v2 g0 zσ zH zl zs zm zM zv) mF 0 _ _ _ _ hm hM (lv_sub hl [1, 2, 3, 0] rfl)
theorem gX7_sixthsAt {v0 : Nat} {v1 : Int} {v2 : Int} {σ : mSt} {out : Int × mSt} (hm : mX7_sixthsAt v0 v1 v2 σ = some out) : isC v0 6 := (g_t hm).1
set_option maxRecDepth 100000 in
set_option maxHeartbeats 4000000 in
theorem wX7_howMany_B37 (l : Launch) (E : mE) (out : Int × mSt) {p : Program} {e : Env} {s : State} {m : MethodId} {args : Array Value} {below : List Frame} {meth : Method} {c : Code} (G : CallFix p m c cX7_howMany 4 s args mTs RX7) (hr : meth.sig.returnType = (some .int)) (hk : meth.locks = false) (v0 : Nat) (v1 : Int) (g0 : isC v0 6) : ∀ (v2 : Int) (σ : mSt) (H : Heap) (locs : List Loc) (ls : Array Slot), mX7_howMany_B37 v0 v1 v2 σ = some out → mM (mA E 257) E 257 σ s H locs → lv_has ls 4 [(2, vI v2)] → mGo l p e 0 0 s m args below meth c E (some (vI out.1)) out.2 H locs (F0 m 37 ls []) := by
  intro v2 σ H locs ls hm hM hl
  unfold mX7_howMany_B37 at hm
  refine r_iload_n (np := 38) G hl 0 rfl dX7_howMany_37 rfl rfl ?_
  exact r_iret G hr hk hM hm dX7_howMany_38
set_option maxRecDepth 100000 in
set_option maxHeartbeats 4000000 in
theorem wX7_howMany_L4 (l : Launch) (E : mE) (out : Int × mSt) {p : Program} {e : Env} {s : State} {m : MethodId} {args : Array Value} {below : List Frame} {meth : Method} {c : Code} (G : CallFix p m c cX7_howMany 4 s args mTs RX7) (hr : meth.sig.returnType = (some .int)) (hk : meth.locks = false) (v0 : Nat) (v1 : Int) (g0 : isC v0 6) (x37 : Int → mSt → Option (Int × mSt)) (hx37 : ∀ (v2 : Int) (σ : mSt) (H : Heap) (locs : List Loc) (ls : Array Slot), x37 v2 σ = some out → mM (mA E 257) E 257 σ s H locs → lv_has ls 4 [(2, vI v2)] → mGo l p e 0 0 s m args below meth c E (some (vI out.1)) out.2 H locs (F0 m 37 ls [])) : ∀ (n : Nat) (v2 : Int) (v3 : Int) (σ : mSt) (H : Heap) (locs : List Loc) (ls : Array Slot), mX7_howMany_L4 v0 v1 x37 n v2 v3 σ = some out → mM (mA E 257) E 257 σ s H locs → lv_has ls 4 [(0, .ref (eA E v0)), (1, vI v1), (2, vI v2), (3, vI v3)] → mGo l p e 0 0 s m args below meth c E (some (vI out.1)) out.2 H locs (F0 m 4 ls []) := by
  intro n
  induction n with
  | zero =>
    intro v2 v3 σ H locs ls hm hM hl
    exact absurd hm (by rw [mX7_howMany_L4.eq_1]; exact fun h => nomatch h)
  | succ n ih =>
    intro v2 v3 σ H locs ls hm hM hl
    rw [mX7_howMany_L4.eq_2] at hm
    refine r_iload_n (np := 5) G hl 3 rfl dX7_howMany_4 rfl rfl ?_
    refine r_aload_n (np := 6) G hl 0 rfl dX7_howMany_5 rfl rfl ?_
    refine r_getI (np := 9) G hM (shp_lt g0 (by decide)) g0 fdX7_0 lkX7_9 dX7_howMany_6 rfl ?_
    refine r_icmp_ge (np := 12) (tgt := 37) G rfl rfl dX7_howMany_9 (by decide) rfl (fun h1 => ?_) (fun h1 => ?_)
    · have hm := b_t h1 hm
      exact hx37 v2 _ _ _ _ hm hM (lv_sub hl [2] rfl)
    · have hm := b_f h1 hm
      refine r_iload_n (np := 13) G hl 2 rfl dX7_howMany_12 rfl rfl ?_
      refine r_aload_n (np := 14) G hl 0 rfl dX7_howMany_13 rfl rfl ?_
      obtain ⟨r2, e3, hm⟩ := ref_t hm
      refine r_getR (np := 17) G hM (shp_lt g0 (by decide)) g0 e3 fdX7_3 lkX7_24 dX7_howMany_14 rfl ?_
      refine r_iload_n (np := 18) G hl 1 rfl dX7_howMany_17 rfl rfl ?_
      obtain ⟨g4, hm⟩ := g_t hm
      obtain ⟨r5, e6, hm⟩ := ref_t hm
      refine r_aaload (np := 19) G hM (t := 6) g4 rfl ⟨by decide, by decide⟩ rfl rfl e6 dX7_howMany_18 rfl ?_
      refine r_iload_n (np := 20) G hl 3 rfl dX7_howMany_19 rfl rfl ?_
      obtain ⟨g7, hm⟩ := g_t hm
      refine r_iaload (np := 21) G hM g7 rfl dX7_howMany_20 rfl ?_
      refine r_if_eq (np := 24) (tgt := 28) G rfl dX7_howMany_21 (by decide) rfl (fun h8 => ?_) (fun h8 => ?_)
      · have hm := b_t h8 hm
        refine r_iconst (np := 29) G 0 dX7_howMany_28 rfl ?_
        refine r_iadd (np := 30) G dX7_howMany_29 rfl ?_
        obtain ⟨a9, e10, hm⟩ := bnd_t hm
        refine r_istore_n (np := 31) G hl e10 [(2, vI a9), (0, .ref (eA E v0)), (1, vI v1), (3, vI v3)] dX7_howMany_30 rfl rfl (by decide) rfl (fun ls hl => ?_)
        obtain ⟨a11, e12, hm⟩ := bnd_t hm
        refine r_iinc (np := 34) G hl 3 rfl e12 [(3, vI a11), (2, vI a9), (0, .ref (eA E v0)), (1, vI v1)] dX7_howMany_31 rfl (by decide) rfl (fun ls hl => ?_)
        refine r_goto (np := 4) G dX7_howMany_34 (by decide) ?_
        exact ih a9 a11 _ _ _ _ hm hM (lv_sub hl [2, 3, 1, 0] rfl)
      · have hm := b_f h8 hm
        refine r_iconst (np := 25) G 1 dX7_howMany_24 rfl ?_
        refine r_goto (np := 29) G dX7_howMany_25 (by decide) ?_
        refine r_iadd (np := 30) G dX7_howMany_29 rfl ?_
        obtain ⟨a13, e14, hm⟩ := bnd_t hm
        refine r_istore_n (np := 31) G hl e14 [(2, vI a13), (0, .ref (eA E v0)), (1, vI v1), (3, vI v3)] dX7_howMany_30 rfl rfl (by decide) rfl (fun ls hl => ?_)
        obtain ⟨a15, e16, hm⟩ := bnd_t hm
        refine r_iinc (np := 34) G hl 3 rfl e16 [(3, vI a15), (2, vI a13), (0, .ref (eA E v0)), (1, vI v1)] dX7_howMany_31 rfl (by decide) rfl (fun ls hl => ?_)
        refine r_goto (np := 4) G dX7_howMany_34 (by decide) ?_
        exact ih a13 a15 _ _ _ _ hm hM (lv_sub hl [2, 3, 1, 0] rfl)
set_option maxRecDepth 100000 in
set_option maxHeartbeats 4000000 in
theorem qX7_howMany (l : Launch) (E : mE) (σ : mSt) (v0 : Nat) (v1 : Int) (out : Int × mSt) (hm : mX7_howMany v0 v1 σ = some out) : mMet l yX7_howMany cX7_howMany 4 (some .int) 0 0 E 257 [.ref (eA E v0), vI v1] σ (some (vI out.1)) out.2 := by
  unfold mX7_howMany at hm
  obtain ⟨g0, hm⟩ := g_t hm
  refine m_entry (by decide +kernel) (Nat.le_of_ble_eq_true rfl) (fun p e s m args below meth c G hr hk hM ls hl => ?_)
  have G : CallFix p m c cX7_howMany 4 s args mTs RX7 := G
  have hl : lv_has ls 4 [(0, .ref (eA E v0)), (1, vI v1)] := hl
  refine r_iconst (np := 1) G 0 dX7_howMany_0 rfl ?_
  refine r_istore_n (np := 2) G hl rfl [(2, vI 0), (0, .ref (eA E v0)), (1, vI v1)] dX7_howMany_1 rfl rfl (by decide) rfl (fun ls hl => ?_)
  refine r_iconst (np := 3) G 0 dX7_howMany_2 rfl ?_
  refine r_istore_n (np := 4) G hl rfl [(3, vI 0), (2, vI 0), (0, .ref (eA E v0)), (1, vI v1)] dX7_howMany_3 rfl rfl (by decide) rfl (fun ls hl => ?_)
  exact wX7_howMany_L4 l E out G hr hk v0 v1 g0 (fun z2 zσ => mX7_howMany_B37 v0 v1 z2 zσ) (fun z2 zσ zH zl zs zm zM zv => wX7_howMany_B37 l E out G hr hk v0 v1 g0 z2 zσ zH zl zs zm zM zv) mF 0 0 _ _ _ _ hm hM (lv_sub hl [2, 3, 1, 0] rfl)
theorem gX7_howMany {v0 : Nat} {v1 : Int} {σ : mSt} {out : Int × mSt} (hm : mX7_howMany v0 v1 σ = some out) : isC v0 6 := (g_t hm).1
set_option maxRecDepth 100000 in
set_option maxHeartbeats 4000000 in
theorem wX7_placeOf_B47 (l : Launch) (E : mE) (out : Int × mSt) {p : Program} {e : Env} {s : State} {m : MethodId} {args : Array Value} {below : List Frame} {meth : Method} {c : Code} (G : CallFix p m c cX7_placeOf 5 s args mTs RX7) (hr : meth.sig.returnType = (some .int)) (hk : meth.locks = false) (v0 : Nat) (v1 : Int) (v2 : Int) (g0 : isC v0 6) : ∀ (σ : mSt) (H : Heap) (locs : List Loc) (ls : Array Slot), mX7_placeOf_B47 v0 v1 v2 σ = some out → mM (mA E 257) E 257 σ s H locs → lv_has ls 5 [] → mGo l p e 0 0 s m args below meth c E (some (vI out.1)) out.2 H locs (F0 m 47 ls []) := by
  intro σ H locs ls hm hM hl
  unfold mX7_placeOf_B47 at hm
  refine r_bipush (np := 49) G (-2) dX7_placeOf_47 (by decide) rfl ?_
  exact r_iret G hr hk hM hm dX7_placeOf_49
set_option maxRecDepth 100000 in
set_option maxHeartbeats 4000000 in
theorem wX7_placeOf_L5 (l : Launch) (E : mE) (out : Int × mSt) {p : Program} {e : Env} {s : State} {m : MethodId} {args : Array Value} {below : List Frame} {meth : Method} {c : Code} (G : CallFix p m c cX7_placeOf 5 s args mTs RX7) (hr : meth.sig.returnType = (some .int)) (hk : meth.locks = false) (v0 : Nat) (v1 : Int) (v2 : Int) (g0 : isC v0 6) (x47 : mSt → Option (Int × mSt)) (hx47 : ∀ (σ : mSt) (H : Heap) (locs : List Loc) (ls : Array Slot), x47 σ = some out → mM (mA E 257) E 257 σ s H locs → lv_has ls 5 [] → mGo l p e 0 0 s m args below meth c E (some (vI out.1)) out.2 H locs (F0 m 47 ls [])) : ∀ (n : Nat) (v3 : Int) (v4 : Int) (σ : mSt) (H : Heap) (locs : List Loc) (ls : Array Slot), mX7_placeOf_L5 v0 v1 v2 x47 n v3 v4 σ = some out → mM (mA E 257) E 257 σ s H locs → lv_has ls 5 [(0, .ref (eA E v0)), (1, vI v1), (3, vI v3), (4, vI v4)] → mGo l p e 0 0 s m args below meth c E (some (vI out.1)) out.2 H locs (F0 m 5 ls []) := by
  intro n
  induction n with
  | zero =>
    intro v3 v4 σ H locs ls hm hM hl
    exact absurd hm (by rw [mX7_placeOf_L5.eq_1]; exact fun h => nomatch h)
  | succ n ih =>
    intro v3 v4 σ H locs ls hm hM hl
    rw [mX7_placeOf_L5.eq_2] at hm
    refine r_iload (np := 7) G hl 3 rfl dX7_placeOf_5 rfl ?_
    refine r_aload_n (np := 8) G hl 0 rfl dX7_placeOf_7 rfl rfl ?_
    refine r_getI (np := 11) G hM (shp_lt g0 (by decide)) g0 fdX7_0 lkX7_9 dX7_placeOf_8 rfl ?_
    refine r_icmp_ge (np := 14) (tgt := 47) G rfl rfl dX7_placeOf_11 (by decide) rfl (fun h1 => ?_) (fun h1 => ?_)
    · have hm := b_t h1 hm
      exact hx47 _ _ _ _ hm hM (lv_sub hl [] rfl)
    · have hm := b_f h1 hm
      refine r_aload_n (np := 15) G hl 0 rfl dX7_placeOf_14 rfl rfl ?_
      obtain ⟨r2, e3, hm⟩ := ref_t hm
      refine r_getR (np := 18) G hM (shp_lt g0 (by decide)) g0 e3 fdX7_3 lkX7_24 dX7_placeOf_15 rfl ?_
      refine r_iload_n (np := 19) G hl 1 rfl dX7_placeOf_18 rfl rfl ?_
      obtain ⟨g4, hm⟩ := g_t hm
      obtain ⟨r5, e6, hm⟩ := ref_t hm
      refine r_aaload (np := 20) G hM (t := 6) g4 rfl ⟨by decide, by decide⟩ rfl rfl e6 dX7_placeOf_19 rfl ?_
      refine r_iload (np := 22) G hl 3 rfl dX7_placeOf_20 rfl ?_
      obtain ⟨g7, hm⟩ := g_t hm
      refine r_iaload (np := 23) G hM g7 rfl dX7_placeOf_22 rfl ?_
      refine r_if_eq (np := 26) (tgt := 41) G rfl dX7_placeOf_23 (by decide) rfl (fun h8 => ?_) (fun h8 => ?_)
      · have hm := b_t h8 hm
        obtain ⟨a9, e10, hm⟩ := bnd_t hm
        refine r_iinc (np := 44) G hl 3 rfl e10 [(4, vI a9), (0, .ref (eA E v0)), (1, vI v1), (3, vI v3)] dX7_placeOf_41 rfl (by decide) rfl (fun ls hl => ?_)
        refine r_goto (np := 5) G dX7_placeOf_44 (by decide) ?_
        exact ih v3 a9 _ _ _ _ hm hM (lv_sub hl [1, 2, 3, 0] rfl)
      · have hm := b_f h8 hm
        refine r_iload_n (np := 27) G hl 2 rfl dX7_placeOf_26 rfl rfl ?_
        refine r_if_ne (np := 30) (tgt := 38) G rfl dX7_placeOf_27 (by decide) rfl (fun h11 => ?_) (fun h11 => ?_)
        · have hm := b_f h11 hm
          obtain ⟨a12, e13, hm⟩ := bnd_t hm
          refine r_iinc (np := 41) G hl 2 rfl e13 [(3, vI a12), (0, .ref (eA E v0)), (1, vI v1), (4, vI v4)] dX7_placeOf_38 rfl (by decide) rfl (fun ls hl => ?_)
          obtain ⟨a14, e15, hm⟩ := bnd_t hm
          refine r_iinc (np := 44) G hl 3 rfl e15 [(4, vI a14), (3, vI a12), (0, .ref (eA E v0)), (1, vI v1)] dX7_placeOf_41 rfl (by decide) rfl (fun ls hl => ?_)
          refine r_goto (np := 5) G dX7_placeOf_44 (by decide) ?_
          exact ih a12 a14 _ _ _ _ hm hM (lv_sub hl [2, 3, 1, 0] rfl)
        · have hm := b_t h11 hm
          refine r_aload_n (np := 31) G hl 0 rfl dX7_placeOf_30 rfl rfl ?_
          obtain ⟨r16, e17, hm⟩ := ref_t hm
          refine r_getR (np := 34) G hM (shp_lt g0 (by decide)) g0 e17 fdX7_2 lkX7_18 dX7_placeOf_31 rfl ?_
          refine r_iload (np := 36) G hl 3 rfl dX7_placeOf_34 rfl ?_
          obtain ⟨g18, hm⟩ := g_t hm
          refine r_iaload (np := 37) G hM g18 rfl dX7_placeOf_36 rfl ?_
          exact r_iret G hr hk hM hm dX7_placeOf_37
set_option maxRecDepth 100000 in
set_option maxHeartbeats 4000000 in
theorem qX7_placeOf (l : Launch) (E : mE) (σ : mSt) (v0 : Nat) (v1 : Int) (v2 : Int) (out : Int × mSt) (hm : mX7_placeOf v0 v1 v2 σ = some out) : mMet l yX7_placeOf cX7_placeOf 5 (some .int) 0 0 E 257 [.ref (eA E v0), vI v1, vI v2] σ (some (vI out.1)) out.2 := by
  unfold mX7_placeOf at hm
  obtain ⟨g0, hm⟩ := g_t hm
  refine m_entry (by decide +kernel) (Nat.le_of_ble_eq_true rfl) (fun p e s m args below meth c G hr hk hM ls hl => ?_)
  have G : CallFix p m c cX7_placeOf 5 s args mTs RX7 := G
  have hl : lv_has ls 5 [(0, .ref (eA E v0)), (1, vI v1), (2, vI v2)] := hl
  refine r_iload_n (np := 1) G hl 2 rfl dX7_placeOf_0 rfl rfl ?_
  refine r_istore_n (np := 2) G hl rfl [(3, vI v2), (0, .ref (eA E v0)), (1, vI v1), (2, vI v2)] dX7_placeOf_1 rfl rfl (by decide) rfl (fun ls hl => ?_)
  refine r_iconst (np := 3) G 0 dX7_placeOf_2 rfl ?_
  refine r_istore (np := 5) G hl rfl [(4, vI 0), (3, vI v2), (0, .ref (eA E v0)), (1, vI v1), (2, vI v2)] dX7_placeOf_3 rfl (by decide) rfl (fun ls hl => ?_)
  exact wX7_placeOf_L5 l E out G hr hk v0 v1 v2 g0 (fun zσ => mX7_placeOf_B47 v0 v1 v2 zσ) (fun zσ zH zl zs zm zM zv => wX7_placeOf_B47 l E out G hr hk v0 v1 v2 g0 zσ zH zl zs zm zM zv) mF v2 0 _ _ _ _ hm hM (lv_sub hl [2, 3, 1, 0] rfl)
theorem gX7_placeOf {v0 : Nat} {v1 : Int} {v2 : Int} {σ : mSt} {out : Int × mSt} (hm : mX7_placeOf v0 v1 v2 σ = some out) : isC v0 6 := (g_t hm).1
set_option maxRecDepth 100000 in
set_option maxHeartbeats 4000000 in
theorem wX7_indexOf_B37 (l : Launch) (E : mE) (out : Int × mSt) {p : Program} {e : Env} {s : State} {m : MethodId} {args : Array Value} {below : List Frame} {meth : Method} {c : Code} (G : CallFix p m c cX7_indexOf 5 s args mTs RX7) (hr : meth.sig.returnType = (some .int)) (hk : meth.locks = false) (v0 : Nat) (v1 : Int) (g0 : isC v0 6) : ∀ (v2 : Int) (σ : mSt) (H : Heap) (locs : List Loc) (ls : Array Slot), mX7_indexOf_B37 v0 v1 v2 σ = some out → mM (mA E 257) E 257 σ s H locs → lv_has ls 5 [(2, vL v2)] → mGo l p e 2 51 s m args below meth c E (some (vI out.1)) out.2 H locs (F0 m 37 ls []) := by
  intro v2 σ H locs ls hm hM hl
  unfold mX7_indexOf_B37 at hm
  refine r_ldc2 (np := 40) G 6 dX7_indexOf_37 lkX7_97 rfl rfl ?_
  refine r_lload_n (np := 41) G hl 0 rfl dX7_indexOf_40 rfl rfl ?_
  obtain ⟨b1, s2, e3, hm⟩ := call_t hm
  refine m_callSL (np := 44) G hM hl.1 [vL 6, vL v2] (qX5_quotient l E σ 6 v2 _ e3) myX5_quotient lkX7_78 ⟨Nat.le_of_ble_eq_true rfl, Nat.le_of_ble_eq_true rfl⟩ ⟨Nat.le_of_ble_eq_true rfl, Nat.le_of_ble_eq_true rfl⟩ [] rfl (Nat.le_of_ble_eq_true rfl) dX7_indexOf_41 rfl (fun H locs hM => ?_)
  refine r_l2i (np := 45) G dX7_indexOf_44 rfl ?_
  exact r_iret G hr hk hM hm dX7_indexOf_45
set_option maxRecDepth 100000 in
set_option maxHeartbeats 4000000 in
theorem wX7_indexOf_L7 (l : Launch) (E : mE) (out : Int × mSt) {p : Program} {e : Env} {s : State} {m : MethodId} {args : Array Value} {below : List Frame} {meth : Method} {c : Code} (G : CallFix p m c cX7_indexOf 5 s args mTs RX7) (hr : meth.sig.returnType = (some .int)) (hk : meth.locks = false) (v0 : Nat) (v1 : Int) (g0 : isC v0 6) (x37 : Int → mSt → Option (Int × mSt)) (hx37 : ∀ (v2 : Int) (σ : mSt) (H : Heap) (locs : List Loc) (ls : Array Slot), x37 v2 σ = some out → mM (mA E 257) E 257 σ s H locs → lv_has ls 5 [(2, vL v2)] → mGo l p e 2 51 s m args below meth c E (some (vI out.1)) out.2 H locs (F0 m 37 ls [])) : ∀ (n : Nat) (v2 : Int) (v4 : Int) (σ : mSt) (H : Heap) (locs : List Loc) (ls : Array Slot), mX7_indexOf_L7 v0 v1 x37 n v2 v4 σ = some out → mM (mA E 257) E 257 σ s H locs → lv_has ls 5 [(0, .ref (eA E v0)), (1, vI v1), (2, vL v2), (4, vI v4)] → mGo l p e 2 51 s m args below meth c E (some (vI out.1)) out.2 H locs (F0 m 7 ls []) := by
  intro n
  induction n with
  | zero =>
    intro v2 v4 σ H locs ls hm hM hl
    exact absurd hm (by rw [mX7_indexOf_L7.eq_1]; exact fun h => nomatch h)
  | succ n ih =>
    intro v2 v4 σ H locs ls hm hM hl
    rw [mX7_indexOf_L7.eq_2] at hm
    refine r_iload (np := 9) G hl 3 rfl dX7_indexOf_7 rfl ?_
    refine r_aload_n (np := 10) G hl 0 rfl dX7_indexOf_9 rfl rfl ?_
    refine r_getI (np := 13) G hM (shp_lt g0 (by decide)) g0 fdX7_0 lkX7_9 dX7_indexOf_10 rfl ?_
    refine r_icmp_ge (np := 16) (tgt := 37) G rfl rfl dX7_indexOf_13 (by decide) rfl (fun h4 => ?_) (fun h4 => ?_)
    · have hm := b_t h4 hm
      exact hx37 v2 _ _ _ _ hm hM (lv_sub hl [2] rfl)
    · have hm := b_f h4 hm
      refine r_lload_n (np := 17) G hl 2 rfl dX7_indexOf_16 rfl rfl ?_
      refine r_aload_n (np := 18) G hl 0 rfl dX7_indexOf_17 rfl rfl ?_
      obtain ⟨r5, e6, hm⟩ := ref_t hm
      refine r_getR (np := 21) G hM (shp_lt g0 (by decide)) g0 e6 fdX7_3 lkX7_24 dX7_indexOf_18 rfl ?_
      refine r_iload_n (np := 22) G hl 1 rfl dX7_indexOf_21 rfl rfl ?_
      obtain ⟨g7, hm⟩ := g_t hm
      obtain ⟨r8, e9, hm⟩ := ref_t hm
      refine r_aaload (np := 23) G hM (t := 6) g7 rfl ⟨by decide, by decide⟩ rfl rfl e9 dX7_indexOf_22 rfl ?_
      refine r_iload (np := 25) G hl 3 rfl dX7_indexOf_23 rfl ?_
      obtain ⟨g10, hm⟩ := g_t hm
      refine r_iaload (np := 26) G hM g10 rfl dX7_indexOf_25 rfl ?_
      refine r_i2l (np := 27) G rfl dX7_indexOf_26 rfl ?_
      obtain ⟨b11, s12, e13, hm⟩ := call_t hm
      refine m_callSL (np := 30) G hM hl.1 [vL v2, vL (wI (σ r8 (wI v4).toNat))] (qX5_greatestDivisor l E σ v2 (wI (σ r8 (wI v4).toNat)) _ e13) myX5_greatestDivisor lkX7_109 ⟨Nat.le_of_ble_eq_true rfl, Nat.le_of_ble_eq_true rfl⟩ ⟨Nat.le_of_ble_eq_true rfl, Nat.le_of_ble_eq_true rfl⟩ [] rfl (Nat.le_of_ble_eq_true rfl) dX7_indexOf_27 rfl (fun H locs hM => ?_)
      refine r_lstore_n (np := 31) G hl rfl [(2, vL b11), (0, .ref (eA E v0)), (1, vI v1), (4, vI v4)] dX7_indexOf_30 rfl rfl (by decide) rfl (fun ls hl => ?_)
      obtain ⟨a14, e15, hm⟩ := bnd_t hm
      refine r_iinc (np := 34) G hl 3 rfl e15 [(4, vI a14), (2, vL b11), (0, .ref (eA E v0)), (1, vI v1)] dX7_indexOf_31 rfl (by decide) rfl (fun ls hl => ?_)
      refine r_goto (np := 7) G dX7_indexOf_34 (by decide) ?_
      exact ih b11 a14 _ _ _ _ hm hM (lv_sub hl [2, 3, 1, 0] rfl)
set_option maxRecDepth 100000 in
set_option maxHeartbeats 4000000 in
theorem qX7_indexOf (l : Launch) (E : mE) (σ : mSt) (v0 : Nat) (v1 : Int) (out : Int × mSt) (hm : mX7_indexOf v0 v1 σ = some out) : mMet l yX7_indexOf cX7_indexOf 5 (some .int) 2 51 E 257 [.ref (eA E v0), vI v1] σ (some (vI out.1)) out.2 := by
  unfold mX7_indexOf at hm
  obtain ⟨g0, hm⟩ := g_t hm
  refine m_entry (by decide +kernel) (Nat.le_of_ble_eq_true rfl) (fun p e s m args below meth c G hr hk hM ls hl => ?_)
  have G : CallFix p m c cX7_indexOf 5 s args mTs RX7 := G
  have hl : lv_has ls 5 [(0, .ref (eA E v0)), (1, vI v1)] := hl
  refine r_ldc2 (np := 3) G 6 dX7_indexOf_0 lkX7_97 rfl rfl ?_
  refine r_lstore_n (np := 4) G hl rfl [(2, vL 6), (0, .ref (eA E v0)), (1, vI v1)] dX7_indexOf_3 rfl rfl (by decide) rfl (fun ls hl => ?_)
  refine r_iconst (np := 5) G 0 dX7_indexOf_4 rfl ?_
  refine r_istore (np := 7) G hl rfl [(4, vI 0), (2, vL 6), (0, .ref (eA E v0)), (1, vI v1)] dX7_indexOf_5 rfl (by decide) rfl (fun ls hl => ?_)
  exact wX7_indexOf_L7 l E out G hr hk v0 v1 g0 (fun z2 zσ => mX7_indexOf_B37 v0 v1 z2 zσ) (fun z2 zσ zH zl zs zm zM zv => wX7_indexOf_B37 l E out G hr hk v0 v1 g0 z2 zσ zH zl zs zm zM zv) mF 6 0 _ _ _ _ hm hM (lv_sub hl [2, 3, 1, 0] rfl)
theorem gX7_indexOf {v0 : Nat} {v1 : Int} {σ : mSt} {out : Int × mSt} (hm : mX7_indexOf v0 v1 σ = some out) : isC v0 6 := (g_t hm).1
